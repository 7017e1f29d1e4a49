/-! the stars: both sides look them up -/
abbrev sg_w (aa : Nat → Int64) (x : Int32) : Prop := ¬ x = -1 → -99 ≤ (aa x.toNatClampNeg).toInt32 ∧ (aa x.toNatClampNeg).toInt32 ≤ 99
abbrev sg_p (aa : Nat → Int64) (x : Int32) : Prop := ¬ x = -1 → (aa x.toNatClampNeg).toInt32 ≤ 99
abbrev sl_ok (x : Int32) : Prop := x = -1 ∨ ∃ j : Nat, j < 8 ∧ x = nI j
section
variable {cap xfl xol xil xrm xsp xco xec xat xlt xcu xwu xpu xvu xdc xsu xpo xdl xtl xbu : Int32} {xsv : Int64} {af ao ai ak als ale afl awd apr aws aps avs ali adr atx adg : Nat → Int32} {aa ar : Nat → Int64}
theorem xm_aa {post : Int64 → Prop} {c : Int32} (c' : Int32) (e : c = c') (hs : ∃ j : Nat, j < 8 ∧ c' = nI j) (h : post (aa c'.toNatClampNeg)) : wpX_argAt post (cap, xfl, xol, xil, xrm, xsp, xco, xec, xat, xlt, xcu, xwu, xpu, xvu, xdc, xsu, xpo, xdl, xtl, xbu, xsv, af, aa, ao, ai, ar, ak, als, ale, afl, awd, apr, aws, aps, avs, ali, adr, atx, adg) c := by
  subst e
  obtain ⟨j, hj, rfl⟩ := hs
  exact br_f (nI_pos (by omega)) (br_f (nI_ge (b := 8) hj (by decide)) ⟨vp_in_nI hj (by decide), h⟩)
theorem sl_j {x : Int32} (h : sl_ok x) (hn : ¬ x = -1) : ∃ j : Nat, j < 8 ∧ x = nI j := by
  rcases h with h | h
  · exact absurd h hn
  · exact h
theorem xm_sg {post : Int32 → Prop} {E : Nat} (hE : E ≤ 64) (hs : ∀ e, e < E → sl_ok (aws e) ∧ sl_ok (aps e)) (h1 : (∀ e, e < E → sg_w aa (aws e) ∧ sg_p aa (aps e)) → post 1)
    (h0 : ∀ e0, e0 < E → ¬ (sg_w aa (aws e0) ∧ sg_p aa (aps e0)) → (∀ e, e < e0 → sg_w aa (aws e) ∧ sg_p aa (aps e)) → post 0) : wpX_starsAreGood post (cap, xfl, xol, xil, xrm, xsp, xco, nI E, xat, xlt, xcu, xwu, xpu, xvu, xdc, xsu, xpo, xdl, xtl, xbu, xsv, af, aa, ao, ai, ar, ak, als, ale, afl, awd, apr, aws, aps, avs, ali, adr, atx, adg) := by
  have lo : ∀ r e, e + r = E → (∀ e', e' < e → sg_w aa (aws e') ∧ sg_p aa (aps e')) → wX_starsAreGood_2 post cap xfl xol xil xrm xsp xco (nI E) xat xlt xcu xwu xpu xvu xdc xsu xpo xdl xtl xbu xsv af aa ao ai ar ak als ale afl awd apr aws aps avs ali adr atx adg (r + 1) (nI e) := by
    intro r
    induction r with
    | zero =>
      intro e he hg
      have e0 : e = E := by omega
      subst e0
      exact br_t (nI_le (by omega) (by omega)) (h1 hg)
    | succ r ih =>
      intro e he hg
      have ee : (nI e).toNatClampNeg = e := nI_clamp (by omega)
      have ve : vp_in (nI e) 64 := vp_in_nI (by omega) (by omega)
      obtain ⟨s1, s2⟩ := hs e (by omega)
      have bad : ¬ (sg_w aa (aws e) ∧ sg_p aa (aps e)) → post 0 := fun z => h0 e (by omega) z hg
      have go : sg_w aa (aws e) → sg_p aa (aps e) → wX_starsAreGood_2 post cap xfl xol xil xrm xsp xco (nI E) xat xlt xcu xwu xpu xvu xdc xsu xpo xdl xtl xbu xsv af aa ao ai ar ak als ale afl awd apr aws aps avs ali adr atx adg (r + 1) (nI (e + 1)) := fun a b => ih (e + 1) (by omega) (lt_s hg ⟨a, b⟩)
      have k46 : sg_w aa (aws e) → wX_starsAreGood_46 post (wX_starsAreGood_2 post cap xfl xol xil xrm xsp xco (nI E) xat xlt xcu xwu xpu xvu xdc xsu xpo xdl xtl xbu xsv af aa ao ai ar ak als ale afl awd apr aws aps avs ali adr atx adg (r + 1)) (nI e) cap xfl xol xil xrm xsp xco (nI E) xat xlt xcu xwu xpu xvu xdc xsu xpo xdl xtl xbu xsv af aa ao ai ar ak als ale afl awd apr aws aps avs ali adr atx adg := by
        intro w
        refine ⟨ve, wk_if (d := aps e = -1) (by rw [ee]) (fun z => nm_r (nI_1 e) (go w (fun q => absurd z q))) (fun z => ⟨ve, xm_aa (aps e) (by rw [ee]) (sl_j s2 z) ?_⟩)⟩
        exact ⟨fun q => nm_r (nI_1 e) (go w (fun _ => q)), fun q => bad (fun y => q (y.2 z))⟩
      refine br_f (nI_ge (by omega) (by omega)) ⟨ve, wk_if (d := aws e = -1) (by rw [ee]) (fun z => k46 (fun q => absurd z q)) (fun z => ⟨ve, xm_aa (aws e) (by rw [ee]) (sl_j s1 z) ?_⟩)⟩
      refine ⟨fun q => bad (fun y => absurd (y.1 z).1 (Int32.not_le.mpr q)), fun q => ⟨fun q2 => k46 (fun _ => ⟨Int32.not_lt.mp q, q2⟩), fun q2 => bad (fun y => q2 (y.1 z).2)⟩⟩
  exact ⟨E + 1, lo E 0 (by omega) (fun e he => absurd he (by omega))⟩
end
theorem so_7 : ∀ s, s < 8 → nI s &&& 7 = nI s := by decide +kernel
theorem yb_n : ∀ k, k < 2 → narrow .boolean (.int (nI k)) = .int (nI k) ∧ fits .boolean (.int (nI k)) = true := by
  intro k hk
  have h : k = 0 ∨ k = 1 := by omega
  rcases h with rfl | rfl
  · exact ⟨rfl, by decide⟩
  · exact ⟨rfl, by decide⟩
section
variable {yfl yil yol ytl ycap ymk yen yac yec ypos yco yde ydp ydw ydq ywd ypr yit ym1 ym2 ym3 ym4 ym5 yws yps ylg ycv ycm ycs ycx ycu ysq ysv ycw ycp ycn : Int32} {bf bi bo btm brv : Nat → Int32} {ba brs : Nat → Int64}
theorem ym_so {post : Int32 → SY → Prop} {s : Nat} {u : Int32} (hu : ∃ k : Nat, k ≤ 8 ∧ u = nI k) (hs : sl_n u s ≤ 8) (h : post (sl_s u s) (yfl, yil, yol, ytl, ycap, ymk, yen, yac, yec, ypos, yco, yde, ydp, ydw, ydq, ywd, ypr, yit, ym1, ym2, ym3, ym4, ym5, yws, yps, ylg, ycv, ycm, ycs, ycx, ycu, nI (sl_n u s), ysv, ycw, ycp, ycn, bf, bi, bo, btm, brv, ba, brs)) : wpY_slotOf post (yfl, yil, yol, ytl, ycap, ymk, yen, yac, yec, ypos, yco, yde, ydp, ydw, ydq, ywd, ypr, yit, ym1, ym2, ym3, ym4, ym5, yws, yps, ylg, ycv, ycm, ycs, ycx, ycu, nI s, ysv, ycw, ycp, ycn, bf, bi, bo, btm, brv, ba, brs) u := by
  obtain ⟨k, hk, rfl⟩ := hu
  cases k with
  | zero =>
    have e1 : sl_n (nI 0) s = s + 1 := sl_n0 s
    have e2 : sl_s (nI 0) s = nI s := sl_s0 s
    rw [e1] at hs
    rw [e1, e2] at h
    refine br_t (by decide) (nm_r (nI_1 s) ?_)
    rw [so_7 s (by omega)]
    exact h
  | succ k =>
    rw [sl_sk k (by omega) s, sl_nk (by omega) s] at h
    refine br_f (nI_nle (by omega) (by omega)) ?_
    rw [nI_pred, so_7 k (by omega)]
    exact h
theorem ym_s151 {post : Int32 → SY → Prop} {L p s : Nat} {x1 : Int32} (hr : dr_r bf L p = 0) (hs : sl_n (dr_v bf L p) s ≤ 8) (h : post x1 (yfl, yil, yol, ytl, ycap, ymk, yen, yac, yec, ypos, yco, nI (dr_k bf L p + 1), dr_v bf L p, yu_p (dr_wu bf L p), yu_p (dr_pu bf L p), yu_w (dr_w bf L p), dr_p bf L p, yit, nI (dr_m bf L p % 2), nI (dr_m bf L p / 2 % 2), nI (dr_m bf L p / 4 % 2), nI (dr_m bf L p / 8 % 2), nI (dr_m bf L p / 16 % 2), yu_s (dr_wu bf L p), yu_s (dr_pu bf L p), nI (dr_g bf L p), dr_c bf L p, ycm, ycs, ycx, ycu, nI (sl_n (dr_v bf L p) s), sl_s (dr_v bf L p) s, ycw, ycp, ycn, bf, bi, bo, btm, brv, ba, brs)) : wY_stars_151 post x1 yfl yil yol ytl ycap ymk yen yac yec ypos yco (nI (dr_k bf L p + 1)) (dr_v bf L p) (yu_p (dr_wu bf L p)) (yu_p (dr_pu bf L p)) (yu_w (dr_w bf L p)) (dr_p bf L p) yit (nI (dr_m bf L p % 2)) (nI (dr_m bf L p / 2 % 2)) (nI (dr_m bf L p / 4 % 2)) (nI (dr_m bf L p / 8 % 2)) (nI (dr_m bf L p / 16 % 2)) (yu_s (dr_wu bf L p)) (yu_s (dr_pu bf L p)) (nI (dr_g bf L p)) (dr_c bf L p) ycm ycs ycx ycu (nI s) ysv ycw ycp ycn bf bi bo btm brv ba brs := by
  unfold wY_stars_151
  exact ym_so (dr_us hr).2.2 hs h
theorem ym_s100 {post : Int32 → SY → Prop} {L p s : Nat} {x1 : Int32} (hr : dr_r bf L p = 0) (hs : sl_n (dr_v bf L p) (sl_n (dr_pu bf L p) (sl_n (dr_wu bf L p) s)) ≤ 8)
    (hbad : ¬ ev_gp bf L ba p s → ∀ (ysq ysv ycw ycp ycn : Int32), post (-5) (yfl, yil, yol, ytl, ycap, ymk, yen, yac, yec, ypos, yco, nI (dr_k bf L p + 1), dr_v bf L p, yu_p (dr_wu bf L p), yu_p (dr_pu bf L p), yu_w (dr_w bf L p), dr_p bf L p, yit, nI (dr_m bf L p % 2), nI (dr_m bf L p / 2 % 2), nI (dr_m bf L p / 4 % 2), nI (dr_m bf L p / 8 % 2), nI (dr_m bf L p / 16 % 2), yu_s (dr_wu bf L p), yu_s (dr_pu bf L p), nI (dr_g bf L p), dr_c bf L p, ycm, ycs, ycx, ycu, ysq, ysv, ycw, ycp, ycn, bf, bi, bo, btm, brv, ba, brs))
    (h : ev_gp bf L ba p s → post x1 (yfl, yil, yol, ytl, ycap, ymk, yen, yac, yec, ypos, yco, nI (dr_k bf L p + 1), dr_v bf L p, yu_p (dr_wu bf L p), yu_p (dr_pu bf L p), yu_w (dr_w bf L p), dr_p bf L p, yit, nI (dr_m bf L p % 2), nI (dr_m bf L p / 2 % 2), nI (dr_m bf L p / 4 % 2), nI (dr_m bf L p / 8 % 2), nI (dr_m bf L p / 16 % 2), yu_s (dr_wu bf L p), yu_s (dr_pu bf L p), nI (dr_g bf L p), dr_c bf L p, ycm, ycs, ycx, ycu, nI (sl_n (dr_v bf L p) (sl_n (dr_pu bf L p) (sl_n (dr_wu bf L p) s))), ev_V bf L p s, ycw, ev_P bf L ba p s, ycn, bf, bi, bo, btm, brv, ba, brs)) : wY_stars_100 post x1 yfl yil yol ytl ycap ymk yen yac yec ypos yco (nI (dr_k bf L p + 1)) (dr_v bf L p) (yu_p (dr_wu bf L p)) (yu_p (dr_pu bf L p)) (yu_w (dr_w bf L p)) (dr_p bf L p) yit (nI (dr_m bf L p % 2)) (nI (dr_m bf L p / 2 % 2)) (nI (dr_m bf L p / 4 % 2)) (nI (dr_m bf L p / 8 % 2)) (nI (dr_m bf L p / 16 % 2)) (yu_s (dr_wu bf L p)) (yu_s (dr_pu bf L p)) (nI (dr_g bf L p)) (dr_c bf L p) ycm ycs ycx ycu (nI (sl_n (dr_wu bf L p) s)) ysv ycw (dr_p bf L p) ycn bf bi bo btm brv ba brs := by
  obtain ⟨u1, u2, u3⟩ := dr_us hr
  rcases u2 with z | hu
  · have e1 : ev_P bf L ba p s = dr_p bf L p := if_pos z
    have g : ev_gp bf L ba p s := fun q => absurd z q
    have h' := h g
    unfold ev_V at h'
    rw [e1] at h'
    have e2 : sl_n (dr_pu bf L p) (sl_n (dr_wu bf L p) s) = sl_n (dr_wu bf L p) s := by rw [z]; rfl
    rw [e2] at hs h'
    exact br_t (yu_s1 z) (ym_s151 hr hs h')
  · have hn := us_nn hu
    have hs2 : sl_n (dr_pu bf L p) (sl_n (dr_wu bf L p) s) ≤ 8 := by have := sl_nb (dr_v bf L p) (sl_n (dr_pu bf L p) (sl_n (dr_wu bf L p) s)); omega
    obtain ⟨j, hj, ej⟩ := sl_in hu hs2
    refine br_f (by rw [yu_s2 hn]; decide) ?_
    have key : wpY_slotOf (fun r_50 u => match u with | (yfl, yil, yol, ytl, ycap, ymk, yen, yac, yec, ypos, yco, yde, ydp, ydw, ydq, ywd, ypr, yit, ym1, ym2, ym3, ym4, ym5, yws, yps, ylg, ycv, ycm, ycs, ycx, ycu, ysq, ysv, ycw, ycp, ycn, bf, bi, bo, btm, brv, ba, brs) => (vp_in r_50 8 ∧ (∀ x2_95 : Int32, x2_95 = (ba r_50.toNatClampNeg).toInt32 → ((x2_95 ≤ 99 → ((0 ≤ x2_95 → wY_stars_151 post x1 yfl yil yol ytl ycap ymk yen yac yec ypos yco yde ydp ydw ydq ywd ypr yit ym1 ym2 ym3 ym4 ym5 yws yps ylg ycv ycm ycs ycx ycu ysq ysv ycw x2_95 ycn bf bi bo btm brv ba brs) ∧ (¬ 0 ≤ x2_95 → wY_stars_151 post x1 yfl yil yol ytl ycap ymk yen yac yec ypos yco yde ydp ydw ydq ywd ypr yit ym1 ym2 ym3 ym4 ym5 yws yps ylg ycv ycm ycs ycx ycu ysq ysv ycw (-1) ycn bf bi bo btm brv ba brs))) ∧ (¬ x2_95 ≤ 99 → wY_stars_151 post (-5) yfl yil yol ytl ycap ymk yen yac yec ypos yco yde ydp ydw ydq ywd ypr yit ym1 ym2 ym3 ym4 ym5 yws yps ylg ycv ycm ycs ycx ycu ysq ysv ycw ycp ycn bf bi bo btm brv ba brs))))) (yfl, yil, yol, ytl, ycap, ymk, yen, yac, yec, ypos, yco, nI (dr_k bf L p + 1), dr_v bf L p, yu_p (dr_wu bf L p), yu_p (dr_pu bf L p), yu_w (dr_w bf L p), dr_p bf L p, yit, nI (dr_m bf L p % 2), nI (dr_m bf L p / 2 % 2), nI (dr_m bf L p / 4 % 2), nI (dr_m bf L p / 8 % 2), nI (dr_m bf L p / 16 % 2), yu_s (dr_wu bf L p), yu_s (dr_pu bf L p), nI (dr_g bf L p), dr_c bf L p, ycm, ycs, ycx, ycu, nI (sl_n (dr_wu bf L p) s), ysv, ycw, dr_p bf L p, ycn, bf, bi, bo, btm, brv, ba, brs) (dr_pu bf L p) := by
      refine ym_so hu hs2 ⟨by rw [ej]; exact vp_in_nI hj (by decide), nm_r (e' := ev_pv bf L ba p s) rfl ?_⟩
      by_cases q : ev_pv bf L ba p s ≤ 99
      · have h' := h (fun _ => q)
        have e1 : ev_P bf L ba p s = if ev_pv bf L ba p s < 0 then -1 else ev_pv bf L ba p s := if_neg hn
        unfold ev_V at h'
        rw [e1] at h'
        refine br_t q ?_
        by_cases n : ev_pv bf L ba p s < 0
        · rw [if_pos n] at h'
          exact br_f (Int32.not_le.mpr n) (ym_s151 hr hs h')
        · rw [if_neg n] at h'
          exact br_t (Int32.not_lt.mp n) (ym_s151 hr hs h')
      · exact br_f q (ym_s151 hr hs (hbad (fun y => q (y hn)) _ _ _ _ _))
    have e5 : yu_p (dr_pu bf L p) = dr_pu bf L p := yu_p2 hn
    unfold wY_stars_100 at *
    rw [e5] at key ⊢
    exact key
end
