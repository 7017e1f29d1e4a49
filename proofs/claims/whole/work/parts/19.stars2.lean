/-! the stars: the reference's check of the whole format -/
def yb_b (b : Bool) : Int32 := if b = true then 1 else 0
section
variable {yfl yil yol ytl ycap ymk yen yac yec ypos yco yde ydp ydw ydq ywd ypr yit ym1 ym2 ym3 ym4 ym5 yws yps ylg ycv ycm ycs ycx ycu ysq ysv ycw ycp ycn : Int32} {bf bi bo btm brv : Nat → Int32} {ba brs : Nat → Int64}
theorem ym_so2 {post : Int32 → SY → Prop} {s : Nat} {u u' : Int32} (eu : u' = u) (hu : ∃ k : Nat, k ≤ 8 ∧ u = nI k) (hs : sl_n u s ≤ 8) (h : post (sl_s u s) (yfl, yil, yol, ytl, ycap, ymk, yen, yac, yec, ypos, yco, yde, ydp, ydw, ydq, ywd, ypr, yit, ym1, ym2, ym3, ym4, ym5, yws, yps, ylg, ycv, ycm, ycs, ycx, ycu, nI (sl_n u s), ysv, ycw, ycp, ycn, bf, bi, bo, btm, brv, ba, brs)) : wpY_slotOf post (yfl, yil, yol, ytl, ycap, ymk, yen, yac, yec, ypos, yco, yde, ydp, ydw, ydq, ywd, ypr, yit, ym1, ym2, ym3, ym4, ym5, yws, yps, ylg, ycv, ycm, ycs, ycx, ycu, nI s, ysv, ycw, ycp, ycn, bf, bi, bo, btm, brv, ba, brs) u' := by
  subst eu
  exact ym_so hu hs h
theorem dr_mb (f : Nat → Int32) (L p : Nat) : dr_m f L p < 32 := fl_Mb _ _ _ _ (by decide)
theorem ym_s16 {post : Int32 → SY → Prop} {L p s : Nat} (hr : dr_r bf L p = 0) (hs : sl_n (dr_v bf L p) (sl_n (dr_pu bf L p) (sl_n (dr_wu bf L p) s)) ≤ 8)
    (hbad : ¬ (ev_gw bf L ba p s ∧ ev_gp bf L ba p s) → ∀ (ysq ysv ycw ycp ycn : Int32), post (-5) (yfl, yil, yol, ytl, ycap, ymk, yen, yac, yec, ypos, yco, nI (dr_k bf L p + 1), dr_v bf L p, yu_p (dr_wu bf L p), yu_p (dr_pu bf L p), yu_w (dr_w bf L p), dr_p bf L p, yit, nI (dr_m bf L p % 2), nI (dr_m bf L p / 2 % 2), nI (dr_m bf L p / 4 % 2), nI (dr_m bf L p / 8 % 2), nI (dr_m bf L p / 16 % 2), yu_s (dr_wu bf L p), yu_s (dr_pu bf L p), nI (dr_g bf L p), dr_c bf L p, ycm, ycs, ycx, ycu, ysq, ysv, ycw, ycp, ycn, bf, bi, bo, btm, brv, ba, brs))
    (h : ev_gw bf L ba p s → ev_gp bf L ba p s → post 0 (yfl, yil, yol, ytl, ycap, ymk, yen, yac, yec, ypos, yco, nI (dr_k bf L p + 1), dr_v bf L p, yu_p (dr_wu bf L p), yu_p (dr_pu bf L p), yu_w (dr_w bf L p), dr_p bf L p, yit, nI (dr_m bf L p % 2), nI (dr_m bf L p / 2 % 2), nI (dr_m bf L p / 4 % 2), nI (dr_m bf L p / 8 % 2), nI (dr_m bf L p / 16 % 2), yu_s (dr_wu bf L p), yu_s (dr_pu bf L p), nI (dr_g bf L p), dr_c bf L p, ycm, ycs, ycx, ycu, nI (sl_n (dr_v bf L p) (sl_n (dr_pu bf L p) (sl_n (dr_wu bf L p) s))), ev_V bf L p s, nI (ev_W bf L ba p s), ev_P bf L ba p s, yb_b (ev_L bf L ba p s), bf, bi, bo, btm, brv, ba, brs)) : wY_stars_16 post (nI (dr_w bf L p)) yfl yil yol ytl ycap ymk yen yac yec ypos yco (nI (dr_k bf L p + 1)) (dr_v bf L p) (yu_p (dr_wu bf L p)) (yu_p (dr_pu bf L p)) (yu_w (dr_w bf L p)) (dr_p bf L p) yit (nI (dr_m bf L p % 2)) (nI (dr_m bf L p / 2 % 2)) (nI (dr_m bf L p / 4 % 2)) (nI (dr_m bf L p / 8 % 2)) (nI (dr_m bf L p / 16 % 2)) (yu_s (dr_wu bf L p)) (yu_s (dr_pu bf L p)) (nI (dr_g bf L p)) (dr_c bf L p) ycm ycs ycx ycu (nI s) ysv ycw ycp ycn bf bi bo btm brv ba brs := by
  obtain ⟨u1, u2, u3⟩ := dr_us hr
  have hm2 : dr_m bf L p % 2 < 2 := Nat.mod_lt _ (by decide)
  obtain ⟨n1, n2⟩ := yb_n _ hm2
  refine ⟨n1, n2, ?_⟩
  rcases u1 with z | hu
  · have gw : ev_gw bf L ba p s := fun q => absurd z q
    have e1 : ev_W bf L ba p s = dr_w bf L p := if_pos z
    have e2 : yb_b (ev_L bf L ba p s) = nI (dr_m bf L p % 2) := by
      unfold yb_b ev_L
      by_cases q : dr_m bf L p % 2 = 1
      · rw [if_pos (decide_eq_true (Or.inl q)), q]; rfl
      · have q0 : dr_m bf L p % 2 = 0 := by omega
        rw [if_neg (fun y => ?_), q0]; rfl
        rcases of_decide_eq_true y with y | y
        · exact q y
        · exact y.1 z
    have e3 : sl_n (dr_wu bf L p) s = s := by rw [z]; rfl
    rw [e1, e2] at h
    have k := ym_s100 (post := post) (x1 := 0) (ycw := nI (dr_w bf L p)) (ycn := nI (dr_m bf L p % 2)) (ysv := ysv) hr hs (fun q => hbad (fun y => q y.2)) (h gw)
    rw [e3] at k
    exact br_t (yu_s1 z) k
  · have hn := us_nn hu
    have hs1 : sl_n (dr_wu bf L p) s ≤ 8 := by
      have a1 := sl_nb (dr_v bf L p) (sl_n (dr_pu bf L p) (sl_n (dr_wu bf L p) s))
      have a2 := sl_nb (dr_pu bf L p) (sl_n (dr_wu bf L p) s)
      omega
    obtain ⟨j, hj, ej⟩ := sl_in hu hs1
    refine br_f (by rw [yu_s2 hn]; decide) (ym_so2 (yu_p2 hn) hu hs1 ⟨by rw [ej]; exact vp_in_nI hj (by decide), nm_r (e' := ev_wv bf L ba p s) rfl ?_⟩)
    have eW : ev_W bf L ba p s = (if ev_wv bf L ba p s < 0 then - ev_wv bf L ba p s else ev_wv bf L ba p s).toNatClampNeg := if_neg hn
    have bad : ¬ ev_gw bf L ba p s → ∀ (ysv ycw ycn : Int32), wY_stars_100 post (-5) yfl yil yol ytl ycap ymk yen yac yec ypos yco (nI (dr_k bf L p + 1)) (dr_v bf L p) (yu_p (dr_wu bf L p)) (yu_p (dr_pu bf L p)) (yu_w (dr_w bf L p)) (dr_p bf L p) yit (nI (dr_m bf L p % 2)) (nI (dr_m bf L p / 2 % 2)) (nI (dr_m bf L p / 4 % 2)) (nI (dr_m bf L p / 8 % 2)) (nI (dr_m bf L p / 16 % 2)) (yu_s (dr_wu bf L p)) (yu_s (dr_pu bf L p)) (nI (dr_g bf L p)) (dr_c bf L p) ycm ycs ycx ycu (nI (sl_n (dr_wu bf L p) s)) ysv ycw (dr_p bf L p) ycn bf bi bo btm brv ba brs := by
      intro q ysv ycw ycn
      exact ym_s100 hr hs (fun _ => hbad (fun y => q y.1)) (fun _ => hbad (fun y => q y.1) _ _ _ _ _)
    by_cases a : ev_wv bf L ba p s < -99
    · exact br_t a (bad (fun y => absurd (y hn).1 (Int32.not_le.mpr a)) _ _ _)
    refine br_f a ?_
    by_cases b : ev_wv bf L ba p s ≤ 99
    · refine br_t b ?_
      have gw : ev_gw bf L ba p s := fun _ => ⟨Int32.not_lt.mp a, b⟩
      rcases ev_rng (Int32.not_lt.mp a) b with ⟨c, k, k1, k2, ek⟩ | ⟨c, k, k2, ek⟩
      · rw [if_pos c, ek, nI_clamp (by omega)] at eW
        have eL : ev_L bf L ba p s = true := decide_eq_true (Or.inr ⟨hn, c⟩)
        have eb : yb_b true = 1 := rfl
        rw [eW, eL, eb] at h
        exact br_f (Int32.not_le.mpr c) (nm_r ek (ym_s100 hr hs (fun q => hbad (fun y => q y.2)) (h gw)))
      · rw [if_neg c, ek, nI_clamp (by omega), ] at eW
        have e2 : yb_b (ev_L bf L ba p s) = nI (dr_m bf L p % 2) := by
          unfold yb_b ev_L
          by_cases q : dr_m bf L p % 2 = 1
          · rw [if_pos (decide_eq_true (Or.inl q)), q]; rfl
          · have q0 : dr_m bf L p % 2 = 0 := by omega
            rw [if_neg (fun y => ?_), q0]; rfl
            rcases of_decide_eq_true y with y | y
            · exact q y
            · exact c y.2
        rw [eW, e2] at h
        refine br_t (Int32.not_lt.mp c) ?_
        rw [ek]
        exact ym_s100 hr hs (fun q => hbad (fun y => q y.2)) (h gw)
    · exact br_f b (bad (fun y => b (y hn).2) _ _ _)
theorem ym_st {post : Int32 → SY → Prop} {L p s : Nat} (hr : dr_r bf L p = 0) (hs : sl_n (dr_v bf L p) (sl_n (dr_pu bf L p) (sl_n (dr_wu bf L p) s)) ≤ 8)
    (hbad : ¬ (ev_gw bf L ba p s ∧ ev_gp bf L ba p s) → ∀ (ysq ysv ycw ycp ycn : Int32), post (-5) (yfl, yil, yol, ytl, ycap, ymk, yen, yac, yec, ypos, yco, nI (dr_k bf L p + 1), dr_v bf L p, yu_p (dr_wu bf L p), yu_p (dr_pu bf L p), yu_w (dr_w bf L p), dr_p bf L p, yit, nI (dr_m bf L p % 2), nI (dr_m bf L p / 2 % 2), nI (dr_m bf L p / 4 % 2), nI (dr_m bf L p / 8 % 2), nI (dr_m bf L p / 16 % 2), yu_s (dr_wu bf L p), yu_s (dr_pu bf L p), nI (dr_g bf L p), dr_c bf L p, ycm, ycs, ycx, ycu, ysq, ysv, ycw, ycp, ycn, bf, bi, bo, btm, brv, ba, brs))
    (h : ev_gw bf L ba p s → ev_gp bf L ba p s → post 0 (yfl, yil, yol, ytl, ycap, ymk, yen, yac, yec, ypos, yco, nI (dr_k bf L p + 1), dr_v bf L p, yu_p (dr_wu bf L p), yu_p (dr_pu bf L p), yu_w (dr_w bf L p), dr_p bf L p, yit, nI (dr_m bf L p % 2), nI (dr_m bf L p / 2 % 2), nI (dr_m bf L p / 4 % 2), nI (dr_m bf L p / 8 % 2), nI (dr_m bf L p / 16 % 2), yu_s (dr_wu bf L p), yu_s (dr_pu bf L p), nI (dr_g bf L p), dr_c bf L p, ycm, ycs, ycx, ycu, nI (sl_n (dr_v bf L p) (sl_n (dr_pu bf L p) (sl_n (dr_wu bf L p) s))), ev_V bf L p s, nI (ev_W bf L ba p s), ev_P bf L ba p s, yb_b (ev_L bf L ba p s), bf, bi, bo, btm, brv, ba, brs)) : wpY_stars post (yfl, yil, yol, ytl, ycap, ymk, yen, yac, yec, ypos, yco, nI (dr_k bf L p + 1), dr_v bf L p, yu_p (dr_wu bf L p), yu_p (dr_pu bf L p), yu_w (dr_w bf L p), dr_p bf L p, yit, nI (dr_m bf L p % 2), nI (dr_m bf L p / 2 % 2), nI (dr_m bf L p / 4 % 2), nI (dr_m bf L p / 8 % 2), nI (dr_m bf L p / 16 % 2), yu_s (dr_wu bf L p), yu_s (dr_pu bf L p), nI (dr_g bf L p), dr_c bf L p, ycm, ycs, ycx, ycu, nI s, ysv, ycw, ycp, ycn, bf, bi, bo, btm, brv, ba, brs) := by
  have k := ym_s16 (ysv := ysv) (ycw := ycw) (ycp := ycp) (ycn := ycn) hr hs hbad h
  have hw : dr_w bf L p ≤ 99 := by
    rcases pw_ok (dr_ok hr).2.1 with ⟨_, e, _⟩ | ⟨_, _, _, e⟩
    · have e' : dr_w bf L p = 0 := e
      omega
    · exact e
  by_cases z : dr_w bf L p = 0
  · have e1 : yu_w (dr_w bf L p) = -1 := if_pos z
    refine br_f (by rw [e1]; decide) ?_
    rw [z] at k ⊢
    exact k
  · have e1 : yu_w (dr_w bf L p) = nI (dr_w bf L p) := if_neg z
    refine br_t (by rw [e1]; exact nI_pos' (by omega)) ?_
    rw [e1] at k ⊢
    exact k
end
theorem sl_m1 {u : Int32} {s : Nat} (hu : u = -1 ∨ ∃ k : Nat, k ≤ 8 ∧ u = nI k) (hs : sl_n u s ≤ 8) : sl_s u s = -1 ↔ u = -1 := by
  rcases hu with rfl | hu
  · exact ⟨fun _ => rfl, fun _ => rfl⟩
  · obtain ⟨j, hj, e⟩ := sl_in hu hs
    rw [e]
    exact ⟨fun z => absurd z (us_n1 (by omega)), fun z => absurd z (us_nn hu)⟩
theorem sl_okk {u : Int32} {s : Nat} (hu : u = -1 ∨ ∃ k : Nat, k ≤ 8 ∧ u = nI k) (hs : sl_n u s ≤ 8) : sl_ok (sl_s u s) := by
  rcases hu with rfl | hu
  · exact Or.inl rfl
  · exact Or.inr (sl_in hu hs)
section
variable {f : Nat → Int32} {L T E : Nat} {ak als ale afl awd apr aws aps avs ali : Nat → Int32} {pe se : Nat → Nat}
theorem tb_slots {e p q s t : Nat} (h : tb_ent f L T ak als ale afl awd apr aws aps avs ali e p q s t) : sl_ok (aws e) ∧ sl_ok (aps e) := by
  rcases h with ⟨⟨_, a, b, _⟩, _⟩ | ⟨hpc, hr, hq, r1, r2, r3, r4, r5, r6, r7, r8, r9⟩
  · exact ⟨Or.inl a, Or.inl b⟩
  · obtain ⟨u1, u2, u3⟩ := dr_us hr
    have a1 := sl_nb (dr_v f L p) (sl_n (dr_pu f L p) (sl_n (dr_wu f L p) s))
    have a2 := sl_nb (dr_pu f L p) (sl_n (dr_wu f L p) s)
    rw [r5, r6]
    exact ⟨sl_okk u1 (by omega), sl_okk u2 (by omega)⟩
theorem tb_good {aa : Nat → Int64} {e p q s t : Nat} (h : tb_dir f L ak afl awd apr aws aps avs e p q s t) : (sg_w aa (aws e) ↔ ev_gw f L aa p s) ∧ (sg_p aa (aps e) ↔ ev_gp f L aa p s) := by
  obtain ⟨hpc, hr, hq, r1, r2, r3, r4, r5, r6, r7, r8, r9⟩ := h
  obtain ⟨u1, u2, u3⟩ := dr_us hr
  have a1 := sl_nb (dr_v f L p) (sl_n (dr_pu f L p) (sl_n (dr_wu f L p) s))
  have a2 := sl_nb (dr_pu f L p) (sl_n (dr_wu f L p) s)
  have m1 := sl_m1 u1 (s := s) (by omega)
  have m2 := sl_m1 u2 (s := sl_n (dr_wu f L p) s) (by omega)
  unfold sg_w sg_p ev_gw ev_gp ev_wv ev_pv ev_a
  rw [r5, r6, m1, m2]
  exact ⟨Iff.rfl, Iff.rfl⟩
end
section
variable {yfl yil yol ytl ycap ymk yen yac yec ypos yco yde ydp ydw ydq ywd ypr yit ym1 ym2 ym3 ym4 ym5 yws yps ylg ycv ycm ycs ycx ycu ysq ysv ycw ycp ycn : Int32} {bf bi bo btm brv : Nat → Int32} {ba brs : Nat → Int64}
variable {L T E : Nat} {ak als ale afl awd apr aws aps avs ali : Nat → Int32} {pe se : Nat → Nat}
theorem ym_cs {post : Int32 → SY → Prop} (hL : L ≤ 64) (hE : E ≤ 64) (hf : ∀ j, ar_ch (bf j)) (hT : tb_tab bf L T ak als ale afl awd apr aws aps avs ali E pe se) (hp : pe E = L)
    (h1 : (∀ e, e < E → sg_w ba (aws e) ∧ sg_p ba (aps e)) → ∀ (yde ydp ydw ydq ywd ypr yit ym1 ym2 ym3 ym4 ym5 yws yps ylg ycv : Int32) (ysq ysv ycw ycp ycn : Int32), post 0 (nI L, yil, yol, ytl, ycap, ymk, yen, yac, yec, ypos, yco, yde, ydp, ydw, ydq, ywd, ypr, yit, ym1, ym2, ym3, ym4, ym5, yws, yps, ylg, ycv, ycm, ycs, ycx, ycu, ysq, ysv, ycw, ycp, ycn, bf, bi, bo, btm, brv, ba, brs))
    (h0 : ∀ e0, e0 < E → ¬ (sg_w ba (aws e0) ∧ sg_p ba (aps e0)) → (∀ e, e < e0 → sg_w ba (aws e) ∧ sg_p ba (aps e)) → ∀ (yde ydp ydw ydq ywd ypr yit ym1 ym2 ym3 ym4 ym5 yws yps ylg ycv : Int32) (ysq ysv ycw ycp ycn : Int32), post (-5) (nI L, yil, yol, ytl, ycap, ymk, yen, yac, yec, ypos, yco, yde, ydp, ydw, ydq, ywd, ypr, yit, ym1, ym2, ym3, ym4, ym5, yws, yps, ylg, ycv, ycm, ycs, ycx, ycu, ysq, ysv, ycw, ycp, ycn, bf, bi, bo, btm, brv, ba, brs)) :
    ∀ r e g, e + r = E → g ≤ pe e → (∀ e', e' < e → sg_w ba (aws e') ∧ sg_p ba (aps e')) → ∀ (yde ydp ydw ydq ywd ypr yit ym1 ym2 ym3 ym4 ym5 yws yps ylg ycv : Int32) (ysv ycw ycp ycn : Int32), ∃ n, wY_checkStars_9 post n (nI (pe e)) (nI g) (nI L) yil yol ytl ycap ymk yen yac yec ypos yco yde ydp ydw ydq ywd ypr yit ym1 ym2 ym3 ym4 ym5 yws yps ylg ycv ycm ycs ycx ycu (nI (se e)) ysv ycw ycp ycn bf bi bo btm brv ba brs := by
  intro r
  induction r with
  | zero =>
    intro e g he hg hgood yde ydp ydw ydq ywd ypr yit ym1 ym2 ym3 ym4 ym5 yws yps ylg ycv ysv ycw ycp ycn
    have e0 : e = E := by omega
    subst e0
    have fin : post 0 (nI L, yil, yol, ytl, ycap, ymk, yen, yac, yec, ypos, yco, yde, ydp, ydw, ydq, ywd, ypr, yit, ym1, ym2, ym3, ym4, ym5, yws, yps, ylg, ycv, ycm, ycs, ycx, ycu, nI (se e), ysv, ycw, ycp, ycn, bf, bi, bo, btm, brv, ba, brs) := h1 hgood yde ydp ydw ydq ywd ypr yit ym1 ym2 ym3 ym4 ym5 yws yps ylg ycv _ ysv ycw ycp ycn
    refine ⟨1, ?_⟩
    rw [hp] at hg ⊢
    exact pk_le 64 g (fun _ => fin) (fun _ => br_t (nI_le (Nat.le_refl _) (by omega)) fin)
  | succ r ih =>
    intro e g he hg hgood yde ydp ydw ydq ywd ypr yit ym1 ym2 ym3 ym4 ym5 yws yps ylg ycv ysv ycw ycp ycn
    rcases hT.2.2.1 e (by omega) with ⟨⟨k0, w0, p0, s', n, q, _, _, _, n0, r0, r1, rj⟩, es⟩ | hd
    · have good : sg_w ba (aws e) ∧ sg_p ba (aps e) := ⟨fun z => absurd w0 z, fun z => absurd p0 z⟩
      have inner : ∀ t j g, j + t = n → g ≤ q j → ∀ (yde ydp ydw ydq ywd ypr yit ym1 ym2 ym3 ym4 ym5 yws yps ylg ycv : Int32), ∃ m, wY_checkStars_9 post m (nI (q j)) (nI g) (nI L) yil yol ytl ycap ymk yen yac yec ypos yco yde ydp ydw ydq ywd ypr yit ym1 ym2 ym3 ym4 ym5 yws yps ylg ycv ycm ycs ycx ycu (nI (se e)) ysv ycw ycp ycn bf bi bo btm brv ba brs := by
        intro t
        induction t with
        | zero =>
          intro j g hj hg yde ydp ydw ydq ywd ypr yit ym1 ym2 ym3 ym4 ym5 yws yps ylg ycv
          have := ih (e + 1) g (by omega) (by rw [show j = n by omega, r1] at hg; exact hg) (lt_s hgood good) yde ydp ydw ydq ywd ypr yit ym1 ym2 ym3 ym4 ym5 yws yps ylg ycv ysv ycw ycp ycn
          rw [← r1, es, show n = j by omega] at this
          exact this
        | succ t iht =>
          intro j g hj hg yde ydp ydw ydq ywd ypr yit ym1 ym2 ym3 ym4 ym5 yws yps ylg ycv
          have hi := rj j (by omega)
          have hlt := hi.1
          have hq := it_q hi
          obtain ⟨m, hm⟩ := iht (j + 1) (g + 1) (by omega) (by omega) yde ydp ydw ydq ywd ypr (ali (s' + j)) ym1 ym2 ym3 ym4 ym5 yws yps ylg ycv
          exact ⟨m + 1, br_f (nI_ge (b := 64) (by omega) (by decide)) (br_f (nI_ge hlt (by omega)) (ym_itl hL hi (br_t (nI_lt hq.1 (by omega)) (br_t (ar_pos (it_c hf hi)) (nm_r (nI_1 g) hm)))))⟩
      have := inner n 0 g (by omega) (by rw [r0]; exact hg) yde ydp ydw ydq ywd ypr yit ym1 ym2 ym3 ym4 ym5 yws yps ylg ycv
      rw [r0] at this
      exact this
    · obtain ⟨g1, g2⟩ := tb_good (aa := ba) hd
      obtain ⟨hpc, hr, hq, hrow⟩ := hd
      have hlt := hpc.1
      have hb := dr_b bf hlt
      have hk : dr_k bf L (pe e) < L := (pc_ok (dr_ok hr).2.2.2).1
      have et := hrow.2.2.2.2.2.2.2.1
      have e8 := hrow.2.2.2.2.2.2.2.2
      rw [et] at e8
      by_cases good : sg_w ba (aws e) ∧ sg_p ba (aps e)
      · obtain ⟨m, hm⟩ := ih (e + 1) (g + 1) (by omega) (by omega) (lt_s hgood good) (nI (dr_k bf L (pe e) + 1)) (dr_v bf L (pe e)) (yu_p (dr_wu bf L (pe e))) (yu_p (dr_pu bf L (pe e))) (yu_w (dr_w bf L (pe e))) (dr_p bf L (pe e)) (-1) (nI (dr_m bf L (pe e) % 2)) (nI (dr_m bf L (pe e) / 2 % 2)) (nI (dr_m bf L (pe e) / 4 % 2)) (nI (dr_m bf L (pe e) / 8 % 2)) (nI (dr_m bf L (pe e) / 16 % 2)) (yu_s (dr_wu bf L (pe e))) (yu_s (dr_pu bf L (pe e))) (nI (dr_g bf L (pe e))) (dr_c bf L (pe e)) (ev_V bf L (pe e) (se e)) (nI (ev_W bf L ba (pe e) (se e))) (ev_P bf L ba (pe e) (se e)) (yb_b (ev_L bf L ba (pe e) (se e)))
        rw [hq, et] at hm
        exact ⟨m + 1, br_f (nI_ge (b := 64) (by omega) (by decide)) (br_f (nI_ge hlt (by omega)) (ym_itd hL hpc hf (fun z => absurd hr z) (fun _ => br_t (nI_lt (by omega) (by omega)) (br_f (by decide) (ym_st hr e8 (fun z => absurd ⟨g1.mp good.1, g2.mp good.2⟩ z) (fun _ _ => br_t rfl (nm_r (nI_1 g) hm)))))))⟩
      · refine ⟨1, br_f (nI_ge (b := 64) (by omega) (by decide)) (br_f (nI_ge hlt (by omega)) (ym_itd hL hpc hf (fun z => absurd hr z) (fun _ => br_t (nI_lt (by omega) (by omega)) (br_f (by decide) (ym_st hr e8 (fun _ => ?_) (fun a b => absurd ⟨g1.mpr a, g2.mpr b⟩ good))))))⟩
        intro ysq ysv ycw ycp ycn
        exact br_f (by decide) (h0 e (by omega) good hgood _ _ _ _ _ _ _ _ _ _ _ _ _ _ _ _ _ _ _ _ _)
end
