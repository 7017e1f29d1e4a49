/-! the reference: precision, width, flags, the whole directive, one item -/
section
variable {yfl yil yol ytl ycap ymk yen yac yec ypos yco yde ydp ydw ydq ywd ypr yit ym1 ym2 ym3 ym4 ym5 yws yps ylg ycv ycm ycs ycx ycu ysq ysv ycw ycp ycn : Int32} {bf bi bo btm brv : Nat → Int32} {ba brs : Nat → Int64}
theorem ym_391 {post : Int32 → SY → Prop} {L j : Nat} (hL : L ≤ 64) (hj : j ≤ L) (hf : ∀ j, ar_ch (bf j)) (hr1 : ¬ pp_r bf L j = 0 → ∀ (yde ydp ydw ydq ywd ypr yit ym1 ym2 ym3 ym4 ym5 yws yps ylg ycv : Int32), post (pp_r bf L j) (nI L, yil, yol, ytl, ycap, ymk, yen, yac, yec, ypos, yco, yde, ydp, ydw, ydq, ywd, ypr, yit, ym1, ym2, ym3, ym4, ym5, yws, yps, ylg, ycv, ycm, ycs, ycx, ycu, ysq, ysv, ycw, ycp, ycn, bf, bi, bo, btm, brv, ba, brs)) (hr2 : pp_r bf L j = 0 → ¬ pc_r bf L (pp_n bf L j) = 0 → ∀ (yde ydp ydw ydq ywd ypr yit ym1 ym2 ym3 ym4 ym5 yws yps ylg ycv : Int32), post (pc_r bf L (pp_n bf L j)) (nI L, yil, yol, ytl, ycap, ymk, yen, yac, yec, ypos, yco, yde, ydp, ydw, ydq, ywd, ypr, yit, ym1, ym2, ym3, ym4, ym5, yws, yps, ylg, ycv, ycm, ycs, ycx, ycu, ysq, ysv, ycw, ycp, ycn, bf, bi, bo, btm, brv, ba, brs))
    (h : pp_r bf L j = 0 → pc_r bf L (pp_n bf L j) = 0 → post 0 (nI L, yil, yol, ytl, ycap, ymk, yen, yac, yec, ypos, yco, nI (pc_k bf L (pp_n bf L j) + 1), ydp, ydw, yu_p (pp_u bf L j), ywd, pp_p bf L j, yit, ym1, ym2, ym3, ym4, ym5, yws, yu_s (pp_u bf L j), nI (if pc_l bf L (pp_n bf L j) then 1 else 0), bf (pc_k bf L (pp_n bf L j)), ycm, ycs, ycx, ycu, ysq, ysv, ycw, ycp, ycn, bf, bi, bo, btm, brv, ba, brs)) : wY_parseAt_391 post (nI j) (nI L) yil yol ytl ycap ymk yen yac yec ypos yco yde ydp ydw 0 ywd (-1) yit ym1 ym2 ym3 ym4 ym5 yws 0 0 ycv ycm ycs ycx ycu ysq ysv ycw ycp ycn bf bi bo btm brv ba brs := by
  have hnb := pp_nb bf hj
  by_cases hd : pp_d bf L j
  · have hj' := hd.1
    have vj : (nI j).toNatClampNeg = j := nI_clamp (by omega)
    have vj1 : (nI (j + 1)).toNatClampNeg = j + 1 := nI_clamp (by omega)
    refine br_f (nI_ge hj' (by omega)) ⟨vp_in_nI (by omega) (by omega), br_t (by rw [vj]; exact hd.2) (nm_r (nI_1 j) ?_)⟩
    by_cases hs : pw_s bf L (j + 1)
    · have en : pp_n bf L j = ps_n bf L (j + 1 + 1) := by unfold pp_n pw_n; rw [if_pos hd, if_pos hs]
      have eu : pp_u bf L j = ps_v bf L (j + 1 + 1) := by unfold pp_u pw_u; rw [if_pos hd, if_pos hs]
      have ep : pp_p bf L j = -1 := by unfold pp_p; rw [if_pos hd, if_pos hs]
      have er : pp_r bf L j = if ps_v bf L (j + 1 + 1) < 0 then ps_v bf L (j + 1 + 1) else 0 := by unfold pp_r pw_r; rw [if_pos hd, if_pos hs]
      have hs1 := hs.1
      rw [en, er] at hr2 h
      rw [eu, ep] at h
      rw [er] at hr1
      refine br_f (nI_ge hs1 (by omega)) ⟨vp_in_nI (by omega) (by omega), br_t (by rw [vj1]; exact hs.2) (nm_r (nI_1 (j + 1)) (ym_re hL (by omega) (ps_w hL (by omega) (fun hn => ?_) (fun hy => ym_rv hL (by omega) (ps_b (fun hb => ?_) (fun hb => nm_r (nI_1 _) ?_))))))⟩
      · obtain ⟨e1, e2⟩ := ps_v1 hn
        rw [e1, e2] at hr2 h
        refine ym_535 hL (by omega) hf (fun z ylg => hr2 rfl z _ _ _ _ _ _ _ _ _ _ _ _ _ _ _ _) (fun z => ?_)
        exact h rfl z
      · rw [ps_v2 hy hb] at hr1
        exact hr1 (by decide) _ _ _ _ _ _ _ _ _ _ _ _ _ _ _ _
      · obtain ⟨e1, e2⟩ := ps_v3 hy hb
        have hV := rn_Vb bf (L - (j + 1 + 1)) (j + 1 + 1) 0 (by omega)
        rw [e1, e2, if_neg (nI_pos (by omega))] at hr2 h
        have e3 : yu_p (nI (rn_V bf (L - (j + 1 + 1)) (j + 1 + 1) 0)) = nI (rn_V bf (L - (j + 1 + 1)) (j + 1 + 1) 0) := if_neg (us_n1 (by omega))
        have e4 : yu_s (nI (rn_V bf (L - (j + 1 + 1)) (j + 1 + 1) 0)) = 1 := if_neg (us_n1 (by omega))
        rw [e3, e4] at h
        exact ym_535 hL (by have := hy.2.1; omega) hf (fun z ylg => hr2 rfl z _ _ _ _ _ _ _ _ _ _ _ _ _ _ _ _) (h rfl)
    · have en : pp_n bf L j = rn_E bf (L - (j + 1)) (j + 1) := by unfold pp_n pw_n; rw [if_pos hd, if_neg hs]
      have eu : pp_u bf L j = -1 := by unfold pp_u pw_u; rw [if_pos hd, if_neg hs]
      have ep : pp_p bf L j = nI (rn_V bf (L - (j + 1)) (j + 1) 0) := by unfold pp_p; rw [if_pos hd, if_neg hs]
      have er : pp_r bf L j = if 99 < rn_V bf (L - (j + 1)) (j + 1) 0 then -5 else 0 := by unfold pp_r pw_r; rw [if_pos hd, if_neg hs]
      have hV := rn_Vb bf (L - (j + 1)) (j + 1) 0 (by omega)
      rw [en] at hnb
      rw [en, er] at hr2 h
      rw [eu, ep] at h
      rw [er] at hr1
      have k506 : wY_parseAt_506 post (nI (j + 1)) (nI L) yil yol ytl ycap ymk yen yac yec ypos yco yde ydp ydw 0 ywd (-1) yit ym1 ym2 ym3 ym4 ym5 yws 0 0 ycv ycm ycs ycx ycu ysq ysv ycw ycp ycn bf bi bo btm brv ba brs := by
        refine ym_rv hL (by omega) (ym_re hL (by omega) (pk_le (rn_V bf (L - (j + 1)) (j + 1) 0) 99 (fun a => ?_) (fun a => ?_)))
        · rw [if_neg (by omega)] at hr2 h
          exact ym_535 hL hnb.2 hf (fun z ylg => hr2 rfl z _ _ _ _ _ _ _ _ _ _ _ _ _ _ _ _) (h rfl)
        · rw [if_pos a] at hr1
          exact hr1 (by decide) _ _ _ _ _ _ _ _ _ _ _ _ _ _ _ _
      exact pk_le L (j + 1) (fun _ => k506) (fun hl => ⟨vp_in_nI (by omega) (by omega), br_f (by rw [vj1]; exact fun z => hs ⟨hl, z⟩) k506⟩)
  · have en : pp_n bf L j = j := by unfold pp_n; rw [if_neg hd]
    have eu : pp_u bf L j = -1 := by unfold pp_u; rw [if_neg hd]
    have ep : pp_p bf L j = -1 := by unfold pp_p; rw [if_neg hd]
    have er : pp_r bf L j = 0 := by unfold pp_r; rw [if_neg hd]
    rw [en] at hr2 h
    rw [eu, ep] at h
    have k535 : wY_parseAt_535 post (nI j) (nI L) yil yol ytl ycap ymk yen yac yec ypos yco yde ydp ydw 0 ywd (-1) yit ym1 ym2 ym3 ym4 ym5 yws 0 0 ycv ycm ycs ycx ycu ysq ysv ycw ycp ycn bf bi bo btm brv ba brs := ym_535 hL hj hf (fun z ylg => hr2 er z _ _ _ _ _ _ _ _ _ _ _ _ _ _ _ _) (h er)
    exact pk_le L j (fun _ => k535) (fun hl => ⟨vp_in_nI (by omega) (by omega), br_f (by rw [nI_clamp (by omega)]; exact fun z => hd ⟨hl, z⟩) k535⟩)
/-- the reference's width field -/
def yu_w (w : Nat) : Int32 := if w = 0 then -1 else nI w
theorem ym_239 {post : Int32 → SY → Prop} {L j : Nat} (hL : L ≤ 64) (hj : j ≤ L) (hf : ∀ j, ar_ch (bf j)) (h48 : j = L ∨ ¬ bf j = 48) (hr0 : ¬ pw_r bf L j = 0 → ∀ (yde ydp ydw ydq ywd ypr yit ym1 ym2 ym3 ym4 ym5 yws yps ylg ycv : Int32), post (pw_r bf L j) (nI L, yil, yol, ytl, ycap, ymk, yen, yac, yec, ypos, yco, yde, ydp, ydw, ydq, ywd, ypr, yit, ym1, ym2, ym3, ym4, ym5, yws, yps, ylg, ycv, ycm, ycs, ycx, ycu, ysq, ysv, ycw, ycp, ycn, bf, bi, bo, btm, brv, ba, brs))
    (hr1 : pw_r bf L j = 0 → ¬ pp_r bf L (pw_n bf L j) = 0 → ∀ (yde ydp ydw ydq ywd ypr yit ym1 ym2 ym3 ym4 ym5 yws yps ylg ycv : Int32), post (pp_r bf L (pw_n bf L j)) (nI L, yil, yol, ytl, ycap, ymk, yen, yac, yec, ypos, yco, yde, ydp, ydw, ydq, ywd, ypr, yit, ym1, ym2, ym3, ym4, ym5, yws, yps, ylg, ycv, ycm, ycs, ycx, ycu, ysq, ysv, ycw, ycp, ycn, bf, bi, bo, btm, brv, ba, brs)) (hr2 : pw_r bf L j = 0 → pp_r bf L (pw_n bf L j) = 0 → ¬ pc_r bf L (pp_n bf L (pw_n bf L j)) = 0 → ∀ (yde ydp ydw ydq ywd ypr yit ym1 ym2 ym3 ym4 ym5 yws yps ylg ycv : Int32), post (pc_r bf L (pp_n bf L (pw_n bf L j))) (nI L, yil, yol, ytl, ycap, ymk, yen, yac, yec, ypos, yco, yde, ydp, ydw, ydq, ywd, ypr, yit, ym1, ym2, ym3, ym4, ym5, yws, yps, ylg, ycv, ycm, ycs, ycx, ycu, ysq, ysv, ycw, ycp, ycn, bf, bi, bo, btm, brv, ba, brs))
    (h : pw_r bf L j = 0 → pp_r bf L (pw_n bf L j) = 0 → pc_r bf L (pp_n bf L (pw_n bf L j)) = 0 → post 0 (nI L, yil, yol, ytl, ycap, ymk, yen, yac, yec, ypos, yco, nI (pc_k bf L (pp_n bf L (pw_n bf L j)) + 1), ydp, yu_p (pw_u bf L j), yu_p (pp_u bf L (pw_n bf L j)), yu_w (pw_w bf L j), pp_p bf L (pw_n bf L j), yit, ym1, ym2, ym3, ym4, ym5, yu_s (pw_u bf L j), yu_s (pp_u bf L (pw_n bf L j)), nI (if pc_l bf L (pp_n bf L (pw_n bf L j)) then 1 else 0), bf (pc_k bf L (pp_n bf L (pw_n bf L j))), ycm, ycs, ycx, ycu, ysq, ysv, ycw, ycp, ycn, bf, bi, bo, btm, brv, ba, brs)) :
    wY_parseAt_239 post (nI j) (nI L) yil yol ytl ycap ymk yen yac yec ypos yco yde ydp 0 0 (-1) (-1) yit ym1 ym2 ym3 ym4 ym5 0 0 0 ycv ycm ycs ycx ycu ysq ysv ycw ycp ycn bf bi bo btm brv ba brs := by
  have hnb := pw_nb bf hj
  by_cases hs : pw_s bf L j
  · have en : pw_n bf L j = ps_n bf L (j + 1) := by unfold pw_n; rw [if_pos hs]
    have eu : pw_u bf L j = ps_v bf L (j + 1) := by unfold pw_u; rw [if_pos hs]
    have ew : pw_w bf L j = 0 := by unfold pw_w; rw [if_pos hs]
    have er : pw_r bf L j = if ps_v bf L (j + 1) < 0 then ps_v bf L (j + 1) else 0 := by unfold pw_r; rw [if_pos hs]
    have hs1 := hs.1
    have vj : (nI j).toNatClampNeg = j := nI_clamp (by omega)
    rw [en, er] at hr1 hr2 h
    rw [eu, ew] at h
    rw [er] at hr0
    refine br_f (nI_ge hs1 (by omega)) ⟨vp_in_nI (by omega) (by omega), br_t (by rw [vj]; exact hs.2) (nm_r (nI_1 j) (ym_re hL (by omega) (ps_w hL (by omega) (fun hn => ?_) (fun hy => ym_rv hL (by omega) (ps_b (fun hb => ?_) (fun hb => nm_r (nI_1 _) ?_))))))⟩
    · obtain ⟨e1, e2⟩ := ps_v1 hn
      rw [e1, e2] at hr1 hr2 h
      exact ym_391 hL (by omega) hf (hr1 rfl) (hr2 rfl) (h rfl)
    · rw [ps_v2 hy hb] at hr0
      exact hr0 (by decide) _ _ _ _ _ _ _ _ _ _ _ _ _ _ _ _
    · obtain ⟨e1, e2⟩ := ps_v3 hy hb
      have hV := rn_Vb bf (L - (j + 1)) (j + 1) 0 (by omega)
      rw [e1, e2, if_neg (nI_pos (by omega))] at hr1 hr2 h
      have e3 : yu_p (nI (rn_V bf (L - (j + 1)) (j + 1) 0)) = nI (rn_V bf (L - (j + 1)) (j + 1) 0) := if_neg (us_n1 (by omega))
      have e4 : yu_s (nI (rn_V bf (L - (j + 1)) (j + 1) 0)) = 1 := if_neg (us_n1 (by omega))
      rw [e3, e4] at h
      exact ym_391 hL (by have := hy.2.1; omega) hf (hr1 rfl) (hr2 rfl) (h rfl)
  · have en : pw_n bf L j = rn_E bf (L - j) j := by unfold pw_n; rw [if_neg hs]
    have eu : pw_u bf L j = -1 := by unfold pw_u; rw [if_neg hs]
    have ew : pw_w bf L j = rn_V bf (L - j) j 0 := by unfold pw_w; rw [if_neg hs]
    have er : pw_r bf L j = if 99 < rn_V bf (L - j) j 0 then -5 else 0 := by unfold pw_r; rw [if_neg hs]
    have hV := rn_Vb bf (L - j) j 0 (by omega)
    rw [en] at hnb
    rw [en, er] at hr1 hr2 h
    rw [eu, ew] at h
    rw [er] at hr0
    have k391 : (j = L ∨ ¬ rn_d (bf j)) → wY_parseAt_391 post (nI j) (nI L) yil yol ytl ycap ymk yen yac yec ypos yco yde ydp 0 0 (-1) (-1) yit ym1 ym2 ym3 ym4 ym5 0 0 0 ycv ycm ycs ycx ycu ysq ysv ycw ycp ycn bf bi bo btm brv ba brs := by
      intro hd
      have z1 : rn_V bf (L - j) j 0 = 0 := by
        rcases hd with q | q
        · rw [q, Nat.sub_self]; rfl
        · exact rn_V0 bf q 0
      have z2 : rn_E bf (L - j) j = j := by
        rcases hd with q | q
        · rw [q, Nat.sub_self]; rfl
        · exact rn_E0 bf q
      rw [z1, z2] at hr1 hr2 h
      exact ym_391 hL hj hf (hr1 rfl) (hr2 rfl) (h rfl)
    have k332 : wY_parseAt_332 post (nI j) (nI L) yil yol ytl ycap ymk yen yac yec ypos yco yde ydp 0 0 (-1) (-1) yit ym1 ym2 ym3 ym4 ym5 0 0 0 ycv ycm ycs ycx ycu ysq ysv ycw ycp ycn bf bi bo btm brv ba brs := by
      refine pk_le L j (fun hl => k391 (Or.inl (by omega))) (fun hl => ⟨vp_in_nI (by omega) (by omega), ?_⟩)
      have vj : (nI j).toNatClampNeg = j := nI_clamp (by omega)
      have n48 : ¬ bf j = 48 := by
        rcases h48 with q | q
        · omega
        · exact q
      refine wk_if (d := bf j < 49) (by rw [vj]) (fun a => k391 (Or.inr (fun z => ?_))) (fun a => ⟨vp_in_nI (by omega) (by omega), wk_if (d := 57 < bf j) (by rw [vj]) (fun b => k391 (Or.inr (fun z => absurd z.2 (Int32.not_le.mpr b)))) (fun b => ?_)⟩)
      · obtain ⟨d, hd, e⟩ := rn_dN z
        rw [e] at a n48
        have := (nI_ltI (b := 49) (by omega) (by decide)).mp a
        have e0 : d = 0 := by omega
        rw [e0] at n48
        exact n48 rfl
      · have hd : rn_d (bf j) := ⟨Int32.le_trans (by decide) (Int32.not_lt.mp a), Int32.not_lt.mp b⟩
        have h1 := rn_V1s bf (n := L - j) (by omega) hd n48
        have e5 : yu_w (rn_V bf (L - j) j 0) = nI (rn_V bf (L - j) j 0) := if_neg (by omega)
        rw [e5] at h
        refine ym_rv hL hj (ym_re hL hj (pk_le (rn_V bf (L - j) j 0) 99 (fun a => ?_) (fun a => ?_)))
        · rw [if_neg (by omega)] at hr1 hr2 h
          exact ym_391 hL hnb.2 hf (hr1 rfl) (hr2 rfl) (h rfl)
        · rw [if_pos a] at hr0
          exact hr0 (by decide) _ _ _ _ _ _ _ _ _ _ _ _ _ _ _ _
    exact pk_le L j (fun _ => k332) (fun hl => ⟨vp_in_nI (by omega) (by omega), br_f (by rw [nI_clamp (by omega)]; exact fun z => hs ⟨hl, z⟩) k332⟩)
theorem ym_135 {post : Int32 → SY → Prop} {L : Nat} (hL : L ≤ 64) : ∀ n j k m, j ≤ L → k ≤ j → L - j < n → m < 32 →
    wY_parseAt_239 post (nI (fl_E bf (L - j) j)) (nI L) yil yol ytl ycap ymk yen yac yec ypos yco yde ydp ydw ydq ywd ypr yit (nI (fl_M bf (L - j) j m % 2)) (nI (fl_M bf (L - j) j m / 2 % 2)) (nI (fl_M bf (L - j) j m / 4 % 2)) (nI (fl_M bf (L - j) j m / 8 % 2)) (nI (fl_M bf (L - j) j m / 16 % 2)) yws yps ylg ycv ycm ycs ycx ycu ysq ysv ycw ycp ycn bf bi bo btm brv ba brs →
    wY_parseAt_135 post (nI L) yil yol ytl ycap ymk yen yac yec ypos yco yde ydp ydw ydq ywd ypr yit yws yps ylg ycv ycm ycs ycx ycu ysq ysv ycw ycp ycn bf bi bo btm brv ba brs n (nI j) (nI k) (nI (m % 2)) (nI (m / 2 % 2)) (nI (m / 4 % 2)) (nI (m / 8 % 2)) (nI (m / 16 % 2)) := by
  intro n
  induction n with
  | zero => intro j k m hj hk hn; omega
  | succ n ih =>
    intro j k m hj hk hn hm h
    have h0 : L ≤ j → wY_parseAt_239 post (nI j) (nI L) yil yol ytl ycap ymk yen yac yec ypos yco yde ydp ydw ydq ywd ypr yit (nI (m % 2)) (nI (m / 2 % 2)) (nI (m / 4 % 2)) (nI (m / 8 % 2)) (nI (m / 16 % 2)) yws yps ylg ycv ycm ycs ycx ycu ysq ysv ycw ycp ycn bf bi bo btm brv ba brs := fun hl => by
      rw [show L - j = 0 by omega] at h
      exact h
    refine pk_le 64 k (fun hl => h0 (by omega)) (fun hl => pk_le L j h0 (fun hlt => ⟨vp_in_nI (by omega) (by omega), nm_r (e' := bf j) (by rw [nI_clamp (by omega)]) ?_⟩))
    have go : ∀ w : Nat, fl_v (bf j) = w → ¬ w = 0 → wY_parseAt_135 post (nI L) yil yol ytl ycap ymk yen yac yec ypos yco yde ydp ydw ydq ywd ypr yit yws yps ylg ycv ycm ycs ycx ycu ysq ysv ycw ycp ycn bf bi bo btm brv ba brs n (nI (j + 1)) (nI (k + 1)) (nI ((m ||| w) % 2)) (nI ((m ||| w) / 2 % 2)) (nI ((m ||| w) / 4 % 2)) (nI ((m ||| w) / 8 % 2)) (nI ((m ||| w) / 16 % 2)) := by
      intro w ew w0
      have z : ¬ fl_v (bf j) = 0 := by rw [ew]; exact w0
      obtain ⟨t, ht⟩ : ∃ t, L - j = t + 1 := ⟨L - j - 1, by omega⟩
      rw [ht, fl_Es bf z, fl_Ms bf z, show t = L - (j + 1) by omega, ew] at h
      have hb := fl_orb hm (bf j)
      rw [ew] at hb
      exact ih (j + 1) (k + 1) (m ||| w) (by omega) (by omega) (by omega) hb h
    by_cases a1 : bf j = 45
    · have g := go 1 (by rw [a1]; rfl) (by decide)
      obtain ⟨e1, e2, e3, e4, e5⟩ := fl_y1 m hm
      rw [e1, e2, e3, e4, e5] at g
      exact br_t a1 (nm_r (nI_1 j) (nm_r (nI_1 k) g))
    refine br_f a1 ?_
    by_cases a2 : bf j = 43
    · have g := go 2 (by rw [a2]; rfl) (by decide)
      obtain ⟨e1, e2, e3, e4, e5⟩ := fl_y2 m hm
      rw [e1, e2, e3, e4, e5] at g
      exact br_t a2 (nm_r (nI_1 j) (nm_r (nI_1 k) g))
    refine br_f a2 ?_
    by_cases a3 : bf j = 32
    · have g := go 4 (by rw [a3]; rfl) (by decide)
      obtain ⟨e1, e2, e3, e4, e5⟩ := fl_y3 m hm
      rw [e1, e2, e3, e4, e5] at g
      exact br_t a3 (nm_r (nI_1 j) (nm_r (nI_1 k) g))
    refine br_f a3 ?_
    by_cases a4 : bf j = 48
    · have g := go 8 (by rw [a4]; rfl) (by decide)
      obtain ⟨e1, e2, e3, e4, e5⟩ := fl_y4 m hm
      rw [e1, e2, e3, e4, e5] at g
      exact br_t a4 (nm_r (nI_1 j) (nm_r (nI_1 k) g))
    refine br_f a4 ?_
    by_cases a5 : bf j = 35
    · have g := go 16 (by rw [a5]; rfl) (by decide)
      obtain ⟨e1, e2, e3, e4, e5⟩ := fl_y5 m hm
      rw [e1, e2, e3, e4, e5] at g
      exact br_t a5 (nm_r (nI_1 j) (nm_r (nI_1 k) g))
    refine br_f a5 ?_
    have z : fl_v (bf j) = 0 := by
      unfold fl_v
      rw [if_neg a1, if_neg a2, if_neg a3, if_neg a4, if_neg a5]
    rw [fl_E0 bf z, fl_M0 bf z] at h
    exact h
end
