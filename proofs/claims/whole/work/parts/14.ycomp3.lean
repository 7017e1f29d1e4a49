/-! the reference: the whole directive, one item, the uses -/
section
variable {yfl yil yol ytl ycap ymk yen yac yec ypos yco yde ydp ydw ydq ywd ypr yit ym1 ym2 ym3 ym4 ym5 yws yps ylg ycv ycm ycs ycx ycu ysq ysv ycw ycp ycn : Int32} {bf bi bo btm brv : Nat → Int32} {ba brs : Nat → Int64}
theorem ym_pa {post : Int32 → SY → Prop} {L p : Nat} (hL : L ≤ 64) (hp : p < L) (hf : ∀ j, ar_ch (bf j)) (hr : ¬ dr_r bf L p = 0 → ∀ (yde ydp ydw ydq ywd ypr yit ym1 ym2 ym3 ym4 ym5 yws yps ylg ycv : Int32), post (dr_r bf L p) (nI L, yil, yol, ytl, ycap, ymk, yen, yac, yec, ypos, yco, yde, ydp, ydw, ydq, ywd, ypr, yit, ym1, ym2, ym3, ym4, ym5, yws, yps, ylg, ycv, ycm, ycs, ycx, ycu, ysq, ysv, ycw, ycp, ycn, bf, bi, bo, btm, brv, ba, brs)) (h : dr_r bf L p = 0 → post 0 (nI L, yil, yol, ytl, ycap, ymk, yen, yac, yec, ypos, yco, nI (dr_k bf L p + 1), dr_v bf L p, yu_p (dr_wu bf L p), yu_p (dr_pu bf L p), yu_w (dr_w bf L p), dr_p bf L p, yit, nI (dr_m bf L p % 2), nI (dr_m bf L p / 2 % 2), nI (dr_m bf L p / 4 % 2), nI (dr_m bf L p / 8 % 2), nI (dr_m bf L p / 16 % 2), yu_s (dr_wu bf L p), yu_s (dr_pu bf L p), nI (dr_g bf L p), dr_c bf L p, ycm, ycs, ycx, ycu, ysq, ysv, ycw, ycp, ycn, bf, bi, bo, btm, brv, ba, brs)) : wpY_parseAt post (nI L, yil, yol, ytl, ycap, ymk, yen, yac, yec, ypos, yco, yde, ydp, ydw, ydq, ywd, ypr, yit, ym1, ym2, ym3, ym4, ym5, yws, yps, ylg, ycv, ycm, ycs, ycx, ycu, ysq, ysv, ycw, ycp, ycn, bf, bi, bo, btm, brv, ba, brs) (nI p) := by
  obtain ⟨b1, b2, b3, b4, b5, b6, c1, c2, c3, c4⟩ := dr_b bf hp
  have D : dr_r bf L p = if dr_v bf L p < 0 then dr_v bf L p else if ¬ pw_r bf L (dr_2 bf L p) = 0 then pw_r bf L (dr_2 bf L p) else if ¬ pp_r bf L (dr_3 bf L p) = 0 then pp_r bf L (dr_3 bf L p) else pc_r bf L (dr_4 bf L p) := rfl
  have key : ¬ dr_v bf L p < 0 → wY_parseAt_135 post (nI L) yil yol ytl ycap ymk yen yac yec ypos yco yde (dr_v bf L p) 0 0 (-1) (-1) yit 0 0 0 ycv ycm ycs ycx ycu ysq ysv ycw ycp ycn bf bi bo btm brv ba brs (L - dr_1 bf L p + 1) (nI (dr_1 bf L p)) (nI 0) (nI (0 % 2)) (nI (0 / 2 % 2)) (nI (0 / 4 % 2)) (nI (0 / 8 % 2)) (nI (0 / 16 % 2)) := by
    intro v0
    rw [if_neg v0] at D
    refine ym_135 hL (L - dr_1 bf L p + 1) (dr_1 bf L p) 0 0 c1 (by omega) (by omega) (by omega) (ym_239 hL c2 hf ?_ (fun (w0 : ¬ pw_r bf L (dr_2 bf L p) = 0) => ?_) (fun (w0 : pw_r bf L (dr_2 bf L p) = 0) (q0 : ¬ pp_r bf L (dr_3 bf L p) = 0) => ?_) (fun (w0 : pw_r bf L (dr_2 bf L p) = 0) (q0 : pp_r bf L (dr_3 bf L p) = 0) (k0 : ¬ pc_r bf L (dr_4 bf L p) = 0) => ?_) (fun (w0 : pw_r bf L (dr_2 bf L p) = 0) (q0 : pp_r bf L (dr_3 bf L p) = 0) (k0 : pc_r bf L (dr_4 bf L p) = 0) => ?_))
    · rcases fl_Ee bf (L - dr_1 bf L p) (dr_1 bf L p) with q | q
      · exact Or.inl (by have e : dr_2 bf L p = fl_E bf (L - dr_1 bf L p) (dr_1 bf L p) := rfl; rw [q] at e ⊢; omega)
      · exact Or.inr (fl_no0 q)
    · rw [if_pos w0] at D
      rw [D] at hr
      exact hr w0
    · rw [if_neg (fun y => y w0), if_pos q0] at D
      rw [D] at hr
      exact hr q0
    · rw [if_neg (fun y => y w0), if_neg (fun y => y q0)] at D
      rw [D] at hr
      exact hr k0
    · rw [if_neg (fun y => y w0), if_neg (fun y => y q0)] at D
      exact h (D.trans k0)
  refine nm_r (nI_1 p) (ym_re hL (by omega) (ps_w hL (by omega) (fun hn => ?_) (fun hy => ym_rv hL (by omega) (ps_b (fun hb => ?_) (fun hb => nm_r (nI_1 _) ?_)))))
  · obtain ⟨e1, e2⟩ := ps_v1 hn
    have a1 : dr_v bf L p = 0 := e1
    have a2 : dr_1 bf L p = p + 1 := e2
    rw [a1, a2] at key
    exact ⟨_, key (by decide)⟩
  · have a1 : dr_v bf L p = -3 := ps_v2 hy hb
    rw [a1, if_pos (by decide)] at D
    rw [D] at hr
    exact hr (by decide) _ _ _ _ _ _ _ _ _ _ _ _ _ _ _ _
  · obtain ⟨e1, e2⟩ := ps_v3 hy hb
    have a1 : dr_v bf L p = nI (rn_V bf (L - (p + 1)) (p + 1) 0) := e1
    have a2 : dr_1 bf L p = rn_E bf (L - (p + 1)) (p + 1) + 1 := e2
    have hV := rn_Vb bf (L - (p + 1)) (p + 1) 0 (by omega)
    rw [a1, a2] at key
    exact ⟨_, key (nI_pos (by omega))⟩
theorem ym_itl {post : Int32 → SY → Prop} {L p q : Nat} {c : Int32} (hL : L ≤ 64) (hi : it_lit bf L p c q) (h : post (nI q) (nI L, yil, yol, ytl, ycap, ymk, yen, yac, yec, ypos, yco, yde, ydp, ydw, ydq, ywd, ypr, c, ym1, ym2, ym3, ym4, ym5, yws, yps, ylg, ycv, ycm, ycs, ycx, ycu, ysq, ysv, ycw, ycp, ycn, bf, bi, bo, btm, brv, ba, brs)) : wpY_item post (nI L, yil, yol, ytl, ycap, ymk, yen, yac, yec, ypos, yco, yde, ydp, ydw, ydq, ywd, ypr, yit, ym1, ym2, ym3, ym4, ym5, yws, yps, ylg, ycv, ycm, ycs, ycx, ycu, ysq, ysv, ycw, ycp, ycn, bf, bi, bo, btm, brv, ba, brs) (nI p) := by
  obtain ⟨hp, hi⟩ := hi
  have vp : (nI p).toNatClampNeg = p := nI_clamp (by omega)
  have ip : vp_in (nI p) 64 := vp_in_nI (by omega) (by omega)
  rcases hi with ⟨h1, rfl, rfl⟩ | ⟨h1, h2, h3, rfl, rfl⟩
  · rw [← nI_1 p] at h
    exact ⟨ip, br_f (by rw [vp]; exact h1) ⟨ip, nm_r (e' := bf p) (by rw [vp]) h⟩⟩
  · have e1 : nI p + 1 = nI (p + 1) := nI_1 p
    have e2 : nI (p + 2) = nI p + 2 := (nI_add p 2).symm
    rw [e2] at h
    refine ⟨ip, br_t (by rw [vp]; exact h1) (br_f (by rw [e1]; exact nI_ge h2 (by omega)) ⟨by rw [e1]; exact vp_in_nI (by omega) (by omega), br_t ?_ h⟩)⟩
    rw [e1, nI_clamp (by omega)]
    exact h3
theorem ym_itd {post : Int32 → SY → Prop} {L p : Nat} (hL : L ≤ 64) (hi : it_pc bf L p) (hf : ∀ j, ar_ch (bf j)) (hr : ¬ dr_r bf L p = 0 → ∀ (yde ydp ydw ydq ywd ypr yit ym1 ym2 ym3 ym4 ym5 yws yps ylg ycv : Int32), post (dr_r bf L p) (nI L, yil, yol, ytl, ycap, ymk, yen, yac, yec, ypos, yco, yde, ydp, ydw, ydq, ywd, ypr, yit, ym1, ym2, ym3, ym4, ym5, yws, yps, ylg, ycv, ycm, ycs, ycx, ycu, ysq, ysv, ycw, ycp, ycn, bf, bi, bo, btm, brv, ba, brs)) (h : dr_r bf L p = 0 → post (nI (dr_k bf L p + 1)) (nI L, yil, yol, ytl, ycap, ymk, yen, yac, yec, ypos, yco, nI (dr_k bf L p + 1), dr_v bf L p, yu_p (dr_wu bf L p), yu_p (dr_pu bf L p), yu_w (dr_w bf L p), dr_p bf L p, -1, nI (dr_m bf L p % 2), nI (dr_m bf L p / 2 % 2), nI (dr_m bf L p / 4 % 2), nI (dr_m bf L p / 8 % 2), nI (dr_m bf L p / 16 % 2), yu_s (dr_wu bf L p), yu_s (dr_pu bf L p), nI (dr_g bf L p), dr_c bf L p, ycm, ycs, ycx, ycu, ysq, ysv, ycw, ycp, ycn, bf, bi, bo, btm, brv, ba, brs)) : wpY_item post (nI L, yil, yol, ytl, ycap, ymk, yen, yac, yec, ypos, yco, yde, ydp, ydw, ydq, ywd, ypr, yit, ym1, ym2, ym3, ym4, ym5, yws, yps, ylg, ycv, ycm, ycs, ycx, ycu, ysq, ysv, ycw, ycp, ycn, bf, bi, bo, btm, brv, ba, brs) (nI p) := by
  obtain ⟨hp, h1, h2⟩ := hi
  have vp : (nI p).toNatClampNeg = p := nI_clamp (by omega)
  have ip : vp_in (nI p) 64 := vp_in_nI (by omega) (by omega)
  have e1 : nI p + 1 = nI (p + 1) := nI_1 p
  have go : wY_item_58 post (nI p) (nI L) yil yol ytl ycap ymk yen yac yec ypos yco yde ydp ydw ydq ywd ypr yit ym1 ym2 ym3 ym4 ym5 yws yps ylg ycv ycm ycs ycx ycu ysq ysv ycw ycp ycn bf bi bo btm brv ba brs := by
    refine ym_pa hL hp hf (fun z => ?_) (fun z => ?_)
    · intro _ _ _ _ _ _ _ _ _ _ _ _ _ _ _ _
      exact br_f z (hr z _ _ _ _ _ _ _ _ _ _ _ _ _ _ _ _)
    · exact br_t rfl (h z)
  refine ⟨ip, br_t (by rw [vp]; exact h1) (pk_le L (p + 1) (fun _ => go) (fun hl => ⟨by rw [e1]; exact vp_in_nI (by omega) (by omega), br_f ?_ go⟩) rfl e1)⟩
  rw [e1, nI_clamp (by omega)]
  exact fun z => h2 ⟨hl, z⟩
theorem us_mb {s b : Nat} (h : ¬ b = 0) : us_m s b = 2 := if_pos h
theorem us_ms {s b : Nat} (hb : b = 0) (hs : 0 < s) : us_m s b = 1 := by
  unfold us_m
  rw [if_neg (fun z => z hb), if_pos hs]
theorem us_m0 {s b : Nat} (hb : b = 0) (hs : ¬ 0 < s) : us_m s b = 0 := by
  unfold us_m
  rw [if_neg (fun z => z hb), if_neg hs]
theorem ym_use {post : Int32 → SY → Prop} {s b : Nat} {u : Int32} (hu : ∃ k : Nat, k ≤ 8 ∧ u = nI k) (I : us_I s b) (h1 : us_r u s b < 0 → ∀ (ycm ycs ycx ycu : Int32), post (us_r u s b) (yfl, yil, yol, ytl, ycap, ymk, yen, yac, yec, ypos, yco, yde, ydp, ydw, ydq, ywd, ypr, yit, ym1, ym2, ym3, ym4, ym5, yws, yps, ylg, ycv, ycm, ycs, ycx, ycu, ysq, ysv, ycw, ycp, ycn, bf, bi, bo, btm, brv, ba, brs)) (h2 : ¬ us_r u s b < 0 → post 0 (yfl, yil, yol, ytl, ycap, ymk, yen, yac, yec, ypos, yco, yde, ydp, ydw, ydq, ywd, ypr, yit, ym1, ym2, ym3, ym4, ym5, yws, yps, ylg, ycv, us_m (sl_n u s) (us_b u b), nI (sl_n u s), nI (us_l (us_b u b)), nI (us_b u b), ysq, ysv, ycw, ycp, ycn, bf, bi, bo, btm, brv, ba, brs)) : wpY_use post (yfl, yil, yol, ytl, ycap, ymk, yen, yac, yec, ypos, yco, yde, ydp, ydw, ydq, ywd, ypr, yit, ym1, ym2, ym3, ym4, ym5, yws, yps, ylg, ycv, us_m s b, nI s, nI (us_l b), nI b, ysq, ysv, ycw, ycp, ycn, bf, bi, bo, btm, brv, ba, brs) u := by
  obtain ⟨k, hk, rfl⟩ := hu
  obtain ⟨I1, I2, I3⟩ := I
  cases k with
  | zero =>
    rw [nI_0, us_r0] at h1 h2
    rw [sl_n0, us_b0] at h2
    refine br_t (by decide) ?_
    by_cases hb : b = 0
    · rw [if_neg (fun z => z hb)] at h1 h2
      have hm : ¬ us_m s b = 2 := by
        by_cases hs : 0 < s
        · rw [us_ms hb hs]; decide
        · rw [us_m0 hb hs]; decide
      refine br_f hm (nm_r (nI_1 s) (pk_le (s + 1) 8 (fun hs => ?_) (fun hs => ?_)))
      · rw [if_neg (by omega), us_ms hb (by omega)] at h2
        exact h2 (nI_pos (by omega))
      · rw [if_pos (by omega)] at h1
        exact h1 (by decide) _ _ _ _
    · rw [if_pos hb] at h1
      exact br_t (us_mb hb) (h1 (by decide) _ _ _ _)
  | succ k =>
    rw [us_rk (by omega)] at h1 h2
    rw [sl_nk (by omega), us_bk (by omega)] at h2
    refine br_f (nI_nle (by omega) (by omega)) ?_
    by_cases hs : 0 < s
    · rw [if_pos hs] at h1
      exact br_t (us_ms (by omega) hs) (h1 (by decide) _ _ _ _)
    · rw [if_neg hs] at h2
      have hm : ¬ us_m s b = 1 := by
        by_cases hb : b = 0
        · rw [us_m0 hb hs]; decide
        · rw [us_mb hb]; decide
      have h3 := h2 (nI_pos (by omega))
      rw [us_mb (us_t1 b I2 k (by omega)).2, us_t2 b I2 k (by omega)] at h3
      have hl := (us_t8 b I2).1
      refine br_f hm (nm_r (e' := nI (b ||| 2 ^ k)) (by rw [nI_pred]; exact us_t3 b I2 k (by omega)) (pk_le (k + 1) (us_l b) (fun q => ?_) (fun q => ?_)))
      · rw [if_neg (by omega)] at h3
        exact h3
      · rw [if_pos (by omega)] at h3
        exact h3
theorem yu_s1 {u : Int32} (h : u = -1) : yu_s u = 0 := if_pos h
theorem yu_s2 {u : Int32} (h : ¬ u = -1) : yu_s u = 1 := if_neg h
theorem yu_p2 {u : Int32} (h : ¬ u = -1) : yu_p u = u := if_neg h
/-- the uses of a directive, as the reference takes them one by one: the stage of one use that may be wanting -/
theorem ym_c170 {post : Int32 → SY → Prop} {J : Int32 → Int32 → Int32 → Int32 → Int32 → Int32 → Int32 → Int32 → Int32 → Int32 → Int32 → Int32 → Int32 → Int32 → Int32 → Int32 → Int32 → Int32 → Int32 → Int32 → Int32 → Int32 → Int32 → Int32 → Int32 → Int32 → Int32 → Int32 → Int32 → Int32 → Int32 → Int32 → Int32 → Int32 → Int32 → Int32 → Int32 → Int32 → Int32 → Int32 → Int32 → (Nat → Int32) → (Nat → Int32) → (Nat → Int32) → (Nat → Int32) → (Nat → Int32) → (Nat → Int64) → (Nat → Int64) → Prop} {x2 x3 x4 x6 : Int32} {g : Nat} {d s b : Nat} {wu pu vu : Int32} (hd : d ≤ 64) (hw : wu = -1 ∨ ∃ k : Nat, k ≤ 8 ∧ wu = nI k) (hp : pu = -1 ∨ ∃ k : Nat, k ≤ 8 ∧ pu = nI k) (hv : ∃ k : Nat, k ≤ 8 ∧ vu = nI k) (I : us_I s b) 
    (hr : ¬ tk_r d wu pu vu s b = 0 → ∀ (ycm ycs ycx ycu : Int32), post (tk_r d wu pu vu s b) (yfl, yil, yol, ytl, ycap, ymk, yen, yac, yec, ypos, 0, yde, vu, yu_p wu, yu_p pu, ywd, ypr, yit, ym1, ym2, ym3, ym4, ym5, yu_s wu, yu_s pu, ylg, ycv, ycm, ycs, ycx, ycu, ysq, ysv, ycw, ycp, ycn, bf, bi, bo, btm, brv, ba, brs))
    (h : tk_r d wu pu vu s b = 0 → J x6 x2 x3 x4 (nI (g + 1)) yfl yil yol ytl ycap ymk yen yac yec ypos yco yde vu (yu_p wu) (yu_p pu) ywd ypr yit ym1 ym2 ym3 ym4 ym5 (yu_s wu) (yu_s pu) ylg ycv (us_m (sl_n vu (sl_n pu (sl_n wu s))) (us_b vu (us_b pu (us_b wu b)))) (nI (sl_n vu (sl_n pu (sl_n wu s)))) (nI (us_l (us_b vu (us_b pu (us_b wu b))))) (nI (us_b vu (us_b pu (us_b wu b)))) ysq ysv ycw ycp ycn bf bi bo btm brv ba brs) :
    (nI (d + 1) ≤ 16 → wY_compile_109 post J x2 x3 x4 (nI g) x6 0 yfl yil yol ytl ycap ymk yen yac yec ypos yco yde vu (yu_p wu) (yu_p pu) ywd ypr yit ym1 ym2 ym3 ym4 ym5 (yu_s wu) (yu_s pu) ylg ycv (us_m s b) (nI s) (nI (us_l b)) (nI b) ysq ysv ycw ycp ycn bf bi bo btm brv ba brs) ∧ (¬ nI (d + 1) ≤ 16 → wY_compile_109 post J x2 x3 x4 (nI g) x6 (-6) yfl yil yol ytl ycap ymk yen yac yec ypos yco yde vu (yu_p wu) (yu_p pu) ywd ypr yit ym1 ym2 ym3 ym4 ym5 (yu_s wu) (yu_s pu) ylg ycv (us_m s b) (nI s) (nI (us_l b)) (nI b) ysq ysv ycw ycp ycn bf bi bo btm brv ba brs) := by
  have err : ∀ (r ycm ycs ycx ycu : Int32), ¬ r = 0 → tk_r d wu pu vu s b = r → wY_compile_170 post J x2 x3 x4 (nI g) x6 r yfl yil yol ytl ycap ymk yen yac yec ypos yco yde vu (yu_p wu) (yu_p pu) ywd ypr yit ym1 ym2 ym3 ym4 ym5 (yu_s wu) (yu_s pu) ylg ycv ycm ycs ycx ycu ysq ysv ycw ycp ycn bf bi bo btm brv ba brs := by
    intro r ycm ycs ycx ycu hz e
    rw [e] at hr
    exact br_f hz (hr hz _ _ _ _)
  refine pk_le (d + 1) 16 (fun hd => ?_) (fun hd => ?_)
  · have T : tk_r d wu pu vu s b = if ¬ us_e wu s b = 0 then us_e wu s b else if ¬ us_e pu (sl_n wu s) (us_b wu b) = 0 then us_e pu (sl_n wu s) (us_b wu b) else us_e vu (sl_n pu (sl_n wu s)) (us_b pu (us_b wu b)) := by
      unfold tk_r
      rw [if_neg (by omega)]
    have st3 : us_e wu s b = 0 → us_e pu (sl_n wu s) (us_b wu b) = 0 → us_I (sl_n pu (sl_n wu s)) (us_b pu (us_b wu b)) → wY_compile_155 post J x2 x3 x4 (nI g) x6 0 yfl yil yol ytl ycap ymk yen yac yec ypos yco yde vu (yu_p wu) (yu_p pu) ywd ypr yit ym1 ym2 ym3 ym4 ym5 (yu_s wu) (yu_s pu) ylg ycv (us_m (sl_n pu (sl_n wu s)) (us_b pu (us_b wu b))) (nI (sl_n pu (sl_n wu s))) (nI (us_l (us_b pu (us_b wu b)))) (nI (us_b pu (us_b wu b))) ysq ysv ycw ycp ycn bf bi bo btm brv ba brs := by
      intro z1 z2 I2
      rw [if_neg (fun y => y z1), if_neg (fun y => y z2)] at T
      have hn := us_nn hv
      refine br_t rfl (ym_use hv I2 (fun a ycm ycs ycx ycu => ?_) (fun a => ?_))
      · obtain ⟨e1, e2⟩ := us_e0 hn a
        rw [e1] at T e2
        exact err _ _ _ _ _ e2 T
      · rw [us_e1 hn a] at T
        exact br_t rfl (nm_r (nI_1 g) (h T))
    have st2 : us_e wu s b = 0 → us_I (sl_n wu s) (us_b wu b) → wY_compile_133 post J x2 x3 x4 (nI g) x6 0 yfl yil yol ytl ycap ymk yen yac yec ypos yco yde vu (yu_p wu) (yu_p pu) ywd ypr yit ym1 ym2 ym3 ym4 ym5 (yu_s wu) (yu_s pu) ylg ycv (us_m (sl_n wu s) (us_b wu b)) (nI (sl_n wu s)) (nI (us_l (us_b wu b))) (nI (us_b wu b)) ysq ysv ycw ycp ycn bf bi bo btm brv ba brs := by
      intro z1 I1
      rw [if_neg (fun y => y z1)] at T
      rcases hp with hp | hp
      · subst hp
        exact br_t rfl (br_t rfl (st3 z1 rfl I1))
      · have hn := us_nn hp
        refine br_t rfl (br_f (by rw [yu_s2 hn]; decide) ?_)
        rw [yu_p2 hn]
        rw [yu_p2 hn] at st3 err
        refine ym_use hp I1 (fun a ycm ycs ycx ycu => ?_) (fun a => st3 z1 (us_e1 hn a) (us_rs hp I1 a).2)
        obtain ⟨e1, e2⟩ := us_e0 hn a
        rw [if_pos e2, e1] at T
        rw [e1] at e2
        exact br_f e2 (err _ _ _ _ _ e2 T)
    rcases hw with hw | hw
    · subst hw
      exact br_t rfl (br_t rfl (st2 rfl I))
    · have hn := us_nn hw
      refine br_t rfl (br_f (by rw [yu_s2 hn]; decide) ?_)
      rw [yu_p2 hn]
      rw [yu_p2 hn] at st2 err
      refine ym_use hw I (fun a ycm ycs ycx ycu => ?_) (fun a => st2 (us_e1 hn a) (us_rs hw I a).2)
      obtain ⟨e1, e2⟩ := us_e0 hn a
      rw [if_pos e2, e1] at T
      rw [e1] at e2
      exact br_f e2 (br_f e2 (err _ _ _ _ _ e2 T))
  · have T : tk_r d wu pu vu s b = -6 := by
      unfold tk_r
      rw [if_pos hd]
    have n6 : ¬ (-6 : Int32) = 0 := by decide
    exact br_f n6 (br_f n6 (br_f n6 (err _ _ _ _ _ n6 T)))
end
