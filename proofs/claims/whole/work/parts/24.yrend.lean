/-! the reference: emit, pad, texts of c and s -/
section
variable {yfl yil yol ytl ycap ymk yen yac yec ypos yco yde ydp ydw ydq ywd ypr yit ym1 ym2 ym3 ym4 ym5 yws yps ylg ycv ycm ycs ycx ycu ysq ysv ycw ycp ycn : Int32} {bf bi bo btm brv : Nat → Int32} {ba brs : Nat → Int64}
theorem ym_em {post : SY → Prop} {n : Nat} {c : Int32} (c' : Int32) (ec : c = c') (hn : n < 2 ^ 30) (hc : ar_ch c') (h : post (yfl, yil, yol, nI (n + 1), ycap, ymk, yen, yac, yec, ypos, yco, yde, ydp, ydw, ydq, ywd, ypr, yit, ym1, ym2, ym3, ym4, ym5, yws, yps, ylg, ycv, ycm, ycs, ycx, ycu, ysq, ysv, ycw, ycp, ycn, bf, bi, bo, ef_x 256 btm n c', brv, ba, brs)) : wpY_emit post (yfl, yil, yol, nI n, ycap, ymk, yen, yac, yec, ypos, yco, yde, ydp, ydw, ydq, ywd, ypr, yit, ym1, ym2, ym3, ym4, ym5, yws, yps, ylg, ycv, ycm, ycs, ycx, ycu, ysq, ysv, ycw, ycp, ycn, bf, bi, bo, btm, brv, ba, brs) c := by
  subst ec
  refine br_f (nI_pos (by omega)) (pk_le 256 n (fun a => nm_r (nI_1 n) ?_) (fun a => ⟨vp_in_nI a (by decide), nm_r (e' := upd btm n c) (by rw [nI_clamp (by omega), ar_nar hc]) (nm_r (nI_1 n) ?_)⟩))
  · rw [ef_xf (by omega)] at h; exact h
  · rw [ef_xt a] at h; exact h
theorem ym_pd {post : SY → Prop} {n k : Nat} {x c : Int32} (hn : n + k < 2 ^ 30) (hk : k ≤ 200) (hc : ar_ch c) (hx : x = nI k ∨ (x < 0 ∧ k = 0)) (h : post (yfl, yil, yol, nI (n + k), ycap, ymk, yen, yac, yec, ypos, yco, yde, ydp, ydw, ydq, ywd, ypr, yit, ym1, ym2, ym3, ym4, ym5, yws, yps, ylg, ycv, ycm, ycs, ycx, ycu, ysq, ysv, ycw, ycp, ycn, bf, bi, bo, ef_f 256 (fun _ => c) btm n k, brv, ba, brs)) : wpY_pad post (yfl, yil, yol, nI n, ycap, ymk, yen, yac, yec, ypos, yco, yde, ydp, ydw, ydq, ywd, ypr, yit, ym1, ym2, ym3, ym4, ym5, yws, yps, ylg, ycv, ycm, ycs, ycx, ycu, ysq, ysv, ycw, ycp, ycn, bf, bi, bo, btm, brv, ba, brs) x c := by
  rcases hx with rfl | ⟨hx, rfl⟩
  · have lo : ∀ r i, i + r = k → wY_pad_2 post (nI k) c (r + 1) (nI i) yfl yil yol (nI (n + i)) ycap ymk yen yac yec ypos yco yde ydp ydw ydq ywd ypr yit ym1 ym2 ym3 ym4 ym5 yws yps ylg ycv ycm ycs ycx ycu ysq ysv ycw ycp ycn bf bi bo (ef_f 256 (fun _ => c) btm n i) brv ba brs := by
      intro r
      induction r with
      | zero =>
        intro i hi
        have e : i = k := by omega
        subst e
        exact br_t (nI_le (by omega) (by omega)) h
      | succ r ih =>
        intro i hi
        exact br_f (nI_ge (by omega) (by omega)) (br_f (nI_ge (b := 200) (by omega) (by decide)) (ym_em c rfl (by omega) hc (nm_r (nI_1 i) (ih (i + 1) (by omega)))))
    exact ⟨k + 1, lo k 0 (by omega)⟩
  · exact ⟨1, br_t (Int32.le_of_lt hx) h⟩
theorem ym_y135 {post : SY → Prop} {n W tl : Nat} {lf : Bool} (hn : n < 2 ^ 20) (hW : W ≤ 99) (ht : tl ≤ 64) (hc : ∀ j, j < tl → ar_ch (brv j)) (h : post (yfl, yil, yol, nI (n + (W - tl) + tl), ycap, ymk, yen, yac, yec, ypos, yco, yde, ydp, ydw, ydq, ywd, ypr, yit, ym1, ym2, ym3, ym4, ym5, yws, yps, ylg, ycv, ycm, ycs, ycx, ycu, ysq, ysv, ycw, ycp, ycn, bf, bi, bo, em_o lf W tl brv btm n, brv, ba, brs)) : wY_renderDir_135 post (nI W) (yb_b lf) (nI tl) yfl yil yol (nI n) ycap ymk yen yac yec ypos yco yde ydp ydw ydq ywd ypr yit ym1 ym2 ym3 ym4 ym5 yws yps ylg ycv ycm ycs ycx ycu ysq ysv ycw ycp ycn bf bi bo btm brv ba brs := by
  have hk := sb_k (W := W) (t := tl) (by omega) (by omega)
  have c32 : ar_ch 32 := ⟨32, by decide, rfl⟩
  have lo : ∀ (btm : Nat → Int32) (n : Nat), n < 2 ^ 21 → post (yfl, yil, yol, (if lf = true then nI (n + tl + (W - tl)) else nI (n + tl)), ycap, ymk, yen, yac, yec, ypos, yco, yde, ydp, ydw, ydq, ywd, ypr, yit, ym1, ym2, ym3, ym4, ym5, yws, yps, ylg, ycv, ycm, ycs, ycx, ycu, ysq, ysv, ycw, ycp, ycn, bf, bi, bo, (if lf = true then ef_f 256 (fun _ => 32) (ef_f 256 brv btm n tl) (n + tl) (W - tl) else ef_f 256 brv btm n tl), brv, ba, brs) → ∀ r i, i + r = tl → wY_renderDir_154 post (nI W) (yb_b lf) (nI tl) (r + 1) (nI i) yfl yil yol (nI (n + i)) ycap ymk yen yac yec ypos yco yde ydp ydw ydq ywd ypr yit ym1 ym2 ym3 ym4 ym5 yws yps ylg ycv ycm ycs ycx ycu ysq ysv ycw ycp ycn bf bi bo (ef_f 256 brv btm n i) brv ba brs := by
    intro btm n hn h r
    induction r with
    | zero =>
      intro i hi
      have e : i = tl := by omega
      subst e
      refine br_t (nI_le (by omega) (by omega)) ?_
      cases lf with
      | false => exact br_t rfl h
      | true => exact br_f (by decide) (ym_pd (k := W - i) (by omega) (by omega) c32 hk h)
    | succ r ih =>
      intro i hi
      exact br_f (nI_ge (by omega) (by omega)) ⟨vp_in_nI (by omega) (by omega), ym_em (brv i) (by rw [nI_clamp (by omega)]) (by omega) (hc i (by omega)) (nm_r (nI_1 i) (ih (i + 1) (by omega)))⟩
  cases lf with
  | false => exact br_t rfl (ym_pd (k := W - tl) (by omega) (by omega) c32 hk ⟨tl + 1, lo _ (n + (W - tl)) (by omega) h tl 0 (by omega)⟩)
  | true =>
    rw [show n + (W - tl) + tl = n + tl + (W - tl) by omega] at h
    exact br_f (by decide) ⟨tl + 1, lo btm n (by omega) h tl 0 (by omega)⟩
theorem ym_63 {post : SY → Prop} {n W : Nat} {lf : Bool} {a : Int64} (hn : n < 2 ^ 20) (hW : W ≤ 99) (hP : pv_ok ycp) (h : ∀ brv, post (yfl, yil, yol, nI (n + (W - bs_n a (bs_M ycp) 0) + bs_n a (bs_M ycp) 0), ycap, ymk, yen, yac, yec, ypos, yco, yde, ydp, ydw, ydq, ywd, ypr, yit, ym1, ym2, ym3, ym4, ym5, yws, yps, ylg, ycv, ycm, ycs, ycx, ycu, ysq, ysv, ycw, ycp, ycn, bf, bi, bo, em_o lf W (bs_n a (bs_M ycp) 0) (bs_c a) btm n, brv, ba, brs)) : ∃ m, wY_renderDir_63 post a 115 (nI W) (yb_b lf) yfl yil yol (nI n) ycap ymk yen yac yec ypos yco yde ydp ydw ydq ywd ypr yit ym1 ym2 ym3 ym4 ym5 yws yps ylg ycv ycm ycs ycx ycu ysq ysv ycw ycp ycn m 0 0 bf bi bo btm brv ba brs := by
  have hM := bs_Mb hP
  have fin : ∀ S, S = bs_n a (bs_M ycp) 0 → S ≤ 8 → wY_renderDir_135 post (nI W) (yb_b lf) (nI S) yfl yil yol (nI n) ycap ymk yen yac yec ypos yco yde ydp ydw ydq ywd ypr yit ym1 ym2 ym3 ym4 ym5 yws yps ylg ycv ycm ycs ycx ycu ysq ysv ycw ycp ycn bf bi bo btm (ef_f 64 (bs_c a) brv 0 S) ba brs := by
    intro S eS hS
    have eT : ∀ j, j < S → ef_f 64 (bs_c a) brv 0 S j = bs_c a j := fun j hj => by
      have := ef_at 64 (bs_c a) brv 0 S (by omega) j hj
      rw [Nat.zero_add] at this
      exact this
    refine ym_y135 hn hW (by omega) (fun j hj => by rw [eT j hj]; exact ar_cast _) ?_
    rw [em_cg eT]
    have := h (ef_f 64 (bs_c a) brv 0 S)
    rw [← eS] at this
    exact this
  have lo : ∀ r k, k + r = bs_M ycp → bs_n a r k = bs_n a (bs_M ycp) 0 → wY_renderDir_63 post a 115 (nI W) (yb_b lf) yfl yil yol (nI n) ycap ymk yen yac yec ypos yco yde ydp ydw ydq ywd ypr yit ym1 ym2 ym3 ym4 ym5 yws yps ylg ycv ycm ycs ycx ycu ysq ysv ycw ycp ycn (r + 1) (nI k) (nI k) bf bi bo btm (ef_f 64 (bs_c a) brv 0 k) ba brs := by
    intro r
    induction r with
    | zero =>
      intro k hk e
      have f := fin k e (by omega)
      refine br_t rfl (pk_le 8 k (fun _ => f) (fun h8 => nm_r (e' := bs_b a (nI k)) rfl ⟨fun _ => f, fun _ => ?_⟩))
      unfold bs_M at hk
      rcases hP with z | ⟨q, hq, ep⟩
      · rw [if_pos z] at hk; omega
      · have z : ¬ ycp = -1 := by rw [ep]; exact us_n1 (by omega)
        rw [if_neg z] at hk
        by_cases z8 : ycp ≤ 8
        · rw [if_pos z8, ep, nI_clamp (by omega)] at hk
          subst ep
          exact br_f (nI_pos (by omega)) (br_f (nI_nlt (by omega) (by omega)) f)
        · rw [if_neg z8] at hk; omega
    | succ r ih =>
      intro k hk e
      refine br_t rfl (br_f (nI_ge (b := 8) (by omega) (by decide)) (nm_r (e' := bs_b a (nI k)) rfl ?_))
      have ek : bs_n a (r + 1) k = if bs_b a (nI k) = 0 then k else bs_n a r (k + 1) := rfl
      rw [ek] at e
      by_cases z : bs_b a (nI k) = 0
      · rw [if_pos z] at e
        exact br_t z (fin k e (by omega))
      · rw [if_neg z] at e
        refine br_f z ?_
        have next : wY_renderDir_115 post (wY_renderDir_63 post a 115 (nI W) (yb_b lf) yfl yil yol (nI n) ycap ymk yen yac yec ypos yco yde ydp ydw ydq ywd ypr yit ym1 ym2 ym3 ym4 ym5 yws yps ylg ycv ycm ycs ycx ycu ysq ysv ycw ycp ycn (r + 1)) a 115 (nI W) (yb_b lf) (nI k) (nI k) (bs_b a (nI k)) yfl yil yol (nI n) ycap ymk yen yac yec ypos yco yde ydp ydw ydq ywd ypr yit ym1 ym2 ym3 ym4 ym5 yws yps ylg ycv ycm ycs ycx ycu ysq ysv ycw ycp ycn bf bi bo btm (ef_f 64 (bs_c a) brv 0 k) ba brs := by
          refine ⟨vp_in_nI (by omega) (by omega), nm_r (e' := ef_f 64 (bs_c a) brv 0 (k + 1)) ?_ (nm_r (nI_1 k) (nm_r (nI_1 k) (ih (k + 1) (by omega) e)))⟩
          rw [nI_clamp (by omega), ar_nar (ar_cast _)]
          show _ = ef_x 64 (ef_f 64 (bs_c a) brv 0 k) (0 + k) (bs_c a k)
          rw [Nat.zero_add, ef_xt (by omega)]
          rfl
        rcases hP with y | ⟨q, hq, ep⟩
        · exact br_t (by rw [y]; decide) next
        · have hkq : k < q := by
            unfold bs_M at hk
            have y : ¬ ycp = -1 := by rw [ep]; exact us_n1 (by omega)
            rw [if_neg y] at hk
            by_cases z8 : ycp ≤ 8
            · rw [if_pos z8, ep, nI_clamp (by omega)] at hk; omega
            · rw [if_neg z8] at hk
              have : ¬ nI q ≤ nI 8 := by rw [← ep]; exact z8
              rw [nI_leI (by omega) (by decide)] at this
              omega
          subst ep
          exact br_f (nI_pos (by omega)) (br_t (nI_lt hkq (by omega)) next)
  exact ⟨bs_M ycp + 1, lo (bs_M ycp) 0 (by omega) rfl⟩
theorem ym_39 {post : SY → Prop} {n W : Nat} {lf : Bool} {a : Int64} {c : Int32} (hc : c = 99 ∨ c = 115) (hn : n < 2 ^ 20) (hW : W ≤ 99) (hP : pv_ok ycp) (g m C : Nat) (h : ∀ brv, post (yfl, yil, yol, nI (n + (W - tx_n c g m ycp lf W a C) + tx_n c g m ycp lf W a C), ycap, ymk, yen, yac, yec, ypos, yco, yde, ydp, ydw, ydq, ywd, ypr, yit, ym1, ym2, ym3, ym4, ym5, yws, yps, ylg, ycv, ycm, ycs, ycx, ycu, ysq, ysv, ycw, ycp, ycn, bf, bi, bo, em_o lf W (tx_n c g m ycp lf W a C) (tx_T c g m ycp lf W a C) btm n, brv, ba, brs)) : wY_renderDir_39 post a c (nI W) (yb_b lf) yfl yil yol (nI n) ycap ymk yen yac yec ypos yco yde ydp ydw ydq ywd ypr yit ym1 ym2 ym3 ym4 ym5 yws yps ylg ycv ycm ycs ycx ycu ysq ysv ycw ycp ycn bf bi bo btm brv ba brs := by
  rcases hc with rfl | rfl
  · have e1 : tx_n 99 g m ycp lf W a C = 1 := if_pos rfl
    have e2 : tx_T 99 g m ycp lf W a C = fun _ => (a.toInt32.toUInt32 % 65536).toInt32 := if_pos rfl
    rw [e1, e2] at h
    refine br_t rfl (nm_r (e' := upd brv 0 (a.toInt32.toUInt32 % 65536).toInt32) (by rw [ar_nar (ar_cast _)]) ⟨1, br_f (by decide) (ym_y135 (tl := 1) hn hW (by omega) (fun j hj => ?_) ?_)⟩)
    · rw [show j = 0 by omega, pk_us]; exact ar_cast _
    · rw [em_cg (T' := fun _ => (a.toInt32.toUInt32 % 65536).toInt32) (fun j hj => by rw [show j = 0 by omega, pk_us])]
      exact h _
  · have e1 : tx_n 115 g m ycp lf W a C = bs_n a (bs_M ycp) 0 := by unfold tx_n; rw [if_neg (by decide), if_pos rfl]
    have e2 : tx_T 115 g m ycp lf W a C = bs_c a := by unfold tx_T; rw [if_neg (by decide), if_pos rfl]
    rw [e1, e2] at h
    exact br_f (by decide) (ym_63 hn hW hP h)
end
