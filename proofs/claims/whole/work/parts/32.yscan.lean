/-! the reference: what scan calls -/
theorem sb_m2 (n : Nat) : nI (n + 2) + (-2) = nI n := by
  rw [← nI_add, Int32.add_assoc, show nI 2 + (-2) = 0 from by decide, Int32.add_zero]
theorem sb_p1 {n : Nat} (h : 1 ≤ n) : nI n + (-1) = nI (n - 1) := by
  obtain ⟨k, rfl⟩ : ∃ k, n = k + 1 := ⟨n - 1, by omega⟩
  exact pk_m1 k
theorem sb_p2 {n : Nat} (h : 2 ≤ n) : nI n + (-2) = nI (n - 2) := by
  obtain ⟨k, rfl⟩ : ∃ k, n = k + 2 := ⟨n - 2, by omega⟩
  exact sb_m2 k
section
variable {yfl yil yol ytl ycap ymk yen yac yec ypos yco yde ydp ydw ydq ywd ypr yit ym1 ym2 ym3 ym4 ym5 yws yps ylg ycv ycm ycs ycx ycu ysq ysv ycw ycp ycn : Int32} {bf bi bo btm brv : Nat → Int32} {ba brs : Nat → Int64}
theorem ym_ws {post : Int32 → Prop} {c : Int32} (c' : Int32) (e : c = c') (h1 : sk_w c' → post 1) (h0 : ¬ sk_w c' → post 0) : wpY_ws post c := by
  subst e
  by_cases a : c = 32
  · exact br_t a (h1 (Or.inl a))
  refine br_f a ?_
  by_cases b : c < 9
  · exact br_t b (h0 (fun z => z.elim a (fun y => absurd y.1 (Int32.not_le.mpr b))))
  refine br_f b ?_
  by_cases d : 13 < c
  · exact br_t d (h0 (fun z => z.elim a (fun y => absurd y.2 (Int32.not_le.mpr d))))
  · exact br_f d (h1 (Or.inr ⟨Int32.not_lt.mp b, Int32.not_lt.mp d⟩))
theorem ym_sw {post : SY → Prop} {N p : Nat} (hN : N ≤ 256) (hp : p ≤ N) (h : post (yfl, nI N, yol, ytl, ycap, ymk, yen, yac, yec, nI (sc_1 bi N p), yco, yde, ydp, ydw, ydq, ywd, ypr, yit, ym1, ym2, ym3, ym4, ym5, yws, yps, ylg, ycv, ycm, ycs, ycx, ycu, ysq, ysv, ycw, ycp, ycn, bf, bi, bo, btm, brv, ba, brs)) : wpY_skipWs post (yfl, nI N, yol, ytl, ycap, ymk, yen, yac, yec, nI p, yco, yde, ydp, ydw, ydq, ywd, ypr, yit, ym1, ym2, ym3, ym4, ym5, yws, yps, ylg, ycv, ycm, ycs, ycx, ycu, ysq, ysv, ycw, ycp, ycn, bf, bi, bo, btm, brv, ba, brs) := by
  have lo : ∀ n j k, k ≤ j → j ≤ N → N - j < n → post (yfl, nI N, yol, ytl, ycap, ymk, yen, yac, yec, nI (sk_E bi (N - j) j), yco, yde, ydp, ydw, ydq, ywd, ypr, yit, ym1, ym2, ym3, ym4, ym5, yws, yps, ylg, ycv, ycm, ycs, ycx, ycu, ysq, ysv, ycw, ycp, ycn, bf, bi, bo, btm, brv, ba, brs) → wY_skipWs_2 post yfl (nI N) yol ytl ycap ymk yen yac yec yco yde ydp ydw ydq ywd ypr yit ym1 ym2 ym3 ym4 ym5 yws yps ylg ycv ycm ycs ycx ycu ysq ysv ycw ycp ycn bf bi bo btm brv ba brs n (nI k) (nI j) := by
    intro n
    induction n with
    | zero => intro j k hk hj hn; omega
    | succ n ih =>
      intro j k hk hj hn h
      have h0 : N ≤ j → post (yfl, nI N, yol, ytl, ycap, ymk, yen, yac, yec, nI j, yco, yde, ydp, ydw, ydq, ywd, ypr, yit, ym1, ym2, ym3, ym4, ym5, yws, yps, ylg, ycv, ycm, ycs, ycx, ycu, ysq, ysv, ycw, ycp, ycn, bf, bi, bo, btm, brv, ba, brs) := fun a => by
        rw [show N - j = 0 by omega] at h
        exact h
      refine pk_le 256 k (fun a => h0 (by omega)) (fun a => pk_le N j h0 (fun b => ⟨vp_in_nI (by omega) (by omega), ym_ws (bi j) (by rw [nI_clamp (by omega)]) (fun w => ?_) (fun w => ?_)⟩))
      · obtain ⟨m, hm⟩ : ∃ m, N - j = m + 1 := ⟨N - j - 1, by omega⟩
        rw [hm, sk_Es bi w, show m = N - (j + 1) by omega] at h
        exact br_f (by decide) (nm_r (nI_1 j) (nm_r (nI_1 k) (ih (j + 1) (k + 1) (by omega) (by omega) (by omega) h)))
      · rw [sk_E0 bi w] at h
        exact br_t rfl h
  exact ⟨N - p + 1, lo (N - p + 1) p 0 (by omega) hp (by omega) h⟩
theorem ym_dv {post : Int32 → Prop} {c : Int32} {base : Nat} (c' : Int32) (e : c = c') (hb : base ≤ 16) (h1 : dv_v c' < base → post (nI (dv_v c'))) (h0 : ¬ dv_v c' < base → post (-1)) : wpY_digitVal post c (nI base) := by
  subst e
  have k65 : ∀ d : Nat, dv_v c = d → d ≤ 15 → wY_digitVal_65 post (nI base) (nI d) := by
    intro d ed hd
    rw [ed] at h1 h0
    exact pk_le base d (fun a => h0 (by omega)) (fun a => h1 a)
  unfold dv_v at k65 h0
  have k45 : ¬ (48 ≤ c ∧ c ≤ 57) → ¬ (97 ≤ c ∧ c ≤ 102) → wY_digitVal_45 post c (nI base) (-1) := by
    intro a b
    rw [if_neg a, if_neg b] at k65 h0
    have no : ¬ (65 ≤ c ∧ c ≤ 70) → wY_digitVal_65 post (nI base) (-1) := by
      intro z
      rw [if_neg z] at h0
      refine br_f (fun y => ?_) (h0 (by omega))
      exact absurd (Int32.le_trans (nI_pos' (n := base) (by omega)) y) (by decide)
    by_cases d : c < 65
    · exact br_t d (no (fun z => absurd z.1 (Int32.not_le.mpr d)))
    refine br_f d ?_
    by_cases f : 70 < c
    · exact br_t f (no (fun z => absurd z.2 (Int32.not_le.mpr f)))
    · have y : 65 ≤ c ∧ c ≤ 70 := ⟨Int32.not_lt.mp d, Int32.not_lt.mp f⟩
      rw [if_pos y] at k65
      obtain ⟨j, h1, h2, ej⟩ := dv_rng (a := 65) (b := 70) (by decide) (by decide) y
      have e1 : nI j - 65 = nI (j - 65) := pk_sub (b := 65) h1
      have e2 : nI (j - 65) + 10 = nI (j - 65 + 10) := nI_add (j - 65) 10
      refine br_f f (nm_r (e' := nI (j - 55)) (by rw [ej, e1, e2, show j - 65 + 10 = j - 55 by omega]) (k65 (j - 55) (by rw [ej, nI_clamp (by omega)]) (by omega)))
  have k22 : ¬ (48 ≤ c ∧ c ≤ 57) → wY_digitVal_22 post c (nI base) (-1) := by
    intro a
    by_cases d : c < 97
    · exact br_t d (k45 a (fun z => absurd z.1 (Int32.not_le.mpr d)))
    refine br_f d ?_
    by_cases f : 102 < c
    · exact br_t f (k45 a (fun z => absurd z.2 (Int32.not_le.mpr f)))
    · have y : 97 ≤ c ∧ c ≤ 102 := ⟨Int32.not_lt.mp d, Int32.not_lt.mp f⟩
      rw [if_neg a, if_pos y] at k65
      obtain ⟨j, h1, h2, ej⟩ := dv_rng (a := 97) (b := 102) (by decide) (by decide) y
      have e1 : nI j - 97 = nI (j - 97) := pk_sub (b := 97) h1
      have e2 : nI (j - 97) + 10 = nI (j - 97 + 10) := nI_add (j - 97) 10
      refine br_f f (nm_r (e' := nI (j - 87)) (by rw [ej, e1, e2, show j - 97 + 10 = j - 87 by omega]) (k65 (j - 87) (by rw [ej, nI_clamp (by omega)]) (by omega)))
  by_cases d : c < 48
  · exact br_t d (k22 (fun z => absurd z.1 (Int32.not_le.mpr d)))
  refine br_f d ?_
  by_cases f : 57 < c
  · exact br_t f (k22 (fun z => absurd z.2 (Int32.not_le.mpr f)))
  · have y : 48 ≤ c ∧ c ≤ 57 := ⟨Int32.not_lt.mp d, Int32.not_lt.mp f⟩
    rw [if_pos y] at k65
    obtain ⟨j, h1, h2, ej⟩ := dv_rng (a := 48) (b := 57) (by decide) (by decide) y
    have e1 : nI j - 48 = nI (j - 48) := pk_sub (b := 48) h1
    exact br_f f (nm_r (e' := nI (j - 48)) (by rw [ej, e1]) (k65 (j - 48) (by rw [ej, nI_clamp (by omega)]) (by omega)))
theorem ym_593 {post : Int32 → SY → Prop} {j : Nat} {x : Int64} (hj : j < 8) (h : post 1 (yfl, yil, yol, ytl, ycap, ymk ||| ((1 : Int32) <<< (nI j &&& 31)), yen, yac, yec, ypos, yco, yde, ydp, ydw, ydq, ywd, ypr, yit, ym1, ym2, ym3, ym4, ym5, yws, yps, ylg, ycv, ycm, ycs, ycx, ycu, ysq, nI j, ycw, ycp, ycn, bf, bi, bo, btm, brv, ba, vp_updL brs j x)) : wY_scanDir_593 post x yfl yil yol ytl ycap ymk yen yac yec ypos yco yde ydp ydw ydq ywd ypr yit ym1 ym2 ym3 ym4 ym5 yws yps ylg ycv ycm ycs ycx ycu ysq (nI j) ycw ycp ycn bf bi bo btm brv ba brs :=
  ⟨vp_in_nI hj (by decide), nm_r (e' := vp_updL brs j x) (by rw [nI_clamp (by omega)]) (nm_e h)⟩
theorem ym_s96 {post : Int32 → SY → Prop} {N M : Nat} {x1 : Int32} (hN : N ≤ 256) (hM : M ≤ 8) : ∀ f k j v, j ≤ N → k ≤ M → N - j < f →
    wY_scanDir_186 post x1 (st_V bi (N - j) (M - k) k j v) (nI (k + (st_E bi (N - j) (M - k) j - j))) yfl (nI N) yol ytl ycap ymk yen yac yec (nI (st_E bi (N - j) (M - k) j)) yco yde ydp ydw ydq ywd ypr yit ym1 ym2 ym3 ym4 ym5 yws yps ylg ycv ycm ycs ycx ycu ysq ysv ycw ycp ycn bf bi bo btm brv ba brs →
    wY_scanDir_96 post x1 yfl (nI N) yol ytl ycap ymk yen yac yec yco yde ydp ydw ydq ywd ypr yit ym1 ym2 ym3 ym4 ym5 yws yps ylg ycv ycm ycs ycx ycu ysq ysv ycw ycp ycn bf bi bo btm brv ba brs f v (nI (M - k)) (nI k) (nI j) := by
  intro f
  induction f with
  | zero => intro k j v hj hk hf; omega
  | succ f ih =>
    intro k j v hj hk hf h
    have stop : (N - j = 0 ∨ M - k = 0 ∨ ¬ st_g (bi j)) → wY_scanDir_186 post x1 v (nI k) yfl (nI N) yol ytl ycap ymk yen yac yec (nI j) yco yde ydp ydw ydq ywd ypr yit ym1 ym2 ym3 ym4 ym5 yws yps ylg ycv ycm ycs ycx ycu ysq ysv ycw ycp ycn bf bi bo btm brv ba brs := by
      intro z
      rw [st_E0 z, st_V0 z, Nat.sub_self, Nat.add_zero] at h
      exact h
    refine pk_le 8 k (fun a => stop (Or.inr (Or.inl (by omega)))) (fun a => pk_le (M - k) 0 (fun a => stop (Or.inr (Or.inl (by omega)))) (fun a => pk_le N j (fun b => stop (Or.inl (by omega))) (fun b => ⟨vp_in_nI (by omega) (by omega), nm_r (e' := bi j) (by rw [nI_clamp (by omega)]) (ym_ws (bi j) rfl (fun w => br_f (by decide) (stop (Or.inr (Or.inr (fun z => z.2.2 w))))) (fun w => br_t rfl ?_))⟩)))
    by_cases c1 : bi j < 1
    · exact br_t c1 (stop (Or.inr (Or.inr (fun z => z.1 c1))))
    refine br_f c1 ?_
    by_cases c2 : bi j ≤ 255
    · refine br_t c2 (nm_e (nm_r (nI_1 j) (nm_r (e' := nI (M - (k + 1))) (by rw [sb_p1 (by omega), show M - k - 1 = M - (k + 1) by omega]) (nm_r (nI_1 k) ?_))))
      have g : st_g (bi j) := ⟨c1, c2, w⟩
      obtain ⟨n', hn⟩ : ∃ m, N - j = m + 1 := ⟨N - j - 1, by omega⟩
      obtain ⟨b', hb⟩ : ∃ m, M - k = m + 1 := ⟨M - k - 1, by omega⟩
      rw [hn, hb, st_E1 g, st_V1 g, show n' = N - (j + 1) by omega, show b' = M - (k + 1) by omega] at h
      have hE := st_Eb bi (N - (j + 1)) (M - (k + 1)) (j + 1)
      rw [show k + (st_E bi (N - (j + 1)) (M - (k + 1)) (j + 1) - j) = k + 1 + (st_E bi (N - (j + 1)) (M - (k + 1)) (j + 1) - (j + 1)) by omega] at h
      exact ih (k + 1) (j + 1) _ (by omega) (by omega) (by omega) h
    · exact br_f c2 (stop (Or.inr (Or.inr (fun z => c2 z.2.1))))
theorem ym_457 {post : Int32 → SY → Prop} {N base : Nat} {x1 x2 x7 : Int32} (hN : N ≤ 256) (hb : base ≤ 16) : ∀ f j B v t, t ≤ j → j ≤ N → B ≤ 1000 → N - j < f →
    wY_scanDir_539 post x1 x2 x7 (dg_V bi base (N - j) B j v) (nI (t + (dg_E bi base (N - j) B j - j))) yfl (nI N) yol ytl ycap ymk yen yac yec (nI (dg_E bi base (N - j) B j)) yco yde ydp ydw ydq ywd ypr yit ym1 ym2 ym3 ym4 ym5 yws yps ylg ycv ycm ycs ycx ycu ysq ysv ycw ycp ycn bf bi bo btm brv ba brs →
    wY_scanDir_457 post x1 x2 (nI base) x7 yfl (nI N) yol ytl ycap ymk yen yac yec yco yde ydp ydw ydq ywd ypr yit ym1 ym2 ym3 ym4 ym5 yws yps ylg ycv ycm ycs ycx ycu ysq ysv ycw ycp ycn bf bi bo btm brv ba brs f (nI B) v (nI t) (nI t) (nI j) := by
  intro f
  induction f with
  | zero => intro j B v t ht hj hB hf; omega
  | succ f ih =>
    intro j B v t ht hj hB hf h
    have stop : (N - j = 0 ∨ B = 0 ∨ ¬ dv_v (bi j) < base) → wY_scanDir_539 post x1 x2 x7 v (nI t) yfl (nI N) yol ytl ycap ymk yen yac yec (nI j) yco yde ydp ydw ydq ywd ypr yit ym1 ym2 ym3 ym4 ym5 yws yps ylg ycv ycm ycs ycx ycu ysq ysv ycw ycp ycn bf bi bo btm brv ba brs := by
      intro z
      rw [dg_E0 z, dg_V0 z, Nat.sub_self, Nat.add_zero] at h
      exact h
    have hd := dv_b (bi j)
    refine pk_le 256 t (fun a => stop (Or.inl (by omega))) (fun a => pk_le B 0 (fun b => stop (Or.inr (Or.inl (by omega)))) (fun b => pk_le N j (fun c => stop (Or.inl (by omega))) (fun c => ⟨vp_in_nI (by omega) (by omega), ym_dv (bi j) (by rw [nI_clamp (by omega)]) hb (fun d => ?_) (fun d => ?_)⟩)))
    · refine br_t (nI_pos' (by omega)) (nm_e (nm_r (nI_1 j) (nm_r (e' := nI (B - 1)) (sb_p1 b) (nm_r (nI_1 t) (nm_r (nI_1 t) (ih (j + 1) (B - 1) _ (t + 1) (by omega) (by omega) (by omega) (by omega) ?_))))))
      obtain ⟨n', hn⟩ : ∃ m, N - j = m + 1 := ⟨N - j - 1, by omega⟩
      obtain ⟨b', hb'⟩ : ∃ m, B = m + 1 := ⟨B - 1, by omega⟩
      rw [hn, hb', dg_E1 d, dg_V1 d, show n' = N - (j + 1) by omega] at h
      rw [show B - 1 = b' by omega]
      have hE := dg_Eb bi base (N - (j + 1)) b' (j + 1)
      rw [show t + (dg_E bi base (N - (j + 1)) b' (j + 1) - j) = t + 1 + (dg_E bi base (N - (j + 1)) b' (j + 1) - (j + 1)) by omega] at h
      exact h
    · exact br_f (by decide) (stop (Or.inr (Or.inr d)))
end
