/-! the class: what scan calls -/
theorem st_E0 {f : Nat → Int32} {n b j : Nat} (h : n = 0 ∨ b = 0 ∨ ¬ st_g (f j)) : st_E f n b j = j := by
  cases n with
  | zero => rfl
  | succ n =>
    cases b with
    | zero => rfl
    | succ b =>
      unfold st_E
      rcases h with h | h | h
      · omega
      · omega
      · rw [if_neg h]
theorem st_V0 {f : Nat → Int32} {n b k j : Nat} {v : Int64} (h : n = 0 ∨ b = 0 ∨ ¬ st_g (f j)) : st_V f n b k j v = v := by
  cases n with
  | zero => rfl
  | succ n =>
    cases b with
    | zero => rfl
    | succ b =>
      unfold st_V
      rcases h with h | h | h
      · omega
      · omega
      · rw [if_neg h]
theorem st_E1 {f : Nat → Int32} {n b j : Nat} (h : st_g (f j)) : st_E f (n + 1) (b + 1) j = st_E f n b (j + 1) := by rw [st_E, if_pos h]
theorem st_V1 {f : Nat → Int32} {n b k j : Nat} {v : Int64} (h : st_g (f j)) : st_V f (n + 1) (b + 1) k j v = st_V f n b (k + 1) (j + 1) (v + ((f j).toInt64 <<< ((8 * nI k).toInt64 &&& 63))) := by rw [st_V, if_pos h]
theorem dg_E0 {f : Nat → Int32} {base n b j : Nat} (h : n = 0 ∨ b = 0 ∨ ¬ dv_v (f j) < base) : dg_E f base n b j = j := by
  cases n with
  | zero => rfl
  | succ n =>
    cases b with
    | zero => rfl
    | succ b =>
      unfold dg_E
      rcases h with h | h | h
      · omega
      · omega
      · rw [if_neg h]
theorem dg_V0 {f : Nat → Int32} {base n b j : Nat} {v : Int64} (h : n = 0 ∨ b = 0 ∨ ¬ dv_v (f j) < base) : dg_V f base n b j v = v := by
  cases n with
  | zero => rfl
  | succ n =>
    cases b with
    | zero => rfl
    | succ b =>
      unfold dg_V
      rcases h with h | h | h
      · omega
      · omega
      · rw [if_neg h]
theorem dg_E1 {f : Nat → Int32} {base n b j : Nat} (h : dv_v (f j) < base) : dg_E f base (n + 1) (b + 1) j = dg_E f base n b (j + 1) := by rw [dg_E, if_pos h]
theorem dg_V1 {f : Nat → Int32} {base n b j : Nat} {v : Int64} (h : dv_v (f j) < base) : dg_V f base (n + 1) (b + 1) j v = dg_V f base n b (j + 1) (v * (nI base).toInt64 + (nI (dv_v (f j))).toInt64) := by rw [dg_V, if_pos h]
def cl_f (a : Nat → Int64) : Nat → (Nat → Int64)
  | 0 => a
  | i + 1 => vp_updL (cl_f a i) i 0
section
variable {cap xfl xol xil xrm xsp xco xec xat xlt xcu xwu xpu xvu xdc xsu xpo xdl xtl xbu : Int32} {xsv : Int64} {af ao ai ak als ale afl awd apr aws aps avs ali adr atx adg : Nat → Int32} {aa ar : Nat → Int64}
theorem xm_cr {post : SX → Prop} (h : post (cap, xfl, xol, xil, 0, 0, xco, xec, xat, xlt, xcu, xwu, xpu, xvu, xdc, xsu, xpo, xdl, xtl, xbu, xsv, af, aa, ao, ai, cl_f ar 8, ak, als, ale, afl, awd, apr, aws, aps, avs, ali, adr, atx, adg)) : wpX_clearResults post (cap, xfl, xol, xil, xrm, xsp, xco, xec, xat, xlt, xcu, xwu, xpu, xvu, xdc, xsu, xpo, xdl, xtl, xbu, xsv, af, aa, ao, ai, ar, ak, als, ale, afl, awd, apr, aws, aps, avs, ali, adr, atx, adg) := by
  have lo : ∀ r i, i + r = 8 → wX_clearResults_2 post cap xfl xol xil xrm xsp xco xec xat xlt xcu xwu xpu xvu xdc xsu xpo xdl xtl xbu xsv (r + 1) (nI i) af aa ao ai (cl_f ar i) ak als ale afl awd apr aws aps avs ali adr atx adg := by
    intro r
    induction r with
    | zero =>
      intro i hi
      have e : i = 8 := by omega
      subst e
      exact br_t (by decide) h
    | succ r ih =>
      intro i hi
      exact br_f (nI_ge (b := 8) (by omega) (by decide)) ⟨vp_in_nI (by omega) (by decide), nm_r (e' := cl_f ar (i + 1)) (by rw [nI_clamp (by omega)]; rfl) (nm_r (nI_1 i) (ih (i + 1) (by omega)))⟩
  exact ⟨9, lo 8 0 rfl⟩
theorem xm_ws {post : Int32 → Prop} {c : Int32} (c' : Int32) (e : c = c') (h1 : sk_w c' → post 1) (h0 : ¬ sk_w c' → post 0) : wpX_isWhitespace post (cap, xfl, xol, xil, xrm, xsp, xco, xec, xat, xlt, xcu, xwu, xpu, xvu, xdc, xsu, xpo, xdl, xtl, xbu, xsv, af, aa, ao, ai, ar, ak, als, ale, afl, awd, apr, aws, aps, avs, ali, adr, atx, adg) c := by
  subst e
  by_cases a : c = 32
  · exact br_t a (h1 (Or.inl a))
  refine br_f a ?_
  by_cases b : c < 9
  · exact br_t b (h0 (fun z => z.elim a (fun y => absurd y.1 (Int32.not_le.mpr b))))
  refine br_f b ?_
  by_cases d : 13 < c
  · exact br_t d (h0 (fun z => z.elim a (fun y => absurd y.2 (Int32.not_le.mpr d))))
  · exact br_f d (h1 (Or.inr ⟨Int32.not_lt.mp b, Int32.not_lt.mp d⟩))
theorem xm_sw {post : SX → Prop} {N p : Nat} (hN : N ≤ 256) (hp : p ≤ N) (h : post (cap, xfl, xol, nI N, xrm, nI (sc_1 ai N p), xco, xec, xat, xlt, xcu, xwu, xpu, xvu, xdc, xsu, xpo, xdl, xtl, xbu, xsv, af, aa, ao, ai, ar, ak, als, ale, afl, awd, apr, aws, aps, avs, ali, adr, atx, adg)) : wpX_skipWhitespace post (cap, xfl, xol, nI N, xrm, nI p, xco, xec, xat, xlt, xcu, xwu, xpu, xvu, xdc, xsu, xpo, xdl, xtl, xbu, xsv, af, aa, ao, ai, ar, ak, als, ale, afl, awd, apr, aws, aps, avs, ali, adr, atx, adg) := by
  have lo : ∀ n j, j ≤ N → N - j < n → post (cap, xfl, xol, nI N, xrm, nI (sk_E ai (N - j) j), xco, xec, xat, xlt, xcu, xwu, xpu, xvu, xdc, xsu, xpo, xdl, xtl, xbu, xsv, af, aa, ao, ai, ar, ak, als, ale, afl, awd, apr, aws, aps, avs, ali, adr, atx, adg) → wX_skipWhitespace_0 post cap xfl xol (nI N) xrm xco xec xat xlt xcu xwu xpu xvu xdc xsu xpo xdl xtl xbu xsv af aa ao ai ar ak als ale afl awd apr aws aps avs ali adr atx adg n (nI j) := by
    intro n
    induction n with
    | zero => intro j hj hn; omega
    | succ n ih =>
      intro j hj hn h
      refine pk_le N j (fun a => ?_) (fun a => ⟨vp_in_nI (by omega) (by omega), xm_ws (ai j) (by rw [nI_clamp (by omega)]) (fun w => ?_) (fun w => ?_)⟩)
      · rw [show N - j = 0 by omega] at h
        exact h
      · obtain ⟨m, hm⟩ : ∃ m, N - j = m + 1 := ⟨N - j - 1, by omega⟩
        rw [hm, sk_Es ai w, show m = N - (j + 1) by omega] at h
        exact br_f (by decide) (nm_r (nI_1 j) (ih (j + 1) (by omega) (by omega) h))
      · rw [sk_E0 ai w] at h
        exact br_t rfl h
  exact ⟨N - p + 1, lo (N - p + 1) p hp (by omega) h⟩
theorem xm_dv {post : Int32 → Prop} {c : Int32} (c' : Int32) (e : c = c') (h : post (nI (dv_v c'))) : wpX_digitValue post (cap, xfl, xol, xil, xrm, xsp, xco, xec, xat, xlt, xcu, xwu, xpu, xvu, xdc, xsu, xpo, xdl, xtl, xbu, xsv, af, aa, ao, ai, ar, ak, als, ale, afl, awd, apr, aws, aps, avs, ali, adr, atx, adg) c := by
  subst e
  unfold dv_v at h
  have k37 : ¬ (48 ≤ c ∧ c ≤ 57) → ¬ (97 ≤ c ∧ c ≤ 102) → wX_digitValue_37 post c cap xfl xol xil xrm xsp xco xec xat xlt xcu xwu xpu xvu xdc xsu xpo xdl xtl xbu xsv af aa ao ai ar ak als ale afl awd apr aws aps avs ali adr atx adg := by
    intro a b
    rw [if_neg a, if_neg b] at h
    by_cases d : c < 65
    · rw [if_neg (fun z => absurd z.1 (Int32.not_le.mpr d))] at h
      exact br_t d h
    refine br_f d ?_
    by_cases f : 70 < c
    · rw [if_neg (fun z => absurd z.2 (Int32.not_le.mpr f))] at h
      exact br_t f h
    · have y : 65 ≤ c ∧ c ≤ 70 := ⟨Int32.not_lt.mp d, Int32.not_lt.mp f⟩
      rw [if_pos y] at h
      refine br_f f ?_
      obtain ⟨j, h1, h2, rfl⟩ := dv_rng (a := 65) (b := 70) (by decide) (by decide) y
      rw [nI_clamp (by omega)] at h
      have e1 : nI j - 65 = nI (j - 65) := pk_sub (b := 65) h1
      have e2 : nI (j - 65) + 10 = nI (j - 65 + 10) := nI_add (j - 65) 10
      rw [e1, e2, show j - 65 + 10 = j - 55 by omega]
      exact h
  have k17 : ¬ (48 ≤ c ∧ c ≤ 57) → wX_digitValue_17 post c cap xfl xol xil xrm xsp xco xec xat xlt xcu xwu xpu xvu xdc xsu xpo xdl xtl xbu xsv af aa ao ai ar ak als ale afl awd apr aws aps avs ali adr atx adg := by
    intro a
    by_cases d : c < 97
    · exact br_t d (k37 a (fun z => absurd z.1 (Int32.not_le.mpr d)))
    refine br_f d ?_
    by_cases f : 102 < c
    · exact br_t f (k37 a (fun z => absurd z.2 (Int32.not_le.mpr f)))
    · have y : 97 ≤ c ∧ c ≤ 102 := ⟨Int32.not_lt.mp d, Int32.not_lt.mp f⟩
      rw [if_neg a, if_pos y] at h
      refine br_f f ?_
      obtain ⟨j, h1, h2, rfl⟩ := dv_rng (a := 97) (b := 102) (by decide) (by decide) y
      rw [nI_clamp (by omega)] at h
      have e1 : nI j - 97 = nI (j - 97) := pk_sub (b := 97) h1
      have e2 : nI (j - 97) + 10 = nI (j - 97 + 10) := nI_add (j - 97) 10
      rw [e1, e2, show j - 97 + 10 = j - 87 by omega]
      exact h
  by_cases d : c < 48
  · exact br_t d (k17 (fun z => absurd z.1 (Int32.not_le.mpr d)))
  refine br_f d ?_
  by_cases f : 57 < c
  · exact br_t f (k17 (fun z => absurd z.2 (Int32.not_le.mpr f)))
  · have y : 48 ≤ c ∧ c ≤ 57 := ⟨Int32.not_lt.mp d, Int32.not_lt.mp f⟩
    rw [if_pos y] at h
    refine br_f f ?_
    obtain ⟨j, h1, h2, rfl⟩ := dv_rng (a := 48) (b := 57) (by decide) (by decide) y
    rw [nI_clamp (by omega)] at h
    have e1 : nI j - 48 = nI (j - 48) := pk_sub (b := 48) h1
    rw [e1]
    exact h
theorem xm_s36 {post : Int32 → SX → Prop} {N M : Nat} (hN : N ≤ 256) (hM : M ≤ 8) : ∀ f k j v, j ≤ N → k ≤ M → N - j < f →
    wX_scanPackedText_124 post (nI (k + (st_E ai (N - j) (M - k) j - j))) cap xfl xol (nI N) xrm (nI (st_E ai (N - j) (M - k) j)) xco xec xat xlt xcu xwu xpu xvu xdc xsu xpo xdl xtl xbu (st_V ai (N - j) (M - k) k j v) af aa ao ai ar ak als ale afl awd apr aws aps avs ali adr atx adg →
    wX_scanPackedText_36 post (nI M) cap xfl xol (nI N) xrm xco xec xat xlt xcu xwu xpu xvu xdc xsu xpo xdl xtl xbu af aa ao ai ar ak als ale afl awd apr aws aps avs ali adr atx adg f (nI k) (nI j) v := by
  intro f
  induction f with
  | zero => intro k j v hj hk hf; omega
  | succ f ih =>
    intro k j v hj hk hf h
    have stop : (N - j = 0 ∨ M - k = 0 ∨ ¬ st_g (ai j)) → wX_scanPackedText_124 post (nI k) cap xfl xol (nI N) xrm (nI j) xco xec xat xlt xcu xwu xpu xvu xdc xsu xpo xdl xtl xbu v af aa ao ai ar ak als ale afl awd apr aws aps avs ali adr atx adg := by
      intro z
      rw [st_E0 z, st_V0 z, Nat.sub_self, Nat.add_zero] at h
      exact h
    refine pk_le M k (fun a => stop (Or.inr (Or.inl (by omega)))) (fun a => pk_le N j (fun b => stop (Or.inl (by omega))) (fun b => ⟨vp_in_nI (by omega) (by omega), nm_r (e' := ai j) (by rw [nI_clamp (by omega)]) ?_⟩))
    by_cases c1 : ai j < 1
    · exact br_t c1 (stop (Or.inr (Or.inr (fun z => z.1 c1))))
    refine br_f c1 ?_
    by_cases c2 : 255 < ai j
    · exact br_t c2 (stop (Or.inr (Or.inr (fun z => absurd z.2.1 (Int32.not_le.mpr c2)))))
    refine br_f c2 (xm_ws (ai j) rfl (fun w => br_f (by decide) (stop (Or.inr (Or.inr (fun z => z.2.2 w))))) (fun w => br_t rfl (nm_e (nm_r (nI_1 k) (nm_r (nI_1 j) ?_)))))
    have g : st_g (ai j) := ⟨c1, Int32.not_lt.mp c2, w⟩
    obtain ⟨n', hn⟩ : ∃ m, N - j = m + 1 := ⟨N - j - 1, by omega⟩
    obtain ⟨b', hb⟩ : ∃ m, M - k = m + 1 := ⟨M - k - 1, by omega⟩
    rw [hn, hb, st_E1 g, st_V1 g, show n' = N - (j + 1) by omega, show b' = M - (k + 1) by omega] at h
    have hE := st_Eb ai (N - (j + 1)) (M - (k + 1)) (j + 1)
    rw [show k + (st_E ai (N - (j + 1)) (M - (k + 1)) (j + 1) - j) = k + 1 + (st_E ai (N - (j + 1)) (M - (k + 1)) (j + 1) - (j + 1)) by omega] at h
    exact ih (k + 1) (j + 1) _ (by omega) (by omega) (by omega) h
theorem xm_td {post : Int32 → SX → Prop} {N base p B : Nat} (hN : N ≤ 256) (hp : p ≤ N) (hB : B ≤ 1000) (hb : base ≤ 16)
    (h1 : p < dg_E ai base (N - p) B p → ∀ xbu, post 1 (cap, xfl, xol, nI N, xrm, nI (dg_E ai base (N - p) B p), xco, xec, xat, xlt, xcu, xwu, xpu, xvu, xdc, xsu, xpo, xdl, xtl, xbu, dg_V ai base (N - p) B p 0, af, aa, ao, ai, ar, ak, als, ale, afl, awd, apr, aws, aps, avs, ali, adr, atx, adg)) (h0 : ¬ p < dg_E ai base (N - p) B p → ∀ (xsp xbu : Int32) (xsv : Int64), post 0 (cap, xfl, xol, nI N, xrm, xsp, xco, xec, xat, xlt, xcu, xwu, xpu, xvu, xdc, xsu, xpo, xdl, xtl, xbu, xsv, af, aa, ao, ai, ar, ak, als, ale, afl, awd, apr, aws, aps, avs, ali, adr, atx, adg)) : wpX_takeDigits post (cap, xfl, xol, nI N, xrm, nI p, xco, xec, xat, xlt, xcu, xwu, xpu, xvu, xdc, xsu, xpo, xdl, xtl, nI B, xsv, af, aa, ao, ai, ar, ak, als, ale, afl, awd, apr, aws, aps, avs, ali, adr, atx, adg) (nI base) := by
  have lo : ∀ f j B' v, p ≤ j → j ≤ N → B' ≤ 1000 → N - j < f → dg_E ai base (N - j) B' j = dg_E ai base (N - p) B p ∧ dg_V ai base (N - j) B' j v = dg_V ai base (N - p) B p 0 → wX_takeDigits_10 post (nI base) (nI p) cap xfl xol (nI N) xrm xco xec xat xlt xcu xwu xpu xvu xdc xsu xpo xdl xtl af aa ao ai ar ak als ale afl awd apr aws aps avs ali adr atx adg f (nI j) (nI B') v := by
    intro f
    induction f with
    | zero => intro j B' v hpj hj hB' hf; omega
    | succ f ih =>
      intro j B' v hpj hj hB' hf h
      have stop : (N - j = 0 ∨ B' = 0 ∨ ¬ dv_v (ai j) < base) → wX_takeDigits_87 post (nI p) cap xfl xol (nI N) xrm (nI j) xco xec xat xlt xcu xwu xpu xvu xdc xsu xpo xdl xtl (nI B') v af aa ao ai ar ak als ale afl awd apr aws aps avs ali adr atx adg := by
        intro z
        rw [dg_E0 z, dg_V0 z] at h
        rw [← h.1, ← h.2] at h1
        rw [← h.1] at h0
        exact pk_le j p (fun a => h0 (by omega) _ _ _) (fun a => h1 a _)
      refine pk_le B' 0 (fun a => stop (Or.inr (Or.inl (by omega)))) (fun a => pk_le N j (fun b => stop (Or.inl (by omega))) (fun b => ⟨vp_in_nI (by omega) (by omega), xm_dv (ai j) (by rw [nI_clamp (by omega)]) ?_⟩))
      have hd := dv_b (ai j)
      refine pk_lt (dv_v (ai j)) base (fun d => nm_e (nm_r (nI_1 j) (nm_r (e' := nI (B' - 1)) (pk_sub (b := 1) (by omega)) (ih (j + 1) (B' - 1) _ (by omega) (by omega) (by omega) (by omega) ?_)))) (fun d => stop (Or.inr (Or.inr (by omega))))
      obtain ⟨n', hn⟩ : ∃ m, N - j = m + 1 := ⟨N - j - 1, by omega⟩
      obtain ⟨b', hb⟩ : ∃ m, B' = m + 1 := ⟨B' - 1, by omega⟩
      rw [hn, hb, dg_E1 d, dg_V1 d, show n' = N - (j + 1) by omega] at h
      rw [show B' - 1 = b' by omega]
      exact h
  exact ⟨N - p + 1, lo (N - p + 1) p B 0 (by omega) hp hB (by omega) ⟨rfl, rfl⟩⟩
end
