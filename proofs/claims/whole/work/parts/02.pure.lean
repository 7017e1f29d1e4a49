/-! pure rows: chars, stores, digit runs, the parts of a directive -/
def ar_ch (c : Int32) : Prop := ∃ w : Nat, w < 65536 ∧ c = nI w
theorem ar_nI {w : Nat} (h : w < 65536) : ar_ch (nI w) := ⟨w, h, rfl⟩
theorem ar_nar {c : Int32} (h : ar_ch c) : vp_nar .char c = c := by
  obtain ⟨w, hw, rfl⟩ := h
  exact Value.int.inj (pk_charN hw).1
theorem ar_narI {w : Nat} (h : w < 65536) : vp_nar .char (nI w) = nI w := ar_nar ⟨w, h, rfl⟩
theorem ar_narw {c : Int32} (h : ar_ch c) : narrow .char (.int c) = .int c := by
  obtain ⟨w, hw, rfl⟩ := h
  exact (pk_charN hw).1
theorem ar_fit {c : Int32} (h : ar_ch c) : fits .char (.int c) = true := by
  obtain ⟨w, hw, rfl⟩ := h
  exact (pk_charN hw).2
theorem ar_cast (x : Int32) : ar_ch (x.toUInt32 % 65536).toInt32 := ⟨_, Nat.mod_lt _ (by decide), pk_char x⟩
theorem ar_castI {c : Int32} (h : ar_ch c) : (c.toUInt32 % 65536).toInt32 = c := by
  obtain ⟨w, hw, rfl⟩ := h
  rw [pk_char, pk_tn (by omega), Nat.mod_eq_of_lt hw]
theorem ar_0 : ar_ch 0 := ⟨0, by decide, rfl⟩
theorem ar_pos {c : Int32} (h : ar_ch c) : 0 ≤ c := by
  obtain ⟨w, hw, rfl⟩ := h
  exact nI_pos' (by omega)
theorem ar_uu {f : Nat → Int32} {k : Nat} {x y : Int32} : upd (upd f k x) k y = upd f k y := by
  funext j
  unfold upd
  by_cases h : j = k
  · rw [if_pos h, if_pos h]
  · rw [if_neg h, if_neg h, if_neg h]
theorem ar_us {f : Nat → Int32} {k : Nat} {x : Int32} (h : f k = x) : upd f k x = f := by
  funext j
  unfold upd
  by_cases e : j = k
  · rw [if_pos e, e, h]
  · rw [if_neg e]
theorem ar_chu {f : Nat → Int32} {k : Nat} {x : Int32} (h : ∀ j, ar_ch (f j)) (hx : ar_ch x) : ∀ j, ar_ch (upd f k x j) := by
  intro j
  unfold upd
  by_cases e : j = k
  · rw [if_pos e]; exact hx
  · rw [if_neg e]; exact h j

/-- a digit char -/
abbrev rn_d (c : Int32) : Prop := 48 ≤ c ∧ c ≤ 57
theorem rn_dN {c : Int32} (h : rn_d c) : ∃ d : Nat, d ≤ 9 ∧ c = nI (48 + d) := by
  obtain ⟨j, hj, rfl⟩ := nI_of (x := c) (Int32.not_lt.mpr (Int32.le_trans (by decide) h.1))
  have h1 := (nI_leI (a := 48) (b := j) (by decide) hj).mp h.1
  have h2 := (nI_leI (a := j) (b := 57) hj (by decide)).mp h.2
  exact ⟨j - 48, by omega, by rw [show 48 + (j - 48) = j by omega]⟩
/-- the end of a digit run: n chars are left, j is the place -/
def rn_E (f : Nat → Int32) : Nat → Nat → Nat
  | 0, j => j
  | n + 1, j => if rn_d (f j) then rn_E f n (j + 1) else j
def rn_c (v : Nat) (c : Int32) : Nat := if 1000 < v * 10 + (c.toNatClampNeg - 48) then 1000 else v * 10 + (c.toNatClampNeg - 48)
/-- its value, cut at 1000 -/
def rn_V (f : Nat → Int32) : Nat → Nat → Nat → Nat
  | 0, _, v => v
  | n + 1, j, v => if rn_d (f j) then rn_V f n (j + 1) (rn_c v (f j)) else v
theorem rn_Eb (f : Nat → Int32) : ∀ n j, j ≤ rn_E f n j ∧ rn_E f n j ≤ j + n := by
  intro n
  induction n with
  | zero => intro j; exact ⟨Nat.le_refl _, Nat.le_refl _⟩
  | succ n ih =>
    intro j
    unfold rn_E
    by_cases h : rn_d (f j)
    · rw [if_pos h]; have := ih (j + 1); omega
    · rw [if_neg h]; omega
theorem rn_Ee (f : Nat → Int32) : ∀ n j, rn_E f n j = j + n ∨ ¬ rn_d (f (rn_E f n j)) := by
  intro n
  induction n with
  | zero => intro j; exact Or.inl rfl
  | succ n ih =>
    intro j
    unfold rn_E
    by_cases h : rn_d (f j)
    · rw [if_pos h]
      rcases ih (j + 1) with e | e
      · exact Or.inl (by omega)
      · exact Or.inr e
    · rw [if_neg h]; exact Or.inr h
theorem rn_cb (v : Nat) (c : Int32) : rn_c v c ≤ 1000 := by
  unfold rn_c
  by_cases h : 1000 < v * 10 + (c.toNatClampNeg - 48)
  · rw [if_pos h]; omega
  · rw [if_neg h]; omega
theorem rn_c1 {v : Nat} (h : 1 ≤ v) (c : Int32) : 1 ≤ rn_c v c := by
  unfold rn_c
  by_cases h : 1000 < v * 10 + (c.toNatClampNeg - 48)
  · rw [if_pos h]; omega
  · rw [if_neg h]; omega
theorem rn_Vb (f : Nat → Int32) : ∀ n j v, v ≤ 1000 → rn_V f n j v ≤ 1000 := by
  intro n
  induction n with
  | zero => intro j v h; exact h
  | succ n ih =>
    intro j v hv
    unfold rn_V
    by_cases h : rn_d (f j)
    · rw [if_pos h]; exact ih _ _ (rn_cb _ _)
    · rw [if_neg h]; exact hv
theorem rn_V1 (f : Nat → Int32) : ∀ n j v, 1 ≤ v → 1 ≤ rn_V f n j v := by
  intro n
  induction n with
  | zero => intro j v h; exact h
  | succ n ih =>
    intro j v hv
    unfold rn_V
    by_cases h : rn_d (f j)
    · rw [if_pos h]; exact ih _ _ (rn_c1 hv _)
    · rw [if_neg h]; exact hv
theorem rn_V0 (f : Nat → Int32) {n j : Nat} (h : ¬ rn_d (f j)) (v : Nat) : rn_V f n j v = v := by
  cases n with
  | zero => rfl
  | succ n => unfold rn_V; rw [if_neg h]
theorem rn_E0 (f : Nat → Int32) {n j : Nat} (h : ¬ rn_d (f j)) : rn_E f n j = j := by
  cases n with
  | zero => rfl
  | succ n => unfold rn_E; rw [if_neg h]
theorem rn_Es (f : Nat → Int32) {n j : Nat} (h : rn_d (f j)) : rn_E f (n + 1) j = rn_E f n (j + 1) := by
  rw [rn_E, if_pos h]
theorem rn_Vs (f : Nat → Int32) {n j : Nat} (h : rn_d (f j)) (v : Nat) : rn_V f (n + 1) j v = rn_V f n (j + 1) (rn_c v (f j)) := by
  rw [rn_V, if_pos h]
/-- one step of the value, as both programs reckon it -/
theorem rn_st {v : Nat} {c : Int32} (hv : v ≤ 1000) (h : rn_d c) : ∃ w : Nat, w ≤ 10009 ∧ nI v * 10 + (c - 48) = nI w ∧ rn_c v c = (if 1000 < w then 1000 else w) := by
  obtain ⟨d, hd, rfl⟩ := rn_dN h
  refine ⟨v * 10 + d, by omega, ?_, ?_⟩
  · have e : nI (48 + d) - 48 = nI d := by
      have := pk_sub (a := 48 + d) (b := 48) (by omega)
      rw [show 48 + d - 48 = d by omega] at this
      exact this
    rw [e, show (10 : Int32) = nI 10 from rfl, pk_mul, nI_add]
  · unfold rn_c
    rw [nI_clamp (by omega), show 48 + d - 48 = d by omega]
theorem rn_V1s (f : Nat → Int32) {n j : Nat} (hn : 0 < n) (h : rn_d (f j)) (h0 : ¬ f j = 48) : 1 ≤ rn_V f n j 0 := by
  obtain ⟨n, rfl⟩ : ∃ m, n = m + 1 := ⟨n - 1, by omega⟩
  rw [rn_Vs f h]
  apply rn_V1
  obtain ⟨d, hd, e⟩ := rn_dN h
  have hd0 : d ≠ 0 := by
    intro z; rw [z] at e; exact h0 e
  unfold rn_c
  rw [e, nI_clamp (by omega)]
  by_cases h : 1000 < 0 * 10 + (48 + d - 48)
  · rw [if_pos h]; omega
  · rw [if_neg h]; omega

/-- a position: digits and a '$' behind them -/
abbrev ps_at (f : Nat → Int32) (L j : Nat) : Prop := j < rn_E f (L - j) j ∧ rn_E f (L - j) j < L ∧ f (rn_E f (L - j) j) = 36
abbrev ps_bad (f : Nat → Int32) (L j : Nat) : Prop := rn_V f (L - j) j 0 < 1 ∨ 8 < rn_V f (L - j) j 0
def ps_v (f : Nat → Int32) (L j : Nat) : Int32 := if ps_at f L j then (if ps_bad f L j then -3 else nI (rn_V f (L - j) j 0)) else 0
def ps_n (f : Nat → Int32) (L j : Nat) : Nat := if ps_at f L j then rn_E f (L - j) j + 1 else j
theorem ps_nb (f : Nat → Int32) {L j : Nat} (h : j ≤ L) : j ≤ ps_n f L j ∧ ps_n f L j ≤ L := by
  unfold ps_n
  by_cases c : ps_at f L j
  · rw [if_pos c]; have := c.1; have := c.2.1; omega
  · rw [if_neg c]; omega
theorem ps_vr (f : Nat → Int32) (L j : Nat) : ps_v f L j = -3 ∨ ∃ k : Nat, k ≤ 8 ∧ ps_v f L j = nI k := by
  unfold ps_v
  by_cases c : ps_at f L j
  · rw [if_pos c]
    by_cases b : ps_bad f L j
    · rw [if_pos b]; exact Or.inl rfl
    · rw [if_neg b]; exact Or.inr ⟨_, by omega, rfl⟩
  · rw [if_neg c]; exact Or.inr ⟨0, by omega, rfl⟩

/-- the flags -/
def fl_v (c : Int32) : Nat := if c = 45 then 1 else if c = 43 then 2 else if c = 32 then 4 else if c = 48 then 8 else if c = 35 then 16 else 0
def fl_E (f : Nat → Int32) : Nat → Nat → Nat
  | 0, j => j
  | n + 1, j => if fl_v (f j) = 0 then j else fl_E f n (j + 1)
def fl_M (f : Nat → Int32) : Nat → Nat → Nat → Nat
  | 0, _, m => m
  | n + 1, j, m => if fl_v (f j) = 0 then m else fl_M f n (j + 1) (m ||| fl_v (f j))
theorem fl_vc (c : Int32) : fl_v c = 0 ∨ fl_v c = 1 ∨ fl_v c = 2 ∨ fl_v c = 4 ∨ fl_v c = 8 ∨ fl_v c = 16 := by
  unfold fl_v
  split
  · exact Or.inr (Or.inl rfl)
  split
  · exact Or.inr (Or.inr (Or.inl rfl))
  split
  · exact Or.inr (Or.inr (Or.inr (Or.inl rfl)))
  split
  · exact Or.inr (Or.inr (Or.inr (Or.inr (Or.inl rfl))))
  split
  · exact Or.inr (Or.inr (Or.inr (Or.inr (Or.inr rfl))))
  · exact Or.inl rfl
theorem fl_or32 : ∀ m, m < 32 → (m ||| 1 < 32 ∧ m ||| 2 < 32 ∧ m ||| 4 < 32 ∧ m ||| 8 < 32 ∧ m ||| 16 < 32) := by decide +kernel
theorem fl_orb {m : Nat} (h : m < 32) (c : Int32) : m ||| fl_v c < 32 := by
  have := fl_or32 m h
  rcases fl_vc c with e | e | e | e | e | e <;> rw [e]
  · rw [Nat.or_zero]; exact h
  · exact this.1
  · exact this.2.1
  · exact this.2.2.1
  · exact this.2.2.2.1
  · exact this.2.2.2.2
theorem fl_Eb (f : Nat → Int32) : ∀ n j, j ≤ fl_E f n j ∧ fl_E f n j ≤ j + n := by
  intro n
  induction n with
  | zero => intro j; exact ⟨Nat.le_refl _, Nat.le_refl _⟩
  | succ n ih =>
    intro j
    unfold fl_E
    by_cases h : fl_v (f j) = 0
    · rw [if_pos h]; omega
    · rw [if_neg h]; have := ih (j + 1); omega
theorem fl_Ee (f : Nat → Int32) : ∀ n j, fl_E f n j = j + n ∨ fl_v (f (fl_E f n j)) = 0 := by
  intro n
  induction n with
  | zero => intro j; exact Or.inl rfl
  | succ n ih =>
    intro j
    unfold fl_E
    by_cases h : fl_v (f j) = 0
    · rw [if_pos h]; exact Or.inr h
    · rw [if_neg h]
      rcases ih (j + 1) with e | e
      · exact Or.inl (by omega)
      · exact Or.inr e
theorem fl_Mb (f : Nat → Int32) : ∀ n j m, m < 32 → fl_M f n j m < 32 := by
  intro n
  induction n with
  | zero => intro j m h; exact h
  | succ n ih =>
    intro j m hm
    unfold fl_M
    by_cases h : fl_v (f j) = 0
    · rw [if_pos h]; exact hm
    · rw [if_neg h]; exact ih _ _ (fl_orb hm _)
theorem fl_E0 (f : Nat → Int32) {n j : Nat} (h : fl_v (f j) = 0) : fl_E f n j = j := by
  cases n with
  | zero => rfl
  | succ n => unfold fl_E; rw [if_pos h]
theorem fl_M0 (f : Nat → Int32) {n j : Nat} (h : fl_v (f j) = 0) (m : Nat) : fl_M f n j m = m := by
  cases n with
  | zero => rfl
  | succ n => unfold fl_M; rw [if_pos h]
theorem fl_Es (f : Nat → Int32) {n j : Nat} (h : ¬ fl_v (f j) = 0) : fl_E f (n + 1) j = fl_E f n (j + 1) := by
  rw [fl_E, if_neg h]
theorem fl_Ms (f : Nat → Int32) {n j : Nat} (h : ¬ fl_v (f j) = 0) (m : Nat) : fl_M f (n + 1) j m = fl_M f n (j + 1) (m ||| fl_v (f j)) := by
  rw [fl_M, if_neg h]
theorem fl_no0 {c : Int32} (h : fl_v c = 0) : ¬ c = 48 := by
  intro z; rw [z] at h; exact absurd h (by decide)

/-- the width -/
abbrev pw_s (f : Nat → Int32) (L j : Nat) : Prop := j < L ∧ f j = 42
def pw_u (f : Nat → Int32) (L j : Nat) : Int32 := if pw_s f L j then ps_v f L (j + 1) else -1
def pw_w (f : Nat → Int32) (L j : Nat) : Nat := if pw_s f L j then 0 else rn_V f (L - j) j 0
def pw_n (f : Nat → Int32) (L j : Nat) : Nat := if pw_s f L j then ps_n f L (j + 1) else rn_E f (L - j) j
def pw_r (f : Nat → Int32) (L j : Nat) : Int32 := if pw_s f L j then (if ps_v f L (j + 1) < 0 then ps_v f L (j + 1) else 0) else (if 99 < rn_V f (L - j) j 0 then -5 else 0)
/-- the precision -/
abbrev pp_d (f : Nat → Int32) (L j : Nat) : Prop := j < L ∧ f j = 46
def pp_u (f : Nat → Int32) (L j : Nat) : Int32 := if pp_d f L j then pw_u f L (j + 1) else -1
def pp_p (f : Nat → Int32) (L j : Nat) : Int32 := if pp_d f L j then (if pw_s f L (j + 1) then -1 else nI (rn_V f (L - (j + 1)) (j + 1) 0)) else -1
def pp_n (f : Nat → Int32) (L j : Nat) : Nat := if pp_d f L j then pw_n f L (j + 1) else j
def pp_r (f : Nat → Int32) (L j : Nat) : Int32 := if pp_d f L j then pw_r f L (j + 1) else 0
/-- the conversion -/
def cv_b (c : Int32) : Nat := if c = 100 ∨ c = 117 then 10 else if c = 120 ∨ c = 88 then 16 else if c = 111 then 8 else 0
abbrev cv_t (c : Int32) : Prop := c = 99 ∨ c = 115
abbrev pc_l (f : Nat → Int32) (L j : Nat) : Prop := j < L ∧ f j = 108
def pc_k (f : Nat → Int32) (L j : Nat) : Nat := if pc_l f L j then j + 1 else j
def pc_r (f : Nat → Int32) (L j : Nat) : Int32 := if L ≤ pc_k f L j then -1 else if ¬ cv_t (f (pc_k f L j)) ∧ cv_b (f (pc_k f L j)) = 0 then -2 else if cv_t (f (pc_k f L j)) ∧ pc_l f L j then -11 else 0
/-- a directive whose '%' stands at p -/
def dr_1 (f : Nat → Int32) (L p : Nat) : Nat := ps_n f L (p + 1)
def dr_2 (f : Nat → Int32) (L p : Nat) : Nat := fl_E f (L - dr_1 f L p) (dr_1 f L p)
def dr_m (f : Nat → Int32) (L p : Nat) : Nat := fl_M f (L - dr_1 f L p) (dr_1 f L p) 0
def dr_3 (f : Nat → Int32) (L p : Nat) : Nat := pw_n f L (dr_2 f L p)
def dr_4 (f : Nat → Int32) (L p : Nat) : Nat := pp_n f L (dr_3 f L p)
def dr_k (f : Nat → Int32) (L p : Nat) : Nat := pc_k f L (dr_4 f L p)
def dr_v (f : Nat → Int32) (L p : Nat) : Int32 := ps_v f L (p + 1)
def dr_wu (f : Nat → Int32) (L p : Nat) : Int32 := pw_u f L (dr_2 f L p)
def dr_w (f : Nat → Int32) (L p : Nat) : Nat := pw_w f L (dr_2 f L p)
def dr_pu (f : Nat → Int32) (L p : Nat) : Int32 := pp_u f L (dr_3 f L p)
def dr_p (f : Nat → Int32) (L p : Nat) : Int32 := pp_p f L (dr_3 f L p)
def dr_g (f : Nat → Int32) (L p : Nat) : Nat := if pc_l f L (dr_4 f L p) then 1 else 0
def dr_c (f : Nat → Int32) (L p : Nat) : Int32 := f (dr_k f L p)
def dr_r (f : Nat → Int32) (L p : Nat) : Int32 := if dr_v f L p < 0 then dr_v f L p else if ¬ pw_r f L (dr_2 f L p) = 0 then pw_r f L (dr_2 f L p) else if ¬ pp_r f L (dr_3 f L p) = 0 then pp_r f L (dr_3 f L p) else pc_r f L (dr_4 f L p)
theorem pw_nb (f : Nat → Int32) {L j : Nat} (h : j ≤ L) : j ≤ pw_n f L j ∧ pw_n f L j ≤ L := by
  unfold pw_n
  by_cases c : pw_s f L j
  · rw [if_pos c]; have := ps_nb f (L := L) (j := j + 1) (by have := c.1; omega); omega
  · rw [if_neg c]; have := rn_Eb f (L - j) j; omega
theorem pp_nb (f : Nat → Int32) {L j : Nat} (h : j ≤ L) : j ≤ pp_n f L j ∧ pp_n f L j ≤ L := by
  unfold pp_n
  by_cases c : pp_d f L j
  · rw [if_pos c]; have := pw_nb f (L := L) (j := j + 1) (by have := c.1; omega); omega
  · rw [if_neg c]; omega
theorem pc_kb (f : Nat → Int32) {L j : Nat} (h : j ≤ L) : j ≤ pc_k f L j ∧ pc_k f L j ≤ L := by
  unfold pc_k
  by_cases c : pc_l f L j
  · rw [if_pos c]; have := c.1; omega
  · rw [if_neg c]; omega
theorem dr_b (f : Nat → Int32) {L p : Nat} (h : p < L) : p + 1 ≤ dr_1 f L p ∧ dr_1 f L p ≤ dr_2 f L p ∧ dr_2 f L p ≤ dr_3 f L p ∧ dr_3 f L p ≤ dr_4 f L p ∧ dr_4 f L p ≤ dr_k f L p ∧ dr_k f L p ≤ L ∧ dr_1 f L p ≤ L ∧ dr_2 f L p ≤ L ∧ dr_3 f L p ≤ L ∧ dr_4 f L p ≤ L := by
  have h1 := ps_nb f (L := L) (j := p + 1) (by omega)
  have h2 := fl_Eb f (L - dr_1 f L p) (dr_1 f L p)
  have e1 : dr_1 f L p = ps_n f L (p + 1) := rfl
  have e2 : dr_2 f L p = fl_E f (L - dr_1 f L p) (dr_1 f L p) := rfl
  have h3 := pw_nb f (L := L) (j := dr_2 f L p) (by omega)
  have e3 : dr_3 f L p = pw_n f L (dr_2 f L p) := rfl
  have h4 := pp_nb f (L := L) (j := dr_3 f L p) (by omega)
  have e4 : dr_4 f L p = pp_n f L (dr_3 f L p) := rfl
  have h5 := pc_kb f (L := L) (j := dr_4 f L p) (by omega)
  have e5 : dr_k f L p = pc_k f L (dr_4 f L p) := rfl
  omega
