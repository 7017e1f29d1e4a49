section
/-! rows of the kit, to paste -/
theorem pk_us {f : Nat → Int32} {k : Nat} {x : Int32} : upd f k x k = x := if_pos rfl
theorem pk_un {f : Nat → Int32} {k j : Nat} {x : Int32} (h : j ≠ k) : upd f k x j = f j := if_neg h
theorem pk_uLs {f : Nat → Int64} {k : Nat} {x : Int64} : vp_updL f k x k = x := if_pos rfl
theorem pk_uLn {f : Nat → Int64} {k j : Nat} {x : Int64} (h : j ≠ k) : vp_updL f k x j = f j := if_neg h
theorem pk_sub {a b : Nat} (h : b ≤ a) : nI a - nI b = nI (a - b) := by
  obtain ⟨c, rfl⟩ : ∃ c, a = c + b := ⟨a - b, by omega⟩
  rw [← nI_add, Int32.add_sub_cancel, Nat.add_sub_cancel]
theorem pk_m1 (n : Nat) : nI (n + 1) + (-1) = nI n := by
  rw [← nI_1, Int32.add_assoc, show (1 : Int32) + (-1) = 0 from rfl, Int32.add_zero]
theorem pk_mul (a b : Nat) : nI a * nI b = nI (a * b) := (Int32.ofNat_mul a b).symm
theorem pk_div {a d : Nat} (ha : a < 2 ^ 31) (h0 : 0 < d) (hd : d < 2 ^ 31) : nI a / nI d = nI (a / d) := by
  apply Int32.toInt_inj.mp
  rw [lg_idiv_nonneg (by rw [nI_toInt ha]; omega) (by rw [nI_toInt hd]; omega), nI_toInt ha, nI_toInt hd, nI_toInt (Nat.lt_of_le_of_lt (Nat.div_le_self a d) ha)]
  first | rfl | exact (Int.natCast_ediv _ _).symm
theorem pk_rem {a d : Nat} (ha : a < 2 ^ 31) (h0 : 0 < d) (hd : d < 2 ^ 31) : nI a - nI a / nI d * nI d = nI (a % d) := by
  rw [pk_div ha h0 hd, pk_mul, pk_sub (Nat.div_mul_le_self a d)]
  exact congrArg nI (by have := Nat.div_add_mod' a d; omega)
theorem pk_sub_toInt {a b : Nat} (ha : a < 2 ^ 30) (hb : b < 2 ^ 30) : (nI a - nI b).toInt = (a : Int) - b := by
  rw [Int32.toInt_sub, nI_toInt (by omega), nI_toInt (by omega)]
  exact Int.bmod_eq_of_le (by omega) (by omega)
theorem pk_sneg {a b : Nat} (hb : b < 2 ^ 30) (h : a < b) : nI a - nI b < 0 := by
  rw [Int32.lt_iff_toInt_lt, pk_sub_toInt (by omega) hb, show (0 : Int32).toInt = 0 from by decide]
  omega
theorem pk_ix (x : Int32) {n : Nat} (hn : n < 2 ^ 31) : x < 0 ∨ nI n ≤ x ∨ ∃ j : Nat, j < n ∧ x = nI j := by
  by_cases h : x < 0
  · exact Or.inl h
  · obtain ⟨j, hj, rfl⟩ := nI_of h
    by_cases h2 : j < n
    · exact Or.inr (Or.inr ⟨j, h2, rfl⟩)
    · exact Or.inr (Or.inl (nI_le (by omega) hj))
theorem pk_le {x y : Int32} {A B : Prop} (a b : Nat) (f : a ≤ b → A) (g : b < a → B) (hx : x = nI a := by rfl) (hy : y = nI b := by rfl) (ha : a < 2 ^ 31 := by omega) (hb : b < 2 ^ 31 := by omega) : (x ≤ y → A) ∧ (¬ x ≤ y → B) := by
  subst hx hy
  rw [nI_leI ha hb]
  exact ⟨f, fun z => g (by omega)⟩
theorem pk_lt {x y : Int32} {A B : Prop} (a b : Nat) (f : a < b → A) (g : b ≤ a → B) (hx : x = nI a := by rfl) (hy : y = nI b := by rfl) (ha : a < 2 ^ 31 := by omega) (hb : b < 2 ^ 31 := by omega) : (x < y → A) ∧ (¬ x < y → B) := by
  subst hx hy
  rw [nI_ltI ha hb]
  exact ⟨f, fun z => g (by omega)⟩
theorem pk_eq {x y : Int32} {A B : Prop} (a b : Nat) (f : a = b → A) (g : a ≠ b → B) (hx : x = nI a := by rfl) (hy : y = nI b := by rfl) (ha : a < 2 ^ 31 := by omega) (hb : b < 2 ^ 31 := by omega) : (x = y → A) ∧ (¬ x = y → B) := by
  subst hx hy
  rw [nI_eq ha hb]
  exact ⟨f, g⟩
theorem pk_in {x : Int32} (n N : Nat) (h : n < N) (hx : x = nI n := by rfl) (hN : N < 2 ^ 31 := by omega) : vp_in x N := by
  subst hx
  exact vp_in_nI h hN
theorem pk_cl {x : Int32} (n : Nat) (hx : x = nI n := by rfl) (h : n < 2 ^ 31 := by omega) : x.toNatClampNeg = n := by
  subst hx
  exact nI_clamp h
theorem pk_tn {n : Nat} (h : n < 2 ^ 32) : (nI n).toBitVec.toNat = n := Nat.mod_eq_of_lt h
theorem pk_and (x : Int32) {m : Int32} (k : Nat) (hm : m.toBitVec.toNat = 2 ^ k - 1) : x &&& m = nI (x.toBitVec.toNat % 2 ^ k) := by
  apply Int32.toBitVec_inj.mp
  apply BitVec.eq_of_toNat_eq
  rw [Int32.toBitVec_and, BitVec.toNat_and, hm, Nat.and_two_pow_sub_one_eq_mod]
  show _ = (BitVec.ofNat 32 _).toNat
  rw [BitVec.toNat_ofNat]
  exact (Nat.mod_eq_of_lt (Nat.lt_of_le_of_lt (Nat.mod_le _ _) x.toBitVec.isLt)).symm
theorem pk_andN {n : Nat} (h : n < 2 ^ 32) {m : Int32} (k : Nat) (hm : m.toBitVec.toNat = 2 ^ k - 1) : nI n &&& m = nI (n % 2 ^ k) := by
  rw [pk_and _ k hm, pk_tn h]
theorem pk_shl (a s : Int32) (k : Nat) (hs : (s.toBitVec.smod 32).toNat = k) : (a <<< s).toBitVec.toNat = a.toBitVec.toNat * 2 ^ k % 2 ^ 32 := by
  show (a.toBitVec <<< (s.toBitVec.smod 32).toNat).toNat = _
  rw [hs, BitVec.toNat_shiftLeft, Nat.shiftLeft_eq]
theorem pk_shlN {n : Nat} (s : Int32) (k : Nat) (hs : (s.toBitVec.smod 32).toNat = k) (h : n * 2 ^ k < 2 ^ 32) : nI n <<< s = nI (n * 2 ^ k) := by
  apply Int32.toBitVec_inj.mp
  apply BitVec.eq_of_toNat_eq
  have hn : n < 2 ^ 32 := Nat.lt_of_le_of_lt (Nat.le_mul_of_pos_right n (Nat.two_pow_pos k)) h
  rw [pk_shl _ _ k hs, pk_tn hn, pk_tn h, Nat.mod_eq_of_lt h]
theorem pk_shr (a s : Int32) (k : Nat) (hs : (s.toBitVec.smod 32).toNat = k) : (a >>> s).toInt = a.toInt >>> k := by
  show (a.toBitVec.sshiftRight (s.toBitVec.smod 32).toNat).toInt = _
  rw [hs, BitVec.toInt_sshiftRight]
  rfl
theorem pk_shrN {n : Nat} (h : n < 2 ^ 31) (s : Int32) (k : Nat) (hs : (s.toBitVec.smod 32).toNat = k) : nI n >>> s = nI (n / 2 ^ k) := by
  apply Int32.toInt_inj.mp
  have h2 : n / 2 ^ k ≤ n := Nat.div_le_self _ _
  rw [pk_shr _ _ k hs, nI_toInt h, nI_toInt (by omega), Int.shiftRight_eq_div_pow]
  rfl
theorem pk_charN {q : Nat} (hq : q < 65536) : narrow .char (.int (nI q)) = .int (nI q) ∧ fits .char (.int (nI q)) = true := by
  constructor
  · have e : (nI q).toUInt32.toUInt16.toUInt32.toInt32 = nI q := by
      apply Int32.toBitVec_inj.mp
      apply BitVec.eq_of_toNat_eq
      show (nI q).toUInt32.toUInt16.toUInt32.toNat = q % 2 ^ 32
      rw [UInt16.toNat_toUInt32, UInt32.toNat_toUInt16, show (nI q).toUInt32.toNat = q % 2 ^ 32 from rfl]
      omega
    exact congrArg Value.int e
  · have a : (0 : Int32) ≤ nI q := nI_pos' (by omega)
    have b : nI q ≤ 65535 := nI_le (b := 65535) (by omega) (by decide)
    show (decide ((0 : Int32) ≤ nI q) && decide (nI q ≤ 65535)) = true
    rw [decide_eq_true a, decide_eq_true b]
    rfl
theorem pk_char (x : Int32) : (x.toUInt32 % 65536).toInt32 = nI (x.toBitVec.toNat % 65536) := by
  apply Int32.toBitVec_inj.mp
  apply BitVec.eq_of_toNat_eq
  rw [pk_tn (by omega)]
  show (x.toUInt32 % 65536).toNat = _
  rw [UInt32.toNat_mod]
  rfl
theorem pk_nc (x : Int32) : narrow .char (.int (x.toUInt32 % 65536).toInt32) = .int (x.toUInt32 % 65536).toInt32 := by
  rw [pk_char]
  exact (pk_charN (Nat.mod_lt _ (by decide))).1
theorem pk_fc (x : Int32) : fits .char (.int (x.toUInt32 % 65536).toInt32) = true := by
  rw [pk_char]
  exact (pk_charN (Nat.mod_lt _ (by decide))).2
theorem pk_vc (z : Int32) : vp_nar .char (z.toUInt32 % 65536).toInt32 = (z.toUInt32 % 65536).toInt32 := Value.int.inj (pk_nc z)
theorem pk_lT {n : Nat} (h : n < 2 ^ 63) : (lN n).toInt = (n : Int) := lg_ofNat_toInt h
theorem pk_lLT {a b : Nat} (ha : a < 2 ^ 63) (hb : b < 2 ^ 63) : lN a < lN b ↔ a < b := by
  rw [Int64.lt_iff_toInt_lt, pk_lT ha, pk_lT hb]; omega
theorem pk_lLE {a b : Nat} (ha : a < 2 ^ 63) (hb : b < 2 ^ 63) : lN a ≤ lN b ↔ a ≤ b := by
  rw [Int64.le_iff_toInt_le, pk_lT ha, pk_lT hb]; omega
theorem pk_lEQ {a b : Nat} (ha : a < 2 ^ 63) (hb : b < 2 ^ 63) : lN a = lN b ↔ a = b := by
  rw [← Int64.toInt_inj, pk_lT ha, pk_lT hb]; omega
theorem pk_lOf {x : Int64} (h : ¬ x < 0) : ∃ k : Nat, k < 2 ^ 63 ∧ x = lN k := by
  rw [Int64.lt_iff_toInt_lt] at h
  have h0 : (0 : Int64).toInt = 0 := by decide
  have hx := Int64.toInt_lt x
  refine ⟨x.toInt.toNat, by omega, Int64.toInt_inj.mp ?_⟩
  rw [pk_lT (by omega)]
  omega
theorem pk_lDiv {a b : Nat} (ha : a < 2 ^ 63) (h0 : 0 < b) (hb : b < 2 ^ 63) : lN a / lN b = lN (a / b) := by
  apply Int64.toInt_inj.mp
  rw [lg_ldiv_nonneg (by rw [pk_lT ha]; omega) (by rw [pk_lT hb]; omega), pk_lT ha, pk_lT hb, pk_lT (Nat.lt_of_le_of_lt (Nat.div_le_self a b) ha)]
  rfl
theorem pk_lRem {a b : Nat} (ha : a < 2 ^ 63) (h0 : 0 < b) (hb : b < 2 ^ 63) : lN a - lN a / lN b * lN b = lN (a % b) := by
  rw [pk_lDiv ha h0 hb, lN_mul, lN_sub (Nat.div_mul_le_self a b)]
  exact congrArg lN (by have := Nat.div_add_mod' a b; omega)
theorem pk_least (P : Nat → Prop) (h : ∃ k, P k) : ∃ k, P k ∧ ∀ j, j < k → ¬ P j := by
  obtain ⟨k, hk⟩ := h
  induction k using Nat.strongRecOn with
  | ind k ih =>
    by_cases e : ∃ j, j < k ∧ P j
    · obtain ⟨j, hj, pj⟩ := e
      exact ih j hj pj
    · exact ⟨k, hk, fun j hj pj => e ⟨j, hj, pj⟩⟩
theorem s_l : ∀ n, n < 32 → ((nI n &&& 31).toBitVec.smod 32).toNat = n := by decide +kernel
theorem wb_tb (n : Nat) : (lN n).toBitVec = BitVec.ofNat 64 n := rfl
theorem wb_inj {a b : Int64} (h : a.toBitVec = b.toBitVec) : a = b := Int64.toBitVec_inj.mp h
theorem wb_tn {n : Nat} (h : n < 2 ^ 64) : (lN n).toBitVec.toNat = n := by rw [wb_tb, BitVec.toNat_ofNat, Nat.mod_eq_of_lt h]
theorem wb_of (x : Int64) : ∃ n, n < 2 ^ 64 ∧ x = lN n := ⟨x.toBitVec.toNat, x.toBitVec.isLt, wb_inj (by rw [wb_tb]; simp)⟩
theorem wb_of32 (x : Int32) : ∃ n, n < 2 ^ 32 ∧ x = nI n := ⟨x.toBitVec.toNat, x.toBitVec.isLt, Int32.toBitVec_inj.mp (by show _ = BitVec.ofNat 32 _; simp)⟩
theorem wb_c : ∀ k, k < 64 → ((nI k).toInt64 &&& 63) = lN k := by decide +kernel
theorem wb_cu : ∀ k, k < 64 → ((nI k).toInt64.toUInt64 &&& Int64.toUInt64 63) = UInt64.ofNat k := by decide +kernel
theorem wb_sm : ∀ k, k < 64 → (BitVec.ofNat 64 k).smod 64 = BitVec.ofNat 64 k := by decide +kernel
theorem wb_pw {a b : Nat} (h : a ≤ b) : 2 ^ b = 2 ^ a * 2 ^ (b - a) := by rw [← Nat.pow_add]; congr 1; omega
theorem wb_lt2 {a b : Nat} (h : a < b) : 2 ^ a < 2 ^ b := Nat.pow_lt_pow_right (by decide) h
theorem wb_mod (n : Nat) : lN n = lN (n % 2 ^ 64) := wb_inj (by rw [wb_tb, wb_tb]; apply BitVec.eq_of_toNat_eq; rw [BitVec.toNat_ofNat, BitVec.toNat_ofNat, Nat.mod_mod])
theorem wb_shr {n k : Nat} (hn : n < 2 ^ 64) (hk : k < 64) : ((lN n).toUInt64 >>> ((nI k).toInt64.toUInt64 &&& Int64.toUInt64 63)).toInt64 = lN (n / 2 ^ k) := by
  rw [wb_cu k hk]
  apply wb_inj
  apply BitVec.eq_of_toNat_eq
  show ((lN n).toUInt64 >>> UInt64.ofNat k).toNat = (BitVec.ofNat 64 _).toNat
  have h1 : (UInt64.ofNat k).toNat = k := by
    show (BitVec.ofNat 64 k).toNat = k
    rw [BitVec.toNat_ofNat, Nat.mod_eq_of_lt (by omega)]
  have h2 : (lN n).toUInt64.toNat = n := wb_tn hn
  rw [UInt64.toNat_shiftRight, h1, h2, Nat.mod_eq_of_lt hk, Nat.shiftRight_eq_div_pow, BitVec.toNat_ofNat, Nat.mod_eq_of_lt (Nat.lt_of_le_of_lt (Nat.div_le_self _ _) hn)]
theorem wb_shl (n : Nat) {k : Nat} (hk : k < 64) : lN n <<< ((nI k).toInt64 &&& 63) = lN (n * 2 ^ k) := by
  rw [wb_c k hk]
  apply wb_inj
  rw [Int64.toBitVec_shiftLeft, wb_tb, wb_tb, wb_tb, wb_sm k hk]
  apply BitVec.eq_of_toNat_eq
  rw [BitVec.shiftLeft_eq', BitVec.toNat_shiftLeft, BitVec.toNat_ofNat, BitVec.toNat_ofNat, BitVec.toNat_ofNat, Nat.mod_eq_of_lt (show k < 2 ^ 64 by omega), Nat.shiftLeft_eq, Nat.mul_mod, Nat.mod_mod, ← Nat.mul_mod]
theorem wb_and {a b : Nat} (ha : a < 2 ^ 64) (hb : b < 2 ^ 64) : lN a &&& lN b = lN (a &&& b) := by
  apply wb_inj
  rw [Int64.toBitVec_and, wb_tb, wb_tb, wb_tb]
  apply BitVec.eq_of_toNat_eq
  rw [BitVec.toNat_and, BitVec.toNat_ofNat, BitVec.toNat_ofNat, BitVec.toNat_ofNat, Nat.mod_eq_of_lt ha, Nat.mod_eq_of_lt hb, Nat.mod_eq_of_lt (Nat.and_lt_two_pow _ hb)]
theorem wb_or {a b : Nat} (ha : a < 2 ^ 64) (hb : b < 2 ^ 64) : lN a ||| lN b = lN (a ||| b) := by
  apply wb_inj
  rw [Int64.toBitVec_or, wb_tb, wb_tb, wb_tb]
  apply BitVec.eq_of_toNat_eq
  rw [BitVec.toNat_or, BitVec.toNat_ofNat, BitVec.toNat_ofNat, BitVec.toNat_ofNat, Nat.mod_eq_of_lt ha, Nat.mod_eq_of_lt hb, Nat.mod_eq_of_lt (Nat.or_lt_two_pow ha hb)]
theorem wb_mask {n k : Nat} (hn : n < 2 ^ 64) (hk : k < 64) : lN n &&& lN (2 ^ k - 1) = lN (n % 2 ^ k) := by
  rw [wb_and hn (by have := wb_lt2 hk; omega), Nat.and_two_pow_sub_one_eq_mod]
theorem wb_a1 {n : Nat} (hn : n < 2 ^ 64) : lN n &&& 1 = lN (n % 2) := wb_mask (k := 1) hn (by decide)
theorem wb_bit {n k : Nat} (hn : n < 2 ^ 64) (hk : k < 64) : ((lN n).toUInt64 >>> ((nI k).toInt64.toUInt64 &&& Int64.toUInt64 63)).toInt64 &&& 1 = lN (n / 2 ^ k % 2) := by
  rw [wb_shr hn hk, wb_a1 (Nat.lt_of_le_of_lt (Nat.div_le_self _ _) hn)]
end
section
/-! pure rows: chars, stores, digit runs, the parts of a directive -/
def ar_ch (c : Int32) : Prop := ∃ w : Nat, w < 65536 ∧ c = nI w
theorem ar_nI {w : Nat} (h : w < 65536) : ar_ch (nI w) := ⟨w, h, rfl⟩
theorem ar_nar {c : Int32} (h : ar_ch c) : vp_nar .char c = c := by
  obtain ⟨w, hw, rfl⟩ := h
  exact Value.int.inj (pk_charN hw).1
theorem ar_narI {w : Nat} (h : w < 65536) : vp_nar .char (nI w) = nI w := ar_nar ⟨w, h, rfl⟩
theorem ar_narw {c : Int32} (h : ar_ch c) : narrow .char (.int c) = .int c := by
  obtain ⟨w, hw, rfl⟩ := h
  exact (pk_charN hw).1
theorem ar_fit {c : Int32} (h : ar_ch c) : fits .char (.int c) = true := by
  obtain ⟨w, hw, rfl⟩ := h
  exact (pk_charN hw).2
theorem ar_cast (x : Int32) : ar_ch (x.toUInt32 % 65536).toInt32 := ⟨_, Nat.mod_lt _ (by decide), pk_char x⟩
theorem ar_castI {c : Int32} (h : ar_ch c) : (c.toUInt32 % 65536).toInt32 = c := by
  obtain ⟨w, hw, rfl⟩ := h
  rw [pk_char, pk_tn (by omega), Nat.mod_eq_of_lt hw]
theorem ar_0 : ar_ch 0 := ⟨0, by decide, rfl⟩
theorem ar_pos {c : Int32} (h : ar_ch c) : 0 ≤ c := by
  obtain ⟨w, hw, rfl⟩ := h
  exact nI_pos' (by omega)
theorem ar_uu {f : Nat → Int32} {k : Nat} {x y : Int32} : upd (upd f k x) k y = upd f k y := by
  funext j
  unfold upd
  by_cases h : j = k
  · rw [if_pos h, if_pos h]
  · rw [if_neg h, if_neg h, if_neg h]
theorem ar_us {f : Nat → Int32} {k : Nat} {x : Int32} (h : f k = x) : upd f k x = f := by
  funext j
  unfold upd
  by_cases e : j = k
  · rw [if_pos e, e, h]
  · rw [if_neg e]
theorem ar_chu {f : Nat → Int32} {k : Nat} {x : Int32} (h : ∀ j, ar_ch (f j)) (hx : ar_ch x) : ∀ j, ar_ch (upd f k x j) := by
  intro j
  unfold upd
  by_cases e : j = k
  · rw [if_pos e]; exact hx
  · rw [if_neg e]; exact h j

/-- a digit char -/
abbrev rn_d (c : Int32) : Prop := 48 ≤ c ∧ c ≤ 57
theorem rn_dN {c : Int32} (h : rn_d c) : ∃ d : Nat, d ≤ 9 ∧ c = nI (48 + d) := by
  obtain ⟨j, hj, rfl⟩ := nI_of (x := c) (Int32.not_lt.mpr (Int32.le_trans (by decide) h.1))
  have h1 := (nI_leI (a := 48) (b := j) (by decide) hj).mp h.1
  have h2 := (nI_leI (a := j) (b := 57) hj (by decide)).mp h.2
  exact ⟨j - 48, by omega, by rw [show 48 + (j - 48) = j by omega]⟩
/-- the end of a digit run: n chars are left, j is the place -/
def rn_E (f : Nat → Int32) : Nat → Nat → Nat
  | 0, j => j
  | n + 1, j => if rn_d (f j) then rn_E f n (j + 1) else j
def rn_c (v : Nat) (c : Int32) : Nat := if 1000 < v * 10 + (c.toNatClampNeg - 48) then 1000 else v * 10 + (c.toNatClampNeg - 48)
/-- its value, cut at 1000 -/
def rn_V (f : Nat → Int32) : Nat → Nat → Nat → Nat
  | 0, _, v => v
  | n + 1, j, v => if rn_d (f j) then rn_V f n (j + 1) (rn_c v (f j)) else v
theorem rn_Eb (f : Nat → Int32) : ∀ n j, j ≤ rn_E f n j ∧ rn_E f n j ≤ j + n := by
  intro n
  induction n with
  | zero => intro j; exact ⟨Nat.le_refl _, Nat.le_refl _⟩
  | succ n ih =>
    intro j
    unfold rn_E
    by_cases h : rn_d (f j)
    · rw [if_pos h]; have := ih (j + 1); omega
    · rw [if_neg h]; omega
theorem rn_Ee (f : Nat → Int32) : ∀ n j, rn_E f n j = j + n ∨ ¬ rn_d (f (rn_E f n j)) := by
  intro n
  induction n with
  | zero => intro j; exact Or.inl rfl
  | succ n ih =>
    intro j
    unfold rn_E
    by_cases h : rn_d (f j)
    · rw [if_pos h]
      rcases ih (j + 1) with e | e
      · exact Or.inl (by omega)
      · exact Or.inr e
    · rw [if_neg h]; exact Or.inr h
theorem rn_cb (v : Nat) (c : Int32) : rn_c v c ≤ 1000 := by
  unfold rn_c
  by_cases h : 1000 < v * 10 + (c.toNatClampNeg - 48)
  · rw [if_pos h]; omega
  · rw [if_neg h]; omega
theorem rn_c1 {v : Nat} (h : 1 ≤ v) (c : Int32) : 1 ≤ rn_c v c := by
  unfold rn_c
  by_cases h : 1000 < v * 10 + (c.toNatClampNeg - 48)
  · rw [if_pos h]; omega
  · rw [if_neg h]; omega
theorem rn_Vb (f : Nat → Int32) : ∀ n j v, v ≤ 1000 → rn_V f n j v ≤ 1000 := by
  intro n
  induction n with
  | zero => intro j v h; exact h
  | succ n ih =>
    intro j v hv
    unfold rn_V
    by_cases h : rn_d (f j)
    · rw [if_pos h]; exact ih _ _ (rn_cb _ _)
    · rw [if_neg h]; exact hv
theorem rn_V1 (f : Nat → Int32) : ∀ n j v, 1 ≤ v → 1 ≤ rn_V f n j v := by
  intro n
  induction n with
  | zero => intro j v h; exact h
  | succ n ih =>
    intro j v hv
    unfold rn_V
    by_cases h : rn_d (f j)
    · rw [if_pos h]; exact ih _ _ (rn_c1 hv _)
    · rw [if_neg h]; exact hv
theorem rn_V0 (f : Nat → Int32) {n j : Nat} (h : ¬ rn_d (f j)) (v : Nat) : rn_V f n j v = v := by
  cases n with
  | zero => rfl
  | succ n => unfold rn_V; rw [if_neg h]
theorem rn_E0 (f : Nat → Int32) {n j : Nat} (h : ¬ rn_d (f j)) : rn_E f n j = j := by
  cases n with
  | zero => rfl
  | succ n => unfold rn_E; rw [if_neg h]
theorem rn_Es (f : Nat → Int32) {n j : Nat} (h : rn_d (f j)) : rn_E f (n + 1) j = rn_E f n (j + 1) := by
  rw [rn_E, if_pos h]
theorem rn_Vs (f : Nat → Int32) {n j : Nat} (h : rn_d (f j)) (v : Nat) : rn_V f (n + 1) j v = rn_V f n (j + 1) (rn_c v (f j)) := by
  rw [rn_V, if_pos h]
/-- one step of the value, as both programs reckon it -/
theorem rn_st {v : Nat} {c : Int32} (hv : v ≤ 1000) (h : rn_d c) : ∃ w : Nat, w ≤ 10009 ∧ nI v * 10 + (c - 48) = nI w ∧ rn_c v c = (if 1000 < w then 1000 else w) := by
  obtain ⟨d, hd, rfl⟩ := rn_dN h
  refine ⟨v * 10 + d, by omega, ?_, ?_⟩
  · have e : nI (48 + d) - 48 = nI d := by
      have := pk_sub (a := 48 + d) (b := 48) (by omega)
      rw [show 48 + d - 48 = d by omega] at this
      exact this
    rw [e, show (10 : Int32) = nI 10 from rfl, pk_mul, nI_add]
  · unfold rn_c
    rw [nI_clamp (by omega), show 48 + d - 48 = d by omega]
theorem rn_V1s (f : Nat → Int32) {n j : Nat} (hn : 0 < n) (h : rn_d (f j)) (h0 : ¬ f j = 48) : 1 ≤ rn_V f n j 0 := by
  obtain ⟨n, rfl⟩ : ∃ m, n = m + 1 := ⟨n - 1, by omega⟩
  rw [rn_Vs f h]
  apply rn_V1
  obtain ⟨d, hd, e⟩ := rn_dN h
  have hd0 : d ≠ 0 := by
    intro z; rw [z] at e; exact h0 e
  unfold rn_c
  rw [e, nI_clamp (by omega)]
  by_cases h : 1000 < 0 * 10 + (48 + d - 48)
  · rw [if_pos h]; omega
  · rw [if_neg h]; omega

/-- a position: digits and a '$' behind them -/
abbrev ps_at (f : Nat → Int32) (L j : Nat) : Prop := j < rn_E f (L - j) j ∧ rn_E f (L - j) j < L ∧ f (rn_E f (L - j) j) = 36
abbrev ps_bad (f : Nat → Int32) (L j : Nat) : Prop := rn_V f (L - j) j 0 < 1 ∨ 8 < rn_V f (L - j) j 0
def ps_v (f : Nat → Int32) (L j : Nat) : Int32 := if ps_at f L j then (if ps_bad f L j then -3 else nI (rn_V f (L - j) j 0)) else 0
def ps_n (f : Nat → Int32) (L j : Nat) : Nat := if ps_at f L j then rn_E f (L - j) j + 1 else j
theorem ps_nb (f : Nat → Int32) {L j : Nat} (h : j ≤ L) : j ≤ ps_n f L j ∧ ps_n f L j ≤ L := by
  unfold ps_n
  by_cases c : ps_at f L j
  · rw [if_pos c]; have := c.1; have := c.2.1; omega
  · rw [if_neg c]; omega
theorem ps_vr (f : Nat → Int32) (L j : Nat) : ps_v f L j = -3 ∨ ∃ k : Nat, k ≤ 8 ∧ ps_v f L j = nI k := by
  unfold ps_v
  by_cases c : ps_at f L j
  · rw [if_pos c]
    by_cases b : ps_bad f L j
    · rw [if_pos b]; exact Or.inl rfl
    · rw [if_neg b]; exact Or.inr ⟨_, by omega, rfl⟩
  · rw [if_neg c]; exact Or.inr ⟨0, by omega, rfl⟩

/-- the flags -/
def fl_v (c : Int32) : Nat := if c = 45 then 1 else if c = 43 then 2 else if c = 32 then 4 else if c = 48 then 8 else if c = 35 then 16 else 0
def fl_E (f : Nat → Int32) : Nat → Nat → Nat
  | 0, j => j
  | n + 1, j => if fl_v (f j) = 0 then j else fl_E f n (j + 1)
def fl_M (f : Nat → Int32) : Nat → Nat → Nat → Nat
  | 0, _, m => m
  | n + 1, j, m => if fl_v (f j) = 0 then m else fl_M f n (j + 1) (m ||| fl_v (f j))
theorem fl_vc (c : Int32) : fl_v c = 0 ∨ fl_v c = 1 ∨ fl_v c = 2 ∨ fl_v c = 4 ∨ fl_v c = 8 ∨ fl_v c = 16 := by
  unfold fl_v
  split
  · exact Or.inr (Or.inl rfl)
  split
  · exact Or.inr (Or.inr (Or.inl rfl))
  split
  · exact Or.inr (Or.inr (Or.inr (Or.inl rfl)))
  split
  · exact Or.inr (Or.inr (Or.inr (Or.inr (Or.inl rfl))))
  split
  · exact Or.inr (Or.inr (Or.inr (Or.inr (Or.inr rfl))))
  · exact Or.inl rfl
theorem fl_or32 : ∀ m, m < 32 → (m ||| 1 < 32 ∧ m ||| 2 < 32 ∧ m ||| 4 < 32 ∧ m ||| 8 < 32 ∧ m ||| 16 < 32) := by decide +kernel
theorem fl_orb {m : Nat} (h : m < 32) (c : Int32) : m ||| fl_v c < 32 := by
  have := fl_or32 m h
  rcases fl_vc c with e | e | e | e | e | e <;> rw [e]
  · rw [Nat.or_zero]; exact h
  · exact this.1
  · exact this.2.1
  · exact this.2.2.1
  · exact this.2.2.2.1
  · exact this.2.2.2.2
theorem fl_Eb (f : Nat → Int32) : ∀ n j, j ≤ fl_E f n j ∧ fl_E f n j ≤ j + n := by
  intro n
  induction n with
  | zero => intro j; exact ⟨Nat.le_refl _, Nat.le_refl _⟩
  | succ n ih =>
    intro j
    unfold fl_E
    by_cases h : fl_v (f j) = 0
    · rw [if_pos h]; omega
    · rw [if_neg h]; have := ih (j + 1); omega
theorem fl_Ee (f : Nat → Int32) : ∀ n j, fl_E f n j = j + n ∨ fl_v (f (fl_E f n j)) = 0 := by
  intro n
  induction n with
  | zero => intro j; exact Or.inl rfl
  | succ n ih =>
    intro j
    unfold fl_E
    by_cases h : fl_v (f j) = 0
    · rw [if_pos h]; exact Or.inr h
    · rw [if_neg h]
      rcases ih (j + 1) with e | e
      · exact Or.inl (by omega)
      · exact Or.inr e
theorem fl_Mb (f : Nat → Int32) : ∀ n j m, m < 32 → fl_M f n j m < 32 := by
  intro n
  induction n with
  | zero => intro j m h; exact h
  | succ n ih =>
    intro j m hm
    unfold fl_M
    by_cases h : fl_v (f j) = 0
    · rw [if_pos h]; exact hm
    · rw [if_neg h]; exact ih _ _ (fl_orb hm _)
theorem fl_E0 (f : Nat → Int32) {n j : Nat} (h : fl_v (f j) = 0) : fl_E f n j = j := by
  cases n with
  | zero => rfl
  | succ n => unfold fl_E; rw [if_pos h]
theorem fl_M0 (f : Nat → Int32) {n j : Nat} (h : fl_v (f j) = 0) (m : Nat) : fl_M f n j m = m := by
  cases n with
  | zero => rfl
  | succ n => unfold fl_M; rw [if_pos h]
theorem fl_Es (f : Nat → Int32) {n j : Nat} (h : ¬ fl_v (f j) = 0) : fl_E f (n + 1) j = fl_E f n (j + 1) := by
  rw [fl_E, if_neg h]
theorem fl_Ms (f : Nat → Int32) {n j : Nat} (h : ¬ fl_v (f j) = 0) (m : Nat) : fl_M f (n + 1) j m = fl_M f n (j + 1) (m ||| fl_v (f j)) := by
  rw [fl_M, if_neg h]
theorem fl_no0 {c : Int32} (h : fl_v c = 0) : ¬ c = 48 := by
  intro z; rw [z] at h; exact absurd h (by decide)

/-- the width -/
abbrev pw_s (f : Nat → Int32) (L j : Nat) : Prop := j < L ∧ f j = 42
def pw_u (f : Nat → Int32) (L j : Nat) : Int32 := if pw_s f L j then ps_v f L (j + 1) else -1
def pw_w (f : Nat → Int32) (L j : Nat) : Nat := if pw_s f L j then 0 else rn_V f (L - j) j 0
def pw_n (f : Nat → Int32) (L j : Nat) : Nat := if pw_s f L j then ps_n f L (j + 1) else rn_E f (L - j) j
def pw_r (f : Nat → Int32) (L j : Nat) : Int32 := if pw_s f L j then (if ps_v f L (j + 1) < 0 then ps_v f L (j + 1) else 0) else (if 99 < rn_V f (L - j) j 0 then -5 else 0)
/-- the precision -/
abbrev pp_d (f : Nat → Int32) (L j : Nat) : Prop := j < L ∧ f j = 46
def pp_u (f : Nat → Int32) (L j : Nat) : Int32 := if pp_d f L j then pw_u f L (j + 1) else -1
def pp_p (f : Nat → Int32) (L j : Nat) : Int32 := if pp_d f L j then (if pw_s f L (j + 1) then -1 else nI (rn_V f (L - (j + 1)) (j + 1) 0)) else -1
def pp_n (f : Nat → Int32) (L j : Nat) : Nat := if pp_d f L j then pw_n f L (j + 1) else j
def pp_r (f : Nat → Int32) (L j : Nat) : Int32 := if pp_d f L j then pw_r f L (j + 1) else 0
/-- the conversion -/
def cv_b (c : Int32) : Nat := if c = 100 ∨ c = 117 then 10 else if c = 120 ∨ c = 88 then 16 else if c = 111 then 8 else 0
abbrev cv_t (c : Int32) : Prop := c = 99 ∨ c = 115
abbrev pc_l (f : Nat → Int32) (L j : Nat) : Prop := j < L ∧ f j = 108
def pc_k (f : Nat → Int32) (L j : Nat) : Nat := if pc_l f L j then j + 1 else j
def pc_r (f : Nat → Int32) (L j : Nat) : Int32 := if L ≤ pc_k f L j then -1 else if ¬ cv_t (f (pc_k f L j)) ∧ cv_b (f (pc_k f L j)) = 0 then -2 else if cv_t (f (pc_k f L j)) ∧ pc_l f L j then -11 else 0
/-- a directive whose '%' stands at p -/
def dr_1 (f : Nat → Int32) (L p : Nat) : Nat := ps_n f L (p + 1)
def dr_2 (f : Nat → Int32) (L p : Nat) : Nat := fl_E f (L - dr_1 f L p) (dr_1 f L p)
def dr_m (f : Nat → Int32) (L p : Nat) : Nat := fl_M f (L - dr_1 f L p) (dr_1 f L p) 0
def dr_3 (f : Nat → Int32) (L p : Nat) : Nat := pw_n f L (dr_2 f L p)
def dr_4 (f : Nat → Int32) (L p : Nat) : Nat := pp_n f L (dr_3 f L p)
def dr_k (f : Nat → Int32) (L p : Nat) : Nat := pc_k f L (dr_4 f L p)
def dr_v (f : Nat → Int32) (L p : Nat) : Int32 := ps_v f L (p + 1)
def dr_wu (f : Nat → Int32) (L p : Nat) : Int32 := pw_u f L (dr_2 f L p)
def dr_w (f : Nat → Int32) (L p : Nat) : Nat := pw_w f L (dr_2 f L p)
def dr_pu (f : Nat → Int32) (L p : Nat) : Int32 := pp_u f L (dr_3 f L p)
def dr_p (f : Nat → Int32) (L p : Nat) : Int32 := pp_p f L (dr_3 f L p)
def dr_g (f : Nat → Int32) (L p : Nat) : Nat := if pc_l f L (dr_4 f L p) then 1 else 0
def dr_c (f : Nat → Int32) (L p : Nat) : Int32 := f (dr_k f L p)
def dr_r (f : Nat → Int32) (L p : Nat) : Int32 := if dr_v f L p < 0 then dr_v f L p else if ¬ pw_r f L (dr_2 f L p) = 0 then pw_r f L (dr_2 f L p) else if ¬ pp_r f L (dr_3 f L p) = 0 then pp_r f L (dr_3 f L p) else pc_r f L (dr_4 f L p)
theorem pw_nb (f : Nat → Int32) {L j : Nat} (h : j ≤ L) : j ≤ pw_n f L j ∧ pw_n f L j ≤ L := by
  unfold pw_n
  by_cases c : pw_s f L j
  · rw [if_pos c]; have := ps_nb f (L := L) (j := j + 1) (by have := c.1; omega); omega
  · rw [if_neg c]; have := rn_Eb f (L - j) j; omega
theorem pp_nb (f : Nat → Int32) {L j : Nat} (h : j ≤ L) : j ≤ pp_n f L j ∧ pp_n f L j ≤ L := by
  unfold pp_n
  by_cases c : pp_d f L j
  · rw [if_pos c]; have := pw_nb f (L := L) (j := j + 1) (by have := c.1; omega); omega
  · rw [if_neg c]; omega
theorem pc_kb (f : Nat → Int32) {L j : Nat} (h : j ≤ L) : j ≤ pc_k f L j ∧ pc_k f L j ≤ L := by
  unfold pc_k
  by_cases c : pc_l f L j
  · rw [if_pos c]; have := c.1; omega
  · rw [if_neg c]; omega
theorem dr_b (f : Nat → Int32) {L p : Nat} (h : p < L) : p + 1 ≤ dr_1 f L p ∧ dr_1 f L p ≤ dr_2 f L p ∧ dr_2 f L p ≤ dr_3 f L p ∧ dr_3 f L p ≤ dr_4 f L p ∧ dr_4 f L p ≤ dr_k f L p ∧ dr_k f L p ≤ L ∧ dr_1 f L p ≤ L ∧ dr_2 f L p ≤ L ∧ dr_3 f L p ≤ L ∧ dr_4 f L p ≤ L := by
  have h1 := ps_nb f (L := L) (j := p + 1) (by omega)
  have h2 := fl_Eb f (L - dr_1 f L p) (dr_1 f L p)
  have e1 : dr_1 f L p = ps_n f L (p + 1) := rfl
  have e2 : dr_2 f L p = fl_E f (L - dr_1 f L p) (dr_1 f L p) := rfl
  have h3 := pw_nb f (L := L) (j := dr_2 f L p) (by omega)
  have e3 : dr_3 f L p = pw_n f L (dr_2 f L p) := rfl
  have h4 := pp_nb f (L := L) (j := dr_3 f L p) (by omega)
  have e4 : dr_4 f L p = pp_n f L (dr_3 f L p) := rfl
  have h5 := pc_kb f (L := L) (j := dr_4 f L p) (by omega)
  have e5 : dr_k f L p = pc_k f L (dr_4 f L p) := rfl
  omega
end
section
/-! pure rows: what a good directive is, slots, emission, digits, scanning -/
theorem dr_ok {f : Nat → Int32} {L p : Nat} (h : dr_r f L p = 0) : ¬ dr_v f L p < 0 ∧ pw_r f L (dr_2 f L p) = 0 ∧ pp_r f L (dr_3 f L p) = 0 ∧ pc_r f L (dr_4 f L p) = 0 := by
  unfold dr_r at h
  by_cases a : dr_v f L p < 0
  · rw [if_pos a] at h; rw [h] at a; exact absurd a (by decide)
  · rw [if_neg a] at h
    by_cases b : ¬ pw_r f L (dr_2 f L p) = 0
    · rw [if_pos b] at h; exact absurd h b
    · rw [if_neg b] at h
      by_cases c : ¬ pp_r f L (dr_3 f L p) = 0
      · rw [if_pos c] at h; exact absurd h c
      · rw [if_neg c] at h
        exact ⟨a, Decidable.not_not.mp b, Decidable.not_not.mp c, h⟩
theorem ps_vk {f : Nat → Int32} {L j : Nat} (h : ¬ ps_v f L j < 0) : ∃ k : Nat, k ≤ 8 ∧ ps_v f L j = nI k := by
  rcases ps_vr f L j with e | e
  · rw [e] at h; exact absurd (by decide) h
  · exact e
theorem pw_ok {f : Nat → Int32} {L j : Nat} (h : pw_r f L j = 0) : (pw_s f L j ∧ pw_w f L j = 0 ∧ ∃ k : Nat, k ≤ 8 ∧ pw_u f L j = nI k) ∨ (¬ pw_s f L j ∧ pw_u f L j = -1 ∧ pw_w f L j = rn_V f (L - j) j 0 ∧ pw_w f L j ≤ 99) := by
  unfold pw_r at h
  unfold pw_u pw_w
  by_cases c : pw_s f L j
  · rw [if_pos c] at h
    rw [if_pos c, if_pos c]
    refine Or.inl ⟨c, rfl, ?_⟩
    by_cases b : ps_v f L (j + 1) < 0
    · rw [if_pos b] at h; rw [h] at b; exact absurd b (by decide)
    · exact ps_vk b
  · rw [if_neg c] at h
    rw [if_neg c, if_neg c]
    refine Or.inr ⟨c, rfl, rfl, ?_⟩
    by_cases b : 99 < rn_V f (L - j) j 0
    · rw [if_pos b] at h; exact absurd h (by decide)
    · omega
theorem pp_ok {f : Nat → Int32} {L j : Nat} (h : pp_r f L j = 0) : (pp_p f L j = -1 ∧ pp_u f L j = -1) ∨ (pp_p f L j = -1 ∧ ∃ k : Nat, k ≤ 8 ∧ pp_u f L j = nI k) ∨ (pp_u f L j = -1 ∧ ∃ k : Nat, k ≤ 99 ∧ pp_p f L j = nI k) := by
  unfold pp_r at h
  unfold pp_u pp_p
  by_cases c : pp_d f L j
  · rw [if_pos c] at h
    rw [if_pos c, if_pos c]
    rcases pw_ok h with ⟨s, _, k, hk, e⟩ | ⟨s, e, e2, e3⟩
    · rw [if_pos s]; exact Or.inr (Or.inl ⟨rfl, k, hk, e⟩)
    · rw [if_neg s]; exact Or.inr (Or.inr ⟨e, _, by omega, rfl⟩)
  · rw [if_neg c, if_neg c]; exact Or.inl ⟨rfl, rfl⟩
theorem pc_ok {f : Nat → Int32} {L j : Nat} (h : pc_r f L j = 0) : pc_k f L j < L ∧ (cv_t (f (pc_k f L j)) ∨ ¬ cv_b (f (pc_k f L j)) = 0) ∧ ¬ (cv_t (f (pc_k f L j)) ∧ pc_l f L j) := by
  unfold pc_r at h
  by_cases a : L ≤ pc_k f L j
  · rw [if_pos a] at h; exact absurd h (by decide)
  · rw [if_neg a] at h
    by_cases b : ¬ cv_t (f (pc_k f L j)) ∧ cv_b (f (pc_k f L j)) = 0
    · rw [if_pos b] at h; exact absurd h (by decide)
    · rw [if_neg b] at h
      by_cases c : cv_t (f (pc_k f L j)) ∧ pc_l f L j
      · rw [if_pos c] at h; exact absurd h (by decide)
      · refine ⟨by omega, ?_, c⟩
        by_cases t : cv_t (f (pc_k f L j))
        · exact Or.inl t
        · exact Or.inr (fun z => b ⟨t, z⟩)
theorem cv_cases {c : Int32} (h : cv_t c ∨ ¬ cv_b c = 0) : c = 99 ∨ c = 115 ∨ c = 100 ∨ c = 117 ∨ c = 120 ∨ c = 88 ∨ c = 111 := by
  rcases h with (h | h) | h
  · exact Or.inl h
  · exact Or.inr (Or.inl h)
  · unfold cv_b at h
    by_cases a : c = 100 ∨ c = 117
    · rcases a with a | a
      · exact Or.inr (Or.inr (Or.inl a))
      · exact Or.inr (Or.inr (Or.inr (Or.inl a)))
    · rw [if_neg a] at h
      by_cases b : c = 120 ∨ c = 88
      · rcases b with b | b
        · exact Or.inr (Or.inr (Or.inr (Or.inr (Or.inl b))))
        · exact Or.inr (Or.inr (Or.inr (Or.inr (Or.inr (Or.inl b)))))
      · rw [if_neg b] at h
        by_cases d : c = 111
        · exact Or.inr (Or.inr (Or.inr (Or.inr (Or.inr (Or.inr d)))))
        · rw [if_neg d] at h; exact absurd rfl h

/-- the slot of a use (-1: none, 0: the next one, else a position) at the count s, and the count behind it -/
def sl_s (u : Int32) (s : Nat) : Int32 := if u = -1 then -1 else if u = 0 then nI s else u - 1
def sl_n (u : Int32) (s : Nat) : Nat := if u = 0 then s + 1 else s
theorem sl_nb (u : Int32) (s : Nat) : s ≤ sl_n u s ∧ sl_n u s ≤ s + 1 := by
  unfold sl_n
  by_cases h : u = 0
  · rw [if_pos h]; omega
  · rw [if_neg h]; omega
theorem sl_n1 (s : Nat) : sl_n (-1) s = s := rfl
theorem sl_s1 (s : Nat) : sl_s (-1) s = -1 := rfl
theorem sl_s0 (s : Nat) : sl_s 0 s = nI s := rfl
theorem sl_n0 (s : Nat) : sl_n 0 s = s + 1 := rfl
theorem sl_sk : ∀ k, k < 8 → ∀ s, sl_s (nI (k + 1)) s = nI k := by
  intro k hk s
  unfold sl_s
  have a : ¬ nI (k + 1) = -1 := by
    intro z
    have := congrArg Int32.toInt z
    rw [nI_toInt (by omega)] at this
    have e : (-1 : Int32).toInt = -1 := by decide
    omega
  have b : ¬ nI (k + 1) = 0 := nI_ne0 (by omega) (by omega)
  rw [if_neg a, if_neg b, nI_pred]
theorem sl_nk {k : Nat} (hk : k < 8) (s : Nat) : sl_n (nI (k + 1)) s = s := by
  unfold sl_n
  rw [if_neg (nI_ne0 (by omega) (by omega))]
/-- a use that is no error has a slot below 8 -/
theorem sl_in {u : Int32} {s : Nat} (hu : ∃ k : Nat, k ≤ 8 ∧ u = nI k) (hs : sl_n u s ≤ 8) : ∃ j : Nat, j < 8 ∧ sl_s u s = nI j := by
  obtain ⟨k, hk, rfl⟩ := hu
  cases k with
  | zero =>
    have e : sl_n (nI 0) s = s + 1 := sl_n0 s
    exact ⟨s, by omega, sl_s0 s⟩
  | succ k => exact ⟨k, by omega, sl_sk k (by omega) s⟩

/-- items of a format -/
abbrev it_lit (f : Nat → Int32) (L p : Nat) (c : Int32) (q : Nat) : Prop := p < L ∧ ((¬ f p = 37 ∧ c = f p ∧ q = p + 1) ∨ (f p = 37 ∧ p + 1 < L ∧ f (p + 1) = 37 ∧ c = 37 ∧ q = p + 2))
abbrev it_pc (f : Nat → Int32) (L p : Nat) : Prop := p < L ∧ f p = 37 ∧ ¬ (p + 1 < L ∧ f (p + 1) = 37)
theorem it_q {f : Nat → Int32} {L p q : Nat} {c : Int32} (h : it_lit f L p c q) : p < q ∧ q ≤ L := by
  rcases h with ⟨a, ⟨_, _, rfl⟩ | ⟨_, b, _, _, rfl⟩⟩ <;> omega
theorem it_c {f : Nat → Int32} {L p q : Nat} {c : Int32} (hf : ∀ j, ar_ch (f j)) (h : it_lit f L p c q) : ar_ch c := by
  rcases h with ⟨a, ⟨_, rfl, _⟩ | ⟨_, b, _, rfl, _⟩⟩
  · exact hf _
  · exact ⟨37, by decide, rfl⟩
/-- what a row of the table holds for the directive at p, the count of sequential uses being s -/
def tb_row (f : Nat → Int32) (L : Nat) (ak afl awd apr aws aps avs : Nat → Int32) (e p s t : Nat) : Prop :=
  ak e = dr_c f L p + nI (256 * dr_g f L p) ∧ afl e = nI (dr_m f L p) ∧ awd e = nI (dr_w f L p) ∧ apr e = dr_p f L p ∧
  aws e = sl_s (dr_wu f L p) s ∧ aps e = sl_s (dr_pu f L p) (sl_n (dr_wu f L p) s) ∧ avs e = sl_s (dr_v f L p) (sl_n (dr_pu f L p) (sl_n (dr_wu f L p) s)) ∧
  t = sl_n (dr_v f L p) (sl_n (dr_pu f L p) (sl_n (dr_wu f L p) s)) ∧ t ≤ 8
/-- the literal entry e: n items from place p to place q; T literal chars stand in the table -/
def tb_lit (f : Nat → Int32) (L T : Nat) (ak als ale aws aps ali : Nat → Int32) (e p q : Nat) : Prop :=
  ak e = 0 ∧ aws e = -1 ∧ aps e = -1 ∧ ∃ (s n : Nat) (r : Nat → Nat), als e = nI s ∧ ale e = nI (s + n) ∧ s + n ≤ T ∧ 0 < n ∧ r 0 = p ∧ r n = q ∧ ∀ j, j < n → it_lit f L (r j) (ali (s + j)) (r (j + 1))
def tb_dir (f : Nat → Int32) (L : Nat) (ak afl awd apr aws aps avs : Nat → Int32) (e p q s t : Nat) : Prop :=
  it_pc f L p ∧ dr_r f L p = 0 ∧ q = dr_k f L p + 1 ∧ tb_row f L ak afl awd apr aws aps avs e p s t
def tb_ent (f : Nat → Int32) (L T : Nat) (ak als ale afl awd apr aws aps avs ali : Nat → Int32) (e p q s t : Nat) : Prop :=
  (tb_lit f L T ak als ale aws aps ali e p q ∧ t = s) ∨ tb_dir f L ak afl awd apr aws aps avs e p q s t
/-- E entries, at the places pe 0 .. pe E; se: the count of sequential uses ahead of each -/
def tb_tab (f : Nat → Int32) (L T : Nat) (ak als ale afl awd apr aws aps avs ali : Nat → Int32) (E : Nat) (pe se : Nat → Nat) : Prop :=
  pe 0 = 0 ∧ se 0 = 0 ∧ (∀ e, e < E → tb_ent f L T ak als ale afl awd apr aws aps avs ali e (pe e) (pe (e + 1)) (se e) (se (e + 1))) ∧
  (∀ e, e + 1 < E → ak e = 0 → ¬ ak (e + 1) = 0)
theorem tb_litc {f : Nat → Int32} {L T T' : Nat} {ak als ale aws aps ali ak' als' ale' aws' aps' ali' : Nat → Int32} {e p q : Nat} (hT : T ≤ T') (h1 : ak' e = ak e) (h2 : als' e = als e) (h3 : ale' e = ale e) (h5 : aws' e = aws e) (h6 : aps' e = aps e) (h4 : ∀ j, j < T → ali' j = ali j) (h : tb_lit f L T ak als ale aws aps ali e p q) : tb_lit f L T' ak' als' ale' aws' aps' ali' e p q := by
  obtain ⟨a, a5, a6, s, n, r, b1, b2, b3, b4, b5, b6, b7⟩ := h
  refine ⟨h1.trans a, h5.trans a5, h6.trans a6, s, n, r, h2.trans b1, h3.trans b2, by omega, b4, b5, b6, fun j hj => ?_⟩
  rw [h4 (s + j) (by omega)]
  exact b7 j hj
theorem tb_rowc {f : Nat → Int32} {L : Nat} {ak afl awd apr aws aps avs ak' afl' awd' apr' aws' aps' avs' : Nat → Int32} {e p s t : Nat} (h1 : ak' e = ak e) (h2 : afl' e = afl e) (h3 : awd' e = awd e) (h4 : apr' e = apr e) (h5 : aws' e = aws e) (h6 : aps' e = aps e) (h7 : avs' e = avs e) (h : tb_row f L ak afl awd apr aws aps avs e p s t) : tb_row f L ak' afl' awd' apr' aws' aps' avs' e p s t := by
  obtain ⟨b1, b2, b3, b4, b5, b6, b7, b8⟩ := h
  exact ⟨h1.trans b1, h2.trans b2, h3.trans b3, h4.trans b4, h5.trans b5, h6.trans b6, h7.trans b7, b8⟩
theorem tb_less {f : Nat → Int32} {L T : Nat} {ak als ale afl awd apr aws aps avs ali : Nat → Int32} {E E' : Nat} {pe se : Nat → Nat} (hE : E' ≤ E) (h : tb_tab f L T ak als ale afl awd apr aws aps avs ali E pe se) : tb_tab f L T ak als ale afl awd apr aws aps avs ali E' pe se := by
  obtain ⟨a, b, c, d⟩ := h
  exact ⟨a, b, fun e he => c e (by omega), fun e he => d e (by omega)⟩
/-- rows written at E or beyond, and chars at T or beyond, change nothing of E entries -/
theorem tb_keep {f : Nat → Int32} {L T T' : Nat} {ak als ale afl awd apr aws aps avs ali ak' als' ale' afl' awd' apr' aws' aps' avs' ali' : Nat → Int32} {E : Nat} {pe se pe' se' : Nat → Nat} (hT : T ≤ T')
    (h1 : ∀ e, e < E → ak' e = ak e) (h2 : ∀ e, e < E → als' e = als e) (h3 : ∀ e, e < E → ale' e = ale e) (h4 : ∀ e, e < E → afl' e = afl e) (h5 : ∀ e, e < E → awd' e = awd e) (h6 : ∀ e, e < E → apr' e = apr e) (h7 : ∀ e, e < E → aws' e = aws e) (h8 : ∀ e, e < E → aps' e = aps e) (h9 : ∀ e, e < E → avs' e = avs e) (hl : ∀ j, j < T → ali' j = ali j)
    (hp : ∀ j, j ≤ E → pe' j = pe j) (hs : ∀ j, j ≤ E → se' j = se j) (h : tb_tab f L T ak als ale afl awd apr aws aps avs ali E pe se) : tb_tab f L T' ak' als' ale' afl' awd' apr' aws' aps' avs' ali' E pe' se' := by
  obtain ⟨a, b, c, d⟩ := h
  refine ⟨(hp 0 (by omega)).trans a, (hs 0 (by omega)).trans b, fun e he => ?_, fun e he => ?_⟩
  · rw [hp e (by omega), hp (e + 1) (by omega), hs e (by omega), hs (e + 1) (by omega)]
    rcases c e he with ⟨x, y⟩ | ⟨x1, x2, x3, x4⟩
    · exact Or.inl ⟨tb_litc hT (h1 e he) (h2 e he) (h3 e he) (h7 e he) (h8 e he) hl x, y⟩
    · exact Or.inr ⟨x1, x2, x3, tb_rowc (h1 e he) (h4 e he) (h5 e he) (h6 e he) (h7 e he) (h8 e he) (h9 e he) x4⟩
  · rw [h1 e (by omega), h1 (e + 1) he]
    exact d e he
theorem tb_more {f : Nat → Int32} {L T : Nat} {ak als ale afl awd apr aws aps avs ali : Nat → Int32} {E : Nat} {pe se : Nat → Nat} (h : tb_tab f L T ak als ale afl awd apr aws aps avs ali E pe se) (he : tb_ent f L T ak als ale afl awd apr aws aps avs ali E (pe E) (pe (E + 1)) (se E) (se (E + 1))) (ha : 0 < E → ak (E - 1) = 0 → ¬ ak E = 0) : tb_tab f L T ak als ale afl awd apr aws aps avs ali (E + 1) pe se := by
  obtain ⟨a, b, c, d⟩ := h
  refine ⟨a, b, fun e h => ?_, fun e h => ?_⟩
  · by_cases x : e = E
    · rw [x]; exact he
    · exact c e (by omega)
  · by_cases x : e + 1 = E
    · have := ha (by omega)
      rw [show E - 1 = e by omega] at this
      rw [x]
      exact this
    · exact d e (by omega)
/-- one more place at the end -/
def tb_at (pe : Nat → Nat) (E q : Nat) : Nat → Nat := fun j => if j = E then q else pe j
theorem tb_atE (pe : Nat → Nat) (E q : Nat) : tb_at pe E q E = q := if_pos rfl
theorem tb_atn {pe : Nat → Nat} {E q j : Nat} (h : ¬ j = E) : tb_at pe E q j = pe j := if_neg h

/-- chars put one behind another, within M -/
def ef_x (M : Nat) (D : Nat → Int32) (n : Nat) (c : Int32) : Nat → Int32 := if n < M then upd D n c else D
def ef_f (M : Nat) (c : Nat → Int32) (D : Nat → Int32) (n : Nat) : Nat → (Nat → Int32)
  | 0 => D
  | k + 1 => ef_x M (ef_f M c D n k) (n + k) (c k)
theorem ef_add (M : Nat) (c D : Nat → Int32) (n a : Nat) : ∀ b, ef_f M c D n (a + b) = ef_f M (fun j => c (a + j)) (ef_f M c D n a) (n + a) b := by
  intro b
  induction b with
  | zero => rfl
  | succ b ih =>
    show ef_x M (ef_f M c D n (a + b)) (n + (a + b)) (c (a + b)) = ef_x M (ef_f M (fun j => c (a + j)) (ef_f M c D n a) (n + a) b) (n + a + b) (c (a + b))
    rw [ih, Nat.add_assoc]
theorem ef_cg (M : Nat) {c c' : Nat → Int32} (D : Nat → Int32) (n : Nat) : ∀ k, (∀ j, j < k → c j = c' j) → ef_f M c D n k = ef_f M c' D n k := by
  intro k
  induction k with
  | zero => intro _; rfl
  | succ k ih =>
    intro h
    show ef_x M (ef_f M c D n k) (n + k) (c k) = ef_x M (ef_f M c' D n k) (n + k) (c' k)
    rw [ih (fun j hj => h j (by omega)), h k (by omega)]
theorem ef_lo (M : Nat) (c D : Nat → Int32) (n : Nat) {i : Nat} (hi : i < n) : ∀ k, ef_f M c D n k i = D i := by
  intro k
  induction k with
  | zero => rfl
  | succ k ih =>
    show ef_x M (ef_f M c D n k) (n + k) (c k) i = D i
    unfold ef_x
    by_cases h : n + k < M
    · rw [if_pos h, pk_un (by omega), ih]
    · rw [if_neg h, ih]
theorem ef_at (M : Nat) (c D : Nat → Int32) (n : Nat) : ∀ k, n + k ≤ M → ∀ i, i < k → ef_f M c D n k (n + i) = c i := by
  intro k
  induction k with
  | zero => intro _ i hi; exact absurd hi (by omega)
  | succ k ih =>
    intro hk i hi
    show ef_x M (ef_f M c D n k) (n + k) (c k) (n + i) = c i
    unfold ef_x
    rw [if_pos (show n + k < M by omega)]
    by_cases e : i = k
    · rw [e, pk_us]
    · rw [pk_un (by omega), ih (by omega) i (by omega)]
theorem ef_xc (M : Nat) {D : Nat → Int32} {n : Nat} {c : Int32} (h : ∀ j, ar_ch (D j)) (hc : ar_ch c) : ∀ j, ar_ch (ef_x M D n c j) := by
  unfold ef_x
  by_cases e : n < M
  · rw [if_pos e]; exact ar_chu h hc
  · rw [if_neg e]; exact h
theorem ef_ch (M : Nat) {c D : Nat → Int32} (n : Nat) (h : ∀ j, ar_ch (D j)) : ∀ k, (∀ j, j < k → ar_ch (c j)) → ∀ j, ar_ch (ef_f M c D n k j) := by
  intro k
  induction k with
  | zero => intro _; exact h
  | succ k ih =>
    intro hc
    exact ef_xc M (ih (fun j hj => hc j (by omega))) (hc k (by omega))

/-- C is the number of digits of N in base b -/
abbrev dt_C (b N C : Nat) : Prop := 1 ≤ C ∧ N / b ^ C = 0 ∧ ∀ i, 1 ≤ i → i < C → ¬ N / b ^ i = 0
theorem dt_big {b N : Nat} (hb : 8 ≤ b) (hN : N < 2 ^ 64) : N / b ^ 22 = 0 := by
  apply Nat.div_eq_of_lt
  have h : 8 ^ 22 ≤ b ^ 22 := Nat.pow_le_pow_left hb 22
  have e : (2 : Nat) ^ 64 ≤ 8 ^ 22 := by decide
  omega
theorem dt_ex {b N : Nat} (hb : 8 ≤ b) (hN : N < 2 ^ 64) : ∃ C, dt_C b N C ∧ C ≤ 22 := by
  obtain ⟨k, ⟨h1, h2⟩, h3⟩ := pk_least (fun k => 1 ≤ k ∧ N / b ^ k = 0) ⟨22, by omega, dt_big hb hN⟩
  refine ⟨k, ⟨h1, h2, fun i i1 i2 z => h3 i i2 ⟨i1, z⟩⟩, ?_⟩
  by_cases h : k ≤ 22
  · exact h
  · exact absurd ⟨by omega, dt_big hb hN⟩ (h3 22 (by omega))
theorem dt_top {b N C : Nat} (hb : 8 ≤ b) (h : dt_C b N C) (hN : ¬ N = 0) : ¬ N / b ^ (C - 1) % b = 0 := by
  obtain ⟨h1, h2, h3⟩ := h
  have hn : ¬ N / b ^ (C - 1) = 0 := by
    by_cases e : C = 1
    · rw [e]; simpa using hN
    · exact h3 (C - 1) (by omega) (by omega)
  have hl : N / b ^ (C - 1) < b := by
    have e : N / b ^ (C - 1) / b = 0 := by
      rw [Nat.div_div_eq_div_mul, ← Nat.pow_succ, show (C - 1).succ = C by omega]
      exact h2
    exact (Nat.div_eq_zero_iff_lt (by omega)).mp e
  rw [Nat.mod_eq_of_lt hl]
  exact hn
theorem dt_zero {b C : Nat} (h : dt_C b 0 C) : C = 1 := by
  obtain ⟨h1, h2, h3⟩ := h
  by_cases e : C = 1
  · exact e
  · exact absurd (Nat.zero_div _) (h3 1 (by omega) (by omega))
theorem dt_s (b N i : Nat) : N / b ^ i / b = N / b ^ (i + 1) := by
  rw [Nat.div_div_eq_div_mul, ← Nat.pow_succ]
theorem dt_half {R h : Nat} : R / 2 / h = R / (2 * h) := by rw [Nat.div_div_eq_div_mul]
/-- the class's step: (R >>> 1) / (b / 2), and the rest -/
theorem dt_x {R h : Nat} (h0 : 0 < h) : R - R / 2 / h * h * 2 = R % (2 * h) ∧ R / 2 / h * h * 2 ≤ R := by
  rw [dt_half, Nat.mul_assoc, Nat.mul_comm h 2]
  have := Nat.div_add_mod' R (2 * h)
  omega

/-- blanks of the input -/
abbrev sk_w (c : Int32) : Prop := c = 32 ∨ (9 ≤ c ∧ c ≤ 13)
def sk_E (f : Nat → Int32) : Nat → Nat → Nat
  | 0, j => j
  | n + 1, j => if sk_w (f j) then sk_E f n (j + 1) else j
theorem sk_Eb (f : Nat → Int32) : ∀ n j, j ≤ sk_E f n j ∧ sk_E f n j ≤ j + n := by
  intro n
  induction n with
  | zero => intro j; exact ⟨Nat.le_refl _, Nat.le_refl _⟩
  | succ n ih =>
    intro j
    unfold sk_E
    by_cases h : sk_w (f j)
    · rw [if_pos h]; have := ih (j + 1); omega
    · rw [if_neg h]; omega
theorem sk_E0 (f : Nat → Int32) {n j : Nat} (h : ¬ sk_w (f j)) : sk_E f n j = j := by
  cases n with
  | zero => rfl
  | succ n => unfold sk_E; rw [if_neg h]
theorem sk_Es (f : Nat → Int32) {n j : Nat} (h : sk_w (f j)) : sk_E f (n + 1) j = sk_E f n (j + 1) := by
  rw [sk_E, if_pos h]
/-- the value of a digit char, 16 for any other -/
def dv_v (c : Int32) : Nat := if 48 ≤ c ∧ c ≤ 57 then c.toNatClampNeg - 48 else if 97 ≤ c ∧ c ≤ 102 then c.toNatClampNeg - 87 else if 65 ≤ c ∧ c ≤ 70 then c.toNatClampNeg - 55 else 16
theorem dv_rng {c : Int32} {a b : Nat} (ha : a < 2 ^ 31) (hb : b < 2 ^ 31) (h : nI a ≤ c ∧ c ≤ nI b) : ∃ j : Nat, a ≤ j ∧ j ≤ b ∧ c = nI j := by
  obtain ⟨j, hj, rfl⟩ := nI_of (x := c) (Int32.not_lt.mpr (Int32.le_trans (nI_pos' ha) h.1))
  exact ⟨j, (nI_leI ha hj).mp h.1, (nI_leI hj hb).mp h.2, rfl⟩
theorem dv_b (c : Int32) : dv_v c ≤ 16 := by
  unfold dv_v
  by_cases a : 48 ≤ c ∧ c ≤ 57
  · obtain ⟨j, h1, h2, rfl⟩ := dv_rng (a := 48) (b := 57) (by decide) (by decide) a
    rw [if_pos a, nI_clamp (by omega)]; omega
  · rw [if_neg a]
    by_cases b : 97 ≤ c ∧ c ≤ 102
    · obtain ⟨j, h1, h2, rfl⟩ := dv_rng (a := 97) (b := 102) (by decide) (by decide) b
      rw [if_pos b, nI_clamp (by omega)]; omega
    · rw [if_neg b]
      by_cases d : 65 ≤ c ∧ c ≤ 70
      · obtain ⟨j, h1, h2, rfl⟩ := dv_rng (a := 65) (b := 70) (by decide) (by decide) d
        rw [if_pos d, nI_clamp (by omega)]; omega
      · rw [if_neg d]; exact Nat.le_refl _
/-- digits of the input: n chars left, a budget b, a place; the end, the budget left and the value -/
def dg_E (f : Nat → Int32) (base : Nat) : Nat → Nat → Nat → Nat
  | 0, _, j => j
  | _ + 1, 0, j => j
  | n + 1, b + 1, j => if dv_v (f j) < base then dg_E f base n b (j + 1) else j
def dg_V (f : Nat → Int32) (base : Nat) : Nat → Nat → Nat → Int64 → Int64
  | 0, _, _, v => v
  | _ + 1, 0, _, v => v
  | n + 1, b + 1, j, v => if dv_v (f j) < base then dg_V f base n b (j + 1) (v * (nI base).toInt64 + (nI (dv_v (f j))).toInt64) else v
theorem dg_Eb (f : Nat → Int32) (base : Nat) : ∀ n b j, j ≤ dg_E f base n b j ∧ dg_E f base n b j ≤ j + n := by
  intro n
  induction n with
  | zero => intro b j; unfold dg_E; omega
  | succ n ih =>
    intro b j
    cases b with
    | zero => unfold dg_E; omega
    | succ b =>
      unfold dg_E
      by_cases h : dv_v (f j) < base
      · rw [if_pos h]; have := ih b (j + 1); omega
      · rw [if_neg h]; omega
/-- a packed text of the input: at most b chars, k are taken -/
abbrev st_g (c : Int32) : Prop := ¬ c < 1 ∧ c ≤ 255 ∧ ¬ sk_w c
def st_E (f : Nat → Int32) : Nat → Nat → Nat → Nat
  | 0, _, j => j
  | _ + 1, 0, j => j
  | n + 1, b + 1, j => if st_g (f j) then st_E f n b (j + 1) else j
def st_V (f : Nat → Int32) : Nat → Nat → Nat → Nat → Int64 → Int64
  | 0, _, _, _, v => v
  | _ + 1, 0, _, _, v => v
  | n + 1, b + 1, k, j, v => if st_g (f j) then st_V f n b (k + 1) (j + 1) (v + ((f j).toInt64 <<< ((8 * nI k).toInt64 &&& 63))) else v
theorem st_Eb (f : Nat → Int32) : ∀ n b j, j ≤ st_E f n b j ∧ st_E f n b j ≤ j + n := by
  intro n
  induction n with
  | zero => intro b j; unfold st_E; omega
  | succ n ih =>
    intro b j
    cases b with
    | zero => unfold st_E; omega
    | succ b =>
      unfold st_E
      by_cases h : st_g (f j)
      · rw [if_pos h]; have := ih b (j + 1); omega
      · rw [if_neg h]; omega
end
section
/-! pure rows: uses of a compile, the text of a conversion -/
def us_r (u : Int32) (s b : Nat) : Int32 := if u = 0 then (if ¬ b = 0 then -4 else if 8 ≤ s then -6 else nI s) else (if 0 < s then -4 else u - 1)
def us_b (u : Int32) (b : Nat) : Nat := if u = -1 then b else if u = 0 then b else b ||| 2 ^ (u.toNatClampNeg - 1)
def us_l (b : Nat) : Nat := if b < 1 then 0 else if b < 2 then 1 else if b < 4 then 2 else if b < 8 then 3 else if b < 16 then 4 else if b < 32 then 5 else if b < 64 then 6 else if b < 128 then 7 else 8
def us_m (s b : Nat) : Int32 := if ¬ b = 0 then 2 else if 0 < s then 1 else 0
abbrev us_I (s b : Nat) : Prop := (s = 0 ∨ b = 0) ∧ b < 256 ∧ s ≤ 8
theorem us_t1 : ∀ b, b < 256 → ∀ k, k < 8 → b ||| 2 ^ k < 256 ∧ ¬ (b ||| 2 ^ k) = 0 := by decide +kernel
theorem us_t2 : ∀ b, b < 256 → ∀ k, k < 8 → us_l (b ||| 2 ^ k) = (if us_l b < k + 1 then k + 1 else us_l b) := by decide +kernel
theorem us_t3 : ∀ b, b < 256 → ∀ k, k < 8 → nI b ||| ((1 : Int32) <<< (nI k &&& 31)) = nI (b ||| 2 ^ k) := by decide +kernel
theorem us_t4 : ∀ b, b < 256 → ∀ k, k < 9 → nI b >>> (nI k &&& 31) = nI (b / 2 ^ k) := by decide +kernel
theorem us_t5 : ∀ b, b < 256 → ∀ k, k < 9 → nI (b / 2 ^ k) &&& 1 = nI (b / 2 ^ k % 2) := by decide +kernel
theorem us_t6 : ∀ b, b < 256 → ∀ t, t < 9 → b / 2 ^ t = 0 → (t = 0 ∨ b / 2 ^ (t - 1) % 2 = 1) → us_l b = t := by decide +kernel
theorem us_t7 : ∀ b, b < 256 → ∀ t, t < 9 → ¬ b / 2 ^ t = 0 → t < us_l b := by decide +kernel
theorem us_t8 : ∀ b, b < 256 → us_l b ≤ 8 ∧ (us_l b = 0 ↔ b = 0) := by decide +kernel
theorem us_n1 {n : Nat} (h : n < 2 ^ 31) : ¬ nI n = -1 := by
  intro z
  have := congrArg Int32.toInt z
  rw [nI_toInt h] at this
  have e : (-1 : Int32).toInt = -1 := by decide
  omega
theorem us_bk {k : Nat} (hk : k < 8) (b : Nat) : us_b (nI (k + 1)) b = b ||| 2 ^ k := by
  unfold us_b
  rw [if_neg (us_n1 (by omega)), if_neg (nI_ne0 (by omega) (by omega)), nI_clamp (by omega), Nat.add_sub_cancel]
theorem us_b0 (b : Nat) : us_b 0 b = b := rfl
theorem us_r0 (s b : Nat) : us_r 0 s b = if ¬ b = 0 then -4 else if 8 ≤ s then -6 else nI s := rfl
theorem us_rk {k : Nat} (hk : k < 8) (s b : Nat) : us_r (nI (k + 1)) s b = if 0 < s then -4 else nI k := by
  unfold us_r
  rw [if_neg (nI_ne0 (by omega) (by omega)), nI_pred]
/-- a use is refused, or takes the slot that sl_s tells -/
theorem us_cs {u : Int32} {s b : Nat} (hu : ∃ k : Nat, k ≤ 8 ∧ u = nI k) (I : us_I s b) : (us_r u s b < 0) ∨ (¬ us_r u s b < 0 ∧ us_r u s b = sl_s u s ∧ us_I (sl_n u s) (us_b u b)) := by
  obtain ⟨k, hk, rfl⟩ := hu
  obtain ⟨I1, I2, I3⟩ := I
  cases k with
  | zero =>
    rw [nI_0, us_r0]
    by_cases h1 : ¬ b = 0
    · rw [if_pos h1]; exact Or.inl (by decide)
    · rw [if_neg h1]
      by_cases h2 : 8 ≤ s
      · rw [if_pos h2]; exact Or.inl (by decide)
      · rw [if_neg h2]
        refine Or.inr ⟨nI_pos (by omega), rfl, ?_⟩
        rw [sl_n0, us_b0]
        exact ⟨Or.inr (Decidable.not_not.mp h1), I2, by omega⟩
  | succ k =>
    rw [us_rk (by omega)]
    by_cases h1 : 0 < s
    · rw [if_pos h1]; exact Or.inl (by decide)
    · rw [if_neg h1]
      refine Or.inr ⟨nI_pos (by omega), (sl_sk k (by omega) s).symm, ?_⟩
      rw [sl_nk (by omega), us_bk (by omega)]
      exact ⟨Or.inl (by omega), (us_t1 b I2 k (by omega)).1, I3⟩

/-- the error of a use, -1 being no use at all -/
def us_e (u : Int32) (s b : Nat) : Int32 := if u = -1 then 0 else if us_r u s b < 0 then us_r u s b else 0
/-- the error of a directive's uses -/
def tk_r (d : Nat) (wu pu vu : Int32) (s b : Nat) : Int32 := if 16 < d + 1 then -6 else if ¬ us_e wu s b = 0 then us_e wu s b else if ¬ us_e pu (sl_n wu s) (us_b wu b) = 0 then us_e pu (sl_n wu s) (us_b wu b) else us_e vu (sl_n pu (sl_n wu s)) (us_b pu (us_b wu b))
/-- bits of the flags -/
theorem fl_b : ∀ m, m < 32 → ((nI m &&& 1 = 0 ↔ m % 2 = 0) ∧ (nI m &&& 2 = 0 ↔ m / 2 % 2 = 0) ∧ (nI m &&& 4 = 0 ↔ m / 4 % 2 = 0)) := by decide +kernel
theorem fl_b2 : ∀ m, m < 32 → ((nI m &&& 8 = 0 ↔ m / 8 % 2 = 0) ∧ (nI m &&& 16 = 0 ↔ m / 16 % 2 = 0)) := by decide +kernel
theorem fl_ob : ∀ m, m < 32 → (nI m ||| 1 = nI (m ||| 1) ∧ nI m ||| 2 = nI (m ||| 2) ∧ nI m ||| 4 = nI (m ||| 4) ∧ nI m ||| 8 = nI (m ||| 8)) ∧ nI m ||| 16 = nI (m ||| 16) := by decide +kernel
theorem fl_y1 : ∀ m, m < 32 → (m ||| 1) % 2 = 1 ∧ (m ||| 1) / 2 % 2 = m / 2 % 2 ∧ (m ||| 1) / 4 % 2 = m / 4 % 2 ∧ (m ||| 1) / 8 % 2 = m / 8 % 2 ∧ (m ||| 1) / 16 % 2 = m / 16 % 2 := by decide +kernel
theorem fl_y2 : ∀ m, m < 32 → (m ||| 2) % 2 = m % 2 ∧ (m ||| 2) / 2 % 2 = 1 ∧ (m ||| 2) / 4 % 2 = m / 4 % 2 ∧ (m ||| 2) / 8 % 2 = m / 8 % 2 ∧ (m ||| 2) / 16 % 2 = m / 16 % 2 := by decide +kernel
theorem fl_y3 : ∀ m, m < 32 → (m ||| 4) % 2 = m % 2 ∧ (m ||| 4) / 2 % 2 = m / 2 % 2 ∧ (m ||| 4) / 4 % 2 = 1 ∧ (m ||| 4) / 8 % 2 = m / 8 % 2 ∧ (m ||| 4) / 16 % 2 = m / 16 % 2 := by decide +kernel
theorem fl_y4 : ∀ m, m < 32 → (m ||| 8) % 2 = m % 2 ∧ (m ||| 8) / 2 % 2 = m / 2 % 2 ∧ (m ||| 8) / 4 % 2 = m / 4 % 2 ∧ (m ||| 8) / 8 % 2 = 1 ∧ (m ||| 8) / 16 % 2 = m / 16 % 2 := by decide +kernel
theorem fl_y5 : ∀ m, m < 32 → (m ||| 16) % 2 = m % 2 ∧ (m ||| 16) / 2 % 2 = m / 2 % 2 ∧ (m ||| 16) / 4 % 2 = m / 4 % 2 ∧ (m ||| 16) / 8 % 2 = m / 8 % 2 ∧ (m ||| 16) / 16 % 2 = 1 := by decide +kernel

/-- the text of a number: its parts -/
def nt_v (c : Int32) (g : Nat) (a : Int64) : Int64 := if g = 1 then a else if c = 100 then a.toInt32.toInt64 else a &&& 4294967295
def nt_sg (c : Int32) (m : Nat) (v : Int64) : Int32 := if c = 100 then (if v < 0 then 45 else if m / 2 % 2 = 1 then 43 else if m / 4 % 2 = 1 then 32 else 0) else 0
abbrev nt_hx (c : Int32) (m : Nat) (v : Int64) : Prop := cv_b c = 16 ∧ m / 16 % 2 = 1 ∧ ¬ v = 0
def nt_pl (c : Int32) (m : Nat) (v : Int64) : Nat := if nt_hx c m v then 2 else if nt_sg c m v = 0 then 0 else 1
def nt_pre (c : Int32) (m : Nat) (v : Int64) : Nat → Int32 := fun j => if nt_hx c m v then (if j = 0 then 48 else c) else nt_sg c m v
def nt_nd (v : Int64) (P : Int32) (C : Nat) : Nat := if v = 0 ∧ P = 0 then 0 else C
def nt_z0 (P : Int32) (nd : Nat) : Nat := P.toNatClampNeg - nd
def nt_z1 (c : Int32) (m z0 : Nat) (v : Int64) (nd : Nat) : Nat := if c = 111 ∧ m / 16 % 2 = 1 ∧ ¬ (0 < z0 ∨ (v = 0 ∧ 0 < nd)) then 1 else z0
def nt_z2 (m : Nat) (left : Bool) (P : Int32) (W pl z1 nd : Nat) : Nat := if m / 8 % 2 = 1 ∧ ¬ left = true ∧ P = -1 ∧ pl + z1 + nd < W then W - pl - nd else z1
/-- a digit's char -/
def nt_dc (c : Int32) (d : Nat) : Int32 := if d < 10 then nI (48 + d) else if c = 88 then nI (55 + d) else nI (87 + d)
def nt_dg (c : Int32) (N nd : Nat) : Nat → Int32 := fun j => nt_dc c (N / cv_b c ^ (nd - 1 - j) % cv_b c)
def nt_T (c : Int32) (m : Nat) (v : Int64) (N z nd : Nat) : Nat → Int32 := fun j => if j < nt_pl c m v then nt_pre c m v j else if j < nt_pl c m v + z then 48 else nt_dg c N nd (j - nt_pl c m v - z)
theorem nt_dch (c : Int32) {d : Nat} (h : d < 16) : ar_ch (nt_dc c d) := by
  unfold nt_dc
  by_cases h1 : d < 10
  · rw [if_pos h1]; exact ar_nI (by omega)
  · rw [if_neg h1]
    by_cases h2 : c = 88
    · rw [if_pos h2]; exact ar_nI (by omega)
    · rw [if_neg h2]; exact ar_nI (by omega)
/-- a text of tl chars, padded to the width W, behind n chars of D -/
def em_o (left : Bool) (W tl : Nat) (T D : Nat → Int32) (n : Nat) : Nat → Int32 :=
  if left = true then ef_f 256 (fun _ => 32) (ef_f 256 T D n tl) (n + tl) (W - tl) else ef_f 256 T (ef_f 256 (fun _ => 32) D n (W - tl)) (n + (W - tl)) tl
theorem em_cg {left : Bool} {W tl : Nat} {T T' D : Nat → Int32} {n : Nat} (h : ∀ j, j < tl → T j = T' j) : em_o left W tl T D n = em_o left W tl T' D n := by
  unfold em_o
  rw [ef_cg 256 D n tl h, ef_cg 256 _ (n + (W - tl)) tl h]
theorem em_ch {left : Bool} {W tl : Nat} {T D : Nat → Int32} {n : Nat} (hD : ∀ j, ar_ch (D j)) (h : ∀ j, j < tl → ar_ch (T j)) : ∀ j, ar_ch (em_o left W tl T D n j) := by
  unfold em_o
  by_cases l : left = true
  · rw [if_pos l]
    exact ef_ch 256 _ (ef_ch 256 _ hD _ h) _ (fun _ _ => ⟨32, by decide, rfl⟩)
  · rw [if_neg l]
    exact ef_ch 256 _ (ef_ch 256 _ hD _ (fun _ _ => ⟨32, by decide, rfl⟩)) _ h

/-- what a directive asks for, its stars looked up: aa the arguments, s the count of sequential uses ahead of it -/
def ev_a (aa : Nat → Int64) (u : Int32) (s : Nat) : Int32 := (aa (sl_s u s).toNatClampNeg).toInt32
def ev_wv (f : Nat → Int32) (L : Nat) (aa : Nat → Int64) (p s : Nat) : Int32 := ev_a aa (dr_wu f L p) s
def ev_pv (f : Nat → Int32) (L : Nat) (aa : Nat → Int64) (p s : Nat) : Int32 := ev_a aa (dr_pu f L p) (sl_n (dr_wu f L p) s)
def ev_W (f : Nat → Int32) (L : Nat) (aa : Nat → Int64) (p s : Nat) : Nat := if dr_wu f L p = -1 then dr_w f L p else (if ev_wv f L aa p s < 0 then - ev_wv f L aa p s else ev_wv f L aa p s).toNatClampNeg
def ev_P (f : Nat → Int32) (L : Nat) (aa : Nat → Int64) (p s : Nat) : Int32 := if dr_pu f L p = -1 then dr_p f L p else if ev_pv f L aa p s < 0 then -1 else ev_pv f L aa p s
def ev_L (f : Nat → Int32) (L : Nat) (aa : Nat → Int64) (p s : Nat) : Bool := decide (dr_m f L p % 2 = 1 ∨ (¬ dr_wu f L p = -1 ∧ ev_wv f L aa p s < 0))
def ev_V (f : Nat → Int32) (L : Nat) (p s : Nat) : Int32 := sl_s (dr_v f L p) (sl_n (dr_pu f L p) (sl_n (dr_wu f L p) s))
abbrev ev_gw (f : Nat → Int32) (L : Nat) (aa : Nat → Int64) (p s : Nat) : Prop := ¬ dr_wu f L p = -1 → -99 ≤ ev_wv f L aa p s ∧ ev_wv f L aa p s ≤ 99
abbrev ev_gp (f : Nat → Int32) (L : Nat) (aa : Nat → Int64) (p s : Nat) : Prop := ¬ dr_pu f L p = -1 → ev_pv f L aa p s ≤ 99
theorem ev_neg : ∀ k, k ≤ 99 → -(-nI k) = nI k := by decide +kernel
theorem ev_rng {v : Int32} (h1 : -99 ≤ v) (h2 : v ≤ 99) : (v < 0 ∧ ∃ k : Nat, 1 ≤ k ∧ k ≤ 99 ∧ -v = nI k) ∨ (¬ v < 0 ∧ ∃ k : Nat, k ≤ 99 ∧ v = nI k) := by
  by_cases h : v < 0
  · refine Or.inl ⟨h, ?_⟩
    have a : (-99 : Int32).toInt ≤ v.toInt := Int32.le_iff_toInt_le.mp h1
    have b : v.toInt < (0 : Int32).toInt := Int32.lt_iff_toInt_lt.mp h
    have e1 : (-99 : Int32).toInt = -99 := by decide
    have e2 : (0 : Int32).toInt = 0 := by decide
    refine ⟨(-v.toInt).toNat, by omega, by omega, ?_⟩
    apply Int32.toInt_inj.mp
    rw [nI_toInt (by omega), Int32.toInt_neg]
    rw [show -v.toInt = (((-v.toInt).toNat : Nat) : Int) by omega]
    exact Int.bmod_eq_of_le (by omega) (by omega)
  · refine Or.inr ⟨h, ?_⟩
    obtain ⟨j, hj, rfl⟩ := nI_of h
    exact ⟨j, (nI_leI (b := 99) hj (by decide)).mp h2, rfl⟩
end
section
/-! the relation: what both sides keep alike is one name; where the format is compiled, the table is the format's -/
def rl_T (L : Nat) (co xec xat yac yec : Int32) (af ak als ale afl awd apr aws aps avs ali : Nat → Int32) : Prop :=
  co = 0 ∨ (co = 1 ∧ yac = xat ∧ ∃ (E T : Nat) (pe se : Nat → Nat), xec = nI E ∧ yec = nI E ∧ E ≤ 64 ∧ T ≤ 64 ∧ pe E = L ∧ tb_tab af L T ak als ale afl awd apr aws aps avs ali E pe se)
def rl_B (C L O N : Nat) (af ao adr : Nat → Int32) : Prop := C ≤ 256 ∧ L ≤ 64 ∧ O ≤ 256 ∧ N ≤ 256 ∧ (∀ j, ar_ch (af j)) ∧ (∀ j, ar_ch (ao j)) ∧ (∀ j, ar_ch (adr j))
def i_Rel (k : Nat) (u : SX) (v : SY) : Prop := ∃ (C L O N : Nat) (co : Int32) (xrm xsp xec xat xlt xcu xwu xpu xvu xdc xsu xpo xdl xtl xbu : Int32) (xsv : Int64) (af ao ai ak als ale afl awd apr aws aps avs ali adr atx adg : Nat → Int32) (aa ar : Nat → Int64) (ytl yac yec ypos yde ydp ydw ydq ywd ypr yit ym1 ym2 ym3 ym4 ym5 yws yps ylg ycv ycm ycs ycx ycu ysq ysv ycw ycp ycn : Int32) (brv : Nat → Int32), u = (nI C, nI L, nI O, nI N, xrm, xsp, co, xec, xat, xlt, xcu, xwu, xpu, xvu, xdc, xsu, xpo, xdl, xtl, xbu, xsv, af, aa, ao, ai, ar, ak, als, ale, afl, awd, apr, aws, aps, avs, ali, adr, atx, adg) ∧ v = (nI L, nI N, nI O, ytl, nI C, xrm, xsp, yac, yec, ypos, co, yde, ydp, ydw, ydq, ywd, ypr, yit, ym1, ym2, ym3, ym4, ym5, yws, yps, ylg, ycv, ycm, ycs, ycx, ycu, ysq, ysv, ycw, ycp, ycn, af, ai, ao, adr, brv, aa, ar) ∧ rl_B C L O N af ao adr ∧ rl_T L co xec xat yac yec af ak als ale afl awd apr aws aps avs ali
theorem rl_i (k : Nat) {C L O N : Nat} {co : Int32} {xrm xsp xec xat xlt xcu xwu xpu xvu xdc xsu xpo xdl xtl xbu : Int32} {xsv : Int64} {af ao ai ak als ale afl awd apr aws aps avs ali adr atx adg : Nat → Int32} {aa ar : Nat → Int64} {ytl yac yec ypos yde ydp ydw ydq ywd ypr yit ym1 ym2 ym3 ym4 ym5 yws yps ylg ycv ycm ycs ycx ycu ysq ysv ycw ycp ycn : Int32} {brv : Nat → Int32} (hB : rl_B C L O N af ao adr) (hT : rl_T L co xec xat yac yec af ak als ale afl awd apr aws aps avs ali) : i_Rel k (nI C, nI L, nI O, nI N, xrm, xsp, co, xec, xat, xlt, xcu, xwu, xpu, xvu, xdc, xsu, xpo, xdl, xtl, xbu, xsv, af, aa, ao, ai, ar, ak, als, ale, afl, awd, apr, aws, aps, avs, ali, adr, atx, adg) (nI L, nI N, nI O, ytl, nI C, xrm, xsp, yac, yec, ypos, co, yde, ydp, ydw, ydq, ywd, ypr, yit, ym1, ym2, ym3, ym4, ym5, yws, yps, ylg, ycv, ycm, ycs, ycx, ycu, ysq, ysv, ycw, ycp, ycn, af, ai, ao, adr, brv, aa, ar) :=
  ⟨C, L, O, N, co, xrm, xsp, xec, xat, xlt, xcu, xwu, xpu, xvu, xdc, xsu, xpo, xdl, xtl, xbu, xsv, af, ao, ai, ak, als, ale, afl, awd, apr, aws, aps, avs, ali, adr, atx, adg, aa, ar, ytl, yac, yec, ypos, yde, ydp, ydw, ydq, ywd, ypr, yit, ym1, ym2, ym3, ym4, ym5, yws, yps, ylg, ycv, ycm, ycs, ycx, ycu, ysq, ysv, ycw, ycp, ycn, brv, rfl, rfl, hB, hT⟩
theorem rl_e {k : Nat} {u : SX} {v : SY} {P : SX → SY → Prop} (I : i_Rel k u v) (H : ∀ (C L O N : Nat) (co : Int32) (xrm xsp xec xat xlt xcu xwu xpu xvu xdc xsu xpo xdl xtl xbu : Int32) (xsv : Int64) (af ao ai ak als ale afl awd apr aws aps avs ali adr atx adg : Nat → Int32) (aa ar : Nat → Int64) (ytl yac yec ypos yde ydp ydw ydq ywd ypr yit ym1 ym2 ym3 ym4 ym5 yws yps ylg ycv ycm ycs ycx ycu ysq ysv ycw ycp ycn : Int32) (brv : Nat → Int32), rl_B C L O N af ao adr → rl_T L co xec xat yac yec af ak als ale afl awd apr aws aps avs ali → P (nI C, nI L, nI O, nI N, xrm, xsp, co, xec, xat, xlt, xcu, xwu, xpu, xvu, xdc, xsu, xpo, xdl, xtl, xbu, xsv, af, aa, ao, ai, ar, ak, als, ale, afl, awd, apr, aws, aps, avs, ali, adr, atx, adg) (nI L, nI N, nI O, ytl, nI C, xrm, xsp, yac, yec, ypos, co, yde, ydp, ydw, ydq, ywd, ypr, yit, ym1, ym2, ym3, ym4, ym5, yws, yps, ylg, ycv, ycm, ycs, ycx, ycu, ysq, ysv, ycw, ycp, ycn, af, ai, ao, adr, brv, aa, ar)) : P u v := by
  obtain ⟨C, L, O, N, co, xrm, xsp, xec, xat, xlt, xcu, xwu, xpu, xvu, xdc, xsu, xpo, xdl, xtl, xbu, xsv, af, ao, ai, ak, als, ale, afl, awd, apr, aws, aps, avs, ali, adr, atx, adg, aa, ar, ytl, yac, yec, ypos, yde, ydp, ydw, ydq, ywd, ypr, yit, ym1, ym2, ym3, ym4, ym5, yws, yps, ylg, ycv, ycm, ycs, ycx, ycu, ysq, ysv, ycw, ycp, ycn, brv, rfl, rfl, hB, hT⟩ := I
  exact H C L O N co xrm xsp xec xat xlt xcu xwu xpu xvu xdc xsu xpo xdl xtl xbu xsv af ao ai ak als ale afl awd apr aws aps avs ali adr atx adg aa ar ytl yac yec ypos yde ydp ydw ydq ywd ypr yit ym1 ym2 ym3 ym4 ym5 yws yps ylg ycv ycm ycs ycx ycu ysq ysv ycw ycp ycn brv hB hT
theorem i_up {k : Nat} {u : SX} {v : SY} (h : i_Rel k u v) : i_Rel (k + 4) u v := h
end
section
/-! the table while it is built -/
def tb_inv (f : Nat → Int32) (L T : Nat) (ak als ale afl awd apr aws aps avs ali : Nat → Int32) (E p d s b : Nat) (pe se : Nat → Nat) : Prop :=
  tb_tab f L T ak als ale afl awd apr aws aps avs ali E pe se ∧ pe E = p ∧ se E = s ∧ us_I s b ∧ (0 < E → ak (E - 1) = 0 → ale (E - 1) = nI T) ∧ E ≤ p ∧ T ≤ p ∧ d ≤ p ∧ p ≤ L
theorem tb_inv0 (f : Nat → Int32) (L : Nat) (ak als ale afl awd apr aws aps avs ali : Nat → Int32) : tb_inv f L 0 ak als ale afl awd apr aws aps avs ali 0 0 0 0 0 (fun _ => 0) (fun _ => 0) :=
  ⟨⟨rfl, rfl, fun e he => absurd he (by omega), fun e he => absurd he (by omega)⟩, rfl, rfl, ⟨Or.inl rfl, by decide, by decide⟩, fun h => absurd h (by omega), by omega, by omega, by omega, by omega⟩
theorem tb_gz (f : Nat → Int32) (L p : Nat) : dr_g f L p = 0 ∨ dr_g f L p = 1 := by
  unfold dr_g
  by_cases h : pc_l f L (dr_4 f L p)
  · rw [if_pos h]; exact Or.inr rfl
  · rw [if_neg h]; exact Or.inl rfl
/-- the kind of a directive isn't a literal's -/
theorem tb_kz {f : Nat → Int32} {L p : Nat} (h : pc_k f L (dr_4 f L p) < L ∧ (cv_t (f (pc_k f L (dr_4 f L p))) ∨ ¬ cv_b (f (pc_k f L (dr_4 f L p))) = 0) ∧ ¬ (cv_t (f (pc_k f L (dr_4 f L p))) ∧ pc_l f L (dr_4 f L p))) : ¬ dr_c f L p + nI (256 * dr_g f L p) = 0 := by
  have hc := cv_cases h.2.1
  have e : dr_c f L p = f (pc_k f L (dr_4 f L p)) := rfl
  rw [← e] at hc
  rcases tb_gz f L p with g | g <;> rw [g] <;> rcases hc with c | c | c | c | c | c | c <;> rw [c] <;> decide
section
variable {f : Nat → Int32} {L T : Nat} {ak als ale afl awd apr aws aps avs ali : Nat → Int32} {E p d s b : Nat} {pe se : Nat → Nat}
theorem tb_newlit {c : Int32} {q : Nat} (I : tb_inv f L T ak als ale afl awd apr aws aps avs ali E p d s b pe se) (hl : it_lit f L p c q) (hn : 0 < E → ¬ ak (E - 1) = 0) :
    tb_inv f L (T + 1) (upd ak E 0) (upd als E (nI T)) (upd ale E (nI (T + 1))) (upd afl E 0) (upd awd E 0) (upd apr E (-1)) (upd aws E (-1)) (upd aps E (-1)) (upd avs E (-1)) (upd ali T c) (E + 1) q d s b (tb_at pe (E + 1) q) (tb_at se (E + 1) s) := by
  obtain ⟨I1, I2, I3, I4, I5, I6, I7, I8, I9⟩ := I
  have hq := it_q hl
  refine ⟨?_, tb_atE _ _ _, tb_atE _ _ _, I4, fun _ _ => ?_, by omega, by omega, by omega, hq.2⟩
  · refine tb_more (tb_keep (T := T) (pe := pe) (se := se) (by omega) (fun e he => pk_un (by omega)) (fun e he => pk_un (by omega)) (fun e he => pk_un (by omega)) (fun e he => pk_un (by omega)) (fun e he => pk_un (by omega)) (fun e he => pk_un (by omega)) (fun e he => pk_un (by omega)) (fun e he => pk_un (by omega)) (fun e he => pk_un (by omega)) (fun j hj => pk_un (by omega)) (fun j hj => tb_atn (by omega)) (fun j hj => tb_atn (by omega)) I1) ?_ ?_
    · rw [tb_atE, tb_atE, tb_atn (by omega), tb_atn (by omega), I2, I3]
      refine Or.inl ⟨⟨pk_us, pk_us, pk_us, T, 1, fun j => if j = 0 then p else q, pk_us, pk_us, by omega, by omega, rfl, rfl, fun j hj => ?_⟩, rfl⟩
      have e : j = 0 := by omega
      rw [e]
      show it_lit f L p (upd ali T c (T + 0)) q
      rw [Nat.add_zero, pk_us]
      exact hl
    · intro h0 h1
      rw [pk_un (by omega)] at h1
      exact absurd h1 (hn h0)
  · rw [Nat.add_sub_cancel, pk_us]
theorem tb_applit {c : Int32} {q : Nat} (hL : L ≤ 64) (I : tb_inv f L T ak als ale afl awd apr aws aps avs ali E p d s b pe se) (hl : it_lit f L p c q) (h0 : 0 < E) (hk : ak (E - 1) = 0) :
    tb_inv f L (T + 1) ak als (upd ale (E - 1) (nI (T + 1))) afl awd apr aws aps avs (upd ali T c) E q d s b (tb_at pe E q) se := by
  obtain ⟨I1, I2, I3, I4, I5, I6, I7, I8, I9⟩ := I
  have hq := it_q hl
  obtain ⟨E, rfl⟩ : ∃ e, E = e + 1 := ⟨E - 1, by omega⟩
  rw [Nat.add_sub_cancel] at hk ⊢
  have I5' := I5 (by omega)
  rw [Nat.add_sub_cancel] at I5'
  have I5'' := I5' hk
  refine ⟨?_, tb_atE _ _ _, I3, I4, fun _ _ => pk_us, by omega, by omega, by omega, hq.2⟩
  have I1' := I1.2.2.1 E (by omega)
  have I1d := I1.2.2.2
  refine tb_more (tb_keep (T := T) (pe := pe) (se := se) (by omega) (fun e he => rfl) (fun e he => rfl) (fun e he => pk_un (by omega)) (fun e he => rfl) (fun e he => rfl) (fun e he => rfl) (fun e he => rfl) (fun e he => rfl) (fun e he => rfl) (fun j hj => pk_un (by omega)) (fun j hj => tb_atn (by omega)) (fun j hj => rfl) (tb_less (by omega) I1)) ?_ ?_
  · rw [tb_atE, tb_atn (by omega)]
    rcases I1' with ⟨⟨a, a5, a6, s', n, r, b1, b2, b3, b4, b5, b6, b7⟩, y⟩ | ⟨x1, x2, x3, x4⟩
    · refine Or.inl ⟨⟨a, a5, a6, s', n + 1, fun j => if j = n + 1 then q else r j, b1, ?_, by omega, by omega, ?_, if_pos rfl, fun j hj => ?_⟩, y⟩
      · rw [pk_us]
        have e := b2.symm.trans I5''
        have e2 := (nI_eq (by omega) (by omega)).mp e
        rw [← e2, Nat.add_assoc]
      · show (if 0 = n + 1 then q else r 0) = pe E
        rw [if_neg (by omega)]; exact b5
      · show it_lit f L (if j = n + 1 then q else r j) _ (if j + 1 = n + 1 then q else r (j + 1))
        rw [if_neg (by omega)]
        have e := b2.symm.trans I5''
        have e2 := (nI_eq (by omega) (by omega)).mp e
        by_cases x : j = n
        · rw [if_pos (by omega), x, e2, pk_us, b6, I2]
          exact hl
        · rw [if_neg (by omega), pk_un (by omega)]
          exact b7 j (by omega)
    · exfalso
      have k1 := x4.1
      rw [hk] at k1
      exact tb_kz (pc_ok (dr_ok x2).2.2.2) k1.symm
  · intro h1 h2 h3
    have := I1d (E - 1) (by omega) h2
    rw [show E - 1 + 1 = E by omega] at this
    exact this hk
/-- the uses of a directive went well -/
theorem us_ok {u : Int32} {s b : Nat} (hu : u = -1 ∨ ∃ k : Nat, k ≤ 8 ∧ u = nI k) (I : us_I s b) (h : us_e u s b = 0) : us_I (sl_n u s) (us_b u b) ∧ (u = -1 ∨ (¬ us_r u s b < 0 ∧ us_r u s b = sl_s u s)) := by
  rcases hu with rfl | hu
  · exact ⟨I, Or.inl rfl⟩
  · have hn : ¬ u = -1 := by
      obtain ⟨k, hk, rfl⟩ := hu
      exact us_n1 (by omega)
    unfold us_e at h
    rw [if_neg hn] at h
    rcases us_cs hu I with c | ⟨c1, c2, c3⟩
    · rw [if_pos c] at h
      rw [h] at c
      exact absurd c (by decide)
    · exact ⟨c3, Or.inr ⟨c1, c2⟩⟩
theorem dr_us (h : dr_r f L p = 0) : (dr_wu f L p = -1 ∨ ∃ k : Nat, k ≤ 8 ∧ dr_wu f L p = nI k) ∧ (dr_pu f L p = -1 ∨ ∃ k : Nat, k ≤ 8 ∧ dr_pu f L p = nI k) ∧ (∃ k : Nat, k ≤ 8 ∧ dr_v f L p = nI k) := by
  obtain ⟨h1, h2, h3, h4⟩ := dr_ok h
  refine ⟨?_, ?_, ps_vk h1⟩
  · rcases pw_ok h2 with ⟨_, _, x⟩ | ⟨_, x, _⟩
    · exact Or.inr x
    · exact Or.inl x
  · rcases pp_ok h3 with ⟨_, x⟩ | ⟨_, x⟩ | ⟨x, _⟩
    · exact Or.inl x
    · exact Or.inr x
    · exact Or.inl x
theorem tk_ok {d : Nat} {wu pu vu : Int32} {s b : Nat} (h : tk_r d wu pu vu s b = 0) : ¬ 16 < d + 1 ∧ us_e wu s b = 0 ∧ us_e pu (sl_n wu s) (us_b wu b) = 0 ∧ us_e vu (sl_n pu (sl_n wu s)) (us_b pu (us_b wu b)) = 0 := by
  unfold tk_r at h
  by_cases a : 16 < d + 1
  · rw [if_pos a] at h; exact absurd h (by decide)
  · rw [if_neg a] at h
    by_cases b' : ¬ us_e wu s b = 0
    · rw [if_pos b'] at h; exact absurd h b'
    · rw [if_neg b'] at h
      by_cases c : ¬ us_e pu (sl_n wu s) (us_b wu b) = 0
      · rw [if_pos c] at h; exact absurd h c
      · rw [if_neg c] at h
        exact ⟨a, Decidable.not_not.mp b', Decidable.not_not.mp c, h⟩
theorem tb_newdir (I : tb_inv f L T ak als ale afl awd apr aws aps avs ali E p d s b pe se) (hp : it_pc f L p) (hr : dr_r f L p = 0) (ht : tk_r d (dr_wu f L p) (dr_pu f L p) (dr_v f L p) s b = 0) :
    tb_inv f L T (upd ak E (dr_c f L p + nI (256 * dr_g f L p))) (upd als E (nI T)) (upd ale E (nI T)) (upd afl E (nI (dr_m f L p))) (upd awd E (nI (dr_w f L p))) (upd apr E (dr_p f L p)) (upd aws E (sl_s (dr_wu f L p) s)) (upd aps E (sl_s (dr_pu f L p) (sl_n (dr_wu f L p) s))) (upd avs E (sl_s (dr_v f L p) (sl_n (dr_pu f L p) (sl_n (dr_wu f L p) s)))) ali (E + 1) (dr_k f L p + 1) (d + 1)
      (sl_n (dr_v f L p) (sl_n (dr_pu f L p) (sl_n (dr_wu f L p) s))) (us_b (dr_v f L p) (us_b (dr_pu f L p) (us_b (dr_wu f L p) b))) (tb_at pe (E + 1) (dr_k f L p + 1)) (tb_at se (E + 1) (sl_n (dr_v f L p) (sl_n (dr_pu f L p) (sl_n (dr_wu f L p) s)))) := by
  obtain ⟨I1, I2, I3, I4, I5, I6, I7, I8, I9⟩ := I
  have hb := dr_b f hp.1
  have hk := pc_ok (dr_ok hr).2.2.2
  have hk1 : dr_k f L p < L := hk.1
  obtain ⟨u1, u2, u3⟩ := dr_us hr
  obtain ⟨t0, t1, t2, t3⟩ := tk_ok ht
  have J1 := (us_ok u1 I4 t1).1
  have J2 := (us_ok u2 J1 t2).1
  have J3 := (us_ok (Or.inr u3) J2 t3).1
  have kz := tb_kz hk
  refine ⟨?_, tb_atE _ _ _, tb_atE _ _ _, J3, fun _ h => ?_, by omega, by omega, by omega, by omega⟩
  · refine tb_more (tb_keep (T := T) (pe := pe) (se := se) (by omega) (fun e he => pk_un (by omega)) (fun e he => pk_un (by omega)) (fun e he => pk_un (by omega)) (fun e he => pk_un (by omega)) (fun e he => pk_un (by omega)) (fun e he => pk_un (by omega)) (fun e he => pk_un (by omega)) (fun e he => pk_un (by omega)) (fun e he => pk_un (by omega)) (fun j hj => rfl) (fun j hj => tb_atn (by omega)) (fun j hj => tb_atn (by omega)) I1) ?_ ?_
    · rw [tb_atE, tb_atE, tb_atn (by omega), tb_atn (by omega), I2, I3]
      exact Or.inr ⟨hp, hr, rfl, pk_us, pk_us, pk_us, pk_us, pk_us, pk_us, pk_us, rfl, J3.2.2⟩
    · intro _ _
      rw [pk_us]
      exact kz
  · rw [Nat.add_sub_cancel, pk_us] at h
    exact absurd h kz
end
end
section
/-! the text of a number, in pieces and in one -/
theorem nt_split (M : Nat) (D : Nat → Int32) (n : Nat) (c : Int32) (m : Nat) (v : Int64) (N z nd : Nat) :
    ef_f M (nt_T c m v N z nd) D n (nt_pl c m v + z + nd) = ef_f M (nt_dg c N nd) (ef_f M (fun _ => 48) (ef_f M (nt_pre c m v) D n (nt_pl c m v)) (n + nt_pl c m v) z) (n + nt_pl c m v + z) nd := by
  have h1 : ef_f M (nt_T c m v N z nd) D n (nt_pl c m v) = ef_f M (nt_pre c m v) D n (nt_pl c m v) := by
    apply ef_cg
    intro j hj
    unfold nt_T
    rw [if_pos hj]
  have h2 : ∀ D' n', ef_f M (fun j => nt_T c m v N z nd (nt_pl c m v + j)) D' n' z = ef_f M (fun _ => 48) D' n' z := by
    intro D' n'
    apply ef_cg
    intro j hj
    show nt_T c m v N z nd (nt_pl c m v + j) = 48
    unfold nt_T
    rw [if_neg (by omega), if_pos (by omega)]
  have h3 : ∀ D' n', ef_f M (fun j => nt_T c m v N z nd (nt_pl c m v + z + j)) D' n' nd = ef_f M (nt_dg c N nd) D' n' nd := by
    intro D' n'
    apply ef_cg
    intro j hj
    show nt_T c m v N z nd (nt_pl c m v + z + j) = nt_dg c N nd j
    unfold nt_T
    rw [if_neg (by omega), if_neg (by omega), show nt_pl c m v + z + j - nt_pl c m v - z = j by omega]
  rw [ef_add, ef_add, h1, h2, h3, Nat.add_assoc]
theorem nt_pl2 (c : Int32) (m : Nat) (v : Int64) : nt_pl c m v ≤ 2 := by
  unfold nt_pl
  by_cases h : nt_hx c m v
  · rw [if_pos h]; exact Nat.le_refl _
  · rw [if_neg h]
    by_cases h : nt_sg c m v = 0
    · rw [if_pos h]; omega
    · rw [if_neg h]; omega
theorem nt_sgc (c : Int32) (m : Nat) (v : Int64) : ar_ch (nt_sg c m v) := by
  unfold nt_sg
  by_cases h : c = 100
  · rw [if_pos h]
    by_cases h : v < 0
    · rw [if_pos h]; exact ⟨45, by decide, rfl⟩
    · rw [if_neg h]
      by_cases h : m / 2 % 2 = 1
      · rw [if_pos h]; exact ⟨43, by decide, rfl⟩
      · rw [if_neg h]
        by_cases h : m / 4 % 2 = 1
        · rw [if_pos h]; exact ⟨32, by decide, rfl⟩
        · rw [if_neg h]; exact ar_0
  · rw [if_neg h]; exact ar_0
theorem nt_prec {c : Int32} (hc : ar_ch c) (m : Nat) (v : Int64) (j : Nat) : ar_ch (nt_pre c m v j) := by
  unfold nt_pre
  by_cases h : nt_hx c m v
  · rw [if_pos h]
    by_cases h : j = 0
    · rw [if_pos h]; exact ⟨48, by decide, rfl⟩
    · rw [if_neg h]; exact hc
  · rw [if_neg h]; exact nt_sgc c m v
theorem cv_b16 (c : Int32) : cv_b c = 0 ∨ cv_b c = 8 ∨ cv_b c = 10 ∨ cv_b c = 16 := by
  unfold cv_b
  by_cases h : c = 100 ∨ c = 117
  · rw [if_pos h]; exact Or.inr (Or.inr (Or.inl rfl))
  · rw [if_neg h]
    by_cases h : c = 120 ∨ c = 88
    · rw [if_pos h]; exact Or.inr (Or.inr (Or.inr rfl))
    · rw [if_neg h]
      by_cases h : c = 111
      · rw [if_pos h]; exact Or.inr (Or.inl rfl)
      · rw [if_neg h]; exact Or.inl rfl
theorem nt_dgc {c : Int32} (hb : ¬ cv_b c = 0) (N nd j : Nat) : ar_ch (nt_dg c N nd j) := by
  unfold nt_dg
  apply nt_dch
  have h : N / cv_b c ^ (nd - 1 - j) % cv_b c < cv_b c := Nat.mod_lt _ (by omega)
  rcases cv_b16 c with e | e | e | e <;> omega
theorem nt_Tc {c : Int32} (hc : ar_ch c) (hb : ¬ cv_b c = 0) (m : Nat) (v : Int64) (N z nd j : Nat) : ar_ch (nt_T c m v N z nd j) := by
  unfold nt_T
  by_cases h : j < nt_pl c m v
  · rw [if_pos h]; exact nt_prec hc m v j
  · rw [if_neg h]
    by_cases h : j < nt_pl c m v + z
    · rw [if_pos h]; exact ⟨48, by decide, rfl⟩
    · rw [if_neg h]; exact nt_dgc hb N nd _
theorem dc_lo : ∀ d, d < 10 → (((48 : Int32) + nI d).toUInt32 % 65536).toInt32 = nI (48 + d) := by decide +kernel
theorem dc_la : ∀ d, d < 16 → 10 ≤ d → (((97 : Int32) + nI d - 10).toUInt32 % 65536).toInt32 = nI (87 + d) := by decide +kernel
theorem dc_uA : ∀ d, d < 16 → 10 ≤ d → (((65 : Int32) + nI d - 10).toUInt32 % 65536).toInt32 = nI (55 + d) := by decide +kernel
/-- the magnitude of a number, taken as unsigned -/
def nt_M (c : Int32) (v : Int64) : Int64 := if c = 100 ∧ v < 0 then -v else v
def nt_N (c : Int32) (v : Int64) : Nat := (nt_M c v).toBitVec.toNat
theorem nt_NM (c : Int32) (v : Int64) : nt_M c v = lN (nt_N c v) := by
  obtain ⟨n, hn, e⟩ := wb_of (nt_M c v)
  have h : nt_N c v = n := by
    unfold nt_N
    rw [e, wb_tn hn]
  rw [h, e]
theorem nt_Nb (c : Int32) (v : Int64) : nt_N c v < 2 ^ 64 := (nt_M c v).toBitVec.isLt
theorem nt_M0 (c : Int32) (v : Int64) : nt_M c v = 0 ↔ v = 0 := by
  unfold nt_M
  by_cases h : c = 100 ∧ v < 0
  · rw [if_pos h]
    constructor
    · intro z
      have := congrArg (fun x => -x) z
      simpa using this
    · intro z; rw [z]; rfl
  · rw [if_neg h]
theorem nt_N0 (c : Int32) (v : Int64) : nt_N c v = 0 ↔ v = 0 := by
  rw [← nt_M0 c v, nt_NM c v]
  constructor
  · intro z; rw [z]; rfl
  · intro z
    have h : (lN (nt_N c v)).toBitVec.toNat = (0 : Int64).toBitVec.toNat := by rw [z]
    rw [wb_tn (nt_Nb c v)] at h
    exact h
end
section
/-! pure rows: what one conversion takes of the input (I, N chars), from the place p on, under the width W -/
def sc_1 (I : Nat → Int32) (N p : Nat) : Nat := sk_E I (N - p) p
theorem sc_1b (I : Nat → Int32) {N p : Nat} (h : p ≤ N) : p ≤ sc_1 I N p ∧ sc_1 I N p ≤ N := by
  have := sk_Eb I (N - p) p
  unfold sc_1
  omega
def sc_B (W : Nat) : Nat := if 1 ≤ W then W else 1000
def sc_S (W : Nat) : Nat := if 1 ≤ W ∧ W ≤ 8 then W else 8
abbrev sc_sg (c : Int32) (I : Nat → Int32) (N q : Nat) : Prop := c = 100 ∧ q < N ∧ (I q = 43 ∨ I q = 45)
abbrev sc_hx (c : Int32) (W : Nat) (I : Nat → Int32) (N q : Nat) : Prop := cv_b c = 16 ∧ 3 ≤ sc_B W ∧ q + 2 < N ∧ I q = 48 ∧ (I (q + 1) = 120 ∨ I (q + 1) = 88) ∧ dv_v (I (q + 2)) < 16
def sc_k (c : Int32) (W : Nat) (I : Nat → Int32) (N q : Nat) : Nat := if sc_sg c I N q then 1 else if sc_hx c W I N q then 2 else 0
theorem sc_kb (c : Int32) (W : Nat) (I : Nat → Int32) {N q : Nat} (h : q ≤ N) : q + sc_k c W I N q ≤ N ∧ sc_k c W I N q ≤ sc_B W := by
  unfold sc_k
  by_cases a : sc_sg c I N q
  · rw [if_pos a]
    have := a.2.1
    unfold sc_B
    by_cases w : 1 ≤ W
    · rw [if_pos w]; omega
    · rw [if_neg w]; omega
  · rw [if_neg a]
    by_cases b : sc_hx c W I N q
    · rw [if_pos b]; have := b.2.1; have := b.2.2.1; omega
    · rw [if_neg b]; omega
/-- the end of a number's digits, and the value as it is stored -/
def sc_e (c : Int32) (W : Nat) (I : Nat → Int32) (N q : Nat) : Nat := dg_E I (cv_b c) (N - (q + sc_k c W I N q)) (sc_B W - sc_k c W I N q) (q + sc_k c W I N q)
def sc_w (c : Int32) (W : Nat) (I : Nat → Int32) (N q : Nat) : Int64 := dg_V I (cv_b c) (N - (q + sc_k c W I N q)) (sc_B W - sc_k c W I N q) (q + sc_k c W I N q) 0
def sc_v (c : Int32) (g W : Nat) (I : Nat → Int32) (N q : Nat) : Int64 := nt_v c g (if sc_sg c I N q ∧ I q = 45 then - sc_w c W I N q else sc_w c W I N q)
/-- the end of a conversion, its value, and whether it took anything -/
def sc_E (c : Int32) (W : Nat) (I : Nat → Int32) (N p : Nat) : Nat := if c = 99 then p + 1 else if c = 115 then st_E I (N - sc_1 I N p) (sc_S W) (sc_1 I N p) else sc_e c W I N (sc_1 I N p)
def sc_V (c : Int32) (g W : Nat) (I : Nat → Int32) (N p : Nat) : Int64 := if c = 99 then (I p).toInt64 else if c = 115 then st_V I (N - sc_1 I N p) (sc_S W) 0 (sc_1 I N p) 0 else sc_v c g W I N (sc_1 I N p)
abbrev sc_ok (c : Int32) (W : Nat) (I : Nat → Int32) (N p : Nat) : Prop := if c = 99 then p < N else if c = 115 then sc_1 I N p < st_E I (N - sc_1 I N p) (sc_S W) (sc_1 I N p) else sc_1 I N p + sc_k c W I N (sc_1 I N p) < sc_e c W I N (sc_1 I N p)
theorem sc_Eb {c : Int32} {W : Nat} {I : Nat → Int32} {N p : Nat} (h : p ≤ N) (ho : sc_ok c W I N p) : sc_E c W I N p ≤ N := by
  unfold sc_ok at ho
  unfold sc_E
  by_cases a : c = 99
  · rw [if_pos a] at ho ⊢; omega
  · rw [if_neg a] at ho ⊢
    have h1 := sc_1b I h
    by_cases b : c = 115
    · rw [if_pos b] at ho ⊢
      have := st_Eb I (N - sc_1 I N p) (sc_S W) (sc_1 I N p)
      omega
    · rw [if_neg b] at ho ⊢
      have h2 := sc_kb c W I h1.2
      have := dg_Eb I (cv_b c) (N - (sc_1 I N p + sc_k c W I N (sc_1 I N p))) (sc_B W - sc_k c W I N (sc_1 I N p)) (sc_1 I N p + sc_k c W I N (sc_1 I N p))
      unfold sc_e
      omega
end
section
/-! the class: what compile calls -/
theorem wk_if {c d A B : Prop} (e : c = d) (f : d → A) (g : ¬ d → B) : (c → A) ∧ (¬ c → B) := by
  subst e
  exact ⟨f, g⟩
section
variable {cap xfl xol xil xrm xsp xco xec xat xlt xcu xwu xpu xvu xdc xsu xpo xdl xtl xbu : Int32} {xsv : Int64} {af ao ai ak als ale afl awd apr aws aps avs ali adr atx adg : Nat → Int32} {aa ar : Nat → Int64}
theorem xm_tfc {post : Int32 → SX → Prop} {L j : Nat} {c : Int32} (hL : L ≤ 64) (hj : j ≤ 64) (h1 : j < L → af j = c → post 1 (cap, nI L, xol, xil, xrm, xsp, xco, xec, xat, xlt, nI (j + 1), xwu, xpu, xvu, xdc, xsu, xpo, xdl, xtl, xbu, xsv, af, aa, ao, ai, ar, ak, als, ale, afl, awd, apr, aws, aps, avs, ali, adr, atx, adg)) (h0 : ¬ (j < L ∧ af j = c) → post 0 (cap, nI L, xol, xil, xrm, xsp, xco, xec, xat, xlt, nI j, xwu, xpu, xvu, xdc, xsu, xpo, xdl, xtl, xbu, xsv, af, aa, ao, ai, ar, ak, als, ale, afl, awd, apr, aws, aps, avs, ali, adr, atx, adg)) : wpX_takeFormatChar post (cap, nI L, xol, xil, xrm, xsp, xco, xec, xat, xlt, nI j, xwu, xpu, xvu, xdc, xsu, xpo, xdl, xtl, xbu, xsv, af, aa, ao, ai, ar, ak, als, ale, afl, awd, apr, aws, aps, avs, ali, adr, atx, adg) c := by
  refine pk_le L j (fun h => h0 (by omega)) (fun h => ?_)
  have e : (nI j).toNatClampNeg = j := nI_clamp (by omega)
  refine ⟨vp_in_nI (by omega) (by omega), ?_⟩
  refine wk_if (d := af j = c) (by rw [e]) (fun hc => nm_r (nI_1 j) (h1 h hc)) (fun hc => h0 (fun z => hc z.2))
theorem xm_rnl {post : Int32 → SX → Prop} {L : Nat} (hL : L ≤ 64) : ∀ n j v, j ≤ L → L - j < n → v ≤ 1000 → post (nI (rn_V af (L - j) j v)) (cap, nI L, xol, xil, xrm, xsp, xco, xec, xat, xlt, nI (rn_E af (L - j) j), xwu, xpu, xvu, xdc, xsu, xpo, xdl, xtl, xbu, xsv, af, aa, ao, ai, ar, ak, als, ale, afl, awd, apr, aws, aps, avs, ali, adr, atx, adg) → wX_readNumber_2 post cap (nI L) xol xil xrm xsp xco xec xat xlt xwu xpu xvu xdc xsu xpo xdl xtl xbu xsv af aa ao ai ar ak als ale afl awd apr aws aps avs ali adr atx adg n (nI v) (nI j) := by
  intro n
  induction n with
  | zero => intro j v hj hn; omega
  | succ n ih =>
    intro j v hj hn hv h
    refine pk_le L j (fun hl => ?_) (fun hl => ?_)
    · rw [show L - j = 0 by omega] at h
      exact h
    · have e : (nI j).toNatClampNeg = j := nI_clamp (by omega)
      have vi : vp_in (nI j) 64 := vp_in_nI (by omega) (by omega)
      refine ⟨vi, ?_⟩
      by_cases d : rn_d (af j)
      · obtain ⟨w, hw, e1, e2⟩ := rn_st hv d
        obtain ⟨m, hm⟩ : ∃ m, L - j = m + 1 := ⟨L - j - 1, by omega⟩
        rw [hm, rn_Vs af d, rn_Es af d, e2, show m = L - (j + 1) by omega] at h
        refine br_f (by rw [e]; exact Int32.not_lt.mpr d.1) ⟨vi, br_f (by rw [e]; exact Int32.not_lt.mpr d.2) ⟨vi, nm_r (e' := nI w) (by rw [e]; exact e1) ?_⟩⟩
        refine pk_le w 1000 (fun hw => nm_r (nI_1 j) ?_) (fun hw => nm_r (nI_1 j) ?_)
        · rw [if_neg (by omega)] at h
          exact ih (j + 1) w (by omega) (by omega) (by omega) h
        · rw [if_pos hw] at h
          exact ih (j + 1) 1000 (by omega) (by omega) (by omega) h
      · rw [rn_V0 af d, rn_E0 af d] at h
        refine wk_if (d := af j < 48) (by rw [e]) (fun _ => h) (fun a => ⟨vi, wk_if (d := 57 < af j) (by rw [e]) (fun _ => h) (fun b => absurd ⟨Int32.not_lt.mp a, Int32.not_lt.mp b⟩ d)⟩)
theorem xm_rn {post : Int32 → SX → Prop} {L j : Nat} (hL : L ≤ 64) (hj : j ≤ L) (h : post (nI (rn_V af (L - j) j 0)) (cap, nI L, xol, xil, xrm, xsp, xco, xec, xat, xlt, nI (rn_E af (L - j) j), xwu, xpu, xvu, xdc, xsu, xpo, xdl, xtl, xbu, xsv, af, aa, ao, ai, ar, ak, als, ale, afl, awd, apr, aws, aps, avs, ali, adr, atx, adg)) : wpX_readNumber post (cap, nI L, xol, xil, xrm, xsp, xco, xec, xat, xlt, nI j, xwu, xpu, xvu, xdc, xsu, xpo, xdl, xtl, xbu, xsv, af, aa, ao, ai, ar, ak, als, ale, afl, awd, apr, aws, aps, avs, ali, adr, atx, adg) :=
  ⟨L - j + 1, xm_rnl hL (L - j + 1) j 0 hj (by omega) (by omega) h⟩
theorem xm_rp {post : Int32 → SX → Prop} {L j : Nat} (hL : L ≤ 64) (hj : j ≤ L) (h : post (ps_v af L j) (cap, nI L, xol, xil, xrm, xsp, xco, xec, xat, xlt, nI (ps_n af L j), xwu, xpu, xvu, xdc, xsu, xpo, xdl, xtl, xbu, xsv, af, aa, ao, ai, ar, ak, als, ale, afl, awd, apr, aws, aps, avs, ali, adr, atx, adg)) : wpX_readPosition post (cap, nI L, xol, xil, xrm, xsp, xco, xec, xat, xlt, nI j, xwu, xpu, xvu, xdc, xsu, xpo, xdl, xtl, xbu, xsv, af, aa, ao, ai, ar, ak, als, ale, afl, awd, apr, aws, aps, avs, ali, adr, atx, adg) := by
  have hb := rn_Eb af (L - j) j
  have hV := rn_Vb af (L - j) j 0 (by omega)
  refine xm_rn hL hj ?_
  refine pk_eq (rn_E af (L - j) j) j (fun e => ?_) (fun e => ?_)
  · have hn : ¬ ps_at af L j := fun z => by have := z.1; omega
    unfold ps_v ps_n at h
    rw [if_neg hn, if_neg hn] at h
    exact h
  · refine xm_tfc hL (by omega) (fun h1 h2 => ?_) (fun h0 => ?_)
    · have hy : ps_at af L j := ⟨by omega, h1, h2⟩
      unfold ps_v ps_n at h
      rw [if_pos hy, if_pos hy] at h
      refine br_f (by decide) ?_
      refine pk_lt (rn_V af (L - j) j 0) 1 (fun a => ?_) (fun a => ?_)
      · rw [if_pos (Or.inl a)] at h; exact h
      · refine pk_le (rn_V af (L - j) j 0) 8 (fun b => ?_) (fun b => ?_)
        · rw [if_neg (fun z => by rcases z with z | z <;> omega)] at h; exact h
        · rw [if_pos (Or.inr b)] at h; exact h
    · have hn : ¬ ps_at af L j := fun z => h0 ⟨z.2.1, z.2.2⟩
      unfold ps_v ps_n at h
      rw [if_neg hn, if_neg hn] at h
      exact br_t rfl h
theorem xm_fo {post : Int32 → Prop} {c : Int32} (c' : Int32) (e : c = c') (h : post (nI (fl_v c'))) : wpX_flagOf post (cap, xfl, xol, xil, xrm, xsp, xco, xec, xat, xlt, xcu, xwu, xpu, xvu, xdc, xsu, xpo, xdl, xtl, xbu, xsv, af, aa, ao, ai, ar, ak, als, ale, afl, awd, apr, aws, aps, avs, ali, adr, atx, adg) c := by
  subst e
  unfold fl_v at h
  by_cases h1 : c = 32
  · subst h1; exact br_t rfl h
  refine br_f h1 ?_
  by_cases h2 : c = 35
  · subst h2; exact br_t rfl h
  refine br_f h2 ?_
  by_cases h3 : c = 43
  · subst h3; exact br_t rfl h
  refine br_f h3 ?_
  by_cases h4 : c = 45
  · subst h4; exact br_t rfl h
  refine br_f h4 ?_
  by_cases h5 : c = 48
  · subst h5; exact br_t rfl h
  refine br_f h5 ?_
  rw [if_neg h4, if_neg h3, if_neg h1, if_neg h5, if_neg h2] at h
  exact h
theorem fl_orI {m : Nat} (h : m < 32) (c : Int32) : nI m ||| nI (fl_v c) = nI (m ||| fl_v c) := by
  have := fl_ob m h
  rcases fl_vc c with e | e | e | e | e | e <;> rw [e]
  · rw [Nat.or_zero, nI_0, Int32.or_zero]
  · exact this.1.1
  · exact this.1.2.1
  · exact this.1.2.2.1
  · exact this.1.2.2.2
  · exact this.2
theorem fl_v16 (c : Int32) : fl_v c ≤ 16 := by
  rcases fl_vc c with e | e | e | e | e | e <;> omega
theorem xm_rfl {post : SX → Prop} {L e : Nat} (hL : L ≤ 64) (he : e < 64) : ∀ n j m, j ≤ L → L - j < n → m < 32 → post (cap, nI L, xol, xil, xrm, xsp, xco, xec, xat, xlt, nI (fl_E af (L - j) j), xwu, xpu, xvu, xdc, xsu, xpo, xdl, xtl, xbu, xsv, af, aa, ao, ai, ar, ak, als, ale, upd afl e (nI (fl_M af (L - j) j m)), awd, apr, aws, aps, avs, ali, adr, atx, adg) → wX_readFlags_0 post (nI e) cap (nI L) xol xil xrm xsp xco xec xat xlt xwu xpu xvu xdc xsu xpo xdl xtl xbu xsv n (nI j) af aa ao ai ar ak als ale (upd afl e (nI m)) awd apr aws aps avs ali adr atx adg := by
  intro n
  induction n with
  | zero => intro j m hj hn; omega
  | succ n ih =>
    intro j m hj hn hm h
    refine pk_le L j (fun hl => ?_) (fun hl => ?_)
    · rw [show L - j = 0 by omega] at h
      exact h
    · have ej : (nI j).toNatClampNeg = j := nI_clamp (by omega)
      have ee : (nI e).toNatClampNeg = e := nI_clamp (by omega)
      have vi : vp_in (nI j) 64 := vp_in_nI (by omega) (by omega)
      have ve : vp_in (nI e) 64 := vp_in_nI (by omega) (by omega)
      refine ⟨vi, xm_fo (af j) (by rw [ej]) ?_⟩
      by_cases z : fl_v (af j) = 0
      · rw [fl_E0 af z, fl_M0 af z] at h
        exact br_t (by rw [z]; rfl) h
      · obtain ⟨k, hk⟩ : ∃ k, L - j = k + 1 := ⟨L - j - 1, by omega⟩
        rw [hk, fl_Es af z, fl_Ms af z, show k = L - (j + 1) by omega] at h
        have hb := fl_v16 (af j)
        exact br_f (nI_ne0 (by omega) (by omega)) ⟨ve, ve, nm_r (e' := upd afl e (nI (m ||| fl_v (af j)))) (by rw [ee, pk_us, fl_orI hm, ar_uu]) (nm_r (nI_1 j) (ih (j + 1) _ (by omega) (by omega) (fl_orb hm _) h))⟩
theorem xm_rf {post : SX → Prop} {L j e : Nat} (hL : L ≤ 64) (he : e < 64) (hj : j ≤ L) (h0 : afl e = 0) (h : post (cap, nI L, xol, xil, xrm, xsp, xco, xec, xat, xlt, nI (fl_E af (L - j) j), xwu, xpu, xvu, xdc, xsu, xpo, xdl, xtl, xbu, xsv, af, aa, ao, ai, ar, ak, als, ale, upd afl e (nI (fl_M af (L - j) j 0)), awd, apr, aws, aps, avs, ali, adr, atx, adg)) : wpX_readFlags post (cap, nI L, xol, xil, xrm, xsp, xco, xec, xat, xlt, nI j, xwu, xpu, xvu, xdc, xsu, xpo, xdl, xtl, xbu, xsv, af, aa, ao, ai, ar, ak, als, ale, afl, awd, apr, aws, aps, avs, ali, adr, atx, adg) (nI e) := by
  have a := xm_rfl (post := post) hL he (L - j + 1) j 0 hj (by omega) (by omega) h
  rw [ar_us (f := afl) (k := e) (x := nI 0) h0] at a
  exact ⟨L - j + 1, a⟩
theorem xm_bo {post : Int32 → Prop} {c : Int32} (h : post (nI (cv_b c))) : wpX_baseOf post (cap, xfl, xol, xil, xrm, xsp, xco, xec, xat, xlt, xcu, xwu, xpu, xvu, xdc, xsu, xpo, xdl, xtl, xbu, xsv, af, aa, ao, ai, ar, ak, als, ale, afl, awd, apr, aws, aps, avs, ali, adr, atx, adg) c := by
  unfold cv_b at h
  by_cases h1 : c = 88
  · subst h1; exact br_t rfl h
  refine br_f h1 ?_
  by_cases h2 : c = 100
  · subst h2; exact br_t rfl h
  refine br_f h2 ?_
  by_cases h3 : c = 111
  · subst h3; exact br_t rfl h
  refine br_f h3 ?_
  by_cases h4 : c = 117
  · subst h4; exact br_t rfl h
  refine br_f h4 ?_
  by_cases h5 : c = 120
  · subst h5; exact br_t rfl h
  refine br_f h5 ?_
  rw [if_neg (fun z => z.elim h2 h4), if_neg (fun z => z.elim h5 h1), if_neg h3] at h
  exact h
theorem xm_rw {post : Int32 → SX → Prop} {L j e : Nat} (hL : L ≤ 64) (he : e < 64) (hj : j ≤ L) (h0 : awd e = 0) (h : post (pw_r af L j) (cap, nI L, xol, xil, xrm, xsp, xco, xec, xat, xlt, nI (pw_n af L j), pw_u af L j, xpu, xvu, xdc, xsu, xpo, xdl, xtl, xbu, xsv, af, aa, ao, ai, ar, ak, als, ale, afl, upd awd e (nI (pw_w af L j)), apr, aws, aps, avs, ali, adr, atx, adg)) : wpX_readWidth post (cap, nI L, xol, xil, xrm, xsp, xco, xec, xat, xlt, nI j, -1, xpu, xvu, xdc, xsu, xpo, xdl, xtl, xbu, xsv, af, aa, ao, ai, ar, ak, als, ale, afl, awd, apr, aws, aps, avs, ali, adr, atx, adg) (nI e) := by
  have ee : (nI e).toNatClampNeg = e := nI_clamp (by omega)
  have ve : vp_in (nI e) 64 := vp_in_nI (by omega) (by omega)
  have hV := rn_Vb af (L - j) j 0 (by omega)
  unfold pw_r pw_n pw_u pw_w at h
  unfold wpX_readWidth
  refine xm_tfc (j := j) hL (by omega) (fun h1 h2 => ?_) (fun hn => ?_)
  · have hs : pw_s af L j := ⟨h1, h2⟩
    rw [if_pos hs, if_pos hs, if_pos hs, if_pos hs, ar_us (f := awd) (k := e) (x := nI 0) h0] at h
    refine br_f (by decide) (xm_rp hL (by omega) ?_)
    by_cases z : ps_v af L (j + 1) < 0
    · rw [if_pos z] at h
      exact br_f (Int32.not_le.mpr z) h
    · rw [if_neg z] at h
      exact br_t (Int32.not_lt.mp z) h
  · have hs : ¬ pw_s af L j := hn
    rw [if_neg hs, if_neg hs, if_neg hs, if_neg hs] at h
    refine br_t rfl (xm_rn hL hj ⟨ve, nm_r (e' := upd awd e (nI (rn_V af (L - j) j 0))) (by rw [ee]) ⟨ve, ?_⟩⟩)
    refine pk_le (rn_V af (L - j) j 0) 99 (fun a => ?_) (fun a => ?_) (by rw [ee, pk_us])
    · rw [if_neg (by omega)] at h; exact h
    · rw [if_pos a] at h; exact h
theorem xm_rpr {post : Int32 → SX → Prop} {L j e : Nat} (hL : L ≤ 64) (he : e < 64) (hj : j ≤ L) (h0 : apr e = -1) (h : post (pp_r af L j) (cap, nI L, xol, xil, xrm, xsp, xco, xec, xat, xlt, nI (pp_n af L j), xwu, pp_u af L j, xvu, xdc, xsu, xpo, xdl, xtl, xbu, xsv, af, aa, ao, ai, ar, ak, als, ale, afl, awd, upd apr e (pp_p af L j), aws, aps, avs, ali, adr, atx, adg)) : wpX_readPrecision post (cap, nI L, xol, xil, xrm, xsp, xco, xec, xat, xlt, nI j, xwu, -1, xvu, xdc, xsu, xpo, xdl, xtl, xbu, xsv, af, aa, ao, ai, ar, ak, als, ale, afl, awd, apr, aws, aps, avs, ali, adr, atx, adg) (nI e) := by
  have ee : (nI e).toNatClampNeg = e := nI_clamp (by omega)
  have ve : vp_in (nI e) 64 := vp_in_nI (by omega) (by omega)
  unfold pp_r pp_n pp_u pp_p at h
  unfold wpX_readPrecision
  refine xm_tfc (j := j) hL (by omega) (fun h1 h2 => ?_) (fun hn => ?_)
  · have hd : pp_d af L j := ⟨h1, h2⟩
    have hV := rn_Vb af (L - (j + 1)) (j + 1) 0 (by omega)
    rw [if_pos hd, if_pos hd, if_pos hd, if_pos hd] at h
    unfold pw_r pw_n pw_u at h
    refine br_f (by decide) (xm_tfc (j := j + 1) hL (by omega) (fun h3 h4 => ?_) (fun hn => ?_))
    · have hs : pw_s af L (j + 1) := ⟨h3, h4⟩
      rw [if_pos hs, if_pos hs, if_pos hs, if_pos hs, ar_us (f := apr) (k := e) (x := -1) h0] at h
      refine br_f (by decide) (xm_rp hL (by omega) ?_)
      by_cases z : ps_v af L (j + 1 + 1) < 0
      · rw [if_pos z] at h
        exact br_f (Int32.not_le.mpr z) h
      · rw [if_neg z] at h
        exact br_t (Int32.not_lt.mp z) h
    · have hs : ¬ pw_s af L (j + 1) := hn
      rw [if_neg hs, if_neg hs, if_neg hs, if_neg hs] at h
      refine br_t rfl (xm_rn hL (by omega) ⟨ve, nm_r (e' := upd apr e (nI (rn_V af (L - (j + 1)) (j + 1) 0))) (by rw [ee]) ⟨ve, ?_⟩⟩)
      refine pk_le (rn_V af (L - (j + 1)) (j + 1) 0) 99 (fun a => ?_) (fun a => ?_) (by rw [ee, pk_us])
      · rw [if_neg (by omega)] at h; exact h
      · rw [if_pos a] at h; exact h
  · have hd : ¬ pp_d af L j := hn
    rw [if_neg hd, if_neg hd, if_neg hd, if_neg hd, ar_us (f := apr) (k := e) (x := -1) h0] at h
    exact br_t rfl h
end
end
section
/-! the class: the rest of what compile calls -/
section
variable {cap xfl xol xil xrm xsp xco xec xat xlt xcu xwu xpu xvu xdc xsu xpo xdl xtl xbu : Int32} {xsv : Int64} {af ao ai ak als ale afl awd apr aws aps avs ali adr atx adg : Nat → Int32} {aa ar : Nat → Int64}
theorem xm_rc77 {post : Int32 → SX → Prop} {k g e : Nat} {c : Int32} (he : e < 64) (hg : g = 0 ∨ g = 1) (h : post 0 (cap, xfl, xol, xil, xrm, xsp, xco, xec, xat, xlt, nI (k + 1), xwu, xpu, xvu, xdc, xsu, xpo, xdl, xtl, xbu, xsv, af, aa, ao, ai, ar, upd ak e (c + nI (256 * g)), als, ale, afl, awd, apr, aws, aps, avs, ali, adr, atx, adg)) : wX_readConversion_77 post (nI e) (nI g) c cap xfl xol xil xrm xsp xco xec xat xlt (nI k) xwu xpu xvu xdc xsu xpo xdl xtl xbu xsv af aa ao ai ar ak als ale afl awd apr aws aps avs ali adr atx adg := by
  have ee : (nI e).toNatClampNeg = e := nI_clamp (by omega)
  have ve : vp_in (nI e) 64 := vp_in_nI (by omega) (by omega)
  refine nm_r (nI_1 k) ?_
  rcases hg with rfl | rfl
  · exact br_t rfl ⟨ve, nm_r (e' := upd ak e (c + nI (256 * 0))) (by rw [ee]; rw [show nI (256 * 0) = 0 from rfl, Int32.add_zero]) h⟩
  · exact br_f (by decide) ⟨ve, nm_r (e' := upd ak e (c + nI (256 * 1))) (by rw [ee]; rfl) h⟩
theorem xm_rcT {post : Int32 → SX → Prop} {k g e : Nat} {c : Int32} (he : e < 64) (hg : g = 0 ∨ g = 1) (h2 : ¬ cv_t c ∧ cv_b c = 0 → post (-2) (cap, xfl, xol, xil, xrm, xsp, xco, xec, xat, xlt, nI k, xwu, xpu, xvu, xdc, xsu, xpo, xdl, xtl, xbu, xsv, af, aa, ao, ai, ar, ak, als, ale, afl, awd, apr, aws, aps, avs, ali, adr, atx, adg)) (h11 : cv_t c ∧ g = 1 → post (-11) (cap, xfl, xol, xil, xrm, xsp, xco, xec, xat, xlt, nI k, xwu, xpu, xvu, xdc, xsu, xpo, xdl, xtl, xbu, xsv, af, aa, ao, ai, ar, ak, als, ale, afl, awd, apr, aws, aps, avs, ali, adr, atx, adg))
    (h : (cv_t c ∨ ¬ cv_b c = 0) → ¬ (cv_t c ∧ g = 1) → post 0 (cap, xfl, xol, xil, xrm, xsp, xco, xec, xat, xlt, nI (k + 1), xwu, xpu, xvu, xdc, xsu, xpo, xdl, xtl, xbu, xsv, af, aa, ao, ai, ar, upd ak e (c + nI (256 * g)), als, ale, afl, awd, apr, aws, aps, avs, ali, adr, atx, adg)) :
    (c = 99 → wX_readConversion_42 post (nI e) (nI g) c cap xfl xol xil xrm xsp xco xec xat xlt (nI k) xwu xpu xvu xdc xsu xpo xdl xtl xbu xsv af aa ao ai ar ak als ale afl awd apr aws aps avs ali adr atx adg) ∧ (¬ c = 99 → (c = 115 → wX_readConversion_42 post (nI e) (nI g) c cap xfl xol xil xrm xsp xco xec xat xlt (nI k) xwu xpu xvu xdc xsu xpo xdl xtl xbu xsv af aa ao ai ar ak als ale afl awd apr aws aps avs ali adr atx adg) ∧ (¬ c = 115 → wX_readConversion_47 post (nI e) (nI g) c 0 cap xfl xol xil xrm xsp xco xec xat xlt (nI k) xwu xpu xvu xdc xsu xpo xdl xtl xbu xsv af aa ao ai ar ak als ale afl awd apr aws aps avs ali adr atx adg)) := by
  have ht : cv_t c → wX_readConversion_42 post (nI e) (nI g) c cap xfl xol xil xrm xsp xco xec xat xlt (nI k) xwu xpu xvu xdc xsu xpo xdl xtl xbu xsv af aa ao ai ar ak als ale afl awd apr aws aps avs ali adr atx adg := by
    intro t
    refine br_f (by decide) (br_f (by decide) ?_)
    rcases hg with rfl | rfl
    · exact br_t rfl (xm_rc77 he (Or.inl rfl) (h (Or.inl t) (fun z => absurd z.2 (by decide))))
    · exact br_f (by decide) (h11 ⟨t, rfl⟩)
  refine ⟨fun a => ht (Or.inl a), fun a => ⟨fun b => ht (Or.inr b), fun b => ?_⟩⟩
  have nt : ¬ cv_t c := fun z => z.elim a b
  refine br_t rfl (xm_bo ?_)
  by_cases z : cv_b c = 0
  · exact br_t (by rw [z]; rfl) (h2 ⟨nt, z⟩)
  · have hb : cv_b c < 2 ^ 31 := by rcases cv_b16 c with e | e | e | e <;> omega
    exact br_f (nI_ne0 (by omega) hb) (br_t rfl (xm_rc77 he hg (h (Or.inr z) (fun q => nt q.1))))
theorem xm_rc {post : Int32 → SX → Prop} {L j e : Nat} (hL : L ≤ 64) (he : e < 64) (hj : j ≤ L) (hr : ¬ pc_r af L j = 0 → post (pc_r af L j) (cap, nI L, xol, xil, xrm, xsp, xco, xec, xat, xlt, nI (pc_k af L j), xwu, xpu, xvu, xdc, xsu, xpo, xdl, xtl, xbu, xsv, af, aa, ao, ai, ar, ak, als, ale, afl, awd, apr, aws, aps, avs, ali, adr, atx, adg))
    (h : pc_r af L j = 0 → post 0 (cap, nI L, xol, xil, xrm, xsp, xco, xec, xat, xlt, nI (pc_k af L j + 1), xwu, xpu, xvu, xdc, xsu, xpo, xdl, xtl, xbu, xsv, af, aa, ao, ai, ar, upd ak e (af (pc_k af L j) + nI (256 * (if pc_l af L j then 1 else 0))), als, ale, afl, awd, apr, aws, aps, avs, ali, adr, atx, adg)) : wpX_readConversion post (cap, nI L, xol, xil, xrm, xsp, xco, xec, xat, xlt, nI j, xwu, xpu, xvu, xdc, xsu, xpo, xdl, xtl, xbu, xsv, af, aa, ao, ai, ar, ak, als, ale, afl, awd, apr, aws, aps, avs, ali, adr, atx, adg) (nI e) := by
  have key : ∀ k g : Nat, (g = 0 ∨ g = 1) → pc_k af L j = k → (if pc_l af L j then 1 else 0) = g → (g = 1 ↔ pc_l af L j) →
      ((nI k < nI L → (vp_in (nI k) 64 ∧ (∀ x3 : Int32, x3 = af (nI k).toNatClampNeg → ((x3 = 99 → wX_readConversion_42 post (nI e) (nI g) x3 cap (nI L) xol xil xrm xsp xco xec xat xlt (nI k) xwu xpu xvu xdc xsu xpo xdl xtl xbu xsv af aa ao ai ar ak als ale afl awd apr aws aps avs ali adr atx adg) ∧ (¬ x3 = 99 → (x3 = 115 → wX_readConversion_42 post (nI e) (nI g) x3 cap (nI L) xol xil xrm xsp xco xec xat xlt (nI k) xwu xpu xvu xdc xsu xpo xdl xtl xbu xsv af aa ao ai ar ak als ale afl awd apr aws aps avs ali adr atx adg) ∧ (¬ x3 = 115 → wX_readConversion_47 post (nI e) (nI g) x3 0 cap (nI L) xol xil xrm xsp xco xec xat xlt (nI k) xwu xpu xvu xdc xsu xpo xdl xtl xbu xsv af aa ao ai ar ak als ale afl awd apr aws aps avs ali adr atx adg)))))) ∧ (¬ nI k < nI L → post (-1) (cap, nI L, xol, xil, xrm, xsp, xco, xec, xat, xlt, nI k, xwu, xpu, xvu, xdc, xsu, xpo, xdl, xtl, xbu, xsv, af, aa, ao, ai, ar, ak, als, ale, afl, awd, apr, aws, aps, avs, ali, adr, atx, adg))) := by
    intro k g hg ek eg ig
    have hk := pc_kb af hj
    have er : pc_r af L j = if L ≤ k then -1 else if ¬ cv_t (af k) ∧ cv_b (af k) = 0 then -2 else if cv_t (af k) ∧ pc_l af L j then -11 else 0 := by
      unfold pc_r
      rw [ek]
    rw [ek] at hr h hk
    rw [eg] at h
    refine pk_lt k L (fun hl => ⟨vp_in_nI (by omega) (by omega), nm_r (e' := af k) (by rw [nI_clamp (by omega)]) ?_⟩) (fun hl => ?_)
    · rw [if_neg (by omega)] at er
      refine xm_rcT he hg (fun z => ?_) (fun z => ?_) (fun z1 z2 => ?_)
      · rw [if_pos z] at er
        rw [er] at hr
        exact hr (by decide)
      · have z' : cv_t (af k) ∧ pc_l af L j := ⟨z.1, ig.mp z.2⟩
        rw [if_neg (fun q => q.1 z.1), if_pos z'] at er
        rw [er] at hr
        exact hr (by decide)
      · rw [if_neg (fun q => z1.elim q.1 (fun y => y q.2)), if_neg (fun q => z2 ⟨q.1, ig.mpr q.2⟩)] at er
        exact h er
    · rw [if_pos hl] at er
      rw [er] at hr
      exact hr (by decide)
  unfold wpX_readConversion
  refine xm_tfc (j := j) hL (by omega) (fun h1 h2 => ?_) (fun hn => ?_)
  · have hs : pc_l af L j := ⟨h1, h2⟩
    exact key (j + 1) 1 (Or.inr rfl) (by unfold pc_k; rw [if_pos hs]) (by rw [if_pos hs]) ⟨fun _ => hs, fun _ => rfl⟩
  · have hs : ¬ pc_l af L j := hn
    exact key j 0 (Or.inl rfl) (by unfold pc_k; rw [if_neg hs]) (by rw [if_neg hs]) ⟨fun z => absurd z (by decide), fun z => absurd z hs⟩
theorem xm_ae {post : SX → Prop} {E : Nat} (hE : E < 64) (h : post (cap, xfl, xol, xil, xrm, xsp, xco, nI (E + 1), xat, xlt, xcu, xwu, xpu, xvu, xdc, xsu, xpo, xdl, xtl, xbu, xsv, af, aa, ao, ai, ar, upd ak E 0, upd als E xlt, upd ale E xlt, upd afl E 0, upd awd E 0, upd apr E (-1), upd aws E (-1), upd aps E (-1), upd avs E (-1), ali, adr, atx, adg)) : wpX_addEntry post (cap, xfl, xol, xil, xrm, xsp, xco, nI E, xat, xlt, xcu, xwu, xpu, xvu, xdc, xsu, xpo, xdl, xtl, xbu, xsv, af, aa, ao, ai, ar, ak, als, ale, afl, awd, apr, aws, aps, avs, ali, adr, atx, adg) := by
  have e : (nI E).toNatClampNeg = E := nI_clamp (by omega)
  have v : vp_in (nI E) 64 := vp_in_nI (by omega) (by omega)
  refine br_t (nI_lt (b := 64) hE (by decide)) ?_
  exact ⟨v, nm_r (by rw [e]) ⟨v, nm_r (by rw [e]) ⟨v, nm_r (by rw [e]) ⟨v, nm_r (by rw [e]) ⟨v, nm_r (by rw [e]) ⟨v, nm_r (by rw [e]) ⟨v, nm_r (by rw [e]) ⟨v, nm_r (by rw [e]) ⟨v, nm_r (by rw [e]) (nm_r (nI_1 E) h)⟩⟩⟩⟩⟩⟩⟩⟩⟩
theorem xm_al25 {post : SX → Prop} {E T : Nat} {c : Int32} (hE : E < 64) (hT : T < 64) (hc : ar_ch c) (h : post (cap, xfl, xol, xil, xrm, xsp, xco, nI (E + 1), xat, nI (T + 1), xcu, xwu, xpu, xvu, xdc, xsu, xpo, xdl, xtl, xbu, xsv, af, aa, ao, ai, ar, ak, als, upd ale E (nI (T + 1)), afl, awd, apr, aws, aps, avs, upd ali T c, adr, atx, adg)) : wX_addLiteralChar_25 post c cap xfl xol xil xrm xsp xco (nI (E + 1)) xat (nI T) xcu xwu xpu xvu xdc xsu xpo xdl xtl xbu xsv af aa ao ai ar ak als ale afl awd apr aws aps avs ali adr atx adg := by
  have eE : (nI E).toNatClampNeg = E := nI_clamp (by omega)
  have eT : (nI T).toNatClampNeg = T := nI_clamp (by omega)
  refine br_f (nI_ge (b := 64) hT (by decide)) ⟨vp_in_nI hT (by decide), nm_r (e' := upd ali T c) (by rw [eT, ar_nar hc]) (nm_r (nI_1 T) ⟨?_, nm_r (e' := upd ale E (nI (T + 1))) (by rw [nI_pred, eE]) h⟩)⟩
  rw [nI_pred]
  exact vp_in_nI hE (by decide)
/-- a literal char: a new entry, or one more char of the last one -/
theorem xm_al {post : SX → Prop} {E T : Nat} {c : Int32} (hE : E < 64) (hT : T < 64) (hc : ar_ch c)
    (h1 : (0 < E → ¬ ak (E - 1) = 0) → post (cap, xfl, xol, xil, xrm, xsp, xco, nI (E + 1), xat, nI (T + 1), xcu, xwu, xpu, xvu, xdc, xsu, xpo, xdl, xtl, xbu, xsv, af, aa, ao, ai, ar, upd ak E 0, upd als E (nI T), upd ale E (nI (T + 1)), upd afl E 0, upd awd E 0, upd apr E (-1), upd aws E (-1), upd aps E (-1), upd avs E (-1), upd ali T c, adr, atx, adg))
    (h2 : 0 < E → ak (E - 1) = 0 → post (cap, xfl, xol, xil, xrm, xsp, xco, nI E, xat, nI (T + 1), xcu, xwu, xpu, xvu, xdc, xsu, xpo, xdl, xtl, xbu, xsv, af, aa, ao, ai, ar, ak, als, upd ale (E - 1) (nI (T + 1)), afl, awd, apr, aws, aps, avs, upd ali T c, adr, atx, adg)) : wpX_addLiteralChar post (cap, xfl, xol, xil, xrm, xsp, xco, nI E, xat, nI T, xcu, xwu, xpu, xvu, xdc, xsu, xpo, xdl, xtl, xbu, xsv, af, aa, ao, ai, ar, ak, als, ale, afl, awd, apr, aws, aps, avs, ali, adr, atx, adg) c := by
  have new : (0 < E → ¬ ak (E - 1) = 0) → wX_addLiteralChar_21 post c cap xfl xol xil xrm xsp xco (nI E) xat (nI T) xcu xwu xpu xvu xdc xsu xpo xdl xtl xbu xsv af aa ao ai ar ak als ale afl awd apr aws aps avs ali adr atx adg := by
    intro hn
    unfold wX_addLiteralChar_21
    refine xm_ae hE (xm_al25 hE hT hc ?_)
    rw [ar_uu]
    exact h1 hn
  by_cases h0 : E = 0
  · subst h0
    exact br_t rfl (new (fun z => absurd z (by omega)))
  · obtain ⟨E, rfl⟩ : ∃ x, E = x + 1 := ⟨E - 1, by omega⟩
    have eE : (nI (E + 1) - 1).toNatClampNeg = E := by rw [nI_pred]; exact nI_clamp (by omega)
    refine br_f (nI_ne0 (by omega) (by omega)) ⟨by rw [nI_pred]; exact vp_in_nI (by omega) (by decide), ?_⟩
    rw [Nat.add_sub_cancel] at h1 h2 new
    refine wk_if (d := ak E = 0) (by rw [eE]) (fun z => xm_al25 (by omega) hT hc (h2 (by omega) z)) (fun z => new (fun _ => z))
theorem xm_ts {post : Int32 → SX → Prop} {s b : Nat} {u : Int32} (hu : ∃ k : Nat, k ≤ 8 ∧ u = nI k) (I : us_I s b) (h1 : us_r u s b < 0 → post (us_r u s b) (cap, xfl, xol, xil, xrm, xsp, xco, xec, xat, xlt, xcu, xwu, xpu, xvu, xdc, nI s, nI b, xdl, xtl, xbu, xsv, af, aa, ao, ai, ar, ak, als, ale, afl, awd, apr, aws, aps, avs, ali, adr, atx, adg)) (h2 : ¬ us_r u s b < 0 → post (us_r u s b) (cap, xfl, xol, xil, xrm, xsp, xco, xec, xat, xlt, xcu, xwu, xpu, xvu, xdc, nI (sl_n u s), nI (us_b u b), xdl, xtl, xbu, xsv, af, aa, ao, ai, ar, ak, als, ale, afl, awd, apr, aws, aps, avs, ali, adr, atx, adg)) : wpX_takeSlot post (cap, xfl, xol, xil, xrm, xsp, xco, xec, xat, xlt, xcu, xwu, xpu, xvu, xdc, nI s, nI b, xdl, xtl, xbu, xsv, af, aa, ao, ai, ar, ak, als, ale, afl, awd, apr, aws, aps, avs, ali, adr, atx, adg) u := by
  obtain ⟨k, hk, rfl⟩ := hu
  obtain ⟨I1, I2, I3⟩ := I
  cases k with
  | zero =>
    rw [nI_0, us_r0] at h1 h2
    rw [sl_n0, us_b0] at h2
    refine br_t rfl (pk_eq b 0 (fun hb => ?_) (fun hb => ?_))
    · rw [if_neg (fun z => z hb)] at h1 h2
      refine pk_lt s 8 (fun hs => nm_r (nI_1 s) ?_) (fun hs => ?_)
      · rw [if_neg (by omega)] at h2
        rw [nI_pred]
        exact h2 (nI_pos (by omega))
      · rw [if_pos hs] at h1
        exact h1 (by decide)
    · rw [if_pos hb] at h1
      exact h1 (by decide)
  | succ k =>
    rw [us_rk (by omega)] at h1 h2
    rw [sl_nk (by omega), us_bk (by omega)] at h2
    refine br_f (nI_ne0 (by omega) (by omega)) (pk_le s 0 (fun hs => nm_r (e' := nI (b ||| 2 ^ k)) (by rw [nI_pred]; exact us_t3 b I2 k (by omega)) ?_) (fun hs => ?_))
    · rw [if_neg (by omega)] at h2
      rw [nI_pred]
      exact h2 (nI_pos (by omega))
    · rw [if_pos hs] at h1
      exact h1 (by decide)
end
section
variable {cap xfl xol xil xrm xsp xco xec xat xlt xcu xwu xpu xvu xdc xsu xpo xdl xtl xbu : Int32} {xsv : Int64} {af ao ai ak als ale afl awd apr aws aps avs ali adr atx adg : Nat → Int32} {aa ar : Nat → Int64}
theorem us_e0 {u : Int32} {s b : Nat} (hn : ¬ u = -1) (h : us_r u s b < 0) : us_e u s b = us_r u s b ∧ ¬ us_e u s b = 0 := by
  have e : us_e u s b = us_r u s b := by
    unfold us_e
    rw [if_neg hn, if_pos h]
  refine ⟨e, ?_⟩
  rw [e]
  intro z
  rw [z] at h
  exact absurd h (by decide)
theorem us_e1 {u : Int32} {s b : Nat} (hn : ¬ u = -1) (h : ¬ us_r u s b < 0) : us_e u s b = 0 := by
  unfold us_e
  rw [if_neg hn, if_neg h]
theorem us_nn {u : Int32} (hu : ∃ k : Nat, k ≤ 8 ∧ u = nI k) : ¬ u = -1 := by
  obtain ⟨k, hk, rfl⟩ := hu
  exact us_n1 (by omega)
theorem us_rs {u : Int32} {s b : Nat} (hu : ∃ k : Nat, k ≤ 8 ∧ u = nI k) (I : us_I s b) (h : ¬ us_r u s b < 0) : us_r u s b = sl_s u s ∧ us_I (sl_n u s) (us_b u b) := by
  rcases us_cs hu I with c | c
  · exact absurd c h
  · exact c.2
theorem xm_t82 {post : Int32 → SX → Prop} {s b e : Nat} (he : e < 64) (hv : ∃ k : Nat, k ≤ 8 ∧ xvu = nI k) (I : us_I s b) (hr : ¬ us_e xvu s b = 0 → post (us_e xvu s b) (cap, xfl, xol, xil, xrm, xsp, xco, xec, xat, xlt, xcu, xwu, xpu, xvu, xdc, nI s, nI b, xdl, xtl, xbu, xsv, af, aa, ao, ai, ar, ak, als, ale, afl, awd, apr, aws, aps, avs, ali, adr, atx, adg))
    (h : us_e xvu s b = 0 → post 0 (cap, xfl, xol, xil, xrm, xsp, xco, xec, xat, xlt, xcu, xwu, xpu, xvu, xdc, nI (sl_n xvu s), nI (us_b xvu b), xdl, xtl, xbu, xsv, af, aa, ao, ai, ar, ak, als, ale, afl, awd, apr, aws, aps, upd avs e (sl_s xvu s), ali, adr, atx, adg)) : wX_takeSlots_82 post (nI e) cap xfl xol xil xrm xsp xco xec xat xlt xcu xwu xpu xvu xdc (nI s) (nI b) xdl xtl xbu xsv af aa ao ai ar ak als ale afl awd apr aws aps avs ali adr atx adg := by
  have ee : (nI e).toNatClampNeg = e := nI_clamp (by omega)
  have ve : vp_in (nI e) 64 := vp_in_nI (by omega) (by omega)
  have hn := us_nn hv
  unfold wX_takeSlots_82
  refine xm_ts hv I (fun a => ?_) (fun a => ?_)
  · obtain ⟨e1, e2⟩ := us_e0 hn a
    rw [e1] at hr e2
    exact br_f (Int32.not_le.mpr a) (hr e2)
  · have q := (us_rs hv I a).1
    have e1 := us_e1 hn a
    rw [q] at a ⊢
    exact br_t (Int32.not_lt.mp a) ⟨ve, nm_r (e' := upd avs e (sl_s xvu s)) (by rw [ee]) (h e1)⟩
theorem xm_t52 {post : Int32 → SX → Prop} {s b e : Nat} (he : e < 64) (hp : xpu = -1 ∨ ∃ k : Nat, k ≤ 8 ∧ xpu = nI k) (hv : ∃ k : Nat, k ≤ 8 ∧ xvu = nI k) (I : us_I s b) (h0 : aps e = -1)
    (hr1 : ¬ us_e xpu s b = 0 → post (us_e xpu s b) (cap, xfl, xol, xil, xrm, xsp, xco, xec, xat, xlt, xcu, xwu, xpu, xvu, xdc, nI s, nI b, xdl, xtl, xbu, xsv, af, aa, ao, ai, ar, ak, als, ale, afl, awd, apr, aws, aps, avs, ali, adr, atx, adg))
    (hr2 : us_e xpu s b = 0 → ¬ us_e xvu (sl_n xpu s) (us_b xpu b) = 0 → post (us_e xvu (sl_n xpu s) (us_b xpu b)) (cap, xfl, xol, xil, xrm, xsp, xco, xec, xat, xlt, xcu, xwu, xpu, xvu, xdc, nI (sl_n xpu s), nI (us_b xpu b), xdl, xtl, xbu, xsv, af, aa, ao, ai, ar, ak, als, ale, afl, awd, apr, aws, upd aps e (sl_s xpu s), avs, ali, adr, atx, adg))
    (h : us_e xpu s b = 0 → us_e xvu (sl_n xpu s) (us_b xpu b) = 0 → post 0 (cap, xfl, xol, xil, xrm, xsp, xco, xec, xat, xlt, xcu, xwu, xpu, xvu, xdc, nI (sl_n xvu (sl_n xpu s)), nI (us_b xvu (us_b xpu b)), xdl, xtl, xbu, xsv, af, aa, ao, ai, ar, ak, als, ale, afl, awd, apr, aws, upd aps e (sl_s xpu s), upd avs e (sl_s xvu (sl_n xpu s)), ali, adr, atx, adg)) : wX_takeSlots_52 post (nI e) cap xfl xol xil xrm xsp xco xec xat xlt xcu xwu xpu xvu xdc (nI s) (nI b) xdl xtl xbu xsv af aa ao ai ar ak als ale afl awd apr aws aps avs ali adr atx adg := by
  have ee : (nI e).toNatClampNeg = e := nI_clamp (by omega)
  have ve : vp_in (nI e) 64 := vp_in_nI (by omega) (by omega)
  rcases hp with rfl | hp
  · have z : us_e (-1) s b = 0 := rfl
    have k1 : sl_n (-1) s = s := rfl
    have k2 : us_b (-1) b = b := rfl
    have k3 : upd aps e (sl_s (-1) s) = aps := ar_us h0
    rw [k1, k2, k3] at hr2 h
    exact br_t rfl (xm_t82 he hv I (hr2 z) (h z))
  · have hn := us_nn hp
    refine br_f hn (xm_ts hp I (fun a => ?_) (fun a => ?_))
    · obtain ⟨e1, e2⟩ := us_e0 hn a
      rw [e1] at hr1 e2
      exact br_f (Int32.not_le.mpr a) (hr1 e2)
    · have q := us_rs hp I a
      have e1 := us_e1 hn a
      rw [q.1] at a ⊢
      exact br_t (Int32.not_lt.mp a) ⟨ve, nm_r (e' := upd aps e (sl_s xpu s)) (by rw [ee]) (xm_t82 he hv q.2 (hr2 e1) (h e1))⟩
theorem xm_tss {post : Int32 → SX → Prop} {s b e d : Nat} (he : e < 64) (hd : d ≤ 64) (hw : xwu = -1 ∨ ∃ k : Nat, k ≤ 8 ∧ xwu = nI k) (hp : xpu = -1 ∨ ∃ k : Nat, k ≤ 8 ∧ xpu = nI k) (hv : ∃ k : Nat, k ≤ 8 ∧ xvu = nI k) (I : us_I s b) (h0 : aws e = -1) (h1 : aps e = -1)
    (hr : ¬ tk_r d xwu xpu xvu s b = 0 → ∀ (xdc xsu xpo : Int32) (aws aps avs : Nat → Int32), post (tk_r d xwu xpu xvu s b) (cap, xfl, xol, xil, xrm, xsp, xco, xec, xat, xlt, xcu, xwu, xpu, xvu, xdc, xsu, xpo, xdl, xtl, xbu, xsv, af, aa, ao, ai, ar, ak, als, ale, afl, awd, apr, aws, aps, avs, ali, adr, atx, adg))
    (h : tk_r d xwu xpu xvu s b = 0 → post 0 (cap, xfl, xol, xil, xrm, xsp, xco, xec, xat, xlt, xcu, xwu, xpu, xvu, nI (d + 1), nI (sl_n xvu (sl_n xpu (sl_n xwu s))), nI (us_b xvu (us_b xpu (us_b xwu b))), xdl, xtl, xbu, xsv, af, aa, ao, ai, ar, ak, als, ale, afl, awd, apr, upd aws e (sl_s xwu s), upd aps e (sl_s xpu (sl_n xwu s)), upd avs e (sl_s xvu (sl_n xpu (sl_n xwu s))), ali, adr, atx, adg)) : wpX_takeSlots post (cap, xfl, xol, xil, xrm, xsp, xco, xec, xat, xlt, xcu, xwu, xpu, xvu, nI d, nI s, nI b, xdl, xtl, xbu, xsv, af, aa, ao, ai, ar, ak, als, ale, afl, awd, apr, aws, aps, avs, ali, adr, atx, adg) (nI e) := by
  have ee : (nI e).toNatClampNeg = e := nI_clamp (by omega)
  have ve : vp_in (nI e) 64 := vp_in_nI (by omega) (by omega)
  refine nm_r (nI_1 d) (pk_le (d + 1) 16 (fun hd => ?_) (fun hd => ?_))
  · have t0 : ¬ 16 < d + 1 := by omega
    have T : tk_r d xwu xpu xvu s b = if ¬ us_e xwu s b = 0 then us_e xwu s b else if ¬ us_e xpu (sl_n xwu s) (us_b xwu b) = 0 then us_e xpu (sl_n xwu s) (us_b xwu b) else us_e xvu (sl_n xpu (sl_n xwu s)) (us_b xpu (us_b xwu b)) := by
      unfold tk_r
      rw [if_neg t0]
    have step : ∀ (s' b' : Nat) (aws' : Nat → Int32), us_e xwu s b = 0 → sl_n xwu s = s' → us_b xwu b = b' → us_I s' b' → upd aws e (sl_s xwu s) = aws' → wX_takeSlots_52 post (nI e) cap xfl xol xil xrm xsp xco xec xat xlt xcu xwu xpu xvu (nI (d + 1)) (nI s') (nI b') xdl xtl xbu xsv af aa ao ai ar ak als ale afl awd apr aws' aps avs ali adr atx adg := by
      intro s' b' aws' z e1 e2 I' e3
      rw [if_neg (fun y => y z), e1, e2] at T
      rw [e1, e2, e3] at h
      refine xm_t52 he hp hv I' h1 (fun y => ?_) (fun y1 y2 => ?_) (fun y1 y2 => ?_)
      · rw [if_pos y] at T
        rw [T] at hr
        exact hr y _ _ _ _ _ _
      · rw [if_neg (fun q => q y1)] at T
        rw [T] at hr
        exact hr y2 _ _ _ _ _ _
      · rw [if_neg (fun q => q y1), y2] at T
        exact h T
    rcases hw with rfl | hw
    · exact br_t rfl (step s b aws rfl rfl rfl I (ar_us h0))
    · have hn := us_nn hw
      refine br_f hn (xm_ts hw I (fun a => ?_) (fun a => ?_))
      · obtain ⟨e1, e2⟩ := us_e0 hn a
        rw [if_pos e2, e1] at T
        rw [T] at hr
        rw [e1] at e2
        exact br_f (Int32.not_le.mpr a) (hr e2 _ _ _ _ _ _)
      · have q := us_rs hw I a
        have e1 := us_e1 hn a
        rw [q.1] at a ⊢
        exact br_t (Int32.not_lt.mp a) ⟨ve, nm_r (e' := upd aws e (sl_s xwu s)) (by rw [ee]) (step _ _ _ e1 rfl rfl q.2 rfl)⟩
  · have T : tk_r d xwu xpu xvu s b = -6 := by
      unfold tk_r
      rw [if_pos hd]
    rw [T] at hr
    exact hr (by decide) _ _ _ _ _ _
end
section
variable {cap xfl xol xil xrm xsp xco xec xat xlt xcu xwu xpu xvu xdc xsu xpo xdl xtl xbu : Int32} {xsv : Int64} {af ao ai ak als ale afl awd apr aws aps avs ali adr atx adg : Nat → Int32} {aa ar : Nat → Int64}
/-- a directive: an error, or a new row -/
theorem xm_rd {post : Int32 → SX → Prop} {L p E T d s b : Nat} (hL : L ≤ 64) (hp : p < L) (hE : E < 64) (hd : d ≤ 64) (I : us_I s b)
    (hr1 : ¬ dr_r af L p = 0 → ∀ (xec xat xlt xcu xwu xpu xvu xdc xsu xpo : Int32) (ak als ale afl awd apr aws aps avs ali : Nat → Int32), post (dr_r af L p) (cap, nI L, xol, xil, xrm, xsp, xco, xec, xat, xlt, xcu, xwu, xpu, xvu, xdc, xsu, xpo, xdl, xtl, xbu, xsv, af, aa, ao, ai, ar, ak, als, ale, afl, awd, apr, aws, aps, avs, ali, adr, atx, adg))
    (hr2 : dr_r af L p = 0 → ¬ tk_r d (dr_wu af L p) (dr_pu af L p) (dr_v af L p) s b = 0 → ∀ (xec xat xlt xcu xwu xpu xvu xdc xsu xpo : Int32) (ak als ale afl awd apr aws aps avs ali : Nat → Int32), post (tk_r d (dr_wu af L p) (dr_pu af L p) (dr_v af L p) s b) (cap, nI L, xol, xil, xrm, xsp, xco, xec, xat, xlt, xcu, xwu, xpu, xvu, xdc, xsu, xpo, xdl, xtl, xbu, xsv, af, aa, ao, ai, ar, ak, als, ale, afl, awd, apr, aws, aps, avs, ali, adr, atx, adg))
    (h : dr_r af L p = 0 → tk_r d (dr_wu af L p) (dr_pu af L p) (dr_v af L p) s b = 0 → ∀ (xwu xpu xvu : Int32), post 0 (cap, nI L, xol, xil, xrm, xsp, xco, nI (E + 1), xat, nI T, nI (dr_k af L p + 1), xwu, xpu, xvu, nI (d + 1), nI (sl_n (dr_v af L p) (sl_n (dr_pu af L p) (sl_n (dr_wu af L p) s))), nI (us_b (dr_v af L p) (us_b (dr_pu af L p) (us_b (dr_wu af L p) b))), xdl, xtl, xbu, xsv, af, aa, ao, ai, ar, upd ak E (dr_c af L p + nI (256 * dr_g af L p)), upd als E (nI T), upd ale E (nI T), upd afl E (nI (dr_m af L p)), upd awd E (nI (dr_w af L p)), upd apr E (dr_p af L p), upd aws E (sl_s (dr_wu af L p) s), upd aps E (sl_s (dr_pu af L p) (sl_n (dr_wu af L p) s)), upd avs E (sl_s (dr_v af L p) (sl_n (dr_pu af L p) (sl_n (dr_wu af L p) s))), ali, adr, atx, adg)) :
    wpX_readDirective post (cap, nI L, xol, xil, xrm, xsp, xco, nI E, xat, nI T, nI p, xwu, xpu, xvu, nI d, nI s, nI b, xdl, xtl, xbu, xsv, af, aa, ao, ai, ar, ak, als, ale, afl, awd, apr, aws, aps, avs, ali, adr, atx, adg) := by
  obtain ⟨b1, b2, b3, b4, b5, b6, c1, c2, c3, c4⟩ := dr_b af hp
  have D : dr_r af L p = if dr_v af L p < 0 then dr_v af L p else if ¬ pw_r af L (dr_2 af L p) = 0 then pw_r af L (dr_2 af L p) else if ¬ pp_r af L (dr_3 af L p) = 0 then pp_r af L (dr_3 af L p) else pc_r af L (dr_4 af L p) := rfl
  unfold wpX_readDirective
  refine xm_ae hE (nm_r (nI_pred E) (nm_r (nI_1 p) (xm_rp hL (by omega) ?_)))
  by_cases v0 : dr_v af L p < 0
  · rw [if_pos v0] at D
    rw [D] at hr1
    exact br_f (Int32.not_le.mpr v0) (hr1 (fun z => by rw [z] at v0; exact absurd v0 (by decide)) _ _ _ _ _ _ _ _ _ _ _ _ _ _ _ _ _ _ _ _)
  rw [if_neg v0] at D
  refine br_t (Int32.not_lt.mp v0) (xm_rf hL hE c1 pk_us (xm_rw hL hE c2 pk_us ?_))
  by_cases w0 : ¬ pw_r af L (dr_2 af L p) = 0
  · rw [if_pos w0] at D
    rw [D] at hr1
    exact br_f w0 (br_f w0 (br_f w0 (hr1 w0 _ _ _ _ _ _ _ _ _ _ _ _ _ _ _ _ _ _ _ _)))
  rw [if_neg w0] at D
  refine br_t (Decidable.not_not.mp w0) (xm_rpr hL hE c3 pk_us ?_)
  by_cases q0 : ¬ pp_r af L (dr_3 af L p) = 0
  · rw [if_pos q0] at D
    rw [D] at hr1
    exact br_f q0 (br_f q0 (hr1 q0 _ _ _ _ _ _ _ _ _ _ _ _ _ _ _ _ _ _ _ _))
  rw [if_neg q0] at D
  refine br_t (Decidable.not_not.mp q0) (xm_rc hL hE c4 (fun z => ?_) (fun z => ?_))
  · rw [D] at hr1
    exact br_f z (hr1 z _ _ _ _ _ _ _ _ _ _ _ _ _ _ _ _ _ _ _ _)
  · have R : dr_r af L p = 0 := D.trans z
    obtain ⟨u1, u2, u3⟩ := dr_us R
    refine br_t rfl (xm_tss hE hd u1 u2 u3 I pk_us pk_us (fun y => ?_) (fun y => ?_))
    · intro _ _ _ _ _ _
      exact hr2 R y _ _ _ _ _ _ _ _ _ _ _ _ _ _ _ _ _ _ _ _
    · rw [ar_uu, ar_uu, ar_uu, ar_uu, ar_uu, ar_uu, ar_uu]
      exact h R y _ _ _
/-- the gap check: t is the number of positions from 1 on without a gap -/
theorem xm_ca {post : Int32 → SX → Prop} {s b t : Nat} (hb : b < 256) (ht : t ≤ 8) (ho : ∀ i, i < t → b / 2 ^ i % 2 = 1) (hz : t = 8 ∨ b / 2 ^ t % 2 = 0)
    (h1 : b / 2 ^ t = 0 → post 0 (cap, xfl, xol, xil, xrm, xsp, xco, xec, nI (t + s), xlt, xcu, xwu, xpu, xvu, xdc, nI s, nI b, xdl, xtl, xbu, xsv, af, aa, ao, ai, ar, ak, als, ale, afl, awd, apr, aws, aps, avs, ali, adr, atx, adg)) (h2 : ¬ b / 2 ^ t = 0 → post (-7) (cap, xfl, xol, xil, xrm, xsp, xco, xec, xat, xlt, xcu, xwu, xpu, xvu, xdc, nI s, nI b, xdl, xtl, xbu, xsv, af, aa, ao, ai, ar, ak, als, ale, afl, awd, apr, aws, aps, avs, ali, adr, atx, adg)) : wpX_countArgs post (cap, xfl, xol, xil, xrm, xsp, xco, xec, xat, xlt, xcu, xwu, xpu, xvu, xdc, nI s, nI b, xdl, xtl, xbu, xsv, af, aa, ao, ai, ar, ak, als, ale, afl, awd, apr, aws, aps, avs, ali, adr, atx, adg) := by
  have fin : wX_countArgs_26 post (nI t) cap xfl xol xil xrm xsp xco xec xat xlt xcu xwu xpu xvu xdc (nI s) (nI b) xdl xtl xbu xsv af aa ao ai ar ak als ale afl awd apr aws aps avs ali adr atx adg := by
    have e4 := us_t4 b hb t (by omega)
    have hd : b / 2 ^ t ≤ b := Nat.div_le_self _ _
    refine pk_eq (b / 2 ^ t) 0 (fun z => nm_r (nI_add t s) (h1 z)) (fun z => h2 z) e4
  have lo : ∀ r i, i + r = t → wX_countArgs_2 post cap xfl xol xil xrm xsp xco xec xat xlt xcu xwu xpu xvu xdc (nI s) (nI b) xdl xtl xbu xsv af aa ao ai ar ak als ale afl awd apr aws aps avs ali adr atx adg (r + 1) (nI i) := by
    intro r
    induction r with
    | zero =>
      intro i hi
      have e : i = t := by omega
      subst e
      refine pk_le 8 i (fun _ => fin) (fun h8 => br_f ?_ fin)
      rw [us_t4 b hb i (by omega), us_t5 b hb i (by omega)]
      have z : b / 2 ^ i % 2 = 0 := by
        rcases hz with q | q
        · omega
        · exact q
      rw [z]; decide
    | succ r ih =>
      intro i hi
      refine br_f (nI_ge (b := 8) (by omega) (by decide)) (br_t ?_ (nm_r (nI_1 i) (ih (i + 1) (by omega))))
      rw [us_t4 b hb i (by omega), us_t5 b hb i (by omega), ho i (by omega)]
      rfl
  exact ⟨t + 1, lo t 0 (by omega)⟩
end
end
section
/-! the reference: digit runs, one directive, one item -/
section
variable {yfl yil yol ytl ycap ymk yen yac yec ypos yco yde ydp ydw ydq ywd ypr yit ym1 ym2 ym3 ym4 ym5 yws yps ylg ycv ycm ycs ycx ycu ysq ysv ycw ycp ycn : Int32} {bf bi bo btm brv : Nat → Int32} {ba brs : Nat → Int64}
theorem ym_id {post : Int32 → Prop} {c : Int32} (c' : Int32) (e : c = c') (h1 : rn_d c' → post 1) (h0 : ¬ rn_d c' → post 0) : wpY_isDigit post c := by
  subst e
  by_cases a : c < 48
  · exact br_t a (h0 (fun z => absurd z.1 (Int32.not_le.mpr a)))
  · refine br_f a ?_
    by_cases b : 57 < c
    · exact br_t b (h0 (fun z => absurd z.2 (Int32.not_le.mpr b)))
    · exact br_f b (h1 ⟨Int32.not_lt.mp a, Int32.not_lt.mp b⟩)
theorem ym_rel {post : Int32 → Prop} {L : Nat} (hL : L ≤ 64) : ∀ n j k, j ≤ L → k ≤ j → L - j < n → post (nI (rn_E bf (L - j) j)) → wY_runEnd_4 post (nI L) yil yol ytl ycap ymk yen yac yec ypos yco yde ydp ydw ydq ywd ypr yit ym1 ym2 ym3 ym4 ym5 yws yps ylg ycv ycm ycs ycx ycu ysq ysv ycw ycp ycn bf bi bo btm brv ba brs n (nI j) (nI k) := by
  intro n
  induction n with
  | zero => intro j k hj hk hn; omega
  | succ n ih =>
    intro j k hj hk hn h
    have h0 : L ≤ j → post (nI j) := fun hl => by
      rw [show L - j = 0 by omega] at h
      exact h
    refine pk_le 64 k (fun hl => h0 (by omega)) (fun hl => pk_le L j h0 (fun hj => ?_))
    have ej : (nI j).toNatClampNeg = j := nI_clamp (by omega)
    refine ⟨vp_in_nI (by omega) (by omega), ym_id (bf j) (by rw [ej]) (fun d => ?_) (fun d => ?_)⟩
    · obtain ⟨m, hm⟩ : ∃ m, L - j = m + 1 := ⟨L - j - 1, by omega⟩
      rw [hm, rn_Es bf d, show m = L - (j + 1) by omega] at h
      exact br_f (by decide) (nm_r (nI_1 j) (nm_r (nI_1 k) (ih (j + 1) (k + 1) (by omega) (by omega) (by omega) h)))
    · rw [rn_E0 bf d] at h
      exact br_t rfl h
theorem ym_re {post : Int32 → Prop} {L j : Nat} (hL : L ≤ 64) (hj : j ≤ L) (h : post (nI (rn_E bf (L - j) j))) : wpY_runEnd post (nI L, yil, yol, ytl, ycap, ymk, yen, yac, yec, ypos, yco, yde, ydp, ydw, ydq, ywd, ypr, yit, ym1, ym2, ym3, ym4, ym5, yws, yps, ylg, ycv, ycm, ycs, ycx, ycu, ysq, ysv, ycw, ycp, ycn, bf, bi, bo, btm, brv, ba, brs) (nI j) :=
  ⟨L - j + 1, ym_rel hL (L - j + 1) j 0 hj (by omega) (by omega) h⟩
theorem ym_rvl {post : Int32 → Prop} {L j : Nat} (hL : L ≤ 64) : ∀ n k v, j + k ≤ L → L - (j + k) < n → v ≤ 1000 → post (nI (rn_V bf (L - (j + k)) (j + k) v)) → wY_runVal_4 post (nI j) (nI L) yil yol ytl ycap ymk yen yac yec ypos yco yde ydp ydw ydq ywd ypr yit ym1 ym2 ym3 ym4 ym5 yws yps ylg ycv ycm ycs ycx ycu ysq ysv ycw ycp ycn bf bi bo btm brv ba brs n (nI v) (nI k) := by
  intro n
  induction n with
  | zero => intro k v hj hn; omega
  | succ n ih =>
    intro k v hj hn hv h
    have h0 : L ≤ j + k → post (nI v) := fun hl => by
      rw [show L - (j + k) = 0 by omega] at h
      exact h
    refine pk_le 64 k (fun hl => h0 (by omega)) (fun hl => pk_le L (j + k) h0 (fun hj => ?_) rfl (nI_add j k))
    have ej : (nI j + nI k).toNatClampNeg = j + k := by rw [nI_add]; exact nI_clamp (by omega)
    have vi : vp_in (nI j + nI k) 64 := by rw [nI_add]; exact vp_in_nI (by omega) (by omega)
    refine ⟨vi, ym_id (bf (j + k)) (by rw [ej]) (fun d => ?_) (fun d => ?_)⟩
    · obtain ⟨w, hw, e1, e2⟩ := rn_st hv d
      obtain ⟨m, hm⟩ : ∃ m, L - (j + k) = m + 1 := ⟨L - (j + k) - 1, by omega⟩
      rw [hm, rn_Vs bf d, e2, show m = L - (j + (k + 1)) by omega, Nat.add_assoc] at h
      refine br_f (by decide) ⟨vi, nm_r (e' := nI w) (by rw [ej]; exact e1) ?_⟩
      refine pk_le w 1000 (fun hw => nm_r (nI_1 k) ?_) (fun hw => nm_r (nI_1 k) ?_)
      · rw [if_neg (by omega)] at h
        exact ih (k + 1) w (by omega) (by omega) (by omega) h
      · rw [if_pos hw] at h
        exact ih (k + 1) 1000 (by omega) (by omega) (by omega) h
    · rw [rn_V0 bf d] at h
      exact br_t rfl h
theorem ym_rv {post : Int32 → Prop} {L j : Nat} (hL : L ≤ 64) (hj : j ≤ L) (h : post (nI (rn_V bf (L - j) j 0))) : wpY_runVal post (nI L, yil, yol, ytl, ycap, ymk, yen, yac, yec, ypos, yco, yde, ydp, ydw, ydq, ywd, ypr, yit, ym1, ym2, ym3, ym4, ym5, yws, yps, ylg, ycv, ycm, ycs, ycx, ycu, ysq, ysv, ycw, ycp, ycn, bf, bi, bo, btm, brv, ba, brs) (nI j) :=
  ⟨L - j + 1, ym_rvl hL (L - j + 1) 0 0 (by omega) (by omega) (by omega) h⟩
theorem ps_w {f : Nat → Int32} {L j : Nat} {A B : Prop} (hL : L ≤ 64) (hj : j ≤ L) (hA : ¬ ps_at f L j → A) (hB : ps_at f L j → B) : (nI (rn_E f (L - j) j) ≤ nI j → A) ∧ (¬ nI (rn_E f (L - j) j) ≤ nI j → ((nI L ≤ nI (rn_E f (L - j) j) → A) ∧ (¬ nI L ≤ nI (rn_E f (L - j) j) → (vp_in (nI (rn_E f (L - j) j)) 64 ∧ ((f (nI (rn_E f (L - j) j)).toNatClampNeg = 36 → B) ∧ (¬ f (nI (rn_E f (L - j) j)).toNatClampNeg = 36 → A)))))) := by
  have hb := rn_Eb f (L - j) j
  refine pk_le (rn_E f (L - j) j) j (fun h => hA (fun z => by have := z.1; omega)) (fun h => pk_le L (rn_E f (L - j) j) (fun h2 => hA (fun z => by have := z.2.1; omega)) (fun h2 => ⟨vp_in_nI (by omega) (by omega), ?_⟩))
  refine wk_if (d := f (rn_E f (L - j) j) = 36) (by rw [nI_clamp (by omega)]) (fun q => hB ⟨h, h2, q⟩) (fun q => hA (fun z => q z.2.2))
theorem ps_b {f : Nat → Int32} {L j : Nat} {A B : Prop} (hA : ps_bad f L j → A) (hB : ¬ ps_bad f L j → B) : (nI (rn_V f (L - j) j 0) < 1 → A) ∧ (¬ nI (rn_V f (L - j) j 0) < 1 → ((nI (rn_V f (L - j) j 0) ≤ 8 → B) ∧ (¬ nI (rn_V f (L - j) j 0) ≤ 8 → A))) := by
  have hV := rn_Vb f (L - j) j 0 (by omega)
  exact pk_lt (rn_V f (L - j) j 0) 1 (fun h => hA (Or.inl h)) (fun h => pk_le (rn_V f (L - j) j 0) 8 (fun h2 => hB (fun z => by rcases z with z | z <;> omega)) (fun h2 => hA (Or.inr h2)))
theorem ps_v1 {f : Nat → Int32} {L j : Nat} (h : ¬ ps_at f L j) : ps_v f L j = 0 ∧ ps_n f L j = j := by
  unfold ps_v ps_n
  rw [if_neg h, if_neg h]
  exact ⟨rfl, rfl⟩
theorem ps_v2 {f : Nat → Int32} {L j : Nat} (h : ps_at f L j) (hb : ps_bad f L j) : ps_v f L j = -3 := by
  unfold ps_v
  rw [if_pos h, if_pos hb]
theorem ps_v3 {f : Nat → Int32} {L j : Nat} (h : ps_at f L j) (hb : ¬ ps_bad f L j) : ps_v f L j = nI (rn_V f (L - j) j 0) ∧ ps_n f L j = rn_E f (L - j) j + 1 := by
  unfold ps_v ps_n
  rw [if_pos h, if_pos h, if_neg hb]
  exact ⟨rfl, rfl⟩
/-- the reference's pair of fields for a star: whether it stands, and its position -/
def yu_s (u : Int32) : Int32 := if u = -1 then 0 else 1
def yu_p (u : Int32) : Int32 := if u = -1 then 0 else u
theorem ym_632 {post : Int32 → SY → Prop} {k g : Nat} {c : Int32} (hc : ar_ch c) (hg : g = 0 ∨ g = 1) (h11 : cv_t c ∧ g = 1 → post (-11) (yfl, yil, yol, ytl, ycap, ymk, yen, yac, yec, ypos, yco, yde, ydp, ydw, ydq, ywd, ypr, yit, ym1, ym2, ym3, ym4, ym5, yws, yps, nI g, ycv, ycm, ycs, ycx, ycu, ysq, ysv, ycw, ycp, ycn, bf, bi, bo, btm, brv, ba, brs)) (h : ¬ (cv_t c ∧ g = 1) → post 0 (yfl, yil, yol, ytl, ycap, ymk, yen, yac, yec, ypos, yco, nI (k + 1), ydp, ydw, ydq, ywd, ypr, yit, ym1, ym2, ym3, ym4, ym5, yws, yps, nI g, c, ycm, ycs, ycx, ycu, ysq, ysv, ycw, ycp, ycn, bf, bi, bo, btm, brv, ba, brs)) : wY_parseAt_632 post (nI k) c yfl yil yol ytl ycap ymk yen yac yec ypos yco yde ydp ydw ydq ywd ypr yit ym1 ym2 ym3 ym4 ym5 yws yps (nI g) ycv ycm ycs ycx ycu ysq ysv ycw ycp ycn bf bi bo btm brv ba brs := by
  rcases hg with rfl | rfl
  · exact br_t rfl ⟨ar_narw hc, ar_fit hc, nm_r (nI_1 k) (h (fun z => absurd z.2 (by decide)))⟩
  · refine br_f (by decide) ⟨fun a => h11 ⟨Or.inl a, rfl⟩, fun a => ⟨fun b => h11 ⟨Or.inr b, rfl⟩, fun b => ?_⟩⟩
    exact ⟨ar_narw hc, ar_fit hc, nm_r (nI_1 k) (h (fun z => z.1.elim a b))⟩
theorem ym_562 {post : Int32 → SY → Prop} {L k g : Nat} (hL : L ≤ 64) (hk : k ≤ 64) (hf : ∀ j, ar_ch (bf j)) (hg : g = 0 ∨ g = 1) (h1 : L ≤ k → post (-1) (nI L, yil, yol, ytl, ycap, ymk, yen, yac, yec, ypos, yco, yde, ydp, ydw, ydq, ywd, ypr, yit, ym1, ym2, ym3, ym4, ym5, yws, yps, nI g, ycv, ycm, ycs, ycx, ycu, ysq, ysv, ycw, ycp, ycn, bf, bi, bo, btm, brv, ba, brs)) (h2 : k < L → ¬ cv_t (bf k) ∧ cv_b (bf k) = 0 → post (-2) (nI L, yil, yol, ytl, ycap, ymk, yen, yac, yec, ypos, yco, yde, ydp, ydw, ydq, ywd, ypr, yit, ym1, ym2, ym3, ym4, ym5, yws, yps, nI g, ycv, ycm, ycs, ycx, ycu, ysq, ysv, ycw, ycp, ycn, bf, bi, bo, btm, brv, ba, brs))
    (h11 : k < L → cv_t (bf k) ∧ g = 1 → post (-11) (nI L, yil, yol, ytl, ycap, ymk, yen, yac, yec, ypos, yco, yde, ydp, ydw, ydq, ywd, ypr, yit, ym1, ym2, ym3, ym4, ym5, yws, yps, nI g, ycv, ycm, ycs, ycx, ycu, ysq, ysv, ycw, ycp, ycn, bf, bi, bo, btm, brv, ba, brs)) (h : k < L → (cv_t (bf k) ∨ ¬ cv_b (bf k) = 0) → ¬ (cv_t (bf k) ∧ g = 1) → post 0 (nI L, yil, yol, ytl, ycap, ymk, yen, yac, yec, ypos, yco, nI (k + 1), ydp, ydw, ydq, ywd, ypr, yit, ym1, ym2, ym3, ym4, ym5, yws, yps, nI g, bf k, ycm, ycs, ycx, ycu, ysq, ysv, ycw, ycp, ycn, bf, bi, bo, btm, brv, ba, brs)) : wY_parseAt_562 post (nI k) (nI L) yil yol ytl ycap ymk yen yac yec ypos yco yde ydp ydw ydq ywd ypr yit ym1 ym2 ym3 ym4 ym5 yws yps (nI g) ycv ycm ycs ycx ycu ysq ysv ycw ycp ycn bf bi bo btm brv ba brs := by
  refine pk_lt k L (fun hl => ⟨vp_in_nI (by omega) (by omega), nm_r (e' := bf k) (by rw [nI_clamp (by omega)]) ?_⟩) h1
  have ok : (cv_t (bf k) ∨ ¬ cv_b (bf k) = 0) → wY_parseAt_632 post (nI k) (bf k) (nI L) yil yol ytl ycap ymk yen yac yec ypos yco yde ydp ydw ydq ywd ypr yit ym1 ym2 ym3 ym4 ym5 yws yps (nI g) ycv ycm ycs ycx ycu ysq ysv ycw ycp ycn bf bi bo btm brv ba brs := fun z => ym_632 (hf k) hg (h11 hl) (h hl z)
  refine ⟨fun a => ok (Or.inr (by rw [a]; decide)), fun a1 => ⟨fun a => ok (Or.inr (by rw [a]; decide)), fun a2 => ⟨fun a => ok (Or.inr (by rw [a]; decide)), fun a3 => ⟨fun a => ok (Or.inr (by rw [a]; decide)), fun a4 => ⟨fun a => ok (Or.inr (by rw [a]; decide)), fun a5 => ⟨fun a => ok (Or.inl (Or.inl a)), fun a6 => ⟨fun a => ok (Or.inl (Or.inr a)), fun a7 => h2 hl ⟨fun z => z.elim a6 a7, ?_⟩⟩⟩⟩⟩⟩⟩⟩
  unfold cv_b
  rw [if_neg (fun z => z.elim a1 a2), if_neg (fun z => z.elim a3 a4), if_neg a5]
theorem ym_535 {post : Int32 → SY → Prop} {L j : Nat} (hL : L ≤ 64) (hj : j ≤ L) (hf : ∀ j, ar_ch (bf j)) (hr : ¬ pc_r bf L j = 0 → ∀ ylg, post (pc_r bf L j) (nI L, yil, yol, ytl, ycap, ymk, yen, yac, yec, ypos, yco, yde, ydp, ydw, ydq, ywd, ypr, yit, ym1, ym2, ym3, ym4, ym5, yws, yps, ylg, ycv, ycm, ycs, ycx, ycu, ysq, ysv, ycw, ycp, ycn, bf, bi, bo, btm, brv, ba, brs))
    (h : pc_r bf L j = 0 → post 0 (nI L, yil, yol, ytl, ycap, ymk, yen, yac, yec, ypos, yco, nI (pc_k bf L j + 1), ydp, ydw, ydq, ywd, ypr, yit, ym1, ym2, ym3, ym4, ym5, yws, yps, nI (if pc_l bf L j then 1 else 0), bf (pc_k bf L j), ycm, ycs, ycx, ycu, ysq, ysv, ycw, ycp, ycn, bf, bi, bo, btm, brv, ba, brs)) : wY_parseAt_535 post (nI j) (nI L) yil yol ytl ycap ymk yen yac yec ypos yco yde ydp ydw ydq ywd ypr yit ym1 ym2 ym3 ym4 ym5 yws yps 0 ycv ycm ycs ycx ycu ysq ysv ycw ycp ycn bf bi bo btm brv ba brs := by
  have key : ∀ k g : Nat, k ≤ 64 → (g = 0 ∨ g = 1) → pc_k bf L j = k → (if pc_l bf L j then 1 else 0) = g → (g = 1 ↔ pc_l bf L j) → wY_parseAt_562 post (nI k) (nI L) yil yol ytl ycap ymk yen yac yec ypos yco yde ydp ydw ydq ywd ypr yit ym1 ym2 ym3 ym4 ym5 yws yps (nI g) ycv ycm ycs ycx ycu ysq ysv ycw ycp ycn bf bi bo btm brv ba brs := by
    intro k g hk hg ek eg ig
    have er : pc_r bf L j = if L ≤ k then -1 else if ¬ cv_t (bf k) ∧ cv_b (bf k) = 0 then -2 else if cv_t (bf k) ∧ pc_l bf L j then -11 else 0 := by
      unfold pc_r
      rw [ek]
    rw [ek, eg] at h
    refine ym_562 hL hk hf hg (fun hl => ?_) (fun hl z => ?_) (fun hl z => ?_) (fun hl z1 z2 => ?_)
    · rw [if_pos hl] at er
      rw [er] at hr
      exact hr (by decide) _
    · rw [if_neg (by omega), if_pos z] at er
      rw [er] at hr
      exact hr (by decide) _
    · have z' : cv_t (bf k) ∧ pc_l bf L j := ⟨z.1, ig.mp z.2⟩
      rw [if_neg (by omega), if_neg (fun q => q.1 z.1), if_pos z'] at er
      rw [er] at hr
      exact hr (by decide) _
    · rw [if_neg (by omega), if_neg (fun q => z1.elim q.1 (fun y => y q.2)), if_neg (fun q => z2 ⟨q.1, ig.mpr q.2⟩)] at er
      exact h er
  have z0 : ¬ pc_l bf L j → wY_parseAt_562 post (nI j) (nI L) yil yol ytl ycap ymk yen yac yec ypos yco yde ydp ydw ydq ywd ypr yit ym1 ym2 ym3 ym4 ym5 yws yps 0 ycv ycm ycs ycx ycu ysq ysv ycw ycp ycn bf bi bo btm brv ba brs := fun hs => key j 0 (by omega) (Or.inl rfl) (by unfold pc_k; rw [if_neg hs]) (by rw [if_neg hs]) ⟨fun z => absurd z (by decide), fun z => absurd z hs⟩
  refine pk_le L j (fun hl => z0 (fun z => by have := z.1; omega)) (fun hl => ⟨vp_in_nI (by omega) (by omega), wk_if (d := bf j = 108) (by rw [nI_clamp (by omega)]) (fun hc => ?_) (fun hc => z0 (fun z => hc z.2))⟩)
  have hs : pc_l bf L j := ⟨hl, hc⟩
  exact nm_r (nI_1 j) (key (j + 1) 1 (by omega) (Or.inr rfl) (by unfold pc_k; rw [if_pos hs]) (by rw [if_pos hs]) ⟨fun _ => hs, fun _ => rfl⟩)
end
end
section
/-! the reference: precision, width, flags, the whole directive, one item -/
section
variable {yfl yil yol ytl ycap ymk yen yac yec ypos yco yde ydp ydw ydq ywd ypr yit ym1 ym2 ym3 ym4 ym5 yws yps ylg ycv ycm ycs ycx ycu ysq ysv ycw ycp ycn : Int32} {bf bi bo btm brv : Nat → Int32} {ba brs : Nat → Int64}
theorem ym_391 {post : Int32 → SY → Prop} {L j : Nat} (hL : L ≤ 64) (hj : j ≤ L) (hf : ∀ j, ar_ch (bf j)) (hr1 : ¬ pp_r bf L j = 0 → ∀ (yde ydp ydw ydq ywd ypr yit ym1 ym2 ym3 ym4 ym5 yws yps ylg ycv : Int32), post (pp_r bf L j) (nI L, yil, yol, ytl, ycap, ymk, yen, yac, yec, ypos, yco, yde, ydp, ydw, ydq, ywd, ypr, yit, ym1, ym2, ym3, ym4, ym5, yws, yps, ylg, ycv, ycm, ycs, ycx, ycu, ysq, ysv, ycw, ycp, ycn, bf, bi, bo, btm, brv, ba, brs)) (hr2 : pp_r bf L j = 0 → ¬ pc_r bf L (pp_n bf L j) = 0 → ∀ (yde ydp ydw ydq ywd ypr yit ym1 ym2 ym3 ym4 ym5 yws yps ylg ycv : Int32), post (pc_r bf L (pp_n bf L j)) (nI L, yil, yol, ytl, ycap, ymk, yen, yac, yec, ypos, yco, yde, ydp, ydw, ydq, ywd, ypr, yit, ym1, ym2, ym3, ym4, ym5, yws, yps, ylg, ycv, ycm, ycs, ycx, ycu, ysq, ysv, ycw, ycp, ycn, bf, bi, bo, btm, brv, ba, brs))
    (h : pp_r bf L j = 0 → pc_r bf L (pp_n bf L j) = 0 → post 0 (nI L, yil, yol, ytl, ycap, ymk, yen, yac, yec, ypos, yco, nI (pc_k bf L (pp_n bf L j) + 1), ydp, ydw, yu_p (pp_u bf L j), ywd, pp_p bf L j, yit, ym1, ym2, ym3, ym4, ym5, yws, yu_s (pp_u bf L j), nI (if pc_l bf L (pp_n bf L j) then 1 else 0), bf (pc_k bf L (pp_n bf L j)), ycm, ycs, ycx, ycu, ysq, ysv, ycw, ycp, ycn, bf, bi, bo, btm, brv, ba, brs)) : wY_parseAt_391 post (nI j) (nI L) yil yol ytl ycap ymk yen yac yec ypos yco yde ydp ydw 0 ywd (-1) yit ym1 ym2 ym3 ym4 ym5 yws 0 0 ycv ycm ycs ycx ycu ysq ysv ycw ycp ycn bf bi bo btm brv ba brs := by
  have hnb := pp_nb bf hj
  by_cases hd : pp_d bf L j
  · have hj' := hd.1
    have vj : (nI j).toNatClampNeg = j := nI_clamp (by omega)
    have vj1 : (nI (j + 1)).toNatClampNeg = j + 1 := nI_clamp (by omega)
    refine br_f (nI_ge hj' (by omega)) ⟨vp_in_nI (by omega) (by omega), br_t (by rw [vj]; exact hd.2) (nm_r (nI_1 j) ?_)⟩
    by_cases hs : pw_s bf L (j + 1)
    · have en : pp_n bf L j = ps_n bf L (j + 1 + 1) := by unfold pp_n pw_n; rw [if_pos hd, if_pos hs]
      have eu : pp_u bf L j = ps_v bf L (j + 1 + 1) := by unfold pp_u pw_u; rw [if_pos hd, if_pos hs]
      have ep : pp_p bf L j = -1 := by unfold pp_p; rw [if_pos hd, if_pos hs]
      have er : pp_r bf L j = if ps_v bf L (j + 1 + 1) < 0 then ps_v bf L (j + 1 + 1) else 0 := by unfold pp_r pw_r; rw [if_pos hd, if_pos hs]
      have hs1 := hs.1
      rw [en, er] at hr2 h
      rw [eu, ep] at h
      rw [er] at hr1
      refine br_f (nI_ge hs1 (by omega)) ⟨vp_in_nI (by omega) (by omega), br_t (by rw [vj1]; exact hs.2) (nm_r (nI_1 (j + 1)) (ym_re hL (by omega) (ps_w hL (by omega) (fun hn => ?_) (fun hy => ym_rv hL (by omega) (ps_b (fun hb => ?_) (fun hb => nm_r (nI_1 _) ?_))))))⟩
      · obtain ⟨e1, e2⟩ := ps_v1 hn
        rw [e1, e2] at hr2 h
        refine ym_535 hL (by omega) hf (fun z ylg => hr2 rfl z _ _ _ _ _ _ _ _ _ _ _ _ _ _ _ _) (fun z => ?_)
        exact h rfl z
      · rw [ps_v2 hy hb] at hr1
        exact hr1 (by decide) _ _ _ _ _ _ _ _ _ _ _ _ _ _ _ _
      · obtain ⟨e1, e2⟩ := ps_v3 hy hb
        have hV := rn_Vb bf (L - (j + 1 + 1)) (j + 1 + 1) 0 (by omega)
        rw [e1, e2, if_neg (nI_pos (by omega))] at hr2 h
        have e3 : yu_p (nI (rn_V bf (L - (j + 1 + 1)) (j + 1 + 1) 0)) = nI (rn_V bf (L - (j + 1 + 1)) (j + 1 + 1) 0) := if_neg (us_n1 (by omega))
        have e4 : yu_s (nI (rn_V bf (L - (j + 1 + 1)) (j + 1 + 1) 0)) = 1 := if_neg (us_n1 (by omega))
        rw [e3, e4] at h
        exact ym_535 hL (by have := hy.2.1; omega) hf (fun z ylg => hr2 rfl z _ _ _ _ _ _ _ _ _ _ _ _ _ _ _ _) (h rfl)
    · have en : pp_n bf L j = rn_E bf (L - (j + 1)) (j + 1) := by unfold pp_n pw_n; rw [if_pos hd, if_neg hs]
      have eu : pp_u bf L j = -1 := by unfold pp_u pw_u; rw [if_pos hd, if_neg hs]
      have ep : pp_p bf L j = nI (rn_V bf (L - (j + 1)) (j + 1) 0) := by unfold pp_p; rw [if_pos hd, if_neg hs]
      have er : pp_r bf L j = if 99 < rn_V bf (L - (j + 1)) (j + 1) 0 then -5 else 0 := by unfold pp_r pw_r; rw [if_pos hd, if_neg hs]
      have hV := rn_Vb bf (L - (j + 1)) (j + 1) 0 (by omega)
      rw [en] at hnb
      rw [en, er] at hr2 h
      rw [eu, ep] at h
      rw [er] at hr1
      have k506 : wY_parseAt_506 post (nI (j + 1)) (nI L) yil yol ytl ycap ymk yen yac yec ypos yco yde ydp ydw 0 ywd (-1) yit ym1 ym2 ym3 ym4 ym5 yws 0 0 ycv ycm ycs ycx ycu ysq ysv ycw ycp ycn bf bi bo btm brv ba brs := by
        refine ym_rv hL (by omega) (ym_re hL (by omega) (pk_le (rn_V bf (L - (j + 1)) (j + 1) 0) 99 (fun a => ?_) (fun a => ?_)))
        · rw [if_neg (by omega)] at hr2 h
          exact ym_535 hL hnb.2 hf (fun z ylg => hr2 rfl z _ _ _ _ _ _ _ _ _ _ _ _ _ _ _ _) (h rfl)
        · rw [if_pos a] at hr1
          exact hr1 (by decide) _ _ _ _ _ _ _ _ _ _ _ _ _ _ _ _
      exact pk_le L (j + 1) (fun _ => k506) (fun hl => ⟨vp_in_nI (by omega) (by omega), br_f (by rw [vj1]; exact fun z => hs ⟨hl, z⟩) k506⟩)
  · have en : pp_n bf L j = j := by unfold pp_n; rw [if_neg hd]
    have eu : pp_u bf L j = -1 := by unfold pp_u; rw [if_neg hd]
    have ep : pp_p bf L j = -1 := by unfold pp_p; rw [if_neg hd]
    have er : pp_r bf L j = 0 := by unfold pp_r; rw [if_neg hd]
    rw [en] at hr2 h
    rw [eu, ep] at h
    have k535 : wY_parseAt_535 post (nI j) (nI L) yil yol ytl ycap ymk yen yac yec ypos yco yde ydp ydw 0 ywd (-1) yit ym1 ym2 ym3 ym4 ym5 yws 0 0 ycv ycm ycs ycx ycu ysq ysv ycw ycp ycn bf bi bo btm brv ba brs := ym_535 hL hj hf (fun z ylg => hr2 er z _ _ _ _ _ _ _ _ _ _ _ _ _ _ _ _) (h er)
    exact pk_le L j (fun _ => k535) (fun hl => ⟨vp_in_nI (by omega) (by omega), br_f (by rw [nI_clamp (by omega)]; exact fun z => hd ⟨hl, z⟩) k535⟩)
/-- the reference's width field -/
def yu_w (w : Nat) : Int32 := if w = 0 then -1 else nI w
theorem ym_239 {post : Int32 → SY → Prop} {L j : Nat} (hL : L ≤ 64) (hj : j ≤ L) (hf : ∀ j, ar_ch (bf j)) (h48 : j = L ∨ ¬ bf j = 48) (hr0 : ¬ pw_r bf L j = 0 → ∀ (yde ydp ydw ydq ywd ypr yit ym1 ym2 ym3 ym4 ym5 yws yps ylg ycv : Int32), post (pw_r bf L j) (nI L, yil, yol, ytl, ycap, ymk, yen, yac, yec, ypos, yco, yde, ydp, ydw, ydq, ywd, ypr, yit, ym1, ym2, ym3, ym4, ym5, yws, yps, ylg, ycv, ycm, ycs, ycx, ycu, ysq, ysv, ycw, ycp, ycn, bf, bi, bo, btm, brv, ba, brs))
    (hr1 : pw_r bf L j = 0 → ¬ pp_r bf L (pw_n bf L j) = 0 → ∀ (yde ydp ydw ydq ywd ypr yit ym1 ym2 ym3 ym4 ym5 yws yps ylg ycv : Int32), post (pp_r bf L (pw_n bf L j)) (nI L, yil, yol, ytl, ycap, ymk, yen, yac, yec, ypos, yco, yde, ydp, ydw, ydq, ywd, ypr, yit, ym1, ym2, ym3, ym4, ym5, yws, yps, ylg, ycv, ycm, ycs, ycx, ycu, ysq, ysv, ycw, ycp, ycn, bf, bi, bo, btm, brv, ba, brs)) (hr2 : pw_r bf L j = 0 → pp_r bf L (pw_n bf L j) = 0 → ¬ pc_r bf L (pp_n bf L (pw_n bf L j)) = 0 → ∀ (yde ydp ydw ydq ywd ypr yit ym1 ym2 ym3 ym4 ym5 yws yps ylg ycv : Int32), post (pc_r bf L (pp_n bf L (pw_n bf L j))) (nI L, yil, yol, ytl, ycap, ymk, yen, yac, yec, ypos, yco, yde, ydp, ydw, ydq, ywd, ypr, yit, ym1, ym2, ym3, ym4, ym5, yws, yps, ylg, ycv, ycm, ycs, ycx, ycu, ysq, ysv, ycw, ycp, ycn, bf, bi, bo, btm, brv, ba, brs))
    (h : pw_r bf L j = 0 → pp_r bf L (pw_n bf L j) = 0 → pc_r bf L (pp_n bf L (pw_n bf L j)) = 0 → post 0 (nI L, yil, yol, ytl, ycap, ymk, yen, yac, yec, ypos, yco, nI (pc_k bf L (pp_n bf L (pw_n bf L j)) + 1), ydp, yu_p (pw_u bf L j), yu_p (pp_u bf L (pw_n bf L j)), yu_w (pw_w bf L j), pp_p bf L (pw_n bf L j), yit, ym1, ym2, ym3, ym4, ym5, yu_s (pw_u bf L j), yu_s (pp_u bf L (pw_n bf L j)), nI (if pc_l bf L (pp_n bf L (pw_n bf L j)) then 1 else 0), bf (pc_k bf L (pp_n bf L (pw_n bf L j))), ycm, ycs, ycx, ycu, ysq, ysv, ycw, ycp, ycn, bf, bi, bo, btm, brv, ba, brs)) :
    wY_parseAt_239 post (nI j) (nI L) yil yol ytl ycap ymk yen yac yec ypos yco yde ydp 0 0 (-1) (-1) yit ym1 ym2 ym3 ym4 ym5 0 0 0 ycv ycm ycs ycx ycu ysq ysv ycw ycp ycn bf bi bo btm brv ba brs := by
  have hnb := pw_nb bf hj
  by_cases hs : pw_s bf L j
  · have en : pw_n bf L j = ps_n bf L (j + 1) := by unfold pw_n; rw [if_pos hs]
    have eu : pw_u bf L j = ps_v bf L (j + 1) := by unfold pw_u; rw [if_pos hs]
    have ew : pw_w bf L j = 0 := by unfold pw_w; rw [if_pos hs]
    have er : pw_r bf L j = if ps_v bf L (j + 1) < 0 then ps_v bf L (j + 1) else 0 := by unfold pw_r; rw [if_pos hs]
    have hs1 := hs.1
    have vj : (nI j).toNatClampNeg = j := nI_clamp (by omega)
    rw [en, er] at hr1 hr2 h
    rw [eu, ew] at h
    rw [er] at hr0
    refine br_f (nI_ge hs1 (by omega)) ⟨vp_in_nI (by omega) (by omega), br_t (by rw [vj]; exact hs.2) (nm_r (nI_1 j) (ym_re hL (by omega) (ps_w hL (by omega) (fun hn => ?_) (fun hy => ym_rv hL (by omega) (ps_b (fun hb => ?_) (fun hb => nm_r (nI_1 _) ?_))))))⟩
    · obtain ⟨e1, e2⟩ := ps_v1 hn
      rw [e1, e2] at hr1 hr2 h
      exact ym_391 hL (by omega) hf (hr1 rfl) (hr2 rfl) (h rfl)
    · rw [ps_v2 hy hb] at hr0
      exact hr0 (by decide) _ _ _ _ _ _ _ _ _ _ _ _ _ _ _ _
    · obtain ⟨e1, e2⟩ := ps_v3 hy hb
      have hV := rn_Vb bf (L - (j + 1)) (j + 1) 0 (by omega)
      rw [e1, e2, if_neg (nI_pos (by omega))] at hr1 hr2 h
      have e3 : yu_p (nI (rn_V bf (L - (j + 1)) (j + 1) 0)) = nI (rn_V bf (L - (j + 1)) (j + 1) 0) := if_neg (us_n1 (by omega))
      have e4 : yu_s (nI (rn_V bf (L - (j + 1)) (j + 1) 0)) = 1 := if_neg (us_n1 (by omega))
      rw [e3, e4] at h
      exact ym_391 hL (by have := hy.2.1; omega) hf (hr1 rfl) (hr2 rfl) (h rfl)
  · have en : pw_n bf L j = rn_E bf (L - j) j := by unfold pw_n; rw [if_neg hs]
    have eu : pw_u bf L j = -1 := by unfold pw_u; rw [if_neg hs]
    have ew : pw_w bf L j = rn_V bf (L - j) j 0 := by unfold pw_w; rw [if_neg hs]
    have er : pw_r bf L j = if 99 < rn_V bf (L - j) j 0 then -5 else 0 := by unfold pw_r; rw [if_neg hs]
    have hV := rn_Vb bf (L - j) j 0 (by omega)
    rw [en] at hnb
    rw [en, er] at hr1 hr2 h
    rw [eu, ew] at h
    rw [er] at hr0
    have k391 : (j = L ∨ ¬ rn_d (bf j)) → wY_parseAt_391 post (nI j) (nI L) yil yol ytl ycap ymk yen yac yec ypos yco yde ydp 0 0 (-1) (-1) yit ym1 ym2 ym3 ym4 ym5 0 0 0 ycv ycm ycs ycx ycu ysq ysv ycw ycp ycn bf bi bo btm brv ba brs := by
      intro hd
      have z1 : rn_V bf (L - j) j 0 = 0 := by
        rcases hd with q | q
        · rw [q, Nat.sub_self]; rfl
        · exact rn_V0 bf q 0
      have z2 : rn_E bf (L - j) j = j := by
        rcases hd with q | q
        · rw [q, Nat.sub_self]; rfl
        · exact rn_E0 bf q
      rw [z1, z2] at hr1 hr2 h
      exact ym_391 hL hj hf (hr1 rfl) (hr2 rfl) (h rfl)
    have k332 : wY_parseAt_332 post (nI j) (nI L) yil yol ytl ycap ymk yen yac yec ypos yco yde ydp 0 0 (-1) (-1) yit ym1 ym2 ym3 ym4 ym5 0 0 0 ycv ycm ycs ycx ycu ysq ysv ycw ycp ycn bf bi bo btm brv ba brs := by
      refine pk_le L j (fun hl => k391 (Or.inl (by omega))) (fun hl => ⟨vp_in_nI (by omega) (by omega), ?_⟩)
      have vj : (nI j).toNatClampNeg = j := nI_clamp (by omega)
      have n48 : ¬ bf j = 48 := by
        rcases h48 with q | q
        · omega
        · exact q
      refine wk_if (d := bf j < 49) (by rw [vj]) (fun a => k391 (Or.inr (fun z => ?_))) (fun a => ⟨vp_in_nI (by omega) (by omega), wk_if (d := 57 < bf j) (by rw [vj]) (fun b => k391 (Or.inr (fun z => absurd z.2 (Int32.not_le.mpr b)))) (fun b => ?_)⟩)
      · obtain ⟨d, hd, e⟩ := rn_dN z
        rw [e] at a n48
        have := (nI_ltI (b := 49) (by omega) (by decide)).mp a
        have e0 : d = 0 := by omega
        rw [e0] at n48
        exact n48 rfl
      · have hd : rn_d (bf j) := ⟨Int32.le_trans (by decide) (Int32.not_lt.mp a), Int32.not_lt.mp b⟩
        have h1 := rn_V1s bf (n := L - j) (by omega) hd n48
        have e5 : yu_w (rn_V bf (L - j) j 0) = nI (rn_V bf (L - j) j 0) := if_neg (by omega)
        rw [e5] at h
        refine ym_rv hL hj (ym_re hL hj (pk_le (rn_V bf (L - j) j 0) 99 (fun a => ?_) (fun a => ?_)))
        · rw [if_neg (by omega)] at hr1 hr2 h
          exact ym_391 hL hnb.2 hf (hr1 rfl) (hr2 rfl) (h rfl)
        · rw [if_pos a] at hr0
          exact hr0 (by decide) _ _ _ _ _ _ _ _ _ _ _ _ _ _ _ _
    exact pk_le L j (fun _ => k332) (fun hl => ⟨vp_in_nI (by omega) (by omega), br_f (by rw [nI_clamp (by omega)]; exact fun z => hs ⟨hl, z⟩) k332⟩)
theorem ym_135 {post : Int32 → SY → Prop} {L : Nat} (hL : L ≤ 64) : ∀ n j k m, j ≤ L → k ≤ j → L - j < n → m < 32 →
    wY_parseAt_239 post (nI (fl_E bf (L - j) j)) (nI L) yil yol ytl ycap ymk yen yac yec ypos yco yde ydp ydw ydq ywd ypr yit (nI (fl_M bf (L - j) j m % 2)) (nI (fl_M bf (L - j) j m / 2 % 2)) (nI (fl_M bf (L - j) j m / 4 % 2)) (nI (fl_M bf (L - j) j m / 8 % 2)) (nI (fl_M bf (L - j) j m / 16 % 2)) yws yps ylg ycv ycm ycs ycx ycu ysq ysv ycw ycp ycn bf bi bo btm brv ba brs →
    wY_parseAt_135 post (nI L) yil yol ytl ycap ymk yen yac yec ypos yco yde ydp ydw ydq ywd ypr yit yws yps ylg ycv ycm ycs ycx ycu ysq ysv ycw ycp ycn bf bi bo btm brv ba brs n (nI j) (nI k) (nI (m % 2)) (nI (m / 2 % 2)) (nI (m / 4 % 2)) (nI (m / 8 % 2)) (nI (m / 16 % 2)) := by
  intro n
  induction n with
  | zero => intro j k m hj hk hn; omega
  | succ n ih =>
    intro j k m hj hk hn hm h
    have h0 : L ≤ j → wY_parseAt_239 post (nI j) (nI L) yil yol ytl ycap ymk yen yac yec ypos yco yde ydp ydw ydq ywd ypr yit (nI (m % 2)) (nI (m / 2 % 2)) (nI (m / 4 % 2)) (nI (m / 8 % 2)) (nI (m / 16 % 2)) yws yps ylg ycv ycm ycs ycx ycu ysq ysv ycw ycp ycn bf bi bo btm brv ba brs := fun hl => by
      rw [show L - j = 0 by omega] at h
      exact h
    refine pk_le 64 k (fun hl => h0 (by omega)) (fun hl => pk_le L j h0 (fun hlt => ⟨vp_in_nI (by omega) (by omega), nm_r (e' := bf j) (by rw [nI_clamp (by omega)]) ?_⟩))
    have go : ∀ w : Nat, fl_v (bf j) = w → ¬ w = 0 → wY_parseAt_135 post (nI L) yil yol ytl ycap ymk yen yac yec ypos yco yde ydp ydw ydq ywd ypr yit yws yps ylg ycv ycm ycs ycx ycu ysq ysv ycw ycp ycn bf bi bo btm brv ba brs n (nI (j + 1)) (nI (k + 1)) (nI ((m ||| w) % 2)) (nI ((m ||| w) / 2 % 2)) (nI ((m ||| w) / 4 % 2)) (nI ((m ||| w) / 8 % 2)) (nI ((m ||| w) / 16 % 2)) := by
      intro w ew w0
      have z : ¬ fl_v (bf j) = 0 := by rw [ew]; exact w0
      obtain ⟨t, ht⟩ : ∃ t, L - j = t + 1 := ⟨L - j - 1, by omega⟩
      rw [ht, fl_Es bf z, fl_Ms bf z, show t = L - (j + 1) by omega, ew] at h
      have hb := fl_orb hm (bf j)
      rw [ew] at hb
      exact ih (j + 1) (k + 1) (m ||| w) (by omega) (by omega) (by omega) hb h
    by_cases a1 : bf j = 45
    · have g := go 1 (by rw [a1]; rfl) (by decide)
      obtain ⟨e1, e2, e3, e4, e5⟩ := fl_y1 m hm
      rw [e1, e2, e3, e4, e5] at g
      exact br_t a1 (nm_r (nI_1 j) (nm_r (nI_1 k) g))
    refine br_f a1 ?_
    by_cases a2 : bf j = 43
    · have g := go 2 (by rw [a2]; rfl) (by decide)
      obtain ⟨e1, e2, e3, e4, e5⟩ := fl_y2 m hm
      rw [e1, e2, e3, e4, e5] at g
      exact br_t a2 (nm_r (nI_1 j) (nm_r (nI_1 k) g))
    refine br_f a2 ?_
    by_cases a3 : bf j = 32
    · have g := go 4 (by rw [a3]; rfl) (by decide)
      obtain ⟨e1, e2, e3, e4, e5⟩ := fl_y3 m hm
      rw [e1, e2, e3, e4, e5] at g
      exact br_t a3 (nm_r (nI_1 j) (nm_r (nI_1 k) g))
    refine br_f a3 ?_
    by_cases a4 : bf j = 48
    · have g := go 8 (by rw [a4]; rfl) (by decide)
      obtain ⟨e1, e2, e3, e4, e5⟩ := fl_y4 m hm
      rw [e1, e2, e3, e4, e5] at g
      exact br_t a4 (nm_r (nI_1 j) (nm_r (nI_1 k) g))
    refine br_f a4 ?_
    by_cases a5 : bf j = 35
    · have g := go 16 (by rw [a5]; rfl) (by decide)
      obtain ⟨e1, e2, e3, e4, e5⟩ := fl_y5 m hm
      rw [e1, e2, e3, e4, e5] at g
      exact br_t a5 (nm_r (nI_1 j) (nm_r (nI_1 k) g))
    refine br_f a5 ?_
    have z : fl_v (bf j) = 0 := by
      unfold fl_v
      rw [if_neg a1, if_neg a2, if_neg a3, if_neg a4, if_neg a5]
    rw [fl_E0 bf z, fl_M0 bf z] at h
    exact h
end
end
section
/-! the reference: the whole directive, one item, the uses -/
section
variable {yfl yil yol ytl ycap ymk yen yac yec ypos yco yde ydp ydw ydq ywd ypr yit ym1 ym2 ym3 ym4 ym5 yws yps ylg ycv ycm ycs ycx ycu ysq ysv ycw ycp ycn : Int32} {bf bi bo btm brv : Nat → Int32} {ba brs : Nat → Int64}
theorem ym_pa {post : Int32 → SY → Prop} {L p : Nat} (hL : L ≤ 64) (hp : p < L) (hf : ∀ j, ar_ch (bf j)) (hr : ¬ dr_r bf L p = 0 → ∀ (yde ydp ydw ydq ywd ypr yit ym1 ym2 ym3 ym4 ym5 yws yps ylg ycv : Int32), post (dr_r bf L p) (nI L, yil, yol, ytl, ycap, ymk, yen, yac, yec, ypos, yco, yde, ydp, ydw, ydq, ywd, ypr, yit, ym1, ym2, ym3, ym4, ym5, yws, yps, ylg, ycv, ycm, ycs, ycx, ycu, ysq, ysv, ycw, ycp, ycn, bf, bi, bo, btm, brv, ba, brs)) (h : dr_r bf L p = 0 → post 0 (nI L, yil, yol, ytl, ycap, ymk, yen, yac, yec, ypos, yco, nI (dr_k bf L p + 1), dr_v bf L p, yu_p (dr_wu bf L p), yu_p (dr_pu bf L p), yu_w (dr_w bf L p), dr_p bf L p, yit, nI (dr_m bf L p % 2), nI (dr_m bf L p / 2 % 2), nI (dr_m bf L p / 4 % 2), nI (dr_m bf L p / 8 % 2), nI (dr_m bf L p / 16 % 2), yu_s (dr_wu bf L p), yu_s (dr_pu bf L p), nI (dr_g bf L p), dr_c bf L p, ycm, ycs, ycx, ycu, ysq, ysv, ycw, ycp, ycn, bf, bi, bo, btm, brv, ba, brs)) : wpY_parseAt post (nI L, yil, yol, ytl, ycap, ymk, yen, yac, yec, ypos, yco, yde, ydp, ydw, ydq, ywd, ypr, yit, ym1, ym2, ym3, ym4, ym5, yws, yps, ylg, ycv, ycm, ycs, ycx, ycu, ysq, ysv, ycw, ycp, ycn, bf, bi, bo, btm, brv, ba, brs) (nI p) := by
  obtain ⟨b1, b2, b3, b4, b5, b6, c1, c2, c3, c4⟩ := dr_b bf hp
  have D : dr_r bf L p = if dr_v bf L p < 0 then dr_v bf L p else if ¬ pw_r bf L (dr_2 bf L p) = 0 then pw_r bf L (dr_2 bf L p) else if ¬ pp_r bf L (dr_3 bf L p) = 0 then pp_r bf L (dr_3 bf L p) else pc_r bf L (dr_4 bf L p) := rfl
  have key : ¬ dr_v bf L p < 0 → wY_parseAt_135 post (nI L) yil yol ytl ycap ymk yen yac yec ypos yco yde (dr_v bf L p) 0 0 (-1) (-1) yit 0 0 0 ycv ycm ycs ycx ycu ysq ysv ycw ycp ycn bf bi bo btm brv ba brs (L - dr_1 bf L p + 1) (nI (dr_1 bf L p)) (nI 0) (nI (0 % 2)) (nI (0 / 2 % 2)) (nI (0 / 4 % 2)) (nI (0 / 8 % 2)) (nI (0 / 16 % 2)) := by
    intro v0
    rw [if_neg v0] at D
    refine ym_135 hL (L - dr_1 bf L p + 1) (dr_1 bf L p) 0 0 c1 (by omega) (by omega) (by omega) (ym_239 hL c2 hf ?_ (fun (w0 : ¬ pw_r bf L (dr_2 bf L p) = 0) => ?_) (fun (w0 : pw_r bf L (dr_2 bf L p) = 0) (q0 : ¬ pp_r bf L (dr_3 bf L p) = 0) => ?_) (fun (w0 : pw_r bf L (dr_2 bf L p) = 0) (q0 : pp_r bf L (dr_3 bf L p) = 0) (k0 : ¬ pc_r bf L (dr_4 bf L p) = 0) => ?_) (fun (w0 : pw_r bf L (dr_2 bf L p) = 0) (q0 : pp_r bf L (dr_3 bf L p) = 0) (k0 : pc_r bf L (dr_4 bf L p) = 0) => ?_))
    · rcases fl_Ee bf (L - dr_1 bf L p) (dr_1 bf L p) with q | q
      · exact Or.inl (by have e : dr_2 bf L p = fl_E bf (L - dr_1 bf L p) (dr_1 bf L p) := rfl; rw [q] at e ⊢; omega)
      · exact Or.inr (fl_no0 q)
    · rw [if_pos w0] at D
      rw [D] at hr
      exact hr w0
    · rw [if_neg (fun y => y w0), if_pos q0] at D
      rw [D] at hr
      exact hr q0
    · rw [if_neg (fun y => y w0), if_neg (fun y => y q0)] at D
      rw [D] at hr
      exact hr k0
    · rw [if_neg (fun y => y w0), if_neg (fun y => y q0)] at D
      exact h (D.trans k0)
  refine nm_r (nI_1 p) (ym_re hL (by omega) (ps_w hL (by omega) (fun hn => ?_) (fun hy => ym_rv hL (by omega) (ps_b (fun hb => ?_) (fun hb => nm_r (nI_1 _) ?_)))))
  · obtain ⟨e1, e2⟩ := ps_v1 hn
    have a1 : dr_v bf L p = 0 := e1
    have a2 : dr_1 bf L p = p + 1 := e2
    rw [a1, a2] at key
    exact ⟨_, key (by decide)⟩
  · have a1 : dr_v bf L p = -3 := ps_v2 hy hb
    rw [a1, if_pos (by decide)] at D
    rw [D] at hr
    exact hr (by decide) _ _ _ _ _ _ _ _ _ _ _ _ _ _ _ _
  · obtain ⟨e1, e2⟩ := ps_v3 hy hb
    have a1 : dr_v bf L p = nI (rn_V bf (L - (p + 1)) (p + 1) 0) := e1
    have a2 : dr_1 bf L p = rn_E bf (L - (p + 1)) (p + 1) + 1 := e2
    have hV := rn_Vb bf (L - (p + 1)) (p + 1) 0 (by omega)
    rw [a1, a2] at key
    exact ⟨_, key (nI_pos (by omega))⟩
theorem ym_itl {post : Int32 → SY → Prop} {L p q : Nat} {c : Int32} (hL : L ≤ 64) (hi : it_lit bf L p c q) (h : post (nI q) (nI L, yil, yol, ytl, ycap, ymk, yen, yac, yec, ypos, yco, yde, ydp, ydw, ydq, ywd, ypr, c, ym1, ym2, ym3, ym4, ym5, yws, yps, ylg, ycv, ycm, ycs, ycx, ycu, ysq, ysv, ycw, ycp, ycn, bf, bi, bo, btm, brv, ba, brs)) : wpY_item post (nI L, yil, yol, ytl, ycap, ymk, yen, yac, yec, ypos, yco, yde, ydp, ydw, ydq, ywd, ypr, yit, ym1, ym2, ym3, ym4, ym5, yws, yps, ylg, ycv, ycm, ycs, ycx, ycu, ysq, ysv, ycw, ycp, ycn, bf, bi, bo, btm, brv, ba, brs) (nI p) := by
  obtain ⟨hp, hi⟩ := hi
  have vp : (nI p).toNatClampNeg = p := nI_clamp (by omega)
  have ip : vp_in (nI p) 64 := vp_in_nI (by omega) (by omega)
  rcases hi with ⟨h1, rfl, rfl⟩ | ⟨h1, h2, h3, rfl, rfl⟩
  · rw [← nI_1 p] at h
    exact ⟨ip, br_f (by rw [vp]; exact h1) ⟨ip, nm_r (e' := bf p) (by rw [vp]) h⟩⟩
  · have e1 : nI p + 1 = nI (p + 1) := nI_1 p
    have e2 : nI (p + 2) = nI p + 2 := (nI_add p 2).symm
    rw [e2] at h
    refine ⟨ip, br_t (by rw [vp]; exact h1) (br_f (by rw [e1]; exact nI_ge h2 (by omega)) ⟨by rw [e1]; exact vp_in_nI (by omega) (by omega), br_t ?_ h⟩)⟩
    rw [e1, nI_clamp (by omega)]
    exact h3
theorem ym_itd {post : Int32 → SY → Prop} {L p : Nat} (hL : L ≤ 64) (hi : it_pc bf L p) (hf : ∀ j, ar_ch (bf j)) (hr : ¬ dr_r bf L p = 0 → ∀ (yde ydp ydw ydq ywd ypr yit ym1 ym2 ym3 ym4 ym5 yws yps ylg ycv : Int32), post (dr_r bf L p) (nI L, yil, yol, ytl, ycap, ymk, yen, yac, yec, ypos, yco, yde, ydp, ydw, ydq, ywd, ypr, yit, ym1, ym2, ym3, ym4, ym5, yws, yps, ylg, ycv, ycm, ycs, ycx, ycu, ysq, ysv, ycw, ycp, ycn, bf, bi, bo, btm, brv, ba, brs)) (h : dr_r bf L p = 0 → post (nI (dr_k bf L p + 1)) (nI L, yil, yol, ytl, ycap, ymk, yen, yac, yec, ypos, yco, nI (dr_k bf L p + 1), dr_v bf L p, yu_p (dr_wu bf L p), yu_p (dr_pu bf L p), yu_w (dr_w bf L p), dr_p bf L p, -1, nI (dr_m bf L p % 2), nI (dr_m bf L p / 2 % 2), nI (dr_m bf L p / 4 % 2), nI (dr_m bf L p / 8 % 2), nI (dr_m bf L p / 16 % 2), yu_s (dr_wu bf L p), yu_s (dr_pu bf L p), nI (dr_g bf L p), dr_c bf L p, ycm, ycs, ycx, ycu, ysq, ysv, ycw, ycp, ycn, bf, bi, bo, btm, brv, ba, brs)) : wpY_item post (nI L, yil, yol, ytl, ycap, ymk, yen, yac, yec, ypos, yco, yde, ydp, ydw, ydq, ywd, ypr, yit, ym1, ym2, ym3, ym4, ym5, yws, yps, ylg, ycv, ycm, ycs, ycx, ycu, ysq, ysv, ycw, ycp, ycn, bf, bi, bo, btm, brv, ba, brs) (nI p) := by
  obtain ⟨hp, h1, h2⟩ := hi
  have vp : (nI p).toNatClampNeg = p := nI_clamp (by omega)
  have ip : vp_in (nI p) 64 := vp_in_nI (by omega) (by omega)
  have e1 : nI p + 1 = nI (p + 1) := nI_1 p
  have go : wY_item_58 post (nI p) (nI L) yil yol ytl ycap ymk yen yac yec ypos yco yde ydp ydw ydq ywd ypr yit ym1 ym2 ym3 ym4 ym5 yws yps ylg ycv ycm ycs ycx ycu ysq ysv ycw ycp ycn bf bi bo btm brv ba brs := by
    refine ym_pa hL hp hf (fun z => ?_) (fun z => ?_)
    · intro _ _ _ _ _ _ _ _ _ _ _ _ _ _ _ _
      exact br_f z (hr z _ _ _ _ _ _ _ _ _ _ _ _ _ _ _ _)
    · exact br_t rfl (h z)
  refine ⟨ip, br_t (by rw [vp]; exact h1) (pk_le L (p + 1) (fun _ => go) (fun hl => ⟨by rw [e1]; exact vp_in_nI (by omega) (by omega), br_f ?_ go⟩) rfl e1)⟩
  rw [e1, nI_clamp (by omega)]
  exact fun z => h2 ⟨hl, z⟩
theorem us_mb {s b : Nat} (h : ¬ b = 0) : us_m s b = 2 := if_pos h
theorem us_ms {s b : Nat} (hb : b = 0) (hs : 0 < s) : us_m s b = 1 := by
  unfold us_m
  rw [if_neg (fun z => z hb), if_pos hs]
theorem us_m0 {s b : Nat} (hb : b = 0) (hs : ¬ 0 < s) : us_m s b = 0 := by
  unfold us_m
  rw [if_neg (fun z => z hb), if_neg hs]
theorem ym_use {post : Int32 → SY → Prop} {s b : Nat} {u : Int32} (hu : ∃ k : Nat, k ≤ 8 ∧ u = nI k) (I : us_I s b) (h1 : us_r u s b < 0 → ∀ (ycm ycs ycx ycu : Int32), post (us_r u s b) (yfl, yil, yol, ytl, ycap, ymk, yen, yac, yec, ypos, yco, yde, ydp, ydw, ydq, ywd, ypr, yit, ym1, ym2, ym3, ym4, ym5, yws, yps, ylg, ycv, ycm, ycs, ycx, ycu, ysq, ysv, ycw, ycp, ycn, bf, bi, bo, btm, brv, ba, brs)) (h2 : ¬ us_r u s b < 0 → post 0 (yfl, yil, yol, ytl, ycap, ymk, yen, yac, yec, ypos, yco, yde, ydp, ydw, ydq, ywd, ypr, yit, ym1, ym2, ym3, ym4, ym5, yws, yps, ylg, ycv, us_m (sl_n u s) (us_b u b), nI (sl_n u s), nI (us_l (us_b u b)), nI (us_b u b), ysq, ysv, ycw, ycp, ycn, bf, bi, bo, btm, brv, ba, brs)) : wpY_use post (yfl, yil, yol, ytl, ycap, ymk, yen, yac, yec, ypos, yco, yde, ydp, ydw, ydq, ywd, ypr, yit, ym1, ym2, ym3, ym4, ym5, yws, yps, ylg, ycv, us_m s b, nI s, nI (us_l b), nI b, ysq, ysv, ycw, ycp, ycn, bf, bi, bo, btm, brv, ba, brs) u := by
  obtain ⟨k, hk, rfl⟩ := hu
  obtain ⟨I1, I2, I3⟩ := I
  cases k with
  | zero =>
    rw [nI_0, us_r0] at h1 h2
    rw [sl_n0, us_b0] at h2
    refine br_t (by decide) ?_
    by_cases hb : b = 0
    · rw [if_neg (fun z => z hb)] at h1 h2
      have hm : ¬ us_m s b = 2 := by
        by_cases hs : 0 < s
        · rw [us_ms hb hs]; decide
        · rw [us_m0 hb hs]; decide
      refine br_f hm (nm_r (nI_1 s) (pk_le (s + 1) 8 (fun hs => ?_) (fun hs => ?_)))
      · rw [if_neg (by omega), us_ms hb (by omega)] at h2
        exact h2 (nI_pos (by omega))
      · rw [if_pos (by omega)] at h1
        exact h1 (by decide) _ _ _ _
    · rw [if_pos hb] at h1
      exact br_t (us_mb hb) (h1 (by decide) _ _ _ _)
  | succ k =>
    rw [us_rk (by omega)] at h1 h2
    rw [sl_nk (by omega), us_bk (by omega)] at h2
    refine br_f (nI_nle (by omega) (by omega)) ?_
    by_cases hs : 0 < s
    · rw [if_pos hs] at h1
      exact br_t (us_ms (by omega) hs) (h1 (by decide) _ _ _ _)
    · rw [if_neg hs] at h2
      have hm : ¬ us_m s b = 1 := by
        by_cases hb : b = 0
        · rw [us_m0 hb hs]; decide
        · rw [us_mb hb]; decide
      have h3 := h2 (nI_pos (by omega))
      rw [us_mb (us_t1 b I2 k (by omega)).2, us_t2 b I2 k (by omega)] at h3
      have hl := (us_t8 b I2).1
      refine br_f hm (nm_r (e' := nI (b ||| 2 ^ k)) (by rw [nI_pred]; exact us_t3 b I2 k (by omega)) (pk_le (k + 1) (us_l b) (fun q => ?_) (fun q => ?_)))
      · rw [if_neg (by omega)] at h3
        exact h3
      · rw [if_pos (by omega)] at h3
        exact h3
theorem yu_s1 {u : Int32} (h : u = -1) : yu_s u = 0 := if_pos h
theorem yu_s2 {u : Int32} (h : ¬ u = -1) : yu_s u = 1 := if_neg h
theorem yu_p2 {u : Int32} (h : ¬ u = -1) : yu_p u = u := if_neg h
/-- the uses of a directive, as the reference takes them one by one: the stage of one use that may be wanting -/
theorem ym_c170 {post : Int32 → SY → Prop} {J : Int32 → Int32 → Int32 → Int32 → Int32 → Int32 → Int32 → Int32 → Int32 → Int32 → Int32 → Int32 → Int32 → Int32 → Int32 → Int32 → Int32 → Int32 → Int32 → Int32 → Int32 → Int32 → Int32 → Int32 → Int32 → Int32 → Int32 → Int32 → Int32 → Int32 → Int32 → Int32 → Int32 → Int32 → Int32 → Int32 → Int32 → Int32 → Int32 → Int32 → Int32 → (Nat → Int32) → (Nat → Int32) → (Nat → Int32) → (Nat → Int32) → (Nat → Int32) → (Nat → Int64) → (Nat → Int64) → Prop} {x2 x3 x4 x6 : Int32} {g : Nat} {d s b : Nat} {wu pu vu : Int32} (hd : d ≤ 64) (hw : wu = -1 ∨ ∃ k : Nat, k ≤ 8 ∧ wu = nI k) (hp : pu = -1 ∨ ∃ k : Nat, k ≤ 8 ∧ pu = nI k) (hv : ∃ k : Nat, k ≤ 8 ∧ vu = nI k) (I : us_I s b) 
    (hr : ¬ tk_r d wu pu vu s b = 0 → ∀ (ycm ycs ycx ycu : Int32), post (tk_r d wu pu vu s b) (yfl, yil, yol, ytl, ycap, ymk, yen, yac, yec, ypos, 0, yde, vu, yu_p wu, yu_p pu, ywd, ypr, yit, ym1, ym2, ym3, ym4, ym5, yu_s wu, yu_s pu, ylg, ycv, ycm, ycs, ycx, ycu, ysq, ysv, ycw, ycp, ycn, bf, bi, bo, btm, brv, ba, brs))
    (h : tk_r d wu pu vu s b = 0 → J x6 x2 x3 x4 (nI (g + 1)) yfl yil yol ytl ycap ymk yen yac yec ypos yco yde vu (yu_p wu) (yu_p pu) ywd ypr yit ym1 ym2 ym3 ym4 ym5 (yu_s wu) (yu_s pu) ylg ycv (us_m (sl_n vu (sl_n pu (sl_n wu s))) (us_b vu (us_b pu (us_b wu b)))) (nI (sl_n vu (sl_n pu (sl_n wu s)))) (nI (us_l (us_b vu (us_b pu (us_b wu b))))) (nI (us_b vu (us_b pu (us_b wu b)))) ysq ysv ycw ycp ycn bf bi bo btm brv ba brs) :
    (nI (d + 1) ≤ 16 → wY_compile_109 post J x2 x3 x4 (nI g) x6 0 yfl yil yol ytl ycap ymk yen yac yec ypos yco yde vu (yu_p wu) (yu_p pu) ywd ypr yit ym1 ym2 ym3 ym4 ym5 (yu_s wu) (yu_s pu) ylg ycv (us_m s b) (nI s) (nI (us_l b)) (nI b) ysq ysv ycw ycp ycn bf bi bo btm brv ba brs) ∧ (¬ nI (d + 1) ≤ 16 → wY_compile_109 post J x2 x3 x4 (nI g) x6 (-6) yfl yil yol ytl ycap ymk yen yac yec ypos yco yde vu (yu_p wu) (yu_p pu) ywd ypr yit ym1 ym2 ym3 ym4 ym5 (yu_s wu) (yu_s pu) ylg ycv (us_m s b) (nI s) (nI (us_l b)) (nI b) ysq ysv ycw ycp ycn bf bi bo btm brv ba brs) := by
  have err : ∀ (r ycm ycs ycx ycu : Int32), ¬ r = 0 → tk_r d wu pu vu s b = r → wY_compile_170 post J x2 x3 x4 (nI g) x6 r yfl yil yol ytl ycap ymk yen yac yec ypos yco yde vu (yu_p wu) (yu_p pu) ywd ypr yit ym1 ym2 ym3 ym4 ym5 (yu_s wu) (yu_s pu) ylg ycv ycm ycs ycx ycu ysq ysv ycw ycp ycn bf bi bo btm brv ba brs := by
    intro r ycm ycs ycx ycu hz e
    rw [e] at hr
    exact br_f hz (hr hz _ _ _ _)
  refine pk_le (d + 1) 16 (fun hd => ?_) (fun hd => ?_)
  · have T : tk_r d wu pu vu s b = if ¬ us_e wu s b = 0 then us_e wu s b else if ¬ us_e pu (sl_n wu s) (us_b wu b) = 0 then us_e pu (sl_n wu s) (us_b wu b) else us_e vu (sl_n pu (sl_n wu s)) (us_b pu (us_b wu b)) := by
      unfold tk_r
      rw [if_neg (by omega)]
    have st3 : us_e wu s b = 0 → us_e pu (sl_n wu s) (us_b wu b) = 0 → us_I (sl_n pu (sl_n wu s)) (us_b pu (us_b wu b)) → wY_compile_155 post J x2 x3 x4 (nI g) x6 0 yfl yil yol ytl ycap ymk yen yac yec ypos yco yde vu (yu_p wu) (yu_p pu) ywd ypr yit ym1 ym2 ym3 ym4 ym5 (yu_s wu) (yu_s pu) ylg ycv (us_m (sl_n pu (sl_n wu s)) (us_b pu (us_b wu b))) (nI (sl_n pu (sl_n wu s))) (nI (us_l (us_b pu (us_b wu b)))) (nI (us_b pu (us_b wu b))) ysq ysv ycw ycp ycn bf bi bo btm brv ba brs := by
      intro z1 z2 I2
      rw [if_neg (fun y => y z1), if_neg (fun y => y z2)] at T
      have hn := us_nn hv
      refine br_t rfl (ym_use hv I2 (fun a ycm ycs ycx ycu => ?_) (fun a => ?_))
      · obtain ⟨e1, e2⟩ := us_e0 hn a
        rw [e1] at T e2
        exact err _ _ _ _ _ e2 T
      · rw [us_e1 hn a] at T
        exact br_t rfl (nm_r (nI_1 g) (h T))
    have st2 : us_e wu s b = 0 → us_I (sl_n wu s) (us_b wu b) → wY_compile_133 post J x2 x3 x4 (nI g) x6 0 yfl yil yol ytl ycap ymk yen yac yec ypos yco yde vu (yu_p wu) (yu_p pu) ywd ypr yit ym1 ym2 ym3 ym4 ym5 (yu_s wu) (yu_s pu) ylg ycv (us_m (sl_n wu s) (us_b wu b)) (nI (sl_n wu s)) (nI (us_l (us_b wu b))) (nI (us_b wu b)) ysq ysv ycw ycp ycn bf bi bo btm brv ba brs := by
      intro z1 I1
      rw [if_neg (fun y => y z1)] at T
      rcases hp with hp | hp
      · subst hp
        exact br_t rfl (br_t rfl (st3 z1 rfl I1))
      · have hn := us_nn hp
        refine br_t rfl (br_f (by rw [yu_s2 hn]; decide) ?_)
        rw [yu_p2 hn]
        rw [yu_p2 hn] at st3 err
        refine ym_use hp I1 (fun a ycm ycs ycx ycu => ?_) (fun a => st3 z1 (us_e1 hn a) (us_rs hp I1 a).2)
        obtain ⟨e1, e2⟩ := us_e0 hn a
        rw [if_pos e2, e1] at T
        rw [e1] at e2
        exact br_f e2 (err _ _ _ _ _ e2 T)
    rcases hw with hw | hw
    · subst hw
      exact br_t rfl (br_t rfl (st2 rfl I))
    · have hn := us_nn hw
      refine br_t rfl (br_f (by rw [yu_s2 hn]; decide) ?_)
      rw [yu_p2 hn]
      rw [yu_p2 hn] at st2 err
      refine ym_use hw I (fun a ycm ycs ycx ycu => ?_) (fun a => st2 (us_e1 hn a) (us_rs hw I a).2)
      obtain ⟨e1, e2⟩ := us_e0 hn a
      rw [if_pos e2, e1] at T
      rw [e1] at e2
      exact br_f e2 (br_f e2 (err _ _ _ _ _ e2 T))
  · have T : tk_r d wu pu vu s b = -6 := by
      unfold tk_r
      rw [if_pos hd]
    have n6 : ¬ (-6 : Int32) = 0 := by decide
    exact br_f n6 (br_f n6 (br_f n6 (err _ _ _ _ _ n6 T)))
end
end
section
/-! compile: both walk in step -/
theorem ps_neg {f : Nat → Int32} {L j : Nat} (h : ps_v f L j < 0) : ps_v f L j = -3 := by
  rcases ps_vr f L j with e | ⟨k, hk, e⟩
  · exact e
  · rw [e] at h
    exact absurd h (nI_pos (by omega))
theorem pw_neg {f : Nat → Int32} {L j : Nat} (h : ¬ pw_r f L j = 0) : pw_r f L j < 0 := by
  unfold pw_r at h ⊢
  by_cases c : pw_s f L j
  · rw [if_pos c] at h ⊢
    by_cases z : ps_v f L (j + 1) < 0
    · rw [if_pos z]; exact z
    · rw [if_neg z] at h; exact absurd rfl h
  · rw [if_neg c] at h ⊢
    by_cases z : 99 < rn_V f (L - j) j 0
    · rw [if_pos z]; decide
    · rw [if_neg z] at h; exact absurd rfl h
theorem pp_neg {f : Nat → Int32} {L j : Nat} (h : ¬ pp_r f L j = 0) : pp_r f L j < 0 := by
  unfold pp_r at h ⊢
  by_cases c : pp_d f L j
  · rw [if_pos c] at h ⊢; exact pw_neg h
  · rw [if_neg c] at h; exact absurd rfl h
theorem pc_neg {f : Nat → Int32} {L j : Nat} (h : ¬ pc_r f L j = 0) : pc_r f L j < 0 := by
  unfold pc_r at h ⊢
  by_cases a : L ≤ pc_k f L j
  · rw [if_pos a]; decide
  · rw [if_neg a] at h ⊢
    by_cases b : ¬ cv_t (f (pc_k f L j)) ∧ cv_b (f (pc_k f L j)) = 0
    · rw [if_pos b]; decide
    · rw [if_neg b] at h ⊢
      by_cases c : cv_t (f (pc_k f L j)) ∧ pc_l f L j
      · rw [if_pos c]; decide
      · rw [if_neg c] at h; exact absurd rfl h
theorem dr_neg {f : Nat → Int32} {L p : Nat} (h : ¬ dr_r f L p = 0) : dr_r f L p < 0 := by
  unfold dr_r at h ⊢
  by_cases a : dr_v f L p < 0
  · rw [if_pos a]; exact a
  · rw [if_neg a] at h ⊢
    by_cases b : ¬ pw_r f L (dr_2 f L p) = 0
    · rw [if_pos b]; exact pw_neg b
    · rw [if_neg b] at h ⊢
      by_cases c : ¬ pp_r f L (dr_3 f L p) = 0
      · rw [if_pos c]; exact pp_neg c
      · rw [if_neg c] at h ⊢
        exact pc_neg h
/-- the reference's 'the last entry is a literal' -/
def cp_pl (ak : Nat → Int32) (E : Nat) : Int32 := if 0 < E ∧ ak (E - 1) = 0 then 1 else 0
theorem cp_pl1 {ak : Nat → Int32} {E : Nat} (h0 : 0 < E) (h : ak (E - 1) = 0) : cp_pl ak E = 1 := if_pos ⟨h0, h⟩
theorem cp_pl0 {ak : Nat → Int32} {E : Nat} (h : 0 < E → ¬ ak (E - 1) = 0) : cp_pl ak E = 0 := if_neg (fun z => h z.1 z.2)
theorem cp_t (b : Nat) : ∃ t, t ≤ 8 ∧ (∀ i, i < t → b / 2 ^ i % 2 = 1) ∧ (t = 8 ∨ b / 2 ^ t % 2 = 0) := by
  obtain ⟨t, h1, h2⟩ := pk_least (fun t => t = 8 ∨ b / 2 ^ t % 2 = 0) ⟨8, Or.inl rfl⟩
  refine ⟨t, ?_, fun i hi => ?_, h1⟩
  · by_cases h : t ≤ 8
    · exact h
    · exact absurd (Or.inl rfl) (h2 8 (by omega))
  · have := h2 i hi
    have h3 : ¬ b / 2 ^ i % 2 = 0 := fun z => this (Or.inr z)
    omega
section
variable {yfl yil yol ytl ycap ymk yen yac yec ypos yco yde ydp ydw ydq ywd ypr yit ym1 ym2 ym3 ym4 ym5 yws yps ylg ycv ycm ycs ycx ycu ysq ysv ycw ycp ycn : Int32} {bf bi bo btm brv : Nat → Int32} {ba brs : Nat → Int64}
theorem ym_203a {post : Int32 → SY → Prop} {x3 : Int32} {b M : Nat} (hb : b < 256) (hM : M ≤ 8) (ho : ∀ i, i < M → b / 2 ^ i % 2 = 1) (h : wY_compile_245 post x3 yfl yil yol ytl ycap ymk yen yac yec ypos yco yde ydp ydw ydq ywd ypr yit ym1 ym2 ym3 ym4 ym5 yws yps ylg ycv ycm ycs (nI M) (nI b) ysq ysv ycw ycp ycn bf bi bo btm brv ba brs) : ∀ r i, i + r = M → wY_compile_203 post x3 yfl yil yol ytl ycap ymk yen yac yec ypos yco yde ydp ydw ydq ywd ypr yit ym1 ym2 ym3 ym4 ym5 yws yps ylg ycv ycm ycs (nI M) (nI b) ysq ysv ycw ycp ycn bf bi bo btm brv ba brs (r + 1) (nI i) := by
  intro r
  induction r with
  | zero => intro i hi; exact br_t (nI_le (by omega) (by omega)) h
  | succ r ih =>
    intro i hi
    refine br_f (nI_ge (by omega) (by omega)) (br_f (nI_ge (b := 8) (by omega) (by decide)) (br_f ?_ (nm_r (nI_1 i) (ih (i + 1) (by omega)))))
    rw [us_t4 b hb i (by omega), us_t5 b hb i (by omega), ho i (by omega)]
    decide
theorem ym_203b {post : Int32 → SY → Prop} {x3 : Int32} {b M t : Nat} (hb : b < 256) (hM : M ≤ 8) (ht : t < M) (ho : ∀ i, i < t → b / 2 ^ i % 2 = 1) (hz : b / 2 ^ t % 2 = 0) (h : post (-7) (yfl, yil, yol, ytl, ycap, ymk, yen, yac, yec, ypos, 0, yde, ydp, ydw, ydq, ywd, ypr, yit, ym1, ym2, ym3, ym4, ym5, yws, yps, ylg, ycv, ycm, ycs, nI M, nI b, ysq, ysv, ycw, ycp, ycn, bf, bi, bo, btm, brv, ba, brs)) : ∀ r i, i + r = t → wY_compile_203 post x3 yfl yil yol ytl ycap ymk yen yac yec ypos yco yde ydp ydw ydq ywd ypr yit ym1 ym2 ym3 ym4 ym5 yws yps ylg ycv ycm ycs (nI M) (nI b) ysq ysv ycw ycp ycn bf bi bo btm brv ba brs (r + 1) (nI i) := by
  intro r
  induction r with
  | zero =>
    intro i hi
    have e : i = t := by omega
    subst e
    refine br_f (nI_ge (by omega) (by omega)) (br_f (nI_ge (b := 8) (by omega) (by decide)) (br_t ?_ h))
    rw [us_t4 b hb i (by omega), us_t5 b hb i (by omega), hz]
    rfl
  | succ r ih =>
    intro i hi
    refine br_f (nI_ge (by omega) (by omega)) (br_f (nI_ge (b := 8) (by omega) (by decide)) (br_f ?_ (nm_r (nI_1 i) (ih (i + 1) (by omega)))))
    rw [us_t4 b hb i (by omega), us_t5 b hb i (by omega), ho i (by omega)]
    decide
end
section
variable {C L O N : Nat} {xrm xsp xdl xtl xbu ytl ypos yco ysq ysv ycw ycp ycn : Int32} {xsv : Int64} {af ao ai adr atx adg brv : Nat → Int32} {aa ar : Nat → Int64}
theorem cp_lp (k : Nat) (hB : rl_B C L O N af ao adr) (G : (Int32 → SY → Prop) → Prop) : ∀ (n p g E T d s b : Nat) (pe se : Nat → Nat) (xat xwu xpu xvu : Int32) (ak als ale afl awd apr aws aps avs ali : Nat → Int32) (yac yec yde ydp ydw ydq ywd ypr yit ym1 ym2 ym3 ym4 ym5 yws yps ylg ycv : Int32),
    tb_inv af L T ak als ale afl awd apr aws aps avs ali E p d s b pe se → g ≤ p → L - p < n →
    (∀ post : Int32 → SY → Prop, (∃ m, wY_compile_32 post m (nI p) (nI d) (nI E) (cp_pl ak E) (nI g) (nI L) (nI N) (nI O) ytl (nI C) xrm xsp yac yec ypos yco yde ydp ydw ydq ywd ypr yit ym1 ym2 ym3 ym4 ym5 yws yps ylg ycv (us_m s b) (nI s) (nI (us_l b)) (nI b) ysq ysv ycw ycp ycn af ai ao adr brv aa ar) → G post) →
    wX_compile_39 (fun r u' => G (fun r' v' => r' = r ∧ i_Rel k u' v')) n 0 (nI g) (nI C) (nI L) (nI O) (nI N) xrm xsp 0 (nI E) xat (nI T) (nI p) xwu xpu xvu (nI d) (nI s) (nI b) xdl xtl xbu xsv af aa ao ai ar ak als ale afl awd apr aws aps avs ali adr atx adg := by
  intro n
  induction n with
  | zero => intro p g E T d s b pe se xat xwu xpu xvu ak als ale afl awd apr aws aps avs ali yac yec yde ydp ydw ydq ywd ypr yit ym1 ym2 ym3 ym4 ym5 yws yps ylg ycv I hg hn; omega
  | succ n ih =>
    intro p g E T d s b pe se xat xwu xpu xvu ak als ale afl awd apr aws aps avs ali yac yec yde ydp ydw ydq ywd ypr yit ym1 ym2 ym3 ym4 ym5 yws yps ylg ycv I hg hn H
    obtain ⟨B1, hL, B3, B4, hf, B6, B7⟩ := hB
    have hB : rl_B C L O N af ao adr := ⟨B1, hL, B3, B4, hf, B6, B7⟩
    obtain ⟨I1, I2, I3, I4, I5, I6, I7, I8, I9⟩ := id I
    have ex : L ≤ p → wX_compile_159 (fun r u' => G (fun r' v' => r' = r ∧ i_Rel k u' v')) 0 (nI C) (nI L) (nI O) (nI N) xrm xsp 0 (nI E) xat (nI T) (nI p) xwu xpu xvu (nI d) (nI s) (nI b) xdl xtl xbu xsv af aa ao ai ar ak als ale afl awd apr aws aps avs ali adr atx adg := by
      intro hl
      have epL : p = L := by omega
      obtain ⟨t, t1, t2, t3⟩ := cp_t b
      have hz := us_t8 b I4.2.1
      refine br_t rfl (xm_ca I4.2.1 t1 t2 t3 (fun z => br_t rfl (H _ ⟨1, ?_⟩)) (fun z => br_f (by decide) (H _ ⟨1, ?_⟩)))
      · have el := us_t6 b I4.2.1 t (by omega) z (by
          by_cases q : t = 0
          · exact Or.inl q
          · exact Or.inr (t2 (t - 1) (by omega)))
        have fin : ∀ yac : Int32, yac = nI (t + s) → wY_compile_277 (fun r' v' => r' = nI E ∧ i_Rel k (nI C, nI L, nI O, nI N, xrm, xsp, 1, nI E, nI (t + s), nI T, nI p, xwu, xpu, xvu, nI d, nI s, nI b, xdl, xtl, xbu, xsv, af, aa, ao, ai, ar, ak, als, ale, afl, awd, apr, aws, aps, avs, ali, adr, atx, adg) v') (nI E) yac (nI L) (nI N) (nI O) ytl (nI C) xrm xsp yac yec ypos yco yde ydp ydw ydq ywd ypr yit ym1 ym2 ym3 ym4 ym5 yws yps ylg ycv (us_m s b) (nI s) (nI (us_l b)) (nI b) ysq ysv ycw ycp ycn af ai ao adr brv aa ar := by
          intro yac ey
          exact ⟨rfl, rl_i k hB (Or.inr ⟨rfl, ey, E, T, pe, se, rfl, rfl, by omega, by omega, by omega, I1⟩)⟩
        have k192 : wY_compile_192 (fun r' v' => r' = nI E ∧ i_Rel k (nI C, nI L, nI O, nI N, xrm, xsp, 1, nI E, nI (t + s), nI T, nI p, xwu, xpu, xvu, nI d, nI s, nI b, xdl, xtl, xbu, xsv, af, aa, ao, ai, ar, ak, als, ale, afl, awd, apr, aws, aps, avs, ali, adr, atx, adg) v') (nI E) (nI L) (nI N) (nI O) ytl (nI C) xrm xsp yac yec ypos yco yde ydp ydw ydq ywd ypr yit ym1 ym2 ym3 ym4 ym5 yws yps ylg ycv (us_m s b) (nI s) (nI (us_l b)) (nI b) ysq ysv ycw ycp ycn af ai ao adr brv aa ar := by
          by_cases b0 : b = 0
          · have t0 : t = 0 := by rw [← el]; exact hz.2.mpr b0
            by_cases s0 : 0 < s
            · have em := us_ms b0 s0
              exact br_f (by rw [em]; decide) (br_f (by rw [em]; decide) (br_t em (fin _ (by rw [t0, Nat.zero_add]))))
            · have em := us_m0 b0 s0
              exact br_f (by rw [em]; decide) (br_f (by rw [em]; decide) (br_f (by rw [em]; decide) (fin _ (by rw [t0, show s = 0 by omega]; rfl))))
          · have em : us_m s b = 2 := us_mb b0
            have s0 : s = 0 := by rcases I4.1 with q | q <;> omega
            refine br_t em ⟨us_l b + 1, ym_203a I4.2.1 hz.1 (fun i hi => t2 i (by omega)) ?_ (us_l b) 0 (by omega)⟩
            exact br_t em (fin _ (by rw [el, s0, Nat.add_zero]))
        exact pk_le 64 g (fun _ => k192) (fun _ => br_t (nI_le hl (by omega)) k192)
      · have tl := us_t7 b I4.2.1 t (by omega) z
        have b0 : ¬ b = 0 := fun q => z (by rw [q]; exact Nat.zero_div _)
        have em : us_m s b = 2 := us_mb b0
        have tz : b / 2 ^ t % 2 = 0 := by
          rcases t3 with q | q
          · omega
          · exact q
        have k192 : wY_compile_192 (fun r' v' => r' = (-7) ∧ i_Rel k (nI C, nI L, nI O, nI N, xrm, xsp, 0, nI E, xat, nI T, nI p, xwu, xpu, xvu, nI d, nI s, nI b, xdl, xtl, xbu, xsv, af, aa, ao, ai, ar, ak, als, ale, afl, awd, apr, aws, aps, avs, ali, adr, atx, adg) v') (nI E) (nI L) (nI N) (nI O) ytl (nI C) xrm xsp yac yec ypos yco yde ydp ydw ydq ywd ypr yit ym1 ym2 ym3 ym4 ym5 yws yps ylg ycv (us_m s b) (nI s) (nI (us_l b)) (nI b) ysq ysv ycw ycp ycn af ai ao adr brv aa ar :=
          br_t em ⟨t + 1, ym_203b I4.2.1 hz.1 tl t2 tz ⟨rfl, rl_i k hB (Or.inl rfl)⟩ t 0 (by omega)⟩
        exact pk_le 64 g (fun _ => k192) (fun _ => br_t (nI_le hl (by omega)) k192)
    refine pk_le 64 g (fun h64 => ex (by omega)) (fun h64 => pk_le L p ex (fun hl => br_t rfl ?_))
    have vp : (nI p).toNatClampNeg = p := nI_clamp (by omega)
    have ip : vp_in (nI p) 64 := vp_in_nI (by omega) (by omega)
    have e1 : nI p + 1 = nI (p + 1) := nI_1 p
    have e2 : nI p + 2 = nI (p + 2) := nI_add p 2
    have n64 : ¬ (64 : Int32) ≤ nI g := nI_ge (b := 64) (by omega) (by decide)
    have nLp : ¬ nI L ≤ nI p := nI_ge hl (by omega)
    -- a literal item, seen from the reference
    have yl : ∀ (c : Int32) (q : Nat), it_lit af L p c q → ∀ (E' : Nat) (ak' : Nat → Int32), ((0 < E → ¬ ak (E - 1) = 0) ∧ E' = E + 1 ∨ 0 < E ∧ ak (E - 1) = 0 ∧ E' = E) → cp_pl ak' E' = 1 → ∀ post : Int32 → SY → Prop, (∃ m, wY_compile_32 post m (nI q) (nI d) (nI E') (cp_pl ak' E') (nI (g + 1)) (nI L) (nI N) (nI O) ytl (nI C) xrm xsp yac yec ypos yco yde ydp ydw ydq ywd ypr c ym1 ym2 ym3 ym4 ym5 yws yps ylg ycv (us_m s b) (nI s) (nI (us_l b)) (nI b) ysq ysv ycw ycp ycn af ai ao adr brv aa ar) → G post := by
      intro c q hi E' ak' hE hpl post hm
      obtain ⟨m, hm⟩ := hm
      rw [hpl] at hm
      have hq := it_q hi
      refine H post ⟨m + 1, br_f n64 (br_f nLp (ym_itl hL hi (br_t (nI_pos' (by omega)) (br_f (Int32.not_lt.mpr (ar_pos (it_c hf hi))) ?_))))⟩
      rcases hE with ⟨h1, rfl⟩ | ⟨h1, h2, rfl⟩
      · exact br_t (cp_pl0 h1) (nm_r (nI_1 E) (nm_r (nI_1 g) hm))
      · exact br_f (by rw [cp_pl1 h1 h2]; decide) (nm_r (nI_1 g) hm)
    have k148 : it_pc af L p → wX_compile_148 (fun r u' => G (fun r' v' => r' = r ∧ i_Rel k u' v')) (wX_compile_39 (fun r u' => G (fun r' v' => r' = r ∧ i_Rel k u' v')) n) (nI g) (nI C) (nI L) (nI O) (nI N) xrm xsp 0 (nI E) xat (nI T) (nI p) xwu xpu xvu (nI d) (nI s) (nI b) xdl xtl xbu xsv af aa ao ai ar ak als ale afl awd apr aws aps avs ali adr atx adg := by
      intro hpc
      obtain ⟨n, rfl⟩ : ∃ n', n = n' + 1 := ⟨n - 1, by omega⟩
      have hb := dr_b af hl
      refine xm_rd hL hl (by omega) (by omega) I4 (fun z => ?_) (fun z1 z2 => ?_) (fun z1 z2 => ?_)
      · intro xec xat xlt xcu xwu xpu xvu xdc xsu xpo ak als ale afl awd apr aws aps avs ali
        refine nm_r (nI_1 g) ?_
        have hp : G (fun r' v' => r' = dr_r af L p ∧ i_Rel k (nI C, nI L, nI O, nI N, xrm, xsp, 0, xec, xat, xlt, xcu, xwu, xpu, xvu, xdc, xsu, xpo, xdl, xtl, xbu, xsv, af, aa, ao, ai, ar, ak, als, ale, afl, awd, apr, aws, aps, avs, ali, adr, atx, adg) v') := by
          refine H _ ⟨1, br_f n64 (br_f nLp (ym_itd hL hpc hf (fun _ => ?_) (fun q => absurd q z)))⟩
          intro yde ydp ydw ydq ywd ypr yit ym1 ym2 ym3 ym4 ym5 yws yps ylg ycv
          exact br_f (Int32.not_le.mpr (dr_neg z)) ⟨rfl, rl_i k hB (Or.inl rfl)⟩
        exact ⟨fun _ => br_f z (br_f z hp), fun _ => ⟨fun _ => br_f z (br_f z hp), fun _ => br_f z (br_f z (br_f z hp))⟩⟩
      · intro xec xat xlt xcu xwu xpu xvu xdc xsu xpo ak als ale afl awd apr aws aps avs ali
        refine nm_r (nI_1 g) ?_
        obtain ⟨u1, u2, u3⟩ := dr_us z1
        have hk : dr_k af L p < L := (pc_ok (dr_ok z1).2.2.2).1
        have hp : G (fun r' v' => r' = tk_r d (dr_wu af L p) (dr_pu af L p) (dr_v af L p) s b ∧ i_Rel k (nI C, nI L, nI O, nI N, xrm, xsp, 0, xec, xat, xlt, xcu, xwu, xpu, xvu, xdc, xsu, xpo, xdl, xtl, xbu, xsv, af, aa, ao, ai, ar, ak, als, ale, afl, awd, apr, aws, aps, avs, ali, adr, atx, adg) v') := by
          refine H _ ⟨1, br_f n64 (br_f nLp (ym_itd hL hpc hf (fun q => absurd z1 q) (fun _ => ?_)))⟩
          refine br_t (nI_pos' (by omega)) (br_t (by decide) (nm_r (nI_1 E) (nm_r (nI_1 d) (ym_c170 (by omega) u1 u2 u3 I4 (fun _ => ?_) (fun q => absurd q z2)))))
          intro ycm ycs ycx ycu
          exact ⟨rfl, rl_i k hB (Or.inl rfl)⟩
        exact ⟨fun _ => br_f z2 (br_f z2 hp), fun _ => ⟨fun _ => br_f z2 (br_f z2 hp), fun _ => br_f z2 (br_f z2 (br_f z2 hp))⟩⟩
      · intro xwu xpu xvu
        obtain ⟨u1, u2, u3⟩ := dr_us z1
        have hk : dr_k af L p < L := (pc_ok (dr_ok z1).2.2.2).1
        have kz := tb_kz (pc_ok (dr_ok z1).2.2.2)
        refine nm_r (nI_1 g) (ih (dr_k af L p + 1) (g + 1) (E + 1) T (d + 1) _ _ _ _ _ _ _ _ _ _ _ _ _ _ _ _ _ _ yac yec (nI (dr_k af L p + 1)) (dr_v af L p) (yu_p (dr_wu af L p)) (yu_p (dr_pu af L p)) (yu_w (dr_w af L p)) (dr_p af L p) (-1) (nI (dr_m af L p % 2)) (nI (dr_m af L p / 2 % 2)) (nI (dr_m af L p / 4 % 2)) (nI (dr_m af L p / 8 % 2)) (nI (dr_m af L p / 16 % 2)) (yu_s (dr_wu af L p)) (yu_s (dr_pu af L p)) (nI (dr_g af L p)) (dr_c af L p) (tb_newdir I hpc z1 z2) (by omega) (by omega) ?_)
        intro post hm
        obtain ⟨m, hm⟩ := hm
        rw [cp_pl0 (E := E + 1) (fun _ => by rw [Nat.add_sub_cancel, pk_us]; exact kz)] at hm
        refine H post ⟨m + 1, br_f n64 (br_f nLp (ym_itd hL hpc hf (fun q => absurd z1 q) (fun _ => ?_)))⟩
        exact br_t (nI_pos' (by omega)) (br_t (by decide) (nm_r (nI_1 E) (nm_r (nI_1 d) (ym_c170 (by omega) u1 u2 u3 I4 (fun q => absurd z2 q) (fun _ => hm)))))
    refine ⟨ip, ?_⟩
    by_cases c37 : af p = 37
    · refine br_t (by rw [vp]; exact c37) ?_
      by_cases n37 : p + 1 < L ∧ af (p + 1) = 37
      · have hi : it_lit af L p 37 (p + 2) := ⟨hl, Or.inr ⟨c37, n37.1, n37.2, rfl, rfl⟩⟩
        refine br_f (by rw [e1]; exact nI_ge n37.1 (by omega)) ⟨by rw [e1]; exact vp_in_nI (by have := n37.1; omega) (by omega), br_t (by rw [e1, nI_clamp (by omega)]; exact n37.2) (xm_al (by omega) (by omega) ⟨37, by decide, rfl⟩ (fun hn => ?_) (fun h0 hn => ?_))⟩
        · exact nm_r e2 (nm_r (nI_1 g) (ih (p + 2) (g + 1) (E + 1) (T + 1) d s b _ _ _ _ _ _ _ _ _ _ _ _ _ _ _ _ yac yec yde ydp ydw ydq ywd ypr 37 ym1 ym2 ym3 ym4 ym5 yws yps ylg ycv (tb_newlit I hi hn) (by omega) (by omega) (yl 37 (p + 2) hi (E + 1) _ (Or.inl ⟨hn, rfl⟩) (cp_pl1 (by omega) (by rw [Nat.add_sub_cancel, pk_us])))))
        · exact nm_r e2 (nm_r (nI_1 g) (ih (p + 2) (g + 1) E (T + 1) d s b _ _ _ _ _ _ _ _ _ _ _ _ _ _ _ _ yac yec yde ydp ydw ydq ywd ypr 37 ym1 ym2 ym3 ym4 ym5 yws yps ylg ycv (tb_applit hL I hi h0 hn) (by omega) (by omega) (yl 37 (p + 2) hi E _ (Or.inr ⟨h0, hn, rfl⟩) (cp_pl1 h0 hn))))
      · have hpc : it_pc af L p := ⟨hl, c37, n37⟩
        exact pk_le L (p + 1) (fun _ => k148 hpc) (fun h => ⟨by rw [e1]; exact vp_in_nI (by omega) (by omega), br_f (by rw [e1, nI_clamp (by omega)]; exact fun z => n37 ⟨h, z⟩) (k148 hpc)⟩) rfl e1
    · have hi : it_lit af L p (af p) (p + 1) := ⟨hl, Or.inl ⟨c37, rfl, rfl⟩⟩
      refine br_f (by rw [vp]; exact c37) ⟨ip, ?_⟩
      rw [vp]
      refine xm_al (by omega) (by omega) (hf p) (fun hn => ?_) (fun h0 hn => ?_)
      · exact nm_r e1 (nm_r (nI_1 g) (ih (p + 1) (g + 1) (E + 1) (T + 1) d s b _ _ _ _ _ _ _ _ _ _ _ _ _ _ _ _ yac yec yde ydp ydw ydq ywd ypr (af p) ym1 ym2 ym3 ym4 ym5 yws yps ylg ycv (tb_newlit I hi hn) (by omega) (by omega) (yl (af p) (p + 1) hi (E + 1) _ (Or.inl ⟨hn, rfl⟩) (cp_pl1 (by omega) (by rw [Nat.add_sub_cancel, pk_us])))))
      · exact nm_r e1 (nm_r (nI_1 g) (ih (p + 1) (g + 1) E (T + 1) d s b _ _ _ _ _ _ _ _ _ _ _ _ _ _ _ _ yac yec yde ydp ydw ydq ywd ypr (af p) ym1 ym2 ym3 ym4 ym5 yws yps ylg ycv (tb_applit hL I hi h0 hn) (by omega) (by omega) (yl (af p) (p + 1) hi E _ (Or.inr ⟨h0, hn, rfl⟩) (cp_pl1 h0 hn))))
end
theorem i_vc_compile {k : Nat} {u : SX} {v : SY} (I : i_Rel k u v) (hk : k + 4 ≤ 2049) : wpX_compile (fun r u' => wpY_compile (fun r' v' => r' = r ∧ i_Rel (k + 4) u' v') v) u := by
  refine rl_e (P := fun u v => wpX_compile (fun r u' => wpY_compile (fun r' v' => r' = r ∧ i_Rel (k + 4) u' v') v) u) I ?_
  intro C L O N co xrm xsp xec xat xlt xcu xwu xpu xvu xdc xsu xpo xdl xtl xbu xsv af ao ai ak als ale afl awd apr aws aps avs ali adr atx adg aa ar ytl yac yec ypos yde ydp ydw ydq ywd ypr yit ym1 ym2 ym3 ym4 ym5 yws yps ylg ycv ycm ycs ycx ycu ysq ysv ycw ycp ycn brv hB hT
  refine ⟨L + 1, cp_lp (ytl := ytl) (ypos := ypos) (yco := co) (ysq := ysq) (ysv := ysv) (ycw := ycw) (ycp := ycp) (ycn := ycn) (brv := brv) (k + 4) hB (fun post => wpY_compile post (nI L, nI N, nI O, ytl, nI C, xrm, xsp, yac, yec, ypos, co, yde, ydp, ydw, ydq, ywd, ypr, yit, ym1, ym2, ym3, ym4, ym5, yws, yps, ylg, ycv, ycm, ycs, ycx, ycu, ysq, ysv, ycw, ycp, ycn, af, ai, ao, adr, brv, aa, ar)) (L + 1) 0 0 0 0 0 0 0 (fun _ => 0) (fun _ => 0) xat xwu xpu xvu ak als ale afl awd apr aws aps avs ali yac yec yde ydp ydw ydq ywd ypr yit ym1 ym2 ym3 ym4 ym5 yws yps ylg ycv (tb_inv0 af L ak als ale afl awd apr aws aps avs ali) (by omega) (by omega) ?_⟩
  intro post hm
  obtain ⟨m, hm⟩ := hm
  rw [cp_pl0 (E := 0) (fun z => absurd z (by omega))] at hm
  exact ⟨m, hm⟩
end
section
/-! the calls that keep the two in step without a walk of the format -/
theorem i_vc0 (k0 : Int32) : wpX_init (fun u => wpY_init (fun v => i_Rel 1 u v) k0) k0 := by
  have fin : ∀ C : Nat, C ≤ 256 → i_Rel 1 (nI C, 0, 0, 0, 0, 0, 0, 0, 0, 0, 0, 0, 0, 0, 0, 0, 0, 0, 0, 0, 0, (fun _ => 0), (fun _ => 0), (fun _ => 0), (fun _ => 0), (fun _ => 0), (fun _ => 0), (fun _ => 0), (fun _ => 0), (fun _ => 0), (fun _ => 0), (fun _ => 0), (fun _ => 0), (fun _ => 0), (fun _ => 0), (fun _ => 0), (fun _ => 0), (fun _ => 0), (fun _ => 0)) (0, 0, 0, 0, nI C, 0, 0, 0, 0, 0, 0, 0, 0, 0, 0, 0, 0, 0, 0, 0, 0, 0, 0, 0, 0, 0, 0, 0, 0, 0, 0, 0, 0, 0, 0, 0, (fun _ => 0), (fun _ => 0), (fun _ => 0), (fun _ => 0), (fun _ => 0), (fun _ => 0), (fun _ => 0)) := fun C hC =>
    rl_i 1 (C := C) (L := 0) (O := 0) (N := 0) (co := 0) ⟨hC, by omega, by omega, by omega, fun _ => ar_0, fun _ => ar_0, fun _ => ar_0⟩ (Or.inl rfl)
  by_cases h1 : 16 ≤ k0
  · refine br_t h1 ?_
    by_cases h2 : k0 ≤ 256
    · obtain ⟨C, hC, rfl⟩ := nI_of2 (x := k0) (M := 256) (n := 256) (by decide) (Int32.not_lt.mpr (Int32.le_trans (by decide) h1)) h2
      exact br_t h2 (br_t h1 (br_t h2 (fin C hC)))
    · exact br_f h2 (br_t h1 (br_f h2 (fin 256 (by omega))))
  · exact br_f h1 (br_f h1 (fin 16 (by omega)))
theorem i_vc_clearFormat {k : Nat} {u : SX} {v : SY} (I : i_Rel k u v) (hk : k + 4 ≤ 2049) : wpX_clearFormat (fun u' => wpY_clearFormat (fun v' => i_Rel (k + 4) u' v') v) u := by
  refine rl_e (P := fun u v => wpX_clearFormat (fun u' => wpY_clearFormat (fun v' => i_Rel (k + 4) u' v') v) u) I ?_
  intro C L O N co xrm xsp xec xat xlt xcu xwu xpu xvu xdc xsu xpo xdl xtl xbu xsv af ao ai ak als ale afl awd apr aws aps avs ali adr atx adg aa ar ytl yac yec ypos yde ydp ydw ydq ywd ypr yit ym1 ym2 ym3 ym4 ym5 yws yps ylg ycv ycm ycs ycx ycu ysq ysv ycw ycp ycn brv hB hT
  show i_Rel (k + 4) (nI C, nI 0, nI O, nI N, xrm, xsp, 0, xec, xat, xlt, xcu, xwu, xpu, xvu, xdc, xsu, xpo, xdl, xtl, xbu, xsv, af, aa, ao, ai, ar, ak, als, ale, afl, awd, apr, aws, aps, avs, ali, adr, atx, adg) (nI 0, nI N, nI O, ytl, nI C, xrm, xsp, yac, yec, ypos, 0, yde, ydp, ydw, ydq, ywd, ypr, yit, ym1, ym2, ym3, ym4, ym5, yws, yps, ylg, ycv, ycm, ycs, ycx, ycu, ysq, ysv, ycw, ycp, ycn, af, ai, ao, adr, brv, aa, ar)
  exact rl_i (k + 4) ⟨hB.1, by omega, hB.2.2⟩ (Or.inl rfl)
theorem i_vc_putFormatChar {k : Nat} {u : SX} {v : SY} (I : i_Rel k u v) (hk : k + 4 ≤ 2049) (v1 : Int32) : wpX_putFormatChar (fun r u' => wpY_putFormatChar (fun r' v' => r' = r ∧ i_Rel (k + 4) u' v') v (lw_u16 v1)) u (lw_u16 v1) := by
  refine rl_e (P := fun u v => wpX_putFormatChar (fun r u' => wpY_putFormatChar (fun r' v' => r' = r ∧ i_Rel (k + 4) u' v') v (lw_u16 v1)) u (lw_u16 v1)) I ?_
  intro C L O N co xrm xsp xec xat xlt xcu xwu xpu xvu xdc xsu xpo xdl xtl xbu xsv af ao ai ak als ale afl awd apr aws aps avs ali adr atx adg aa ar ytl yac yec ypos yde ydp ydw ydq ywd ypr yit ym1 ym2 ym3 ym4 ym5 yws yps ylg ycv ycm ycs ycx ycu ysq ysv ycw ycp ycn brv hB hT
  obtain ⟨B1, B2, B3, B4, B5, B6, B7⟩ := id hB
  have hc : ar_ch (lw_u16 v1) := ar_cast v1
  have e : (nI L).toNatClampNeg = L := nI_clamp (by omega)
  refine pk_lt L 64 (fun h => ?_) (fun h => ?_)
  · have vi : vp_in (nI L) 64 := vp_in_nI h (by decide)
    refine ⟨vi, nm_r (e' := upd af L (lw_u16 v1)) (by rw [e, ar_nar hc]) (nm_r (nI_1 L) ?_)⟩
    refine br_t (nI_lt (b := 64) h (by decide)) ⟨vi, nm_r (e' := upd af L (lw_u16 v1)) (by rw [e, ar_nar hc]) (nm_r (nI_1 L) ⟨rfl, ?_⟩)⟩
    exact rl_i (k + 4) ⟨B1, by omega, B3, B4, ar_chu B5 hc, B6, B7⟩ (Or.inl rfl)
  · exact br_f (nI_nlt (b := 64) h (by omega)) ⟨rfl, rl_i (k + 4) hB hT⟩
theorem i_vc_argCount {k : Nat} {u : SX} {v : SY} (I : i_Rel k u v) (hk : k + 4 ≤ 2049) : wpX_argCount (fun r => wpY_argCount (fun r' => r' = r ∧ i_Rel (k + 4) u v) v) u := by
  refine rl_e (P := fun u v => wpX_argCount (fun r => wpY_argCount (fun r' => r' = r ∧ i_Rel (k + 4) u v) v) u) I ?_
  intro C L O N co xrm xsp xec xat xlt xcu xwu xpu xvu xdc xsu xpo xdl xtl xbu xsv af ao ai ak als ale afl awd apr aws aps avs ali adr atx adg aa ar ytl yac yec ypos yde ydp ydw ydq ywd ypr yit ym1 ym2 ym3 ym4 ym5 yws yps ylg ycv ycm ycs ycx ycu ysq ysv ycw ycp ycn brv hB hT
  rcases id hT with z | ⟨z, e, _⟩
  · subst z; exact br_t rfl (br_t rfl ⟨rfl, rl_i (k + 4) hB hT⟩)
  · subst z; exact br_f (by decide) (br_f (by decide) ⟨e, rl_i (k + 4) hB hT⟩)
theorem i_vc_setArg {k : Nat} {u : SX} {v : SY} (I : i_Rel k u v) (hk : k + 4 ≤ 2049) (v1 : Int32) (a1 : Int64) : wpX_setArg (fun r u' => wpY_setArg (fun r' v' => r' = r ∧ i_Rel (k + 4) u' v') v v1 a1) u v1 a1 := by
  refine rl_e (P := fun u v => wpX_setArg (fun r u' => wpY_setArg (fun r' v' => r' = r ∧ i_Rel (k + 4) u' v') v v1 a1) u v1 a1) I ?_
  intro C L O N co xrm xsp xec xat xlt xcu xwu xpu xvu xdc xsu xpo xdl xtl xbu xsv af ao ai ak als ale afl awd apr aws aps avs ali adr atx adg aa ar ytl yac yec ypos yde ydp ydw ydq ywd ypr yit ym1 ym2 ym3 ym4 ym5 yws yps ylg ycv ycm ycs ycx ycu ysq ysv ycw ycp ycn brv hB hT
  rcases pk_ix v1 (n := 8) (by decide) with h | h | ⟨j, hj, rfl⟩
  · exact br_t h (br_t h ⟨rfl, rl_i (k + 4) hB hT⟩)
  · have h' : (8 : Int32) ≤ v1 := h
    have h0 : ¬ v1 < 0 := Int32.not_lt.mpr (Int32.le_trans (by decide) h')
    have h7 : ¬ v1 ≤ 7 := by
      intro z
      exact absurd (Int32.le_trans h' z) (by decide)
    exact br_f h0 (br_f (Int32.not_lt.mpr h') (br_f h0 (br_f h7 ⟨rfl, rl_i (k + 4) hB hT⟩)))
  · have vi : vp_in (nI j) 8 := vp_in_nI hj (by decide)
    exact br_f (nI_pos (by omega)) (br_t (nI_lt (b := 8) hj (by decide)) ⟨vi, nm_e (br_f (nI_pos (by omega)) (br_t (nI_le (b := 7) (by omega) (by decide)) ⟨vi, nm_e ⟨rfl, rl_i (k + 4) hB hT⟩⟩))⟩)
theorem i_vc_outLength {k : Nat} {u : SX} {v : SY} (I : i_Rel k u v) (hk : k + 4 ≤ 2049) : wpX_outLength (fun r => wpY_outLength (fun r' => r' = r ∧ i_Rel (k + 4) u v) v) u := by
  refine rl_e (P := fun u v => wpX_outLength (fun r => wpY_outLength (fun r' => r' = r ∧ i_Rel (k + 4) u v) v) u) I ?_
  intro C L O N co xrm xsp xec xat xlt xcu xwu xpu xvu xdc xsu xpo xdl xtl xbu xsv af ao ai ak als ale afl awd apr aws aps avs ali adr atx adg aa ar ytl yac yec ypos yde ydp ydw ydq ywd ypr yit ym1 ym2 ym3 ym4 ym5 yws yps ylg ycv ycm ycs ycx ycu ysq ysv ycw ycp ycn brv hB hT
  exact ⟨rfl, rl_i (k + 4) hB hT⟩
theorem i_vc_outChar {k : Nat} {u : SX} {v : SY} (I : i_Rel k u v) (hk : k + 4 ≤ 2049) (v1 : Int32) : wpX_outChar (fun r => wpY_outChar (fun r' => r' = r ∧ i_Rel (k + 4) u v) v v1) u v1 := by
  refine rl_e (P := fun u v => wpX_outChar (fun r => wpY_outChar (fun r' => r' = r ∧ i_Rel (k + 4) u v) v v1) u v1) I ?_
  intro C L O N co xrm xsp xec xat xlt xcu xwu xpu xvu xdc xsu xpo xdl xtl xbu xsv af ao ai ak als ale afl awd apr aws aps avs ali adr atx adg aa ar ytl yac yec ypos yde ydp ydw ydq ywd ypr yit ym1 ym2 ym3 ym4 ym5 yws yps ylg ycv ycm ycs ycx ycu ysq ysv ycw ycp ycn brv hB hT
  obtain ⟨B1, B2, B3, B4, B5, B6, B7⟩ := id hB
  rcases pk_ix v1 (n := O) (by omega) with h | h | ⟨j, hj, rfl⟩
  · exact br_t h (br_t h ⟨rfl, rl_i (k + 4) hB hT⟩)
  · have h0 : ¬ v1 < 0 := Int32.not_lt.mpr (Int32.le_trans (nI_pos' (n := O) (by omega)) h)
    exact br_f h0 (br_f (Int32.not_lt.mpr h) (br_f h0 (br_t h ⟨rfl, rl_i (k + 4) hB hT⟩)))
  · have vi : vp_in (nI j) 256 := vp_in_nI (by omega) (by decide)
    exact br_f (nI_pos (by omega)) (br_t (nI_lt hj (by omega)) ⟨vi, ar_narw (B6 _), br_f (nI_pos (by omega)) (br_f (nI_ge hj (by omega)) ⟨vi, ar_narw (B6 _), rfl, rl_i (k + 4) hB hT⟩)⟩)
theorem i_vc_clearInput {k : Nat} {u : SX} {v : SY} (I : i_Rel k u v) (hk : k + 4 ≤ 2049) : wpX_clearInput (fun u' => wpY_clearInput (fun v' => i_Rel (k + 4) u' v') v) u := by
  refine rl_e (P := fun u v => wpX_clearInput (fun u' => wpY_clearInput (fun v' => i_Rel (k + 4) u' v') v) u) I ?_
  intro C L O N co xrm xsp xec xat xlt xcu xwu xpu xvu xdc xsu xpo xdl xtl xbu xsv af ao ai ak als ale afl awd apr aws aps avs ali adr atx adg aa ar ytl yac yec ypos yde ydp ydw ydq ywd ypr yit ym1 ym2 ym3 ym4 ym5 yws yps ylg ycv ycm ycs ycx ycu ysq ysv ycw ycp ycn brv hB hT
  show i_Rel (k + 4) (nI C, nI L, nI O, nI 0, xrm, xsp, co, xec, xat, xlt, xcu, xwu, xpu, xvu, xdc, xsu, xpo, xdl, xtl, xbu, xsv, af, aa, ao, ai, ar, ak, als, ale, afl, awd, apr, aws, aps, avs, ali, adr, atx, adg) (nI L, nI 0, nI O, ytl, nI C, xrm, xsp, yac, yec, ypos, co, yde, ydp, ydw, ydq, ywd, ypr, yit, ym1, ym2, ym3, ym4, ym5, yws, yps, ylg, ycv, ycm, ycs, ycx, ycu, ysq, ysv, ycw, ycp, ycn, af, ai, ao, adr, brv, aa, ar)
  exact rl_i (k + 4) ⟨hB.1, hB.2.1, hB.2.2.1, by omega, hB.2.2.2.2⟩ hT
theorem i_vc_putInputChar {k : Nat} {u : SX} {v : SY} (I : i_Rel k u v) (hk : k + 4 ≤ 2049) (v1 : Int32) : wpX_putInputChar (fun r u' => wpY_putInputChar (fun r' v' => r' = r ∧ i_Rel (k + 4) u' v') v (lw_u16 v1)) u (lw_u16 v1) := by
  refine rl_e (P := fun u v => wpX_putInputChar (fun r u' => wpY_putInputChar (fun r' v' => r' = r ∧ i_Rel (k + 4) u' v') v (lw_u16 v1)) u (lw_u16 v1)) I ?_
  intro C L O N co xrm xsp xec xat xlt xcu xwu xpu xvu xdc xsu xpo xdl xtl xbu xsv af ao ai ak als ale afl awd apr aws aps avs ali adr atx adg aa ar ytl yac yec ypos yde ydp ydw ydq ywd ypr yit ym1 ym2 ym3 ym4 ym5 yws yps ylg ycv ycm ycs ycx ycu ysq ysv ycw ycp ycn brv hB hT
  obtain ⟨B1, B2, B3, B4, B5, B6, B7⟩ := id hB
  refine pk_lt N 256 (fun h => ?_) (fun h => ?_)
  · have vi : vp_in (nI N) 256 := vp_in_nI h (by decide)
    refine ⟨vi, nm_e (nm_r (nI_1 N) ?_)⟩
    exact br_t (nI_lt (b := 256) h (by decide)) ⟨vi, nm_e (nm_r (nI_1 N) ⟨rfl, rl_i (k + 4) ⟨B1, B2, B3, by omega, B5, B6, B7⟩ hT⟩)⟩
  · exact br_f (nI_nlt (b := 256) h (by omega)) ⟨rfl, rl_i (k + 4) hB hT⟩
theorem i_vc_scanned {k : Nat} {u : SX} {v : SY} (I : i_Rel k u v) (hk : k + 4 ≤ 2049) (v1 : Int32) : wpX_scanned (fun r => wpY_scanned (fun r' => r' = r ∧ i_Rel (k + 4) u v) v v1) u v1 := by
  refine rl_e (P := fun u v => wpX_scanned (fun r => wpY_scanned (fun r' => r' = r ∧ i_Rel (k + 4) u v) v v1) u v1) I ?_
  intro C L O N co xrm xsp xec xat xlt xcu xwu xpu xvu xdc xsu xpo xdl xtl xbu xsv af ao ai ak als ale afl awd apr aws aps avs ali adr atx adg aa ar ytl yac yec ypos yde ydp ydw ydq ywd ypr yit ym1 ym2 ym3 ym4 ym5 yws yps ylg ycv ycm ycs ycx ycu ysq ysv ycw ycp ycn brv hB hT
  rcases pk_ix v1 (n := 8) (by decide) with h | h | ⟨j, hj, rfl⟩
  · exact br_t h (br_t h ⟨rfl, rl_i (k + 4) hB hT⟩)
  · have h' : (8 : Int32) ≤ v1 := h
    have h0 : ¬ v1 < 0 := Int32.not_lt.mpr (Int32.le_trans (by decide) h')
    exact br_f h0 (br_f (Int32.not_lt.mpr h') (br_f h0 (br_t h' ⟨rfl, rl_i (k + 4) hB hT⟩)))
  · have vi : vp_in (nI j) 8 := vp_in_nI hj (by decide)
    exact br_f (nI_pos (by omega)) (br_t (nI_lt (b := 8) hj (by decide)) ⟨vi, br_f (nI_pos (by omega)) (br_f (nI_ge (b := 8) hj (by decide)) ⟨vi, rfl, rl_i (k + 4) hB hT⟩)⟩)
theorem i_vc_scanMask {k : Nat} {u : SX} {v : SY} (I : i_Rel k u v) (hk : k + 4 ≤ 2049) : wpX_scanMask (fun r => wpY_scanMask (fun r' => r' = r ∧ i_Rel (k + 4) u v) v) u := by
  refine rl_e (P := fun u v => wpX_scanMask (fun r => wpY_scanMask (fun r' => r' = r ∧ i_Rel (k + 4) u v) v) u) I ?_
  intro C L O N co xrm xsp xec xat xlt xcu xwu xpu xvu xdc xsu xpo xdl xtl xbu xsv af ao ai ak als ale afl awd apr aws aps avs ali adr atx adg aa ar ytl yac yec ypos yde ydp ydw ydq ywd ypr yit ym1 ym2 ym3 ym4 ym5 yws yps ylg ycv ycm ycs ycx ycu ysq ysv ycw ycp ycn brv hB hT
  exact ⟨rfl, rl_i (k + 4) hB hT⟩
theorem i_vc_scanEnd {k : Nat} {u : SX} {v : SY} (I : i_Rel k u v) (hk : k + 4 ≤ 2049) : wpX_scanEnd (fun r => wpY_scanEnd (fun r' => r' = r ∧ i_Rel (k + 4) u v) v) u := by
  refine rl_e (P := fun u v => wpX_scanEnd (fun r => wpY_scanEnd (fun r' => r' = r ∧ i_Rel (k + 4) u v) v) u) I ?_
  intro C L O N co xrm xsp xec xat xlt xcu xwu xpu xvu xdc xsu xpo xdl xtl xbu xsv af ao ai ak als ale afl awd apr aws aps avs ali adr atx adg aa ar ytl yac yec ypos yde ydp ydw ydq ywd ypr yit ym1 ym2 ym3 ym4 ym5 yws yps ylg ycv ycm ycs ycx ycu ysq ysv ycw ycp ycn brv hB hT
  exact ⟨rfl, rl_i (k + 4) hB hT⟩
section
variable {cap xfl xol xil xrm xsp xco xec xat xlt xcu xwu xpu xvu xdc xsu xpo xdl xtl xbu : Int32} {xsv : Int64} {af ao ai ak als ale afl awd apr aws aps avs ali adr atx adg : Nat → Int32} {aa ar : Nat → Int64}
theorem xm_cp {post : Int32 → SX → Prop} {O : Nat} (hO : O ≤ 256) (hc : ∀ j, ar_ch (ao j)) (h : post (nI O) (cap, xfl, nI O, nI O, xrm, xsp, xco, xec, xat, xlt, xcu, xwu, xpu, xvu, xdc, xsu, xpo, xdl, xtl, xbu, xsv, af, aa, ao, ef_f 256 ao ai 0 O, ar, ak, als, ale, afl, awd, apr, aws, aps, avs, ali, adr, atx, adg)) : ∀ r i, i + r = O → wX_copyOutputToInput_2 post cap xfl (nI O) xil xrm xsp xco xec xat xlt xcu xwu xpu xvu xdc xsu xpo xdl xtl xbu xsv (r + 1) (nI i) af aa ao (ef_f 256 ao ai 0 i) ar ak als ale afl awd apr aws aps avs ali adr atx adg := by
  intro r
  induction r with
  | zero =>
    intro i hi
    have e : i = O := by omega
    subst e
    exact br_t (nI_le (by omega) (by omega)) h
  | succ r ih =>
    intro i hi
    have e : (nI i).toNatClampNeg = i := nI_clamp (by omega)
    have vi : vp_in (nI i) 256 := vp_in_nI (by omega) (by omega)
    refine br_f (nI_ge (by omega) (by omega)) ⟨vi, vi, nm_r (e' := ef_f 256 ao ai 0 (i + 1)) ?_ (nm_r (nI_1 i) (ih (i + 1) (by omega)))⟩
    rw [e, ar_nar (hc i)]
    show _ = ef_x 256 (ef_f 256 ao ai 0 i) (0 + i) (ao i)
    unfold ef_x
    rw [if_pos (by omega), Nat.zero_add]
end
section
variable {yfl yil yol ytl ycap ymk yen yac yec ypos yco yde ydp ydw ydq ywd ypr yit ym1 ym2 ym3 ym4 ym5 yws yps ylg ycv ycm ycs ycx ycu ysq ysv ycw ycp ycn : Int32} {bf bi bo btm brv : Nat → Int32} {ba brs : Nat → Int64}
theorem ym_cp {post : Int32 → SY → Prop} {O : Nat} (hO : O ≤ 256) (hc : ∀ j, ar_ch (bo j)) (h : post (nI O) (yfl, nI O, nI O, ytl, ycap, ymk, yen, yac, yec, ypos, yco, yde, ydp, ydw, ydq, ywd, ypr, yit, ym1, ym2, ym3, ym4, ym5, yws, yps, ylg, ycv, ycm, ycs, ycx, ycu, ysq, ysv, ycw, ycp, ycn, bf, ef_f 256 bo bi 0 O, bo, btm, brv, ba, brs)) : ∀ r i, i + r = O → wY_copyOutputToInput_2 post yfl yil (nI O) ytl ycap ymk yen yac yec ypos yco yde ydp ydw ydq ywd ypr yit ym1 ym2 ym3 ym4 ym5 yws yps ylg ycv ycm ycs ycx ycu ysq ysv ycw ycp ycn (r + 1) (nI i) bf (ef_f 256 bo bi 0 i) bo btm brv ba brs := by
  intro r
  induction r with
  | zero =>
    intro i hi
    have e : i = O := by omega
    subst e
    exact br_t (nI_le (by omega) (by omega)) h
  | succ r ih =>
    intro i hi
    have e : (nI i).toNatClampNeg = i := nI_clamp (by omega)
    have vi : vp_in (nI i) 256 := vp_in_nI (by omega) (by omega)
    refine br_f (nI_ge (by omega) (by omega)) (br_f (nI_ge (b := 256) (by omega) (by decide)) ⟨vi, vi, nm_r (e' := ef_f 256 bo bi 0 (i + 1)) ?_ (nm_r (nI_1 i) (ih (i + 1) (by omega)))⟩)
    rw [e, ar_nar (hc i)]
    show _ = ef_x 256 (ef_f 256 bo bi 0 i) (0 + i) (bo i)
    unfold ef_x
    rw [if_pos (by omega), Nat.zero_add]
end
theorem i_vc_copyOutputToInput {k : Nat} {u : SX} {v : SY} (I : i_Rel k u v) (hk : k + 4 ≤ 2049) : wpX_copyOutputToInput (fun r u' => wpY_copyOutputToInput (fun r' v' => r' = r ∧ i_Rel (k + 4) u' v') v) u := by
  refine rl_e (P := fun u v => wpX_copyOutputToInput (fun r u' => wpY_copyOutputToInput (fun r' v' => r' = r ∧ i_Rel (k + 4) u' v') v) u) I ?_
  intro C L O N co xrm xsp xec xat xlt xcu xwu xpu xvu xdc xsu xpo xdl xtl xbu xsv af ao ai ak als ale afl awd apr aws aps avs ali adr atx adg aa ar ytl yac yec ypos yde ydp ydw ydq ywd ypr yit ym1 ym2 ym3 ym4 ym5 yws yps ylg ycv ycm ycs ycx ycu ysq ysv ycw ycp ycn brv hB hT
  obtain ⟨B1, B2, B3, B4, B5, B6, B7⟩ := id hB
  refine ⟨O + 1, xm_cp B3 B6 ?_ O 0 (by omega)⟩
  refine ⟨O + 1, ym_cp B3 B6 ?_ O 0 (by omega)⟩
  exact ⟨rfl, rl_i (k + 4) ⟨B1, B2, B3, B3, B5, B6, B7⟩ hT⟩
end
section
/-! entryKind: the reference walks the format up to the entry -/
section
variable {yfl yil yol ytl ycap ymk yen yac yec ypos yco yde ydp ydw ydq ywd ypr yit ym1 ym2 ym3 ym4 ym5 yws yps ylg ycv ycm ycs ycx ycu ysq ysv ycw ycp ycn : Int32} {bf bi bo btm brv : Nat → Int32} {ba brs : Nat → Int64}
variable {L T E : Nat} {ak als ale afl awd apr aws aps avs ali : Nat → Int32} {pe se : Nat → Nat}
theorem tb_pl {f : Nat → Int32} (h : tb_tab f L T ak als ale afl awd apr aws aps avs ali E pe se) {e : Nat} (he : e < E) (hk : ak e = 0) : cp_pl ak e = 0 := by
  apply cp_pl0
  intro h0 h1
  have := h.2.2.2 (e - 1) (by omega) h1
  rw [show e - 1 + 1 = e by omega] at this
  exact this hk
theorem ym_ek {post : Int32 → SY → Prop} {i : Nat} (hL : L ≤ 64) (hE : E ≤ 64) (hf : ∀ j, ar_ch (bf j)) (hT : tb_tab bf L T ak als ale afl awd apr aws aps avs ali E pe se) (hi : i < E) (hpost : ∀ (yde ydp ydw ydq ywd ypr yit ym1 ym2 ym3 ym4 ym5 yws yps ylg ycv : Int32), post (ak i) (nI L, yil, yol, ytl, ycap, ymk, yen, yac, yec, ypos, yco, yde, ydp, ydw, ydq, ywd, ypr, yit, ym1, ym2, ym3, ym4, ym5, yws, yps, ylg, ycv, ycm, ycs, ycx, ycu, ysq, ysv, ycw, ycp, ycn, bf, bi, bo, btm, brv, ba, brs)) :
    ∀ r e g, e + r = i → g ≤ pe e → ∀ (yde ydp ydw ydq ywd ypr yit ym1 ym2 ym3 ym4 ym5 yws yps ylg ycv : Int32), ∃ n, wY_entryKind_31 post (nI i) n (nI e - 1) (nI (pe e)) (cp_pl ak e) (nI g) (nI L) yil yol ytl ycap ymk yen yac yec ypos yco yde ydp ydw ydq ywd ypr yit ym1 ym2 ym3 ym4 ym5 yws yps ylg ycv ycm ycs ycx ycu ysq ysv ycw ycp ycn bf bi bo btm brv ba brs := by
  intro r
  induction r with
  | zero =>
    intro e g he hg yde ydp ydw ydq ywd ypr yit ym1 ym2 ym3 ym4 ym5 yws yps ylg ycv
    have e0 : e = i := by omega
    subst e0
    have em : nI e - 1 + 1 = nI e := Int32.sub_add_cancel _ _
    rcases hT.2.2.1 e hi with ⟨⟨k0, _, _, s', n, q, _, _, _, n0, r0, r1, rj⟩, _⟩ | ⟨hpc, hr, hq, hrow⟩
    · have h0 := rj 0 n0
      rw [r0] at h0
      have hlt := h0.1
      have hq := it_q h0
      have hp := hpost yde ydp ydw ydq ywd ypr (ali (s' + 0)) ym1 ym2 ym3 ym4 ym5 yws yps ylg ycv
      rw [k0] at hp
      exact ⟨1, br_f (nI_ge (b := 64) (by omega) (by decide)) (br_f (nI_ge hlt (by omega)) (ym_itl hL h0 (br_t (nI_lt hq.1 (by omega)) (br_f (Int32.not_lt.mpr (ar_pos (it_c hf h0))) (br_t (tb_pl hT hi k0) (nm_r em (br_t rfl hp)))))))⟩
    · have hlt := hpc.1
      have hb := dr_b bf hlt
      have hk : dr_k bf L (pe e) < L := (pc_ok (dr_ok hr).2.2.2).1
      refine ⟨1, br_f (nI_ge (b := 64) (by omega) (by decide)) (br_f (nI_ge hlt (by omega)) (ym_itd hL hpc hf (fun z => absurd hr z) (fun _ => br_t (nI_lt (by omega) (by omega)) (br_t (by decide) (nm_r em (br_t rfl ?_))))))⟩
      have k1 := hrow.1
      rw [k1] at hpost
      rcases tb_gz bf L (pe e) with g0 | g0
      · rw [g0] at hpost ⊢
        exact br_t rfl (hpost _ _ _ _ _ _ _ _ _ _ _ _ _ _ _ _)
      · rw [g0] at hpost ⊢
        exact br_f (by decide) (hpost _ _ _ _ _ _ _ _ _ _ _ _ _ _ _ _)
  | succ r ih =>
    intro e g he hg yde ydp ydw ydq ywd ypr yit ym1 ym2 ym3 ym4 ym5 yws yps ylg ycv
    have em : nI e - 1 + 1 = nI e := Int32.sub_add_cancel _ _
    have em' : nI (e + 1) - 1 = nI e := nI_pred e
    have ne : ¬ nI e = nI i := fun z => by
      have := (nI_eq (by omega) (by omega)).mp z
      omega
    rcases hT.2.2.1 e (by omega) with ⟨⟨k0, _, _, s', n, q, _, _, _, n0, r0, r1, rj⟩, _⟩ | ⟨hpc, hr, hq, hrow⟩
    · have pl1 : cp_pl ak (e + 1) = 1 := cp_pl1 (by omega) (by rw [Nat.add_sub_cancel]; exact k0)
      have inner : ∀ t j g, j + t = n → 1 ≤ j → g ≤ q j → ∀ (yde ydp ydw ydq ywd ypr yit ym1 ym2 ym3 ym4 ym5 yws yps ylg ycv : Int32), ∃ m, wY_entryKind_31 post (nI i) m (nI e) (nI (q j)) 1 (nI g) (nI L) yil yol ytl ycap ymk yen yac yec ypos yco yde ydp ydw ydq ywd ypr yit ym1 ym2 ym3 ym4 ym5 yws yps ylg ycv ycm ycs ycx ycu ysq ysv ycw ycp ycn bf bi bo btm brv ba brs := by
        intro t
        induction t with
        | zero =>
          intro j g hj hj1 hg yde ydp ydw ydq ywd ypr yit ym1 ym2 ym3 ym4 ym5 yws yps ylg ycv
          have := ih (e + 1) g (by omega) (by rw [show j = n by omega, r1] at hg; exact hg) yde ydp ydw ydq ywd ypr yit ym1 ym2 ym3 ym4 ym5 yws yps ylg ycv
          rw [pl1, em', ← r1, show n = j by omega] at this
          exact this
        | succ t iht =>
          intro j g hj hj1 hg yde ydp ydw ydq ywd ypr yit ym1 ym2 ym3 ym4 ym5 yws yps ylg ycv
          have h0 := rj j (by omega)
          have hlt := h0.1
          have hq := it_q h0
          obtain ⟨m, hm⟩ := iht (j + 1) (g + 1) (by omega) (by omega) (by omega) yde ydp ydw ydq ywd ypr (ali (s' + j)) ym1 ym2 ym3 ym4 ym5 yws yps ylg ycv
          exact ⟨m + 1, br_f (nI_ge (b := 64) (by omega) (by decide)) (br_f (nI_ge hlt (by omega)) (ym_itl hL h0 (br_t (nI_lt hq.1 (by omega)) (br_f (Int32.not_lt.mpr (ar_pos (it_c hf h0))) (br_f (by decide) (br_f ne (nm_r (nI_1 g) hm)))))))⟩
      have h0 := rj 0 n0
      have hlt := h0.1
      have hq := it_q h0
      obtain ⟨m, hm⟩ := inner (n - 1) 1 (g + 1) (by omega) (by omega) (by have h1 : q 0 < q 1 := hq.1; rw [r0] at h1; omega) yde ydp ydw ydq ywd ypr (ali (s' + 0)) ym1 ym2 ym3 ym4 ym5 yws yps ylg ycv
      rw [r0] at h0 hlt hq
      exact ⟨m + 1, br_f (nI_ge (b := 64) (by omega) (by decide)) (br_f (nI_ge hlt (by omega)) (ym_itl hL h0 (br_t (nI_lt hq.1 (by omega)) (br_f (Int32.not_lt.mpr (ar_pos (it_c hf h0))) (br_t (tb_pl hT (by omega) k0) (nm_r em (br_f ne (nm_r (nI_1 g) hm))))))))⟩
    · have hlt := hpc.1
      have hb := dr_b bf hlt
      have hk : dr_k bf L (pe e) < L := (pc_ok (dr_ok hr).2.2.2).1
      have kz : ¬ ak e = 0 := by rw [hrow.1]; exact tb_kz (pc_ok (dr_ok hr).2.2.2)
      have pl0 : cp_pl ak (e + 1) = 0 := cp_pl0 (fun _ => by rw [Nat.add_sub_cancel]; exact kz)
      obtain ⟨m, hm⟩ := ih (e + 1) (g + 1) (by omega) (by omega) (nI (dr_k bf L (pe e) + 1)) (dr_v bf L (pe e)) (yu_p (dr_wu bf L (pe e))) (yu_p (dr_pu bf L (pe e))) (yu_w (dr_w bf L (pe e))) (dr_p bf L (pe e)) (-1) (nI (dr_m bf L (pe e) % 2)) (nI (dr_m bf L (pe e) / 2 % 2)) (nI (dr_m bf L (pe e) / 4 % 2)) (nI (dr_m bf L (pe e) / 8 % 2)) (nI (dr_m bf L (pe e) / 16 % 2)) (yu_s (dr_wu bf L (pe e))) (yu_s (dr_pu bf L (pe e))) (nI (dr_g bf L (pe e))) (dr_c bf L (pe e))
      rw [pl0, em', hq] at hm
      exact ⟨m + 1, br_f (nI_ge (b := 64) (by omega) (by decide)) (br_f (nI_ge hlt (by omega)) (ym_itd hL hpc hf (fun z => absurd hr z) (fun _ => br_t (nI_lt (by omega) (by omega)) (br_t (by decide) (nm_r em (br_f ne (nm_r (nI_1 g) hm)))))))⟩
end
theorem i_vc_entryKind {k : Nat} {u : SX} {v : SY} (I : i_Rel k u v) (hk : k + 4 ≤ 2049) (v1 : Int32) : wpX_entryKind (fun r => wpY_entryKind (fun r' v' => r' = r ∧ i_Rel (k + 4) u v') v v1) u v1 := by
  refine rl_e (P := fun u v => wpX_entryKind (fun r => wpY_entryKind (fun r' v' => r' = r ∧ i_Rel (k + 4) u v') v v1) u v1) I ?_
  intro C L O N co xrm xsp xec xat xlt xcu xwu xpu xvu xdc xsu xpo xdl xtl xbu xsv af ao ai ak als ale afl awd apr aws aps avs ali adr atx adg aa ar ytl yac yec ypos yde ydp ydw ydq ywd ypr yit ym1 ym2 ym3 ym4 ym5 yws yps ylg ycv ycm ycs ycx ycu ysq ysv ycw ycp ycn brv hB hT
  have hB' := hB
  have hT' := hT
  obtain ⟨B1, B2, B3, B4, B5, B6, B7⟩ := hB
  rcases hT with z | ⟨z, e, E, T, pe, se, e1, e2, hE, hTT, hp, hT⟩
  · subst z; exact br_t rfl (br_t rfl ⟨rfl, rl_i (k + 4) hB' hT'⟩)
  · subst z; subst e1; subst e2
    rcases pk_ix v1 (n := E) (by omega) with h | h | ⟨j, hj, rfl⟩
    · exact br_f (by decide) (br_t h (br_f (by decide) (br_t h ⟨rfl, rl_i (k + 4) hB' hT'⟩)))
    · have h0 : ¬ v1 < 0 := Int32.not_lt.mpr (Int32.le_trans (nI_pos' (n := E) (by omega)) h)
      exact br_f (by decide) (br_f h0 (br_f (Int32.not_lt.mpr h) (br_f (by decide) (br_f h0 (br_f (Int32.not_lt.mpr h) ⟨rfl, rl_i (k + 4) hB' hT'⟩)))))
    · have hl := nI_lt hj (b := E) (by omega)
      have ej : (nI j).toNatClampNeg = j := nI_clamp (by omega)
      refine br_f (by decide) (br_f (nI_pos (by omega)) (br_t hl ⟨vp_in_nI (by omega) (by omega), ?_⟩))
      refine br_f (by decide) (br_f (nI_pos (by omega)) (br_t hl ?_))
      rw [ej]
      have := ym_ek (ytl := ytl) (ypos := ypos) (ycm := ycm) (ycs := ycs) (ycx := ycx) (ycu := ycu) (ysq := ysq) (ysv := ysv) (ycw := ycw) (ycp := ycp) (ycn := ycn) (brv := brv) (post := fun r' v' => r' = ak j ∧ i_Rel (k + 4) (nI C, nI L, nI O, nI N, xrm, xsp, 1, nI E, xat, xlt, xcu, xwu, xpu, xvu, xdc, xsu, xpo, xdl, xtl, xbu, xsv, af, aa, ao, ai, ar, ak, als, ale, afl, awd, apr, aws, aps, avs, ali, adr, atx, adg) v') B2 hE B5 hT hj (fun _ _ _ _ _ _ _ _ _ _ _ _ _ _ _ _ => ⟨rfl, rl_i (k + 4) hB' hT'⟩) j 0 0 (by omega) (by omega) yde ydp ydw ydq ywd ypr yit ym1 ym2 ym3 ym4 ym5 yws yps ylg ycv
      rw [hT.1, cp_pl0 (E := 0) (fun z => absurd z (by omega)), show nI 0 - 1 = -1 by decide] at this
      exact this
end
section
/-! the stars: both sides look them up -/
abbrev sg_w (aa : Nat → Int64) (x : Int32) : Prop := ¬ x = -1 → -99 ≤ (aa x.toNatClampNeg).toInt32 ∧ (aa x.toNatClampNeg).toInt32 ≤ 99
abbrev sg_p (aa : Nat → Int64) (x : Int32) : Prop := ¬ x = -1 → (aa x.toNatClampNeg).toInt32 ≤ 99
abbrev sl_ok (x : Int32) : Prop := x = -1 ∨ ∃ j : Nat, j < 8 ∧ x = nI j
section
variable {cap xfl xol xil xrm xsp xco xec xat xlt xcu xwu xpu xvu xdc xsu xpo xdl xtl xbu : Int32} {xsv : Int64} {af ao ai ak als ale afl awd apr aws aps avs ali adr atx adg : Nat → Int32} {aa ar : Nat → Int64}
theorem xm_aa {post : Int64 → Prop} {c : Int32} (c' : Int32) (e : c = c') (hs : ∃ j : Nat, j < 8 ∧ c' = nI j) (h : post (aa c'.toNatClampNeg)) : wpX_argAt post (cap, xfl, xol, xil, xrm, xsp, xco, xec, xat, xlt, xcu, xwu, xpu, xvu, xdc, xsu, xpo, xdl, xtl, xbu, xsv, af, aa, ao, ai, ar, ak, als, ale, afl, awd, apr, aws, aps, avs, ali, adr, atx, adg) c := by
  subst e
  obtain ⟨j, hj, rfl⟩ := hs
  exact br_f (nI_pos (by omega)) (br_f (nI_ge (b := 8) hj (by decide)) ⟨vp_in_nI hj (by decide), h⟩)
theorem sl_j {x : Int32} (h : sl_ok x) (hn : ¬ x = -1) : ∃ j : Nat, j < 8 ∧ x = nI j := by
  rcases h with h | h
  · exact absurd h hn
  · exact h
theorem xm_sg {post : Int32 → Prop} {E : Nat} (hE : E ≤ 64) (hs : ∀ e, e < E → sl_ok (aws e) ∧ sl_ok (aps e)) (h1 : (∀ e, e < E → sg_w aa (aws e) ∧ sg_p aa (aps e)) → post 1)
    (h0 : ∀ e0, e0 < E → ¬ (sg_w aa (aws e0) ∧ sg_p aa (aps e0)) → (∀ e, e < e0 → sg_w aa (aws e) ∧ sg_p aa (aps e)) → post 0) : wpX_starsAreGood post (cap, xfl, xol, xil, xrm, xsp, xco, nI E, xat, xlt, xcu, xwu, xpu, xvu, xdc, xsu, xpo, xdl, xtl, xbu, xsv, af, aa, ao, ai, ar, ak, als, ale, afl, awd, apr, aws, aps, avs, ali, adr, atx, adg) := by
  have lo : ∀ r e, e + r = E → (∀ e', e' < e → sg_w aa (aws e') ∧ sg_p aa (aps e')) → wX_starsAreGood_2 post cap xfl xol xil xrm xsp xco (nI E) xat xlt xcu xwu xpu xvu xdc xsu xpo xdl xtl xbu xsv af aa ao ai ar ak als ale afl awd apr aws aps avs ali adr atx adg (r + 1) (nI e) := by
    intro r
    induction r with
    | zero =>
      intro e he hg
      have e0 : e = E := by omega
      subst e0
      exact br_t (nI_le (by omega) (by omega)) (h1 hg)
    | succ r ih =>
      intro e he hg
      have ee : (nI e).toNatClampNeg = e := nI_clamp (by omega)
      have ve : vp_in (nI e) 64 := vp_in_nI (by omega) (by omega)
      obtain ⟨s1, s2⟩ := hs e (by omega)
      have bad : ¬ (sg_w aa (aws e) ∧ sg_p aa (aps e)) → post 0 := fun z => h0 e (by omega) z hg
      have go : sg_w aa (aws e) → sg_p aa (aps e) → wX_starsAreGood_2 post cap xfl xol xil xrm xsp xco (nI E) xat xlt xcu xwu xpu xvu xdc xsu xpo xdl xtl xbu xsv af aa ao ai ar ak als ale afl awd apr aws aps avs ali adr atx adg (r + 1) (nI (e + 1)) := fun a b => ih (e + 1) (by omega) (lt_s hg ⟨a, b⟩)
      have k46 : sg_w aa (aws e) → wX_starsAreGood_46 post (wX_starsAreGood_2 post cap xfl xol xil xrm xsp xco (nI E) xat xlt xcu xwu xpu xvu xdc xsu xpo xdl xtl xbu xsv af aa ao ai ar ak als ale afl awd apr aws aps avs ali adr atx adg (r + 1)) (nI e) cap xfl xol xil xrm xsp xco (nI E) xat xlt xcu xwu xpu xvu xdc xsu xpo xdl xtl xbu xsv af aa ao ai ar ak als ale afl awd apr aws aps avs ali adr atx adg := by
        intro w
        refine ⟨ve, wk_if (d := aps e = -1) (by rw [ee]) (fun z => nm_r (nI_1 e) (go w (fun q => absurd z q))) (fun z => ⟨ve, xm_aa (aps e) (by rw [ee]) (sl_j s2 z) ?_⟩)⟩
        exact ⟨fun q => nm_r (nI_1 e) (go w (fun _ => q)), fun q => bad (fun y => q (y.2 z))⟩
      refine br_f (nI_ge (by omega) (by omega)) ⟨ve, wk_if (d := aws e = -1) (by rw [ee]) (fun z => k46 (fun q => absurd z q)) (fun z => ⟨ve, xm_aa (aws e) (by rw [ee]) (sl_j s1 z) ?_⟩)⟩
      refine ⟨fun q => bad (fun y => absurd (y.1 z).1 (Int32.not_le.mpr q)), fun q => ⟨fun q2 => k46 (fun _ => ⟨Int32.not_lt.mp q, q2⟩), fun q2 => bad (fun y => q2 (y.1 z).2)⟩⟩
  exact ⟨E + 1, lo E 0 (by omega) (fun e he => absurd he (by omega))⟩
end
theorem so_7 : ∀ s, s < 8 → nI s &&& 7 = nI s := by decide +kernel
theorem yb_n : ∀ k, k < 2 → narrow .boolean (.int (nI k)) = .int (nI k) ∧ fits .boolean (.int (nI k)) = true := by
  intro k hk
  have h : k = 0 ∨ k = 1 := by omega
  rcases h with rfl | rfl
  · exact ⟨rfl, by decide⟩
  · exact ⟨rfl, by decide⟩
section
variable {yfl yil yol ytl ycap ymk yen yac yec ypos yco yde ydp ydw ydq ywd ypr yit ym1 ym2 ym3 ym4 ym5 yws yps ylg ycv ycm ycs ycx ycu ysq ysv ycw ycp ycn : Int32} {bf bi bo btm brv : Nat → Int32} {ba brs : Nat → Int64}
theorem ym_so {post : Int32 → SY → Prop} {s : Nat} {u : Int32} (hu : ∃ k : Nat, k ≤ 8 ∧ u = nI k) (hs : sl_n u s ≤ 8) (h : post (sl_s u s) (yfl, yil, yol, ytl, ycap, ymk, yen, yac, yec, ypos, yco, yde, ydp, ydw, ydq, ywd, ypr, yit, ym1, ym2, ym3, ym4, ym5, yws, yps, ylg, ycv, ycm, ycs, ycx, ycu, nI (sl_n u s), ysv, ycw, ycp, ycn, bf, bi, bo, btm, brv, ba, brs)) : wpY_slotOf post (yfl, yil, yol, ytl, ycap, ymk, yen, yac, yec, ypos, yco, yde, ydp, ydw, ydq, ywd, ypr, yit, ym1, ym2, ym3, ym4, ym5, yws, yps, ylg, ycv, ycm, ycs, ycx, ycu, nI s, ysv, ycw, ycp, ycn, bf, bi, bo, btm, brv, ba, brs) u := by
  obtain ⟨k, hk, rfl⟩ := hu
  cases k with
  | zero =>
    have e1 : sl_n (nI 0) s = s + 1 := sl_n0 s
    have e2 : sl_s (nI 0) s = nI s := sl_s0 s
    rw [e1] at hs
    rw [e1, e2] at h
    refine br_t (by decide) (nm_r (nI_1 s) ?_)
    rw [so_7 s (by omega)]
    exact h
  | succ k =>
    rw [sl_sk k (by omega) s, sl_nk (by omega) s] at h
    refine br_f (nI_nle (by omega) (by omega)) ?_
    rw [nI_pred, so_7 k (by omega)]
    exact h
theorem ym_s151 {post : Int32 → SY → Prop} {L p s : Nat} {x1 : Int32} (hr : dr_r bf L p = 0) (hs : sl_n (dr_v bf L p) s ≤ 8) (h : post x1 (yfl, yil, yol, ytl, ycap, ymk, yen, yac, yec, ypos, yco, nI (dr_k bf L p + 1), dr_v bf L p, yu_p (dr_wu bf L p), yu_p (dr_pu bf L p), yu_w (dr_w bf L p), dr_p bf L p, yit, nI (dr_m bf L p % 2), nI (dr_m bf L p / 2 % 2), nI (dr_m bf L p / 4 % 2), nI (dr_m bf L p / 8 % 2), nI (dr_m bf L p / 16 % 2), yu_s (dr_wu bf L p), yu_s (dr_pu bf L p), nI (dr_g bf L p), dr_c bf L p, ycm, ycs, ycx, ycu, nI (sl_n (dr_v bf L p) s), sl_s (dr_v bf L p) s, ycw, ycp, ycn, bf, bi, bo, btm, brv, ba, brs)) : wY_stars_151 post x1 yfl yil yol ytl ycap ymk yen yac yec ypos yco (nI (dr_k bf L p + 1)) (dr_v bf L p) (yu_p (dr_wu bf L p)) (yu_p (dr_pu bf L p)) (yu_w (dr_w bf L p)) (dr_p bf L p) yit (nI (dr_m bf L p % 2)) (nI (dr_m bf L p / 2 % 2)) (nI (dr_m bf L p / 4 % 2)) (nI (dr_m bf L p / 8 % 2)) (nI (dr_m bf L p / 16 % 2)) (yu_s (dr_wu bf L p)) (yu_s (dr_pu bf L p)) (nI (dr_g bf L p)) (dr_c bf L p) ycm ycs ycx ycu (nI s) ysv ycw ycp ycn bf bi bo btm brv ba brs := by
  unfold wY_stars_151
  exact ym_so (dr_us hr).2.2 hs h
theorem ym_s100 {post : Int32 → SY → Prop} {L p s : Nat} {x1 : Int32} (hr : dr_r bf L p = 0) (hs : sl_n (dr_v bf L p) (sl_n (dr_pu bf L p) (sl_n (dr_wu bf L p) s)) ≤ 8)
    (hbad : ¬ ev_gp bf L ba p s → ∀ (ysq ysv ycw ycp ycn : Int32), post (-5) (yfl, yil, yol, ytl, ycap, ymk, yen, yac, yec, ypos, yco, nI (dr_k bf L p + 1), dr_v bf L p, yu_p (dr_wu bf L p), yu_p (dr_pu bf L p), yu_w (dr_w bf L p), dr_p bf L p, yit, nI (dr_m bf L p % 2), nI (dr_m bf L p / 2 % 2), nI (dr_m bf L p / 4 % 2), nI (dr_m bf L p / 8 % 2), nI (dr_m bf L p / 16 % 2), yu_s (dr_wu bf L p), yu_s (dr_pu bf L p), nI (dr_g bf L p), dr_c bf L p, ycm, ycs, ycx, ycu, ysq, ysv, ycw, ycp, ycn, bf, bi, bo, btm, brv, ba, brs))
    (h : ev_gp bf L ba p s → post x1 (yfl, yil, yol, ytl, ycap, ymk, yen, yac, yec, ypos, yco, nI (dr_k bf L p + 1), dr_v bf L p, yu_p (dr_wu bf L p), yu_p (dr_pu bf L p), yu_w (dr_w bf L p), dr_p bf L p, yit, nI (dr_m bf L p % 2), nI (dr_m bf L p / 2 % 2), nI (dr_m bf L p / 4 % 2), nI (dr_m bf L p / 8 % 2), nI (dr_m bf L p / 16 % 2), yu_s (dr_wu bf L p), yu_s (dr_pu bf L p), nI (dr_g bf L p), dr_c bf L p, ycm, ycs, ycx, ycu, nI (sl_n (dr_v bf L p) (sl_n (dr_pu bf L p) (sl_n (dr_wu bf L p) s))), ev_V bf L p s, ycw, ev_P bf L ba p s, ycn, bf, bi, bo, btm, brv, ba, brs)) : wY_stars_100 post x1 yfl yil yol ytl ycap ymk yen yac yec ypos yco (nI (dr_k bf L p + 1)) (dr_v bf L p) (yu_p (dr_wu bf L p)) (yu_p (dr_pu bf L p)) (yu_w (dr_w bf L p)) (dr_p bf L p) yit (nI (dr_m bf L p % 2)) (nI (dr_m bf L p / 2 % 2)) (nI (dr_m bf L p / 4 % 2)) (nI (dr_m bf L p / 8 % 2)) (nI (dr_m bf L p / 16 % 2)) (yu_s (dr_wu bf L p)) (yu_s (dr_pu bf L p)) (nI (dr_g bf L p)) (dr_c bf L p) ycm ycs ycx ycu (nI (sl_n (dr_wu bf L p) s)) ysv ycw (dr_p bf L p) ycn bf bi bo btm brv ba brs := by
  obtain ⟨u1, u2, u3⟩ := dr_us hr
  rcases u2 with z | hu
  · have e1 : ev_P bf L ba p s = dr_p bf L p := if_pos z
    have g : ev_gp bf L ba p s := fun q => absurd z q
    have h' := h g
    unfold ev_V at h'
    rw [e1] at h'
    have e2 : sl_n (dr_pu bf L p) (sl_n (dr_wu bf L p) s) = sl_n (dr_wu bf L p) s := by rw [z]; rfl
    rw [e2] at hs h'
    exact br_t (yu_s1 z) (ym_s151 hr hs h')
  · have hn := us_nn hu
    have hs2 : sl_n (dr_pu bf L p) (sl_n (dr_wu bf L p) s) ≤ 8 := by have := sl_nb (dr_v bf L p) (sl_n (dr_pu bf L p) (sl_n (dr_wu bf L p) s)); omega
    obtain ⟨j, hj, ej⟩ := sl_in hu hs2
    refine br_f (by rw [yu_s2 hn]; decide) ?_
    have key : wpY_slotOf (fun r_50 u => match u with | (yfl, yil, yol, ytl, ycap, ymk, yen, yac, yec, ypos, yco, yde, ydp, ydw, ydq, ywd, ypr, yit, ym1, ym2, ym3, ym4, ym5, yws, yps, ylg, ycv, ycm, ycs, ycx, ycu, ysq, ysv, ycw, ycp, ycn, bf, bi, bo, btm, brv, ba, brs) => (vp_in r_50 8 ∧ (∀ x2_95 : Int32, x2_95 = (ba r_50.toNatClampNeg).toInt32 → ((x2_95 ≤ 99 → ((0 ≤ x2_95 → wY_stars_151 post x1 yfl yil yol ytl ycap ymk yen yac yec ypos yco yde ydp ydw ydq ywd ypr yit ym1 ym2 ym3 ym4 ym5 yws yps ylg ycv ycm ycs ycx ycu ysq ysv ycw x2_95 ycn bf bi bo btm brv ba brs) ∧ (¬ 0 ≤ x2_95 → wY_stars_151 post x1 yfl yil yol ytl ycap ymk yen yac yec ypos yco yde ydp ydw ydq ywd ypr yit ym1 ym2 ym3 ym4 ym5 yws yps ylg ycv ycm ycs ycx ycu ysq ysv ycw (-1) ycn bf bi bo btm brv ba brs))) ∧ (¬ x2_95 ≤ 99 → wY_stars_151 post (-5) yfl yil yol ytl ycap ymk yen yac yec ypos yco yde ydp ydw ydq ywd ypr yit ym1 ym2 ym3 ym4 ym5 yws yps ylg ycv ycm ycs ycx ycu ysq ysv ycw ycp ycn bf bi bo btm brv ba brs))))) (yfl, yil, yol, ytl, ycap, ymk, yen, yac, yec, ypos, yco, nI (dr_k bf L p + 1), dr_v bf L p, yu_p (dr_wu bf L p), yu_p (dr_pu bf L p), yu_w (dr_w bf L p), dr_p bf L p, yit, nI (dr_m bf L p % 2), nI (dr_m bf L p / 2 % 2), nI (dr_m bf L p / 4 % 2), nI (dr_m bf L p / 8 % 2), nI (dr_m bf L p / 16 % 2), yu_s (dr_wu bf L p), yu_s (dr_pu bf L p), nI (dr_g bf L p), dr_c bf L p, ycm, ycs, ycx, ycu, nI (sl_n (dr_wu bf L p) s), ysv, ycw, dr_p bf L p, ycn, bf, bi, bo, btm, brv, ba, brs) (dr_pu bf L p) := by
      refine ym_so hu hs2 ⟨by rw [ej]; exact vp_in_nI hj (by decide), nm_r (e' := ev_pv bf L ba p s) rfl ?_⟩
      by_cases q : ev_pv bf L ba p s ≤ 99
      · have h' := h (fun _ => q)
        have e1 : ev_P bf L ba p s = if ev_pv bf L ba p s < 0 then -1 else ev_pv bf L ba p s := if_neg hn
        unfold ev_V at h'
        rw [e1] at h'
        refine br_t q ?_
        by_cases n : ev_pv bf L ba p s < 0
        · rw [if_pos n] at h'
          exact br_f (Int32.not_le.mpr n) (ym_s151 hr hs h')
        · rw [if_neg n] at h'
          exact br_t (Int32.not_lt.mp n) (ym_s151 hr hs h')
      · exact br_f q (ym_s151 hr hs (hbad (fun y => q (y hn)) _ _ _ _ _))
    have e5 : yu_p (dr_pu bf L p) = dr_pu bf L p := yu_p2 hn
    unfold wY_stars_100 at *
    rw [e5] at key ⊢
    exact key
end
end
section
/-! the stars: the reference's check of the whole format -/
def yb_b (b : Bool) : Int32 := if b = true then 1 else 0
section
variable {yfl yil yol ytl ycap ymk yen yac yec ypos yco yde ydp ydw ydq ywd ypr yit ym1 ym2 ym3 ym4 ym5 yws yps ylg ycv ycm ycs ycx ycu ysq ysv ycw ycp ycn : Int32} {bf bi bo btm brv : Nat → Int32} {ba brs : Nat → Int64}
theorem ym_so2 {post : Int32 → SY → Prop} {s : Nat} {u u' : Int32} (eu : u' = u) (hu : ∃ k : Nat, k ≤ 8 ∧ u = nI k) (hs : sl_n u s ≤ 8) (h : post (sl_s u s) (yfl, yil, yol, ytl, ycap, ymk, yen, yac, yec, ypos, yco, yde, ydp, ydw, ydq, ywd, ypr, yit, ym1, ym2, ym3, ym4, ym5, yws, yps, ylg, ycv, ycm, ycs, ycx, ycu, nI (sl_n u s), ysv, ycw, ycp, ycn, bf, bi, bo, btm, brv, ba, brs)) : wpY_slotOf post (yfl, yil, yol, ytl, ycap, ymk, yen, yac, yec, ypos, yco, yde, ydp, ydw, ydq, ywd, ypr, yit, ym1, ym2, ym3, ym4, ym5, yws, yps, ylg, ycv, ycm, ycs, ycx, ycu, nI s, ysv, ycw, ycp, ycn, bf, bi, bo, btm, brv, ba, brs) u' := by
  subst eu
  exact ym_so hu hs h
theorem dr_mb (f : Nat → Int32) (L p : Nat) : dr_m f L p < 32 := fl_Mb _ _ _ _ (by decide)
theorem ym_s16 {post : Int32 → SY → Prop} {L p s : Nat} (hr : dr_r bf L p = 0) (hs : sl_n (dr_v bf L p) (sl_n (dr_pu bf L p) (sl_n (dr_wu bf L p) s)) ≤ 8)
    (hbad : ¬ (ev_gw bf L ba p s ∧ ev_gp bf L ba p s) → ∀ (ysq ysv ycw ycp ycn : Int32), post (-5) (yfl, yil, yol, ytl, ycap, ymk, yen, yac, yec, ypos, yco, nI (dr_k bf L p + 1), dr_v bf L p, yu_p (dr_wu bf L p), yu_p (dr_pu bf L p), yu_w (dr_w bf L p), dr_p bf L p, yit, nI (dr_m bf L p % 2), nI (dr_m bf L p / 2 % 2), nI (dr_m bf L p / 4 % 2), nI (dr_m bf L p / 8 % 2), nI (dr_m bf L p / 16 % 2), yu_s (dr_wu bf L p), yu_s (dr_pu bf L p), nI (dr_g bf L p), dr_c bf L p, ycm, ycs, ycx, ycu, ysq, ysv, ycw, ycp, ycn, bf, bi, bo, btm, brv, ba, brs))
    (h : ev_gw bf L ba p s → ev_gp bf L ba p s → post 0 (yfl, yil, yol, ytl, ycap, ymk, yen, yac, yec, ypos, yco, nI (dr_k bf L p + 1), dr_v bf L p, yu_p (dr_wu bf L p), yu_p (dr_pu bf L p), yu_w (dr_w bf L p), dr_p bf L p, yit, nI (dr_m bf L p % 2), nI (dr_m bf L p / 2 % 2), nI (dr_m bf L p / 4 % 2), nI (dr_m bf L p / 8 % 2), nI (dr_m bf L p / 16 % 2), yu_s (dr_wu bf L p), yu_s (dr_pu bf L p), nI (dr_g bf L p), dr_c bf L p, ycm, ycs, ycx, ycu, nI (sl_n (dr_v bf L p) (sl_n (dr_pu bf L p) (sl_n (dr_wu bf L p) s))), ev_V bf L p s, nI (ev_W bf L ba p s), ev_P bf L ba p s, yb_b (ev_L bf L ba p s), bf, bi, bo, btm, brv, ba, brs)) : wY_stars_16 post (nI (dr_w bf L p)) yfl yil yol ytl ycap ymk yen yac yec ypos yco (nI (dr_k bf L p + 1)) (dr_v bf L p) (yu_p (dr_wu bf L p)) (yu_p (dr_pu bf L p)) (yu_w (dr_w bf L p)) (dr_p bf L p) yit (nI (dr_m bf L p % 2)) (nI (dr_m bf L p / 2 % 2)) (nI (dr_m bf L p / 4 % 2)) (nI (dr_m bf L p / 8 % 2)) (nI (dr_m bf L p / 16 % 2)) (yu_s (dr_wu bf L p)) (yu_s (dr_pu bf L p)) (nI (dr_g bf L p)) (dr_c bf L p) ycm ycs ycx ycu (nI s) ysv ycw ycp ycn bf bi bo btm brv ba brs := by
  obtain ⟨u1, u2, u3⟩ := dr_us hr
  have hm2 : dr_m bf L p % 2 < 2 := Nat.mod_lt _ (by decide)
  obtain ⟨n1, n2⟩ := yb_n _ hm2
  refine ⟨n1, n2, ?_⟩
  rcases u1 with z | hu
  · have gw : ev_gw bf L ba p s := fun q => absurd z q
    have e1 : ev_W bf L ba p s = dr_w bf L p := if_pos z
    have e2 : yb_b (ev_L bf L ba p s) = nI (dr_m bf L p % 2) := by
      unfold yb_b ev_L
      by_cases q : dr_m bf L p % 2 = 1
      · rw [if_pos (decide_eq_true (Or.inl q)), q]; rfl
      · have q0 : dr_m bf L p % 2 = 0 := by omega
        rw [if_neg (fun y => ?_), q0]; rfl
        rcases of_decide_eq_true y with y | y
        · exact q y
        · exact y.1 z
    have e3 : sl_n (dr_wu bf L p) s = s := by rw [z]; rfl
    rw [e1, e2] at h
    have k := ym_s100 (post := post) (x1 := 0) (ycw := nI (dr_w bf L p)) (ycn := nI (dr_m bf L p % 2)) (ysv := ysv) hr hs (fun q => hbad (fun y => q y.2)) (h gw)
    rw [e3] at k
    exact br_t (yu_s1 z) k
  · have hn := us_nn hu
    have hs1 : sl_n (dr_wu bf L p) s ≤ 8 := by
      have a1 := sl_nb (dr_v bf L p) (sl_n (dr_pu bf L p) (sl_n (dr_wu bf L p) s))
      have a2 := sl_nb (dr_pu bf L p) (sl_n (dr_wu bf L p) s)
      omega
    obtain ⟨j, hj, ej⟩ := sl_in hu hs1
    refine br_f (by rw [yu_s2 hn]; decide) (ym_so2 (yu_p2 hn) hu hs1 ⟨by rw [ej]; exact vp_in_nI hj (by decide), nm_r (e' := ev_wv bf L ba p s) rfl ?_⟩)
    have eW : ev_W bf L ba p s = (if ev_wv bf L ba p s < 0 then - ev_wv bf L ba p s else ev_wv bf L ba p s).toNatClampNeg := if_neg hn
    have bad : ¬ ev_gw bf L ba p s → ∀ (ysv ycw ycn : Int32), wY_stars_100 post (-5) yfl yil yol ytl ycap ymk yen yac yec ypos yco (nI (dr_k bf L p + 1)) (dr_v bf L p) (yu_p (dr_wu bf L p)) (yu_p (dr_pu bf L p)) (yu_w (dr_w bf L p)) (dr_p bf L p) yit (nI (dr_m bf L p % 2)) (nI (dr_m bf L p / 2 % 2)) (nI (dr_m bf L p / 4 % 2)) (nI (dr_m bf L p / 8 % 2)) (nI (dr_m bf L p / 16 % 2)) (yu_s (dr_wu bf L p)) (yu_s (dr_pu bf L p)) (nI (dr_g bf L p)) (dr_c bf L p) ycm ycs ycx ycu (nI (sl_n (dr_wu bf L p) s)) ysv ycw (dr_p bf L p) ycn bf bi bo btm brv ba brs := by
      intro q ysv ycw ycn
      exact ym_s100 hr hs (fun _ => hbad (fun y => q y.1)) (fun _ => hbad (fun y => q y.1) _ _ _ _ _)
    by_cases a : ev_wv bf L ba p s < -99
    · exact br_t a (bad (fun y => absurd (y hn).1 (Int32.not_le.mpr a)) _ _ _)
    refine br_f a ?_
    by_cases b : ev_wv bf L ba p s ≤ 99
    · refine br_t b ?_
      have gw : ev_gw bf L ba p s := fun _ => ⟨Int32.not_lt.mp a, b⟩
      rcases ev_rng (Int32.not_lt.mp a) b with ⟨c, k, k1, k2, ek⟩ | ⟨c, k, k2, ek⟩
      · rw [if_pos c, ek, nI_clamp (by omega)] at eW
        have eL : ev_L bf L ba p s = true := decide_eq_true (Or.inr ⟨hn, c⟩)
        have eb : yb_b true = 1 := rfl
        rw [eW, eL, eb] at h
        exact br_f (Int32.not_le.mpr c) (nm_r ek (ym_s100 hr hs (fun q => hbad (fun y => q y.2)) (h gw)))
      · rw [if_neg c, ek, nI_clamp (by omega), ] at eW
        have e2 : yb_b (ev_L bf L ba p s) = nI (dr_m bf L p % 2) := by
          unfold yb_b ev_L
          by_cases q : dr_m bf L p % 2 = 1
          · rw [if_pos (decide_eq_true (Or.inl q)), q]; rfl
          · have q0 : dr_m bf L p % 2 = 0 := by omega
            rw [if_neg (fun y => ?_), q0]; rfl
            rcases of_decide_eq_true y with y | y
            · exact q y
            · exact c y.2
        rw [eW, e2] at h
        refine br_t (Int32.not_lt.mp c) ?_
        rw [ek]
        exact ym_s100 hr hs (fun q => hbad (fun y => q y.2)) (h gw)
    · exact br_f b (bad (fun y => b (y hn).2) _ _ _)
theorem ym_st {post : Int32 → SY → Prop} {L p s : Nat} (hr : dr_r bf L p = 0) (hs : sl_n (dr_v bf L p) (sl_n (dr_pu bf L p) (sl_n (dr_wu bf L p) s)) ≤ 8)
    (hbad : ¬ (ev_gw bf L ba p s ∧ ev_gp bf L ba p s) → ∀ (ysq ysv ycw ycp ycn : Int32), post (-5) (yfl, yil, yol, ytl, ycap, ymk, yen, yac, yec, ypos, yco, nI (dr_k bf L p + 1), dr_v bf L p, yu_p (dr_wu bf L p), yu_p (dr_pu bf L p), yu_w (dr_w bf L p), dr_p bf L p, yit, nI (dr_m bf L p % 2), nI (dr_m bf L p / 2 % 2), nI (dr_m bf L p / 4 % 2), nI (dr_m bf L p / 8 % 2), nI (dr_m bf L p / 16 % 2), yu_s (dr_wu bf L p), yu_s (dr_pu bf L p), nI (dr_g bf L p), dr_c bf L p, ycm, ycs, ycx, ycu, ysq, ysv, ycw, ycp, ycn, bf, bi, bo, btm, brv, ba, brs))
    (h : ev_gw bf L ba p s → ev_gp bf L ba p s → post 0 (yfl, yil, yol, ytl, ycap, ymk, yen, yac, yec, ypos, yco, nI (dr_k bf L p + 1), dr_v bf L p, yu_p (dr_wu bf L p), yu_p (dr_pu bf L p), yu_w (dr_w bf L p), dr_p bf L p, yit, nI (dr_m bf L p % 2), nI (dr_m bf L p / 2 % 2), nI (dr_m bf L p / 4 % 2), nI (dr_m bf L p / 8 % 2), nI (dr_m bf L p / 16 % 2), yu_s (dr_wu bf L p), yu_s (dr_pu bf L p), nI (dr_g bf L p), dr_c bf L p, ycm, ycs, ycx, ycu, nI (sl_n (dr_v bf L p) (sl_n (dr_pu bf L p) (sl_n (dr_wu bf L p) s))), ev_V bf L p s, nI (ev_W bf L ba p s), ev_P bf L ba p s, yb_b (ev_L bf L ba p s), bf, bi, bo, btm, brv, ba, brs)) : wpY_stars post (yfl, yil, yol, ytl, ycap, ymk, yen, yac, yec, ypos, yco, nI (dr_k bf L p + 1), dr_v bf L p, yu_p (dr_wu bf L p), yu_p (dr_pu bf L p), yu_w (dr_w bf L p), dr_p bf L p, yit, nI (dr_m bf L p % 2), nI (dr_m bf L p / 2 % 2), nI (dr_m bf L p / 4 % 2), nI (dr_m bf L p / 8 % 2), nI (dr_m bf L p / 16 % 2), yu_s (dr_wu bf L p), yu_s (dr_pu bf L p), nI (dr_g bf L p), dr_c bf L p, ycm, ycs, ycx, ycu, nI s, ysv, ycw, ycp, ycn, bf, bi, bo, btm, brv, ba, brs) := by
  have k := ym_s16 (ysv := ysv) (ycw := ycw) (ycp := ycp) (ycn := ycn) hr hs hbad h
  have hw : dr_w bf L p ≤ 99 := by
    rcases pw_ok (dr_ok hr).2.1 with ⟨_, e, _⟩ | ⟨_, _, _, e⟩
    · have e' : dr_w bf L p = 0 := e
      omega
    · exact e
  by_cases z : dr_w bf L p = 0
  · have e1 : yu_w (dr_w bf L p) = -1 := if_pos z
    refine br_f (by rw [e1]; decide) ?_
    rw [z] at k ⊢
    exact k
  · have e1 : yu_w (dr_w bf L p) = nI (dr_w bf L p) := if_neg z
    refine br_t (by rw [e1]; exact nI_pos' (by omega)) ?_
    rw [e1] at k ⊢
    exact k
end
theorem sl_m1 {u : Int32} {s : Nat} (hu : u = -1 ∨ ∃ k : Nat, k ≤ 8 ∧ u = nI k) (hs : sl_n u s ≤ 8) : sl_s u s = -1 ↔ u = -1 := by
  rcases hu with rfl | hu
  · exact ⟨fun _ => rfl, fun _ => rfl⟩
  · obtain ⟨j, hj, e⟩ := sl_in hu hs
    rw [e]
    exact ⟨fun z => absurd z (us_n1 (by omega)), fun z => absurd z (us_nn hu)⟩
theorem sl_okk {u : Int32} {s : Nat} (hu : u = -1 ∨ ∃ k : Nat, k ≤ 8 ∧ u = nI k) (hs : sl_n u s ≤ 8) : sl_ok (sl_s u s) := by
  rcases hu with rfl | hu
  · exact Or.inl rfl
  · exact Or.inr (sl_in hu hs)
section
variable {f : Nat → Int32} {L T E : Nat} {ak als ale afl awd apr aws aps avs ali : Nat → Int32} {pe se : Nat → Nat}
theorem tb_slots {e p q s t : Nat} (h : tb_ent f L T ak als ale afl awd apr aws aps avs ali e p q s t) : sl_ok (aws e) ∧ sl_ok (aps e) := by
  rcases h with ⟨⟨_, a, b, _⟩, _⟩ | ⟨hpc, hr, hq, r1, r2, r3, r4, r5, r6, r7, r8, r9⟩
  · exact ⟨Or.inl a, Or.inl b⟩
  · obtain ⟨u1, u2, u3⟩ := dr_us hr
    have a1 := sl_nb (dr_v f L p) (sl_n (dr_pu f L p) (sl_n (dr_wu f L p) s))
    have a2 := sl_nb (dr_pu f L p) (sl_n (dr_wu f L p) s)
    rw [r5, r6]
    exact ⟨sl_okk u1 (by omega), sl_okk u2 (by omega)⟩
theorem tb_good {aa : Nat → Int64} {e p q s t : Nat} (h : tb_dir f L ak afl awd apr aws aps avs e p q s t) : (sg_w aa (aws e) ↔ ev_gw f L aa p s) ∧ (sg_p aa (aps e) ↔ ev_gp f L aa p s) := by
  obtain ⟨hpc, hr, hq, r1, r2, r3, r4, r5, r6, r7, r8, r9⟩ := h
  obtain ⟨u1, u2, u3⟩ := dr_us hr
  have a1 := sl_nb (dr_v f L p) (sl_n (dr_pu f L p) (sl_n (dr_wu f L p) s))
  have a2 := sl_nb (dr_pu f L p) (sl_n (dr_wu f L p) s)
  have m1 := sl_m1 u1 (s := s) (by omega)
  have m2 := sl_m1 u2 (s := sl_n (dr_wu f L p) s) (by omega)
  unfold sg_w sg_p ev_gw ev_gp ev_wv ev_pv ev_a
  rw [r5, r6, m1, m2]
  exact ⟨Iff.rfl, Iff.rfl⟩
end
section
variable {yfl yil yol ytl ycap ymk yen yac yec ypos yco yde ydp ydw ydq ywd ypr yit ym1 ym2 ym3 ym4 ym5 yws yps ylg ycv ycm ycs ycx ycu ysq ysv ycw ycp ycn : Int32} {bf bi bo btm brv : Nat → Int32} {ba brs : Nat → Int64}
variable {L T E : Nat} {ak als ale afl awd apr aws aps avs ali : Nat → Int32} {pe se : Nat → Nat}
theorem ym_cs {post : Int32 → SY → Prop} (hL : L ≤ 64) (hE : E ≤ 64) (hf : ∀ j, ar_ch (bf j)) (hT : tb_tab bf L T ak als ale afl awd apr aws aps avs ali E pe se) (hp : pe E = L)
    (h1 : (∀ e, e < E → sg_w ba (aws e) ∧ sg_p ba (aps e)) → ∀ (yde ydp ydw ydq ywd ypr yit ym1 ym2 ym3 ym4 ym5 yws yps ylg ycv : Int32) (ysq ysv ycw ycp ycn : Int32), post 0 (nI L, yil, yol, ytl, ycap, ymk, yen, yac, yec, ypos, yco, yde, ydp, ydw, ydq, ywd, ypr, yit, ym1, ym2, ym3, ym4, ym5, yws, yps, ylg, ycv, ycm, ycs, ycx, ycu, ysq, ysv, ycw, ycp, ycn, bf, bi, bo, btm, brv, ba, brs))
    (h0 : ∀ e0, e0 < E → ¬ (sg_w ba (aws e0) ∧ sg_p ba (aps e0)) → (∀ e, e < e0 → sg_w ba (aws e) ∧ sg_p ba (aps e)) → ∀ (yde ydp ydw ydq ywd ypr yit ym1 ym2 ym3 ym4 ym5 yws yps ylg ycv : Int32) (ysq ysv ycw ycp ycn : Int32), post (-5) (nI L, yil, yol, ytl, ycap, ymk, yen, yac, yec, ypos, yco, yde, ydp, ydw, ydq, ywd, ypr, yit, ym1, ym2, ym3, ym4, ym5, yws, yps, ylg, ycv, ycm, ycs, ycx, ycu, ysq, ysv, ycw, ycp, ycn, bf, bi, bo, btm, brv, ba, brs)) :
    ∀ r e g, e + r = E → g ≤ pe e → (∀ e', e' < e → sg_w ba (aws e') ∧ sg_p ba (aps e')) → ∀ (yde ydp ydw ydq ywd ypr yit ym1 ym2 ym3 ym4 ym5 yws yps ylg ycv : Int32) (ysv ycw ycp ycn : Int32), ∃ n, wY_checkStars_9 post n (nI (pe e)) (nI g) (nI L) yil yol ytl ycap ymk yen yac yec ypos yco yde ydp ydw ydq ywd ypr yit ym1 ym2 ym3 ym4 ym5 yws yps ylg ycv ycm ycs ycx ycu (nI (se e)) ysv ycw ycp ycn bf bi bo btm brv ba brs := by
  intro r
  induction r with
  | zero =>
    intro e g he hg hgood yde ydp ydw ydq ywd ypr yit ym1 ym2 ym3 ym4 ym5 yws yps ylg ycv ysv ycw ycp ycn
    have e0 : e = E := by omega
    subst e0
    have fin : post 0 (nI L, yil, yol, ytl, ycap, ymk, yen, yac, yec, ypos, yco, yde, ydp, ydw, ydq, ywd, ypr, yit, ym1, ym2, ym3, ym4, ym5, yws, yps, ylg, ycv, ycm, ycs, ycx, ycu, nI (se e), ysv, ycw, ycp, ycn, bf, bi, bo, btm, brv, ba, brs) := h1 hgood yde ydp ydw ydq ywd ypr yit ym1 ym2 ym3 ym4 ym5 yws yps ylg ycv _ ysv ycw ycp ycn
    refine ⟨1, ?_⟩
    rw [hp] at hg ⊢
    exact pk_le 64 g (fun _ => fin) (fun _ => br_t (nI_le (Nat.le_refl _) (by omega)) fin)
  | succ r ih =>
    intro e g he hg hgood yde ydp ydw ydq ywd ypr yit ym1 ym2 ym3 ym4 ym5 yws yps ylg ycv ysv ycw ycp ycn
    rcases hT.2.2.1 e (by omega) with ⟨⟨k0, w0, p0, s', n, q, _, _, _, n0, r0, r1, rj⟩, es⟩ | hd
    · have good : sg_w ba (aws e) ∧ sg_p ba (aps e) := ⟨fun z => absurd w0 z, fun z => absurd p0 z⟩
      have inner : ∀ t j g, j + t = n → g ≤ q j → ∀ (yde ydp ydw ydq ywd ypr yit ym1 ym2 ym3 ym4 ym5 yws yps ylg ycv : Int32), ∃ m, wY_checkStars_9 post m (nI (q j)) (nI g) (nI L) yil yol ytl ycap ymk yen yac yec ypos yco yde ydp ydw ydq ywd ypr yit ym1 ym2 ym3 ym4 ym5 yws yps ylg ycv ycm ycs ycx ycu (nI (se e)) ysv ycw ycp ycn bf bi bo btm brv ba brs := by
        intro t
        induction t with
        | zero =>
          intro j g hj hg yde ydp ydw ydq ywd ypr yit ym1 ym2 ym3 ym4 ym5 yws yps ylg ycv
          have := ih (e + 1) g (by omega) (by rw [show j = n by omega, r1] at hg; exact hg) (lt_s hgood good) yde ydp ydw ydq ywd ypr yit ym1 ym2 ym3 ym4 ym5 yws yps ylg ycv ysv ycw ycp ycn
          rw [← r1, es, show n = j by omega] at this
          exact this
        | succ t iht =>
          intro j g hj hg yde ydp ydw ydq ywd ypr yit ym1 ym2 ym3 ym4 ym5 yws yps ylg ycv
          have hi := rj j (by omega)
          have hlt := hi.1
          have hq := it_q hi
          obtain ⟨m, hm⟩ := iht (j + 1) (g + 1) (by omega) (by omega) yde ydp ydw ydq ywd ypr (ali (s' + j)) ym1 ym2 ym3 ym4 ym5 yws yps ylg ycv
          exact ⟨m + 1, br_f (nI_ge (b := 64) (by omega) (by decide)) (br_f (nI_ge hlt (by omega)) (ym_itl hL hi (br_t (nI_lt hq.1 (by omega)) (br_t (ar_pos (it_c hf hi)) (nm_r (nI_1 g) hm)))))⟩
      have := inner n 0 g (by omega) (by rw [r0]; exact hg) yde ydp ydw ydq ywd ypr yit ym1 ym2 ym3 ym4 ym5 yws yps ylg ycv
      rw [r0] at this
      exact this
    · obtain ⟨g1, g2⟩ := tb_good (aa := ba) hd
      obtain ⟨hpc, hr, hq, hrow⟩ := hd
      have hlt := hpc.1
      have hb := dr_b bf hlt
      have hk : dr_k bf L (pe e) < L := (pc_ok (dr_ok hr).2.2.2).1
      have et := hrow.2.2.2.2.2.2.2.1
      have e8 := hrow.2.2.2.2.2.2.2.2
      rw [et] at e8
      by_cases good : sg_w ba (aws e) ∧ sg_p ba (aps e)
      · obtain ⟨m, hm⟩ := ih (e + 1) (g + 1) (by omega) (by omega) (lt_s hgood good) (nI (dr_k bf L (pe e) + 1)) (dr_v bf L (pe e)) (yu_p (dr_wu bf L (pe e))) (yu_p (dr_pu bf L (pe e))) (yu_w (dr_w bf L (pe e))) (dr_p bf L (pe e)) (-1) (nI (dr_m bf L (pe e) % 2)) (nI (dr_m bf L (pe e) / 2 % 2)) (nI (dr_m bf L (pe e) / 4 % 2)) (nI (dr_m bf L (pe e) / 8 % 2)) (nI (dr_m bf L (pe e) / 16 % 2)) (yu_s (dr_wu bf L (pe e))) (yu_s (dr_pu bf L (pe e))) (nI (dr_g bf L (pe e))) (dr_c bf L (pe e)) (ev_V bf L (pe e) (se e)) (nI (ev_W bf L ba (pe e) (se e))) (ev_P bf L ba (pe e) (se e)) (yb_b (ev_L bf L ba (pe e) (se e)))
        rw [hq, et] at hm
        exact ⟨m + 1, br_f (nI_ge (b := 64) (by omega) (by decide)) (br_f (nI_ge hlt (by omega)) (ym_itd hL hpc hf (fun z => absurd hr z) (fun _ => br_t (nI_lt (by omega) (by omega)) (br_f (by decide) (ym_st hr e8 (fun z => absurd ⟨g1.mp good.1, g2.mp good.2⟩ z) (fun _ _ => br_t rfl (nm_r (nI_1 g) hm)))))))⟩
      · refine ⟨1, br_f (nI_ge (b := 64) (by omega) (by decide)) (br_f (nI_ge hlt (by omega)) (ym_itd hL hpc hf (fun z => absurd hr z) (fun _ => br_t (nI_lt (by omega) (by omega)) (br_f (by decide) (ym_st hr e8 (fun _ => ?_) (fun a b => absurd ⟨g1.mpr a, g2.mpr b⟩ good))))))⟩
        intro ysq ysv ycw ycp ycn
        exact br_f (by decide) (h0 e (by omega) good hgood _ _ _ _ _ _ _ _ _ _ _ _ _ _ _ _ _ _ _ _ _)
end
end
section
/-! the class: what render calls -/
theorem ef_xt {M n : Nat} {D : Nat → Int32} {c : Int32} (h : n < M) : ef_x M D n c = upd D n c := if_pos h
theorem ef_xf {M n : Nat} {D : Nat → Int32} {c : Int32} (h : ¬ n < M) : ef_x M D n c = D := if_neg h
section
variable {cap xfl xol xil xrm xsp xco xec xat xlt xcu xwu xpu xvu xdc xsu xpo xdl xtl xbu : Int32} {xsv : Int64} {af ao ai ak als ale afl awd apr aws aps avs ali adr atx adg : Nat → Int32} {aa ar : Nat → Int64}
theorem xm_dc {post : SX → Prop} {n : Nat} {c : Int32} (c' : Int32) (ec : c = c') (hn : n < 2 ^ 30) (hc : ar_ch c') (h : post (cap, xfl, xol, xil, xrm, xsp, xco, xec, xat, xlt, xcu, xwu, xpu, xvu, xdc, xsu, xpo, nI (n + 1), xtl, xbu, xsv, af, aa, ao, ai, ar, ak, als, ale, afl, awd, apr, aws, aps, avs, ali, ef_x 256 adr n c', atx, adg)) : wpX_draftChar post (cap, xfl, xol, xil, xrm, xsp, xco, xec, xat, xlt, xcu, xwu, xpu, xvu, xdc, xsu, xpo, nI n, xtl, xbu, xsv, af, aa, ao, ai, ar, ak, als, ale, afl, awd, apr, aws, aps, avs, ali, adr, atx, adg) c := by
  subst ec
  refine pk_le 256 n (fun a => nm_r (nI_1 n) ?_) (fun a => ⟨vp_in_nI a (by decide), nm_r (e' := upd adr n c) (by rw [nI_clamp (by omega), ar_nar hc]) (nm_r (nI_1 n) ?_)⟩)
  · rw [ef_xf (by omega)] at h; exact h
  · rw [ef_xt a] at h; exact h
theorem xm_wc {post : SX → Prop} {t : Nat} {c : Int32} (ht : t < 128) (hc : ar_ch c) (h : post (cap, xfl, xol, xil, xrm, xsp, xco, xec, xat, xlt, xcu, xwu, xpu, xvu, xdc, xsu, xpo, xdl, nI (t + 1), xbu, xsv, af, aa, ao, ai, ar, ak, als, ale, afl, awd, apr, aws, aps, avs, ali, adr, ef_x 128 atx t c, adg)) : wpX_writeChar post (cap, xfl, xol, xil, xrm, xsp, xco, xec, xat, xlt, xcu, xwu, xpu, xvu, xdc, xsu, xpo, xdl, nI t, xbu, xsv, af, aa, ao, ai, ar, ak, als, ale, afl, awd, apr, aws, aps, avs, ali, adr, atx, adg) c := by
  rw [ef_xt ht] at h
  exact br_f (nI_ge (b := 128) ht (by decide)) ⟨vp_in_nI ht (by decide), nm_r (e' := upd atx t c) (by rw [nI_clamp (by omega), ar_nar hc]) (nm_r (nI_1 t) h)⟩
theorem xm_wz {post : SX → Prop} {t z : Nat} (ht : t + z ≤ 128) (h : post (cap, xfl, xol, xil, xrm, xsp, xco, xec, xat, xlt, xcu, xwu, xpu, xvu, xdc, xsu, xpo, xdl, nI (t + z), xbu, xsv, af, aa, ao, ai, ar, ak, als, ale, afl, awd, apr, aws, aps, avs, ali, adr, ef_f 128 (fun _ => 48) atx t z, adg)) : wpX_writeZeros post (cap, xfl, xol, xil, xrm, xsp, xco, xec, xat, xlt, xcu, xwu, xpu, xvu, xdc, xsu, xpo, xdl, nI t, xbu, xsv, af, aa, ao, ai, ar, ak, als, ale, afl, awd, apr, aws, aps, avs, ali, adr, atx, adg) (nI z) := by
  have lo : ∀ r i, i + r = z → wX_writeZeros_2 post (nI z) (r + 1) (nI i) cap xfl xol xil xrm xsp xco xec xat xlt xcu xwu xpu xvu xdc xsu xpo xdl (nI (t + i)) xbu xsv af aa ao ai ar ak als ale afl awd apr aws aps avs ali adr (ef_f 128 (fun _ => 48) atx t i) adg := by
    intro r
    induction r with
    | zero =>
      intro i hi
      have e : i = z := by omega
      subst e
      exact br_t (nI_le (by omega) (by omega)) h
    | succ r ih =>
      intro i hi
      exact br_f (nI_ge (by omega) (by omega)) (xm_wc (by omega) ⟨48, by decide, rfl⟩ (nm_r (nI_1 i) (ih (i + 1) (by omega))))
  exact ⟨z + 1, lo z 0 (by omega)⟩
theorem xm_ds {post : SX → Prop} {n k : Nat} {x : Int32} (hn : n + k < 2 ^ 30) (hx : x = nI k ∨ (x < 0 ∧ k = 0)) (h : post (cap, xfl, xol, xil, xrm, xsp, xco, xec, xat, xlt, xcu, xwu, xpu, xvu, xdc, xsu, xpo, nI (n + k), xtl, xbu, xsv, af, aa, ao, ai, ar, ak, als, ale, afl, awd, apr, aws, aps, avs, ali, ef_f 256 (fun _ => 32) adr n k, atx, adg)) : wpX_draftSpaces post (cap, xfl, xol, xil, xrm, xsp, xco, xec, xat, xlt, xcu, xwu, xpu, xvu, xdc, xsu, xpo, nI n, xtl, xbu, xsv, af, aa, ao, ai, ar, ak, als, ale, afl, awd, apr, aws, aps, avs, ali, adr, atx, adg) x := by
  rcases hx with rfl | ⟨hx, rfl⟩
  · have lo : ∀ r i, i + r = k → wX_draftSpaces_2 post (nI k) (r + 1) (nI i) cap xfl xol xil xrm xsp xco xec xat xlt xcu xwu xpu xvu xdc xsu xpo (nI (n + i)) xtl xbu xsv af aa ao ai ar ak als ale afl awd apr aws aps avs ali (ef_f 256 (fun _ => 32) adr n i) atx adg := by
      intro r
      induction r with
      | zero =>
        intro i hi
        have e : i = k := by omega
        subst e
        exact br_t (nI_le (by omega) (by omega)) h
      | succ r ih =>
        intro i hi
        exact br_f (nI_ge (by omega) (by omega)) (xm_dc 32 rfl (by omega) ⟨32, by decide, rfl⟩ (nm_r (nI_1 i) (ih (i + 1) (by omega))))
    exact ⟨k + 1, lo k 0 (by omega)⟩
  · exact ⟨1, br_t (Int32.le_of_lt hx) h⟩
theorem sb_k {W t : Nat} (hW : W < 2 ^ 30) (ht : t < 2 ^ 30) : nI W - nI t = nI (W - t) ∨ (nI W - nI t < 0 ∧ W - t = 0) := by
  by_cases h : t ≤ W
  · exact Or.inl (pk_sub h)
  · exact Or.inr ⟨pk_sneg ht (by omega), by omega⟩
/-- the text goes out, and the blanks behind it if they stand there -/
theorem xm_88 {post : SX → Prop} {n tl k : Nat} {x3 : Int32} {lf : Bool} (hn : n + tl + k < 2 ^ 30) (ht : tl ≤ 128) (hc : ∀ j, j < tl → ar_ch (atx j)) (hx : x3 = nI k ∨ (x3 < 0 ∧ k = 0))
    (h : post (cap, xfl, xol, xil, xrm, xsp, xco, xec, xat, xlt, xcu, xwu, xpu, xvu, xdc, xsu, xpo, (if lf = true then nI (n + tl + k) else nI (n + tl)), nI tl, xbu, xsv, af, aa, ao, ai, ar, ak, als, ale, afl, awd, apr, aws, aps, avs, ali, (if lf = true then ef_f 256 (fun _ => 32) (ef_f 256 atx adr n tl) (n + tl) k else ef_f 256 atx adr n tl), atx, adg)) : ∃ m, wX_draftConversion_88 post x3 (yb_b lf) m 0 cap xfl xol xil xrm xsp xco xec xat xlt xcu xwu xpu xvu xdc xsu xpo (nI n) (nI tl) xbu xsv af aa ao ai ar ak als ale afl awd apr aws aps avs ali adr atx adg := by
  have lo : ∀ r i, i + r = tl → wX_draftConversion_88 post x3 (yb_b lf) (r + 1) (nI i) cap xfl xol xil xrm xsp xco xec xat xlt xcu xwu xpu xvu xdc xsu xpo (nI (n + i)) (nI tl) xbu xsv af aa ao ai ar ak als ale afl awd apr aws aps avs ali (ef_f 256 atx adr n i) atx adg := by
    intro r
    induction r with
    | zero =>
      intro i hi
      have e : i = tl := by omega
      subst e
      refine br_t (nI_le (by omega) (by omega)) ?_
      cases lf with
      | false => exact br_t rfl h
      | true => exact br_f (by decide) (xm_ds (by omega) hx h)
    | succ r ih =>
      intro i hi
      exact br_f (nI_ge (by omega) (by omega)) ⟨vp_in_nI (by omega) (by omega), xm_dc (atx i) (by rw [nI_clamp (by omega)]) (by omega) (hc i (by omega)) (nm_r (nI_1 i) (ih (i + 1) (by omega)))⟩
  exact ⟨tl + 1, lo tl 0 (by omega)⟩
end
section
variable {cap xfl xol xil xrm xsp xco xec xat xlt xcu xwu xpu xvu xdc xsu xpo xdl xtl xbu : Int32} {xsv : Int64} {af ao ai ak als ale afl awd apr aws aps avs ali adr atx adg : Nat → Int32} {aa ar : Nat → Int64}
variable {L e p q s t : Nat}
theorem cv_255 {c : Int32} (hc : c = 99 ∨ c = 115 ∨ c = 100 ∨ c = 117 ∨ c = 120 ∨ c = 88 ∨ c = 111) {g : Nat} (hg : g = 0 ∨ g = 1) : (c + nI (256 * g)) &&& 255 = c ∧ (((c + nI (256 * g)) &&& 256) = 0 ↔ g = 0) ∧ ar_ch c := by
  rcases hc with rfl | rfl | rfl | rfl | rfl | rfl | rfl <;> rcases hg with rfl | rfl <;> exact ⟨by decide, by decide, ⟨_, by decide, rfl⟩⟩
theorem tb_cc (hd : tb_dir af L ak afl awd apr aws aps avs e p q s t) : dr_c af L p = 99 ∨ dr_c af L p = 115 ∨ dr_c af L p = 100 ∨ dr_c af L p = 117 ∨ dr_c af L p = 120 ∨ dr_c af L p = 88 ∨ dr_c af L p = 111 := cv_cases (pc_ok (dr_ok hd.2.1).2.2.2).2.1
theorem xm_co {post : Int32 → Prop} (he : e < 64) (hd : tb_dir af L ak afl awd apr aws aps avs e p q s t) (h : post (dr_c af L p)) : wpX_conversionOf post (cap, xfl, xol, xil, xrm, xsp, xco, xec, xat, xlt, xcu, xwu, xpu, xvu, xdc, xsu, xpo, xdl, xtl, xbu, xsv, af, aa, ao, ai, ar, ak, als, ale, afl, awd, apr, aws, aps, avs, ali, adr, atx, adg) (nI e) := by
  refine ⟨vp_in_nI he (by decide), ?_⟩
  rw [nI_clamp (by omega), hd.2.2.2.1, (cv_255 (tb_cc hd) (tb_gz af L p)).1]
  exact h
theorem xm_hf {post : Int32 → Prop} {b : Nat} {fl : Int32} (he : e < 64) (hd : tb_dir af L ak afl awd apr aws aps avs e p q s t) (hb : nI (dr_m af L p) &&& fl = 0 ↔ b = 0) (h0 : b = 0 → post 0) (h1 : ¬ b = 0 → post 1) : wpX_hasFlag post (cap, xfl, xol, xil, xrm, xsp, xco, xec, xat, xlt, xcu, xwu, xpu, xvu, xdc, xsu, xpo, xdl, xtl, xbu, xsv, af, aa, ao, ai, ar, ak, als, ale, afl, awd, apr, aws, aps, avs, ali, adr, atx, adg) (nI e) fl := by
  refine ⟨vp_in_nI he (by decide), wk_if (d := b = 0) ?_ h0 h1⟩
  rw [nI_clamp (by omega), hd.2.2.2.2.1]
  exact propext hb
theorem tb_s8 (hd : tb_dir af L ak afl awd apr aws aps avs e p q s t) : sl_n (dr_v af L p) (sl_n (dr_pu af L p) (sl_n (dr_wu af L p) s)) ≤ 8 ∧ sl_n (dr_pu af L p) (sl_n (dr_wu af L p) s) ≤ 8 ∧ sl_n (dr_wu af L p) s ≤ 8 := by
  obtain ⟨hpc, hr, hq, r1, r2, r3, r4, r5, r6, r7, r8, r9⟩ := hd
  have a1 := sl_nb (dr_v af L p) (sl_n (dr_pu af L p) (sl_n (dr_wu af L p) s))
  have a2 := sl_nb (dr_pu af L p) (sl_n (dr_wu af L p) s)
  omega
theorem xm_va {post : Int64 → Prop} (he : e < 64) (hd : tb_dir af L ak afl awd apr aws aps avs e p q s t) (h : post (aa (ev_V af L p s).toNatClampNeg)) : wpX_argAt post (cap, xfl, xol, xil, xrm, xsp, xco, xec, xat, xlt, xcu, xwu, xpu, xvu, xdc, xsu, xpo, xdl, xtl, xbu, xsv, af, aa, ao, ai, ar, ak, als, ale, afl, awd, apr, aws, aps, avs, ali, adr, atx, adg) (avs (nI e).toNatClampNeg) :=
  xm_aa (ev_V af L p s) (by rw [nI_clamp (by omega)]; exact hd.2.2.2.2.2.2.2.2.2.1) (sl_in (dr_us hd.2.1).2.2 (tb_s8 hd).1) h
theorem xm_wo {post : Int32 → Prop} (he : e < 64) (hd : tb_dir af L ak afl awd apr aws aps avs e p q s t) (gw : ev_gw af L aa p s) (h : post (nI (ev_W af L aa p s))) : wpX_widthOf post (cap, xfl, xol, xil, xrm, xsp, xco, xec, xat, xlt, xcu, xwu, xpu, xvu, xdc, xsu, xpo, xdl, xtl, xbu, xsv, af, aa, ao, ai, ar, ak, als, ale, afl, awd, apr, aws, aps, avs, ali, adr, atx, adg) (nI e) := by
  have ee : (nI e).toNatClampNeg = e := nI_clamp (by omega)
  have ve : vp_in (nI e) 64 := vp_in_nI (by omega) (by omega)
  have hs := tb_s8 hd
  obtain ⟨hpc, hr, hq, r1, r2, r3, r4, r5, r6, r7, r8, r9⟩ := hd
  obtain ⟨u1, u2, u3⟩ := dr_us hr
  have m1 := sl_m1 u1 (s := s) hs.2.2
  refine ⟨ve, wk_if (d := dr_wu af L p = -1) (by rw [ee, r5]; exact propext m1) (fun z => ⟨ve, ?_⟩) (fun z => ⟨ve, xm_aa (sl_s (dr_wu af L p) s) (by rw [ee]; exact r5) (sl_j (sl_okk u1 hs.2.2) (fun y => z (m1.mp y))) ?_⟩)⟩
  · have e1 : ev_W af L aa p s = dr_w af L p := if_pos z
    rw [ee, r3, ← e1]
    exact h
  · have eW : ev_W af L aa p s = (if ev_wv af L aa p s < 0 then - ev_wv af L aa p s else ev_wv af L aa p s).toNatClampNeg := if_neg z
    have hv := gw z
    rw [eW] at h
    rcases ev_rng hv.1 hv.2 with ⟨c, k, k1, k2, ek⟩ | ⟨c, k, k2, ek⟩
    · rw [if_pos c, ek, nI_clamp (by omega), ← ek] at h
      exact br_f (Int32.not_le.mpr c) h
    · rw [if_neg c, ek, nI_clamp (by omega), ← ek] at h
      exact br_t (Int32.not_lt.mp c) h
theorem xm_po {post : Int32 → Prop} (he : e < 64) (hd : tb_dir af L ak afl awd apr aws aps avs e p q s t) (h : post (ev_P af L aa p s)) : wpX_precisionOf post (cap, xfl, xol, xil, xrm, xsp, xco, xec, xat, xlt, xcu, xwu, xpu, xvu, xdc, xsu, xpo, xdl, xtl, xbu, xsv, af, aa, ao, ai, ar, ak, als, ale, afl, awd, apr, aws, aps, avs, ali, adr, atx, adg) (nI e) := by
  have ee : (nI e).toNatClampNeg = e := nI_clamp (by omega)
  have ve : vp_in (nI e) 64 := vp_in_nI (by omega) (by omega)
  have hs := tb_s8 hd
  obtain ⟨hpc, hr, hq, r1, r2, r3, r4, r5, r6, r7, r8, r9⟩ := hd
  obtain ⟨u1, u2, u3⟩ := dr_us hr
  have m1 := sl_m1 u2 (s := sl_n (dr_wu af L p) s) hs.2.1
  refine ⟨ve, wk_if (d := dr_pu af L p = -1) (by rw [ee, r6]; exact propext m1) (fun z => ⟨ve, ?_⟩) (fun z => ⟨ve, xm_aa (sl_s (dr_pu af L p) (sl_n (dr_wu af L p) s)) (by rw [ee]; exact r6) (sl_j (sl_okk u2 hs.2.1) (fun y => z (m1.mp y))) ?_⟩)⟩
  · have e1 : ev_P af L aa p s = dr_p af L p := if_pos z
    rw [ee, r4, ← e1]
    exact h
  · have eP : ev_P af L aa p s = if ev_pv af L aa p s < 0 then -1 else ev_pv af L aa p s := if_neg z
    rw [eP] at h
    by_cases c : ev_pv af L aa p s < 0
    · rw [if_pos c] at h
      exact br_f (Int32.not_le.mpr c) h
    · rw [if_neg c] at h
      exact br_t (Int32.not_lt.mp c) h
theorem xm_il {post : Int32 → Prop} (he : e < 64) (hd : tb_dir af L ak afl awd apr aws aps avs e p q s t) (h : post (yb_b (ev_L af L aa p s))) : wpX_isLeft post (cap, xfl, xol, xil, xrm, xsp, xco, xec, xat, xlt, xcu, xwu, xpu, xvu, xdc, xsu, xpo, xdl, xtl, xbu, xsv, af, aa, ao, ai, ar, ak, als, ale, afl, awd, apr, aws, aps, avs, ali, adr, atx, adg) (nI e) := by
  have ee : (nI e).toNatClampNeg = e := nI_clamp (by omega)
  have ve : vp_in (nI e) 64 := vp_in_nI (by omega) (by omega)
  have hs := tb_s8 hd
  have hm := fl_b _ (dr_mb af L p)
  unfold wpX_isLeft
  refine xm_hf (b := dr_m af L p % 2) he hd hm.1 (fun z => br_t rfl ?_) (fun z => br_f (by decide) ?_)
  · obtain ⟨hpc, hr, hq, r1, r2, r3, r4, r5, r6, r7, r8, r9⟩ := hd
    obtain ⟨u1, u2, u3⟩ := dr_us hr
    have m1 := sl_m1 u1 (s := s) hs.2.2
    refine ⟨ve, wk_if (d := dr_wu af L p = -1) (by rw [ee, r5]; exact propext m1) (fun y => ?_) (fun y => ⟨ve, xm_aa (sl_s (dr_wu af L p) s) (by rw [ee]; exact r5) (sl_j (sl_okk u1 hs.2.2) (fun w => y (m1.mp w))) ?_⟩)⟩
    · have eL : ev_L af L aa p s = false := decide_eq_false (fun w => w.elim (fun a => by omega) (fun a => a.1 y))
      rw [eL] at h
      exact h
    · by_cases c : ev_wv af L aa p s < 0
      · have eL : ev_L af L aa p s = true := decide_eq_true (Or.inr ⟨y, c⟩)
        rw [eL] at h
        exact br_f (Int32.not_le.mpr c) h
      · have eL : ev_L af L aa p s = false := decide_eq_false (fun w => w.elim (fun a => by omega) (fun a => c a.2))
        rw [eL] at h
        exact br_t (Int32.not_lt.mp c) h
  · have eL : ev_L af L aa p s = true := decide_eq_true (Or.inl (by omega))
    rw [eL] at h
    exact h
theorem xm_57 {post : SX → Prop} {n tl : Nat} (he : e < 64) (hd : tb_dir af L ak afl awd apr aws aps avs e p q s t) (gw : ev_gw af L aa p s) (hn : n < 2 ^ 20) (ht : tl ≤ 128) (hW : ev_W af L aa p s ≤ 99) (hc : ∀ j, j < tl → ar_ch (atx j))
    (h : post (cap, xfl, xol, xil, xrm, xsp, xco, xec, xat, xlt, xcu, xwu, xpu, xvu, xdc, xsu, xpo, nI (n + (ev_W af L aa p s - tl) + tl), nI tl, xbu, xsv, af, aa, ao, ai, ar, ak, als, ale, afl, awd, apr, aws, aps, avs, ali, em_o (ev_L af L aa p s) (ev_W af L aa p s) tl atx adr n, atx, adg)) : wX_draftConversion_57 post (nI e) cap xfl xol xil xrm xsp xco xec xat xlt xcu xwu xpu xvu xdc xsu xpo (nI n) (nI tl) xbu xsv af aa ao ai ar ak als ale afl awd apr aws aps avs ali adr atx adg := by
  unfold wX_draftConversion_57
  refine xm_wo he hd gw (nm_e (xm_il he hd ?_))
  have hk := sb_k (W := ev_W af L aa p s) (t := tl) (by omega) (by omega)
  cases hl : ev_L af L aa p s with
  | false =>
    rw [hl] at h
    refine br_t rfl (xm_ds (k := ev_W af L aa p s - tl) (by omega) hk (xm_88 (lf := false) (k := ev_W af L aa p s - tl) (by omega) ht hc hk ?_))
    exact h
  | true =>
    rw [hl] at h
    refine br_f (by decide) (xm_88 (lf := true) (k := ev_W af L aa p s - tl) (by omega) ht hc hk ?_)
    rw [show n + (ev_W af L aa p s - tl) + tl = n + tl + (ev_W af L aa p s - tl) by omega] at h
    exact h
end
end
section
/-! the class: the text of a conversion -/
def bs_b (a : Int64) (x : Int32) : Int64 := ((a.toUInt64 >>> ((8 * x).toInt64.toUInt64 &&& Int64.toUInt64 63)).toInt64) &&& 255
def bs_c (a : Int64) (k : Nat) : Int32 := ((bs_b a (nI k)).toInt32.toUInt32 % 65536).toInt32
def bs_n (a : Int64) : Nat → Nat → Nat
  | 0, k => k
  | n + 1, k => if bs_b a (nI k) = 0 then k else bs_n a n (k + 1)
def bs_M (P : Int32) : Nat := if P = -1 then 8 else if P ≤ 8 then P.toNatClampNeg else 8
theorem bs_nb (a : Int64) : ∀ n k, k ≤ bs_n a n k ∧ bs_n a n k ≤ k + n := by
  intro n
  induction n with
  | zero => intro k; unfold bs_n; omega
  | succ n ih =>
    intro k
    unfold bs_n
    by_cases h : bs_b a (nI k) = 0
    · rw [if_pos h]; omega
    · rw [if_neg h]; have := ih (k + 1); omega
/-- a precision: none, or 0 .. 99 -/
abbrev pv_ok (P : Int32) : Prop := P = -1 ∨ ∃ q : Nat, q ≤ 99 ∧ P = nI q
theorem bs_Mb {P : Int32} (hP : pv_ok P) : bs_M P ≤ 8 := by
  unfold bs_M
  by_cases h : P = -1
  · rw [if_pos h]; omega
  · rw [if_neg h]
    by_cases h8 : P ≤ 8
    · rw [if_pos h8]
      rcases hP with z | ⟨q, hq, rfl⟩
      · exact absurd z h
      · rw [nI_clamp (by omega)]
        exact (nI_leI (b := 8) (by omega) (by decide)).mp h8
    · rw [if_neg h8]; omega
theorem sb_ss (x a b : Int32) : x - a - b = x - (a + b) := by grind
def tx_z (c : Int32) (m : Nat) (P : Int32) (lf : Bool) (W : Nat) (v : Int64) (nd : Nat) : Nat := nt_z2 m lf P W (nt_pl c m v) (nt_z1 c m (nt_z0 P nd) v nd) nd
theorem tx_zb {c : Int32} {m : Nat} {P : Int32} {lf : Bool} {W : Nat} {v : Int64} {nd : Nat} (hP : pv_ok P) (hW : W ≤ 99) (hn : nd ≤ 22) : nt_pl c m v + tx_z c m P lf W v nd + nd ≤ 125 ∧ nt_z1 c m (nt_z0 P nd) v nd ≤ 99 ∧ nt_z0 P nd ≤ 99 := by
  have h2 := nt_pl2 c m v
  have z0 : nt_z0 P nd ≤ 99 ∧ (nt_z0 P nd + nd ≤ 99 ∨ nt_z0 P nd = 0) := by
    unfold nt_z0
    rcases hP with rfl | ⟨q, hq, rfl⟩
    · have e : (-1 : Int32).toNatClampNeg = 0 := by decide
      rw [e]; omega
    · rw [nI_clamp (by omega)]; omega
  have z1 : nt_z1 c m (nt_z0 P nd) v nd = 1 ∨ nt_z1 c m (nt_z0 P nd) v nd = nt_z0 P nd := by
    unfold nt_z1
    by_cases h : c = 111 ∧ m / 16 % 2 = 1 ∧ ¬ (0 < nt_z0 P nd ∨ (v = 0 ∧ 0 < nd))
    · rw [if_pos h]; exact Or.inl rfl
    · rw [if_neg h]; exact Or.inr rfl
  have z2 : tx_z c m P lf W v nd = W - nt_pl c m v - nd ∨ tx_z c m P lf W v nd = nt_z1 c m (nt_z0 P nd) v nd := by
    unfold tx_z nt_z2
    by_cases h : m / 8 % 2 = 1 ∧ ¬ lf = true ∧ P = -1 ∧ nt_pl c m v + nt_z1 c m (nt_z0 P nd) v nd + nd < W
    · rw [if_pos h]; exact Or.inl rfl
    · rw [if_neg h]; exact Or.inr rfl
  omega
section
variable {cap xfl xol xil xrm xsp xco xec xat xlt xcu xwu xpu xvu xdc xsu xpo xdl xtl xbu : Int32} {xsv : Int64} {af ao ai ak als ale afl awd apr aws aps avs ali adr atx adg : Nat → Int32} {aa ar : Nat → Int64}
variable {L e p q s t : Nat}
theorem xm_wt {post : SX → Prop} {a : Int64} {M : Nat} (hM : M ≤ 8) (h : post (cap, xfl, xol, xil, xrm, xsp, xco, xec, xat, xlt, xcu, xwu, xpu, xvu, xdc, xsu, xpo, xdl, nI (bs_n a M 0), xbu, xsv, af, aa, ao, ai, ar, ak, als, ale, afl, awd, apr, aws, aps, avs, ali, adr, ef_f 128 (bs_c a) atx 0 (bs_n a M 0), adg)) : ∃ n, wX_writePackedText_43 post a (nI M) n 0 cap xfl xol xil xrm xsp xco xec xat xlt xcu xwu xpu xvu xdc xsu xpo xdl 0 xbu xsv af aa ao ai ar ak als ale afl awd apr aws aps avs ali adr atx adg := by
  have lo : ∀ r k, k + r = M → post (cap, xfl, xol, xil, xrm, xsp, xco, xec, xat, xlt, xcu, xwu, xpu, xvu, xdc, xsu, xpo, xdl, nI (bs_n a r k), xbu, xsv, af, aa, ao, ai, ar, ak, als, ale, afl, awd, apr, aws, aps, avs, ali, adr, ef_f 128 (bs_c a) atx 0 (bs_n a r k), adg) → wX_writePackedText_43 post a (nI M) (r + 1) (nI k) cap xfl xol xil xrm xsp xco xec xat xlt xcu xwu xpu xvu xdc xsu xpo xdl (nI k) xbu xsv af aa ao ai ar ak als ale afl awd apr aws aps avs ali adr (ef_f 128 (bs_c a) atx 0 k) adg := by
    intro r
    induction r with
    | zero =>
      intro k hk h
      exact br_t (nI_le (by omega) (by omega)) h
    | succ r ih =>
      intro k hk h
      refine br_f (nI_ge (by omega) (by omega)) (nm_r (e' := bs_b a (nI k)) rfl ?_)
      unfold bs_n at h
      by_cases z : bs_b a (nI k) = 0
      · rw [if_pos z] at h
        exact br_t z h
      · rw [if_neg z] at h
        refine br_f z (xm_wc (by omega) (ar_cast _) (nm_r (nI_1 k) ?_))
        have := ih (k + 1) (by omega) h
        have e : ef_f 128 (bs_c a) atx 0 (k + 1) = ef_x 128 (ef_f 128 (bs_c a) atx 0 k) k (bs_c a k) := by
          show ef_x 128 (ef_f 128 (bs_c a) atx 0 k) (0 + k) (bs_c a k) = _
          rw [Nat.zero_add]
        rw [e] at this
        exact this
  exact ⟨M + 1, lo M 0 (by omega) h⟩
theorem xm_wpt {post : SX → Prop} (he : e < 64) (hd : tb_dir af L ak afl awd apr aws aps avs e p q s t) (hP : pv_ok (ev_P af L aa p s))
    (h : post (cap, xfl, xol, xil, xrm, xsp, xco, xec, xat, xlt, xcu, xwu, xpu, xvu, xdc, xsu, xpo, xdl, nI (bs_n (aa (ev_V af L p s).toNatClampNeg) (bs_M (ev_P af L aa p s)) 0), xbu, xsv, af, aa, ao, ai, ar, ak, als, ale, afl, awd, apr, aws, aps, avs, ali, adr, ef_f 128 (bs_c (aa (ev_V af L p s).toNatClampNeg)) atx 0 (bs_n (aa (ev_V af L p s).toNatClampNeg) (bs_M (ev_P af L aa p s)) 0), adg)) : wpX_writePackedText post (cap, xfl, xol, xil, xrm, xsp, xco, xec, xat, xlt, xcu, xwu, xpu, xvu, xdc, xsu, xpo, xdl, 0, xbu, xsv, af, aa, ao, ai, ar, ak, als, ale, afl, awd, apr, aws, aps, avs, ali, adr, atx, adg) (nI e) := by
  have hM := bs_Mb hP
  refine ⟨vp_in_nI he (by decide), xm_va he hd (xm_po he hd ?_)⟩
  by_cases z : ev_P af L aa p s = -1
  · have eM : bs_M (ev_P af L aa p s) = 8 := if_pos z
    rw [eM] at h
    exact br_t z (xm_wt (M := 8) (by decide) h)
  refine br_f z ?_
  by_cases z8 : ev_P af L aa p s ≤ 8
  · have eM : bs_M (ev_P af L aa p s) = (ev_P af L aa p s).toNatClampNeg := by unfold bs_M; rw [if_neg z, if_pos z8]
    rcases hP with y | ⟨k, hk, ek⟩
    · exact absurd y z
    · rw [ek, nI_clamp (by omega)] at eM
      rw [ek] at z8 h ⊢
      rw [eM] at h
      exact br_t z8 (xm_wt ((nI_leI (b := 8) (by omega) (by decide)).mp z8) h)
  · have eM : bs_M (ev_P af L aa p s) = 8 := by unfold bs_M; rw [if_neg z, if_neg z8]
    rw [eM] at h
    exact br_f z8 (xm_wt (M := 8) (by decide) h)
theorem xm_fi {post : Int64 → Prop} {a : Int64} (he : e < 64) (hd : tb_dir af L ak afl awd apr aws aps avs e p q s t) (h : post (nt_v (dr_c af L p) (dr_g af L p) a)) : wpX_fitted post (cap, xfl, xol, xil, xrm, xsp, xco, xec, xat, xlt, xcu, xwu, xpu, xvu, xdc, xsu, xpo, xdl, xtl, xbu, xsv, af, aa, ao, ai, ar, ak, als, ale, afl, awd, apr, aws, aps, avs, ali, adr, atx, adg) (nI e) a := by
  unfold nt_v at h
  refine ⟨vp_in_nI he (by decide), wk_if (d := dr_g af L p = 0) (by rw [nI_clamp (by omega), hd.2.2.2.1]; exact propext (cv_255 (tb_cc hd) (tb_gz af L p)).2.1) (fun z => xm_co he hd ?_) (fun z => ?_)⟩
  · rw [if_neg (by omega)] at h
    by_cases c : dr_c af L p = 100
    · rw [if_pos c] at h; exact br_t c h
    · rw [if_neg c] at h; exact br_f c h
  · have g1 : dr_g af L p = 1 := by rcases tb_gz af L p with y | y <;> omega
    rw [if_pos g1] at h
    exact h
theorem lN_nz {n : Nat} (h0 : 0 < n) (h : n < 2 ^ 63) : ¬ lN n = 0 := by
  intro z
  have := (pk_lEQ (b := 0) h (by decide)).mp z
  omega
theorem lN_z {n : Nat} (h : n < 2 ^ 64) : lN n = 0 ↔ n = 0 := by
  constructor
  · intro z
    have e : (lN n).toBitVec.toNat = (0 : Int64).toBitVec.toNat := by rw [z]
    rw [wb_tn h] at e
    exact e
  · intro z; rw [z]; rfl
theorem xm_s48 {post : Int32 → SX → Prop} {N C h : Nat} (hh : 4 ≤ h ∧ h ≤ 8) (hN : N < 2 ^ 64) (hC : dt_C (2 * h) N C) (hC2 : C ≤ 22) (hp : post (nI C) (cap, xfl, xol, xil, xrm, xsp, xco, xec, xat, xlt, xcu, xwu, xpu, xvu, xdc, xsu, xpo, xdl, xtl, xbu, xsv, af, aa, ao, ai, ar, ak, als, ale, afl, awd, apr, aws, aps, avs, ali, adr, atx, ef_f 32 (fun j => nI (N / (2 * h) ^ j % (2 * h))) adg 0 C)) :
    ∀ r i, i + r + 1 = C → wX_splitIntoDigits_48 post (nI h) cap xfl xol xil xrm xsp xco xec xat xlt xcu xwu xpu xvu xdc xsu xpo xdl xtl xbu xsv (r + 1) (lN (N / (2 * h) ^ i)) (nI i) af aa ao ai ar ak als ale afl awd apr aws aps avs ali adr atx (ef_f 32 (fun j => nI (N / (2 * h) ^ j % (2 * h))) adg 0 i) := by
  intro r
  induction r with
  | zero =>
    intro i hi
    have hR : N / (2 * h) ^ i < 2 ^ 64 := Nat.lt_of_le_of_lt (Nat.div_le_self _ _) hN
    have hl : (nI h).toInt64 = lN h := nI_l (by omega)
    have s1 : ((lN (N / (2 * h) ^ i)).toUInt64 >>> ((1 : Int32).toInt64.toUInt64 &&& Int64.toUInt64 63)).toInt64 = lN (N / (2 * h) ^ i / 2) := wb_shr (k := 1) hR (by decide)
    have q1 : lN (N / (2 * h) ^ i / 2) / lN h = lN (N / (2 * h) ^ (i + 1)) := by
      rw [pk_lDiv (by omega) (by omega) (by omega), dt_half, dt_s]
    have d1 := dt_x (R := N / (2 * h) ^ i) (h := h) (by omega)
    have q2 : (lN (N / (2 * h) ^ i) - (lN (N / (2 * h) ^ (i + 1)) * lN h) * 2).toInt32 = nI (N / (2 * h) ^ i % (2 * h)) := by
      rw [← dt_s, ← dt_half, lN_mul, show (2 : Int64) = lN 2 from rfl, lN_mul, lN_sub d1.2, d1.1, lN_i]
    have vi : vp_in (nI i) 32 := vp_in_nI (by omega) (by omega)
    have z : N / (2 * h) ^ (i + 1) = 0 := by rw [show i + 1 = C by omega]; exact hC.2.1
    have ef : ef_f 32 (fun j => nI (N / (2 * h) ^ j % (2 * h))) adg 0 (i + 1) = upd (ef_f 32 (fun j => nI (N / (2 * h) ^ j % (2 * h))) adg 0 i) i (nI (N / (2 * h) ^ i % (2 * h))) := by
      show ef_x 32 _ (0 + i) _ = _
      rw [Nat.zero_add, ef_xt (by omega)]
    refine ⟨by rw [hl]; exact lN_nz (by omega) (by omega), nm_r (e' := lN (N / (2 * h) ^ (i + 1))) (by rw [hl, s1, q1]) ⟨vi, nm_r (e' := ef_f 32 (fun j => nI (N / (2 * h) ^ j % (2 * h))) adg 0 (i + 1)) (by rw [hl, q2, nI_clamp (by omega), ef]) (nm_r (nI_1 i) (br_t (by rw [z]; rfl) ?_))⟩⟩
    rw [show i + 1 = C by omega]
    exact hp
  | succ r ih =>
    intro i hi
    have hR : N / (2 * h) ^ i < 2 ^ 64 := Nat.lt_of_le_of_lt (Nat.div_le_self _ _) hN
    have hR1 : N / (2 * h) ^ (i + 1) < 2 ^ 64 := Nat.lt_of_le_of_lt (Nat.div_le_self _ _) hN
    have hl : (nI h).toInt64 = lN h := nI_l (by omega)
    have s1 : ((lN (N / (2 * h) ^ i)).toUInt64 >>> ((1 : Int32).toInt64.toUInt64 &&& Int64.toUInt64 63)).toInt64 = lN (N / (2 * h) ^ i / 2) := wb_shr (k := 1) hR (by decide)
    have q1 : lN (N / (2 * h) ^ i / 2) / lN h = lN (N / (2 * h) ^ (i + 1)) := by
      rw [pk_lDiv (by omega) (by omega) (by omega), dt_half, dt_s]
    have d1 := dt_x (R := N / (2 * h) ^ i) (h := h) (by omega)
    have q2 : (lN (N / (2 * h) ^ i) - (lN (N / (2 * h) ^ (i + 1)) * lN h) * 2).toInt32 = nI (N / (2 * h) ^ i % (2 * h)) := by
      rw [← dt_s, ← dt_half, lN_mul, show (2 : Int64) = lN 2 from rfl, lN_mul, lN_sub d1.2, d1.1, lN_i]
    have vi : vp_in (nI i) 32 := vp_in_nI (by omega) (by omega)
    have z : ¬ N / (2 * h) ^ (i + 1) = 0 := hC.2.2 (i + 1) (by omega) (by omega)
    have ef : ef_f 32 (fun j => nI (N / (2 * h) ^ j % (2 * h))) adg 0 (i + 1) = upd (ef_f 32 (fun j => nI (N / (2 * h) ^ j % (2 * h))) adg 0 i) i (nI (N / (2 * h) ^ i % (2 * h))) := by
      show ef_x 32 _ (0 + i) _ = _
      rw [Nat.zero_add, ef_xt (by omega)]
    exact ⟨by rw [hl]; exact lN_nz (by omega) (by omega), nm_r (e' := lN (N / (2 * h) ^ (i + 1))) (by rw [hl, s1, q1]) ⟨vi, nm_r (e' := ef_f 32 (fun j => nI (N / (2 * h) ^ j % (2 * h))) adg 0 (i + 1)) (by rw [hl, q2, nI_clamp (by omega), ef]) (nm_r (nI_1 i) (br_f (fun y => z ((lN_z hR1).mp y)) (br_t (nI_lt (b := 32) (by omega) (by decide)) (ih (i + 1) (by omega)))))⟩⟩
theorem cv_h {c : Int32} (hb : ¬ cv_b c = 0) : ∃ h, cv_b c = 2 * h ∧ 4 ≤ h ∧ h ≤ 8 := by
  rcases cv_b16 c with e | e | e | e
  · exact absurd e hb
  · exact ⟨4, by omega, by omega, by omega⟩
  · exact ⟨5, by omega, by omega, by omega⟩
  · exact ⟨8, by omega, by omega, by omega⟩
theorem xm_sd {post : Int32 → SX → Prop} {v : Int64} {C : Nat} (he : e < 64) (hd : tb_dir af L ak afl awd apr aws aps avs e p q s t) (hb : ¬ cv_b (dr_c af L p) = 0) (hC : dt_C (cv_b (dr_c af L p)) (nt_N (dr_c af L p) v) C) (hC2 : C ≤ 22)
    (hp : ∀ adg : Nat → Int32, (∀ i, i < C → adg i = nI (nt_N (dr_c af L p) v / cv_b (dr_c af L p) ^ i % cv_b (dr_c af L p))) → post (nI C) (cap, xfl, xol, xil, xrm, xsp, xco, xec, xat, xlt, xcu, xwu, xpu, xvu, xdc, xsu, xpo, xdl, xtl, xbu, xsv, af, aa, ao, ai, ar, ak, als, ale, afl, awd, apr, aws, aps, avs, ali, adr, atx, adg)) : wpX_splitIntoDigits post (cap, xfl, xol, xil, xrm, xsp, xco, xec, xat, xlt, xcu, xwu, xpu, xvu, xdc, xsu, xpo, xdl, xtl, xbu, xsv, af, aa, ao, ai, ar, ak, als, ale, afl, awd, apr, aws, aps, avs, ali, adr, atx, adg) (nI e) v := by
  obtain ⟨h, eh, hh⟩ := cv_h hb
  have hN := nt_Nb (dr_c af L p) v
  have eM := nt_NM (dr_c af L p) v
  have ed : nI (cv_b (dr_c af L p)) / 2 = nI h := by
    rw [eh, show (2 : Int32) = nI 2 from rfl, pk_div (by omega) (by decide) (by decide)]
    congr 1
    omega
  have go : ∃ n, wX_splitIntoDigits_48 post (nI h) cap xfl xol xil xrm xsp xco xec xat xlt xcu xwu xpu xvu xdc xsu xpo xdl xtl xbu xsv n (nt_M (dr_c af L p) v) 0 af aa ao ai ar ak als ale afl awd apr aws aps avs ali adr atx adg := by
    rw [eh] at hC hp
    have := xm_s48 (post := post) (adg := adg) hh hN hC hC2 (hp _ (fun i hi => ?_)) (C - 1) 0 (by have := hC.1; omega)
    · rw [Nat.pow_zero, Nat.div_one, ← eM] at this
      exact ⟨_, this⟩
    · have := ef_at 32 (fun j => nI (nt_N (dr_c af L p) v / (2 * h) ^ j % (2 * h))) adg 0 C (by omega) i hi
      rw [Nat.zero_add] at this
      exact this
  unfold wpX_splitIntoDigits
  refine xm_co he hd (xm_bo ⟨by decide, nm_r ed (br_f (nI_ne0 (by omega) (by omega)) ?_)⟩)
  unfold nt_M at go
  by_cases c : dr_c af L p = 100
  · refine br_t c ?_
    by_cases n : v < 0
    · rw [if_pos ⟨c, n⟩] at go
      exact br_f (Int64.not_le.mpr n) (nm_e go)
    · rw [if_neg (fun y => n y.2)] at go
      exact br_t (Int64.not_lt.mp n) go
  · rw [if_neg (fun y => c y.1)] at go
    exact br_f c go
end
end
section
/-! the class: numbers, and the whole conversion -/
section
variable {cap xfl xol xil xrm xsp xco xec xat xlt xcu xwu xpu xvu xdc xsu xpo xdl xtl xbu : Int32} {xsv : Int64} {af ao ai ak als ale afl awd apr aws aps avs ali adr atx adg : Nat → Int32} {aa ar : Nat → Int64}
variable {L e p q s t : Nat}
theorem ef_1 (M : Nat) (c D : Nat → Int32) : ef_f M c D 0 1 = ef_x M D 0 (c 0) := rfl
theorem ef_2 (M : Nat) (c D : Nat → Int32) : ef_f M c D 0 2 = ef_x M (ef_x M D 0 (c 0)) 1 (c 1) := rfl
theorem xm_wp {post : SX → Prop} {v : Int64} (he : e < 64) (hd : tb_dir af L ak afl awd apr aws aps avs e p q s t)
    (h : post (cap, xfl, xol, xil, xrm, xsp, xco, xec, xat, xlt, xcu, xwu, xpu, xvu, xdc, xsu, xpo, xdl, nI (nt_pl (dr_c af L p) (dr_m af L p) v), xbu, xsv, af, aa, ao, ai, ar, ak, als, ale, afl, awd, apr, aws, aps, avs, ali, adr, ef_f 128 (nt_pre (dr_c af L p) (dr_m af L p) v) atx 0 (nt_pl (dr_c af L p) (dr_m af L p) v), adg)) : wpX_writePrefix post (cap, xfl, xol, xil, xrm, xsp, xco, xec, xat, xlt, xcu, xwu, xpu, xvu, xdc, xsu, xpo, xdl, 0, xbu, xsv, af, aa, ao, ai, ar, ak, als, ale, afl, awd, apr, aws, aps, avs, ali, adr, atx, adg) (nI e) v := by
  have hm := fl_b _ (dr_mb af L p)
  have hm2 := fl_b2 _ (dr_mb af L p)
  have hc := cv_255 (tb_cc hd) (tb_gz af L p)
  have wc : ∀ {post : SX → Prop} {c : Int32}, ar_ch c → post (cap, xfl, xol, xil, xrm, xsp, xco, xec, xat, xlt, xcu, xwu, xpu, xvu, xdc, xsu, xpo, xdl, nI 1, xbu, xsv, af, aa, ao, ai, ar, ak, als, ale, afl, awd, apr, aws, aps, avs, ali, adr, ef_x 128 atx 0 c, adg) → wpX_writeChar post (cap, xfl, xol, xil, xrm, xsp, xco, xec, xat, xlt, xcu, xwu, xpu, xvu, xdc, xsu, xpo, xdl, 0, xbu, xsv, af, aa, ao, ai, ar, ak, als, ale, afl, awd, apr, aws, aps, avs, ali, adr, atx, adg) c := fun a b => xm_wc (t := 0) (by omega) a b
  unfold wpX_writePrefix
  refine xm_co he hd ?_
  by_cases c : dr_c af L p = 100
  · have hx : ¬ nt_hx (dr_c af L p) (dr_m af L p) v := fun z => by
      have := z.1
      rw [c] at this
      exact absurd this (by decide)
    have sg : ∀ x : Int32, nt_sg (dr_c af L p) (dr_m af L p) v = x → ¬ x = 0 → nt_pl (dr_c af L p) (dr_m af L p) v = 1 ∧ nt_pre (dr_c af L p) (dr_m af L p) v 0 = x := by
      intro x ex hx0
      unfold nt_pl nt_pre
      rw [if_neg hx, if_neg hx, if_neg (by rw [ex]; exact hx0)]
      exact ⟨rfl, ex⟩
    refine br_t c ?_
    by_cases n : v < 0
    · have es : nt_sg (dr_c af L p) (dr_m af L p) v = 45 := by unfold nt_sg; rw [if_pos c, if_pos n]
      obtain ⟨a1, a2⟩ := sg 45 es (by decide)
      rw [a1, ef_1, a2] at h
      exact br_f (Int64.not_le.mpr n) (wc ⟨45, by decide, rfl⟩ h)
    · refine br_t (Int64.not_lt.mp n) (xm_hf (b := dr_m af L p / 2 % 2) he hd hm.2.1 (fun z => br_t rfl (xm_hf (b := dr_m af L p / 4 % 2) he hd hm.2.2 (fun y => br_t rfl ?_) (fun y => br_f (by decide) ?_))) (fun z => br_f (by decide) ?_))
      · have es : nt_sg (dr_c af L p) (dr_m af L p) v = 0 := by unfold nt_sg; rw [if_pos c, if_neg n, if_neg (by omega), if_neg (by omega)]
        have a1 : nt_pl (dr_c af L p) (dr_m af L p) v = 0 := by unfold nt_pl; rw [if_neg hx, if_pos es]
        rw [a1] at h
        exact h
      · have es : nt_sg (dr_c af L p) (dr_m af L p) v = 32 := by unfold nt_sg; rw [if_pos c, if_neg n, if_neg (by omega), if_pos (by omega)]
        obtain ⟨a1, a2⟩ := sg 32 es (by decide)
        rw [a1, ef_1, a2] at h
        exact wc ⟨32, by decide, rfl⟩ h
      · have es : nt_sg (dr_c af L p) (dr_m af L p) v = 43 := by unfold nt_sg; rw [if_pos c, if_neg n, if_pos (by omega)]
        obtain ⟨a1, a2⟩ := sg 43 es (by decide)
        rw [a1, ef_1, a2] at h
        exact wc ⟨43, by decide, rfl⟩ h
  · have es : nt_sg (dr_c af L p) (dr_m af L p) v = 0 := by unfold nt_sg; rw [if_neg c]
    have no : ¬ nt_hx (dr_c af L p) (dr_m af L p) v → post (cap, xfl, xol, xil, xrm, xsp, xco, xec, xat, xlt, xcu, xwu, xpu, xvu, xdc, xsu, xpo, xdl, 0, xbu, xsv, af, aa, ao, ai, ar, ak, als, ale, afl, awd, apr, aws, aps, avs, ali, adr, atx, adg) := fun hx => by
      have a1 : nt_pl (dr_c af L p) (dr_m af L p) v = 0 := by unfold nt_pl; rw [if_neg hx, if_pos es]
      rw [a1] at h
      exact h
    have hbb : cv_b (dr_c af L p) < 2 ^ 31 := by rcases cv_b16 (dr_c af L p) with e | e | e | e <;> omega
    refine br_f c (xm_bo (pk_eq (cv_b (dr_c af L p)) 16 (fun b => xm_hf (b := dr_m af L p / 16 % 2) he hd hm2.2 (fun z => br_t rfl (no (fun y => by have := y.2.1; omega))) (fun z => br_f (by decide) ?_)) (fun b => no (fun y => b y.1))))
    by_cases v0 : v = 0
    · exact br_t v0 (no (fun y => y.2.2 v0))
    · have hx : nt_hx (dr_c af L p) (dr_m af L p) v := ⟨b, by omega, v0⟩
      have a1 : nt_pl (dr_c af L p) (dr_m af L p) v = 2 := if_pos hx
      have a2 : nt_pre (dr_c af L p) (dr_m af L p) v 0 = 48 := by unfold nt_pre; rw [if_pos hx, if_pos rfl]
      have a3 : nt_pre (dr_c af L p) (dr_m af L p) v 1 = dr_c af L p := by unfold nt_pre; rw [if_pos hx, if_neg (by omega)]
      rw [a1, ef_2, a2, a3] at h
      refine br_f v0 (wc ⟨48, by decide, rfl⟩ ?_)
      rw [ar_castI hc.2.2]
      exact xm_wc (t := 1) (by omega) hc.2.2 h
theorem xm_wd {post : SX → Prop} {N nd tl : Nat} (he : e < 64) (hd : tb_dir af L ak afl awd apr aws aps avs e p q s t) (hb : ¬ cv_b (dr_c af L p) = 0) (hn : nd ≤ 22) (ht : tl + nd ≤ 128) (hg : ∀ i, i < nd → adg i = nI (N / cv_b (dr_c af L p) ^ i % cv_b (dr_c af L p)))
    (h : post (cap, xfl, xol, xil, xrm, xsp, xco, xec, xat, xlt, xcu, xwu, xpu, xvu, xdc, xsu, xpo, xdl, nI (tl + nd), xbu, xsv, af, aa, ao, ai, ar, ak, als, ale, afl, awd, apr, aws, aps, avs, ali, adr, ef_f 128 (nt_dg (dr_c af L p) N nd) atx tl nd, adg)) : wpX_writeDigits post (cap, xfl, xol, xil, xrm, xsp, xco, xec, xat, xlt, xcu, xwu, xpu, xvu, xdc, xsu, xpo, xdl, nI tl, xbu, xsv, af, aa, ao, ai, ar, ak, als, ale, afl, awd, apr, aws, aps, avs, ali, adr, atx, adg) (nI e) (nI nd) := by
  have lo : ∀ x3 : Int32, x3 = (if dr_c af L p = 88 then 65 else 97) → ∀ k j, k + j = nd → wX_writeDigits_23 post x3 (k + 1) (nI k - 1) cap xfl xol xil xrm xsp xco xec xat xlt xcu xwu xpu xvu xdc xsu xpo xdl (nI (tl + j)) xbu xsv af aa ao ai ar ak als ale afl awd apr aws aps avs ali adr (ef_f 128 (nt_dg (dr_c af L p) N nd) atx tl j) adg := by
    intro x3 ex k
    induction k with
    | zero =>
      intro j hj
      have e1 : j = nd := by omega
      subst e1
      exact br_t (by decide) h
    | succ k ih =>
      intro j hj
      have em : nI (k + 1) - 1 = nI k := nI_pred k
      have en : nI k + -1 = nI k - 1 := (Int32.sub_eq_add_neg _ _).symm
      have hdg : N / cv_b (dr_c af L p) ^ k % cv_b (dr_c af L p) < 16 := by
        have h : N / cv_b (dr_c af L p) ^ k % cv_b (dr_c af L p) < cv_b (dr_c af L p) := Nat.mod_lt _ (by omega)
        rcases cv_b16 (dr_c af L p) with e | e | e | e <;> omega
      have ec : nt_dg (dr_c af L p) N nd j = nt_dc (dr_c af L p) (N / cv_b (dr_c af L p) ^ k % cv_b (dr_c af L p)) := by
        unfold nt_dg
        rw [show nd - 1 - j = k by omega]
      have next := ih (j + 1) (by omega)
      have ef : ef_f 128 (nt_dg (dr_c af L p) N nd) atx tl (j + 1) = ef_x 128 (ef_f 128 (nt_dg (dr_c af L p) N nd) atx tl j) (tl + j) (nt_dc (dr_c af L p) (N / cv_b (dr_c af L p) ^ k % cv_b (dr_c af L p))) := by
        rw [← ec]; rfl
      rw [ef] at next
      rw [em]
      refine br_f (nI_pos (by omega)) ⟨vp_in_nI (by omega) (by omega), nm_r (e' := nI (N / cv_b (dr_c af L p) ^ k % cv_b (dr_c af L p))) (by rw [nI_clamp (by omega)]; exact hg k (by omega)) ?_⟩
      generalize hD : N / cv_b (dr_c af L p) ^ k % cv_b (dr_c af L p) = D at *
      have hch := nt_dch (dr_c af L p) hdg
      refine pk_le 10 D (fun a => ?_) (fun a => ?_)
      · have e2 : (((x3 + nI D) - 10).toUInt32 % 65536).toInt32 = nt_dc (dr_c af L p) D := by
          unfold nt_dc
          rw [if_neg (by omega), ex]
          by_cases c : dr_c af L p = 88
          · rw [if_pos c, if_pos c]; exact dc_uA D hdg a
          · rw [if_neg c, if_neg c]; exact dc_la D hdg a
        rw [e2]
        exact xm_wc (by omega) hch (nm_r en next)
      · have e2 : ((48 + nI D).toUInt32 % 65536).toInt32 = nt_dc (dr_c af L p) D := by
          unfold nt_dc
          rw [if_pos a]; exact dc_lo D a
        rw [e2]
        exact xm_wc (by omega) hch (nm_r en next)
  unfold wpX_writeDigits
  refine xm_co he hd ?_
  by_cases c : dr_c af L p = 88
  · exact br_t c (nm_e ⟨nd + 1, lo 65 (by rw [if_pos c]) nd 0 (by omega)⟩)
  · exact br_f c (nm_e ⟨nd + 1, lo 97 (by rw [if_neg c]) nd 0 (by omega)⟩)
/-- the zeros and the digits behind the prefix -/
theorem xm_120 {post : SX → Prop} {v : Int64} {P : Int32} {N z1 nd : Nat} (he : e < 64) (hd : tb_dir af L ak afl awd apr aws aps avs e p q s t) (gw : ev_gw af L aa p s) (hW : ev_W af L aa p s ≤ 99) (hb : ¬ cv_b (dr_c af L p) = 0) (hn : nd ≤ 22) (hz : z1 ≤ 99)
    (ht : nt_pl (dr_c af L p) (dr_m af L p) v + nt_z2 (dr_m af L p) (ev_L af L aa p s) P (ev_W af L aa p s) (nt_pl (dr_c af L p) (dr_m af L p) v) z1 nd + nd ≤ 128) (hg : ∀ i, i < nd → adg i = nI (N / cv_b (dr_c af L p) ^ i % cv_b (dr_c af L p)))
    (h : ∀ z, z = nt_z2 (dr_m af L p) (ev_L af L aa p s) P (ev_W af L aa p s) (nt_pl (dr_c af L p) (dr_m af L p) v) z1 nd → post (cap, xfl, xol, xil, xrm, xsp, xco, xec, xat, xlt, xcu, xwu, xpu, xvu, xdc, xsu, xpo, xdl, nI (nt_pl (dr_c af L p) (dr_m af L p) v + z + nd), xbu, xsv, af, aa, ao, ai, ar, ak, als, ale, afl, awd, apr, aws, aps, avs, ali, adr, ef_f 128 (nt_T (dr_c af L p) (dr_m af L p) v N z nd) atx 0 (nt_pl (dr_c af L p) (dr_m af L p) v + z + nd), adg)) : wX_writeNumber_120 post (nI e) v P (nI nd) (nI z1) cap xfl xol xil xrm xsp xco xec xat xlt xcu xwu xpu xvu xdc xsu xpo xdl 0 xbu xsv af aa ao ai ar ak als ale afl awd apr aws aps avs ali adr atx adg := by
  have hm2 := fl_b2 _ (dr_mb af L p)
  have h2 := nt_pl2 (dr_c af L p) (dr_m af L p) v
  have fin : ∀ z, z = nt_z2 (dr_m af L p) (ev_L af L aa p s) P (ev_W af L aa p s) (nt_pl (dr_c af L p) (dr_m af L p) v) z1 nd → wX_writeNumber_181 post (nI e) (nI nd) (nI z) cap xfl xol xil xrm xsp xco xec xat xlt xcu xwu xpu xvu xdc xsu xpo xdl (nI (nt_pl (dr_c af L p) (dr_m af L p) v)) xbu xsv af aa ao ai ar ak als ale afl awd apr aws aps avs ali adr (ef_f 128 (nt_pre (dr_c af L p) (dr_m af L p) v) atx 0 (nt_pl (dr_c af L p) (dr_m af L p) v)) adg := by
    intro z ez
    rw [← ez] at ht
    have h' := h z ez
    rw [nt_split, Nat.zero_add] at h'
    unfold wX_writeNumber_181
    exact xm_wz (by omega) (xm_wd he hd hb hn (by omega) hg h')
  unfold nt_z2 at fin
  unfold wX_writeNumber_120
  refine xm_wp he hd (xm_hf (b := dr_m af L p / 8 % 2) he hd hm2.1 (fun z => br_t rfl ?_) (fun z => br_f (by decide) (xm_il he hd ?_)))
  · exact fin z1 (by rw [if_neg (fun y => by have := y.1; omega)])
  · cases hl : ev_L af L aa p s with
    | true =>
      rw [hl] at fin
      exact br_f (by decide) (fin z1 (by rw [if_neg (fun y => y.2.1 rfl)]))
    | false =>
      rw [hl] at fin
      refine br_t rfl ?_
      by_cases hP : P = -1
      · refine br_t hP (xm_wo he hd gw ?_)
        have ex : nI (ev_W af L aa p s) - nI (nt_pl (dr_c af L p) (dr_m af L p) v) - nI z1 - nI nd = nI (ev_W af L aa p s) - nI (nt_pl (dr_c af L p) (dr_m af L p) v + z1 + nd) := by
          rw [sb_ss, sb_ss, nI_add, nI_add, Nat.add_assoc]
        rcases sb_k (W := ev_W af L aa p s) (t := nt_pl (dr_c af L p) (dr_m af L p) v + z1 + nd) (by omega) (by omega) with k | k
        · refine nm_r (ex.trans k) (pk_le (ev_W af L aa p s - (nt_pl (dr_c af L p) (dr_m af L p) v + z1 + nd)) 0 (fun a => ?_) (fun a => nm_r (nI_add _ _) ?_))
          · exact fin z1 (by rw [if_neg (fun y => by have := y.2.2.2; omega)])
          · refine fin _ ?_
            rw [if_pos ⟨by omega, by decide, hP, by omega⟩]
            omega
        · refine nm_r ex (br_t (Int32.le_of_lt k.1) ?_)
          exact fin z1 (by rw [if_neg (fun y => by have := y.2.2.2; omega)])
      · exact br_f hP (fin z1 (by rw [if_neg (fun y => hP y.2.2.1)]))
theorem xm_66 {post : SX → Prop} {v : Int64} {P : Int32} {N z0 nd : Nat} (he : e < 64) (hd : tb_dir af L ak afl awd apr aws aps avs e p q s t) (gw : ev_gw af L aa p s) (hW : ev_W af L aa p s ≤ 99) (hb : ¬ cv_b (dr_c af L p) = 0) (hn : nd ≤ 22) (hz : nt_z1 (dr_c af L p) (dr_m af L p) z0 v nd ≤ 99) (hz0 : z0 ≤ 99)
    (ht : nt_pl (dr_c af L p) (dr_m af L p) v + nt_z2 (dr_m af L p) (ev_L af L aa p s) P (ev_W af L aa p s) (nt_pl (dr_c af L p) (dr_m af L p) v) (nt_z1 (dr_c af L p) (dr_m af L p) z0 v nd) nd + nd ≤ 128) (hg : ∀ i, i < nd → adg i = nI (N / cv_b (dr_c af L p) ^ i % cv_b (dr_c af L p)))
    (h : ∀ z, z = nt_z2 (dr_m af L p) (ev_L af L aa p s) P (ev_W af L aa p s) (nt_pl (dr_c af L p) (dr_m af L p) v) (nt_z1 (dr_c af L p) (dr_m af L p) z0 v nd) nd → post (cap, xfl, xol, xil, xrm, xsp, xco, xec, xat, xlt, xcu, xwu, xpu, xvu, xdc, xsu, xpo, xdl, nI (nt_pl (dr_c af L p) (dr_m af L p) v + z + nd), xbu, xsv, af, aa, ao, ai, ar, ak, als, ale, afl, awd, apr, aws, aps, avs, ali, adr, ef_f 128 (nt_T (dr_c af L p) (dr_m af L p) v N z nd) atx 0 (nt_pl (dr_c af L p) (dr_m af L p) v + z + nd), adg)) : wX_writeNumber_66 post (nI e) v P (nI nd) (nI z0) cap xfl xol xil xrm xsp xco xec xat xlt xcu xwu xpu xvu xdc xsu xpo xdl 0 xbu xsv af aa ao ai ar ak als ale afl awd apr aws aps avs ali adr atx adg := by
  have hm2 := fl_b2 _ (dr_mb af L p)
  have E : nt_z1 (dr_c af L p) (dr_m af L p) z0 v nd = if dr_c af L p = 111 ∧ dr_m af L p / 16 % 2 = 1 ∧ ¬ (0 < z0 ∨ (v = 0 ∧ 0 < nd)) then 1 else z0 := rfl
  have k90 : ∀ x : Int32, (x = 0 ↔ ¬ (0 < z0 ∨ (v = 0 ∧ 0 < nd))) → wX_writeNumber_90 post (nI e) v P (nI nd) (nI z0) x cap xfl xol xil xrm xsp xco xec xat xlt xcu xwu xpu xvu xdc xsu xpo xdl 0 xbu xsv af aa ao ai ar ak als ale afl awd apr aws aps avs ali adr atx adg := by
    intro x ix
    have same : ¬ (dr_c af L p = 111 ∧ dr_m af L p / 16 % 2 = 1 ∧ ¬ (0 < z0 ∨ (v = 0 ∧ 0 < nd))) → wX_writeNumber_120 post (nI e) v P (nI nd) (nI z0) cap xfl xol xil xrm xsp xco xec xat xlt xcu xwu xpu xvu xdc xsu xpo xdl 0 xbu xsv af aa ao ai ar ak als ale afl awd apr aws aps avs ali adr atx adg := by
      intro q
      rw [if_neg q] at E
      rw [E] at hz ht h
      exact xm_120 he hd gw hW hb hn hz ht hg h
    unfold wX_writeNumber_90
    refine xm_co he hd ?_
    by_cases c : dr_c af L p = 111
    · refine br_t c (xm_hf (b := dr_m af L p / 16 % 2) he hd hm2.2 (fun z => br_t rfl (same (fun y => by have := y.2.1; omega))) (fun z => br_f (by decide) ?_))
      by_cases x0 : x = 0
      · rw [if_pos ⟨c, by omega, ix.mp x0⟩] at E
        rw [E] at hz ht h
        exact br_t x0 (xm_120 (z1 := 1) he hd gw hW hb hn hz ht hg h)
      · exact br_f x0 (same (fun y => x0 (ix.mpr y.2.2)))
    · exact br_f c (same (fun y => c y.1))
  have k1 : (0 < z0 ∨ (v = 0 ∧ 0 < nd)) → wX_writeNumber_85 post (nI e) v P (nI nd) (nI z0) cap xfl xol xil xrm xsp xco xec xat xlt xcu xwu xpu xvu xdc xsu xpo xdl 0 xbu xsv af aa ao ai ar ak als ale afl awd apr aws aps avs ali adr atx adg := fun y => k90 1 ⟨fun z => absurd z (by decide), fun z => absurd y z⟩
  have k0 : ¬ (0 < z0 ∨ (v = 0 ∧ 0 < nd)) → wX_writeNumber_89 post (nI e) v P (nI nd) (nI z0) cap xfl xol xil xrm xsp xco xec xat xlt xcu xwu xpu xvu xdc xsu xpo xdl 0 xbu xsv af aa ao ai ar ak als ale afl awd apr aws aps avs ali adr atx adg := fun y => k90 0 ⟨fun _ => y, fun _ => rfl⟩
  refine pk_lt 0 z0 (fun a => k1 (Or.inl a)) (fun a => ?_)
  by_cases v0 : v = 0
  · exact br_t v0 (pk_le nd 0 (fun b => k0 (fun y => by rcases y with y | y <;> omega)) (fun b => k1 (Or.inr ⟨v0, b⟩)))
  · exact br_f v0 (k0 (fun y => by
      rcases y with y | y
      · omega
      · exact v0 y.1))
theorem xm_wn {post : SX → Prop} {C : Nat} (he : e < 64) (hd : tb_dir af L ak afl awd apr aws aps avs e p q s t) (gw : ev_gw af L aa p s) (hW : ev_W af L aa p s ≤ 99) (hP : pv_ok (ev_P af L aa p s)) (hb : ¬ cv_b (dr_c af L p) = 0)
    (hC : dt_C (cv_b (dr_c af L p)) (nt_N (dr_c af L p) (nt_v (dr_c af L p) (dr_g af L p) (aa (ev_V af L p s).toNatClampNeg))) C) (hC2 : C ≤ 22)
    (h : ∀ (v : Int64) (nd z : Nat) (adg : Nat → Int32), v = nt_v (dr_c af L p) (dr_g af L p) (aa (ev_V af L p s).toNatClampNeg) → nd = nt_nd v (ev_P af L aa p s) C → z = tx_z (dr_c af L p) (dr_m af L p) (ev_P af L aa p s) (ev_L af L aa p s) (ev_W af L aa p s) v nd → post (cap, xfl, xol, xil, xrm, xsp, xco, xec, xat, xlt, xcu, xwu, xpu, xvu, xdc, xsu, xpo, xdl, nI (nt_pl (dr_c af L p) (dr_m af L p) v + z + nd), xbu, xsv, af, aa, ao, ai, ar, ak, als, ale, afl, awd, apr, aws, aps, avs, ali, adr, ef_f 128 (nt_T (dr_c af L p) (dr_m af L p) v (nt_N (dr_c af L p) v) z nd) atx 0 (nt_pl (dr_c af L p) (dr_m af L p) v + z + nd), adg)) : wpX_writeNumber post (cap, xfl, xol, xil, xrm, xsp, xco, xec, xat, xlt, xcu, xwu, xpu, xvu, xdc, xsu, xpo, xdl, 0, xbu, xsv, af, aa, ao, ai, ar, ak, als, ale, afl, awd, apr, aws, aps, avs, ali, adr, atx, adg) (nI e) := by
  refine ⟨vp_in_nI he (by decide), xm_va he hd (xm_fi he hd (xm_po he hd (xm_sd he hd hb hC hC2 ?_)))⟩
  intro adg hg
  generalize hv : nt_v (dr_c af L p) (dr_g af L p) (aa (ev_V af L p s).toNatClampNeg) = v at *
  have k50 : ∀ nd, nd = nt_nd v (ev_P af L aa p s) C → nd ≤ C → wX_writeNumber_50 post (nI e) v (ev_P af L aa p s) (nI nd) cap xfl xol xil xrm xsp xco xec xat xlt xcu xwu xpu xvu xdc xsu xpo xdl 0 xbu xsv af aa ao ai ar ak als ale afl awd apr aws aps avs ali adr atx adg := by
    intro nd en hnd
    have hzb := tx_zb (c := dr_c af L p) (m := dr_m af L p) (lf := ev_L af L aa p s) (W := ev_W af L aa p s) (v := v) (nd := nd) hP hW (by omega)
    have k66 := xm_66 (post := post) (z0 := nt_z0 (ev_P af L aa p s) nd) (N := nt_N (dr_c af L p) v) (P := ev_P af L aa p s) (atx := atx) he hd gw hW hb (show nd ≤ 22 by omega) hzb.2.1 hzb.2.2 (by have := hzb.1; unfold tx_z at this; omega) (fun i hi => hg i (by omega)) (fun z ez => h v nd z adg rfl en ez)
    unfold nt_z0 at k66
    rcases hP with ep | ⟨k, hk, ep⟩
    · rw [ep] at k66 ⊢
      have e0 : (-1 : Int32).toNatClampNeg = 0 := by decide
      rw [e0, Nat.zero_sub] at k66
      refine br_t ?_ k66
      exact Int32.le_trans (by decide) (nI_pos' (n := nd) (by omega))
    · rw [ep] at k66 ⊢
      rw [nI_clamp (by omega)] at k66
      refine pk_le k nd (fun a => ?_) (fun a => ?_)
      · rw [show k - nd = 0 by omega] at k66
        exact k66
      · rw [pk_sub (by omega)]
        exact k66
  by_cases v0 : v = 0
  · refine br_t v0 ?_
    by_cases P0 : ev_P af L aa p s = 0
    · exact br_t P0 (k50 0 (by unfold nt_nd; rw [if_pos ⟨v0, P0⟩]) (by omega))
    · exact br_f P0 (k50 C (by unfold nt_nd; rw [if_neg (fun y => P0 y.2)]) (by omega))
  · exact br_f v0 (k50 C (by unfold nt_nd; rw [if_neg (fun y => v0 y.1)]) (by omega))
end
end
section
/-! the class: one conversion -/
def tx_n (c : Int32) (g m : Nat) (P : Int32) (lf : Bool) (W : Nat) (a : Int64) (C : Nat) : Nat := if c = 99 then 1 else if c = 115 then bs_n a (bs_M P) 0 else nt_pl c m (nt_v c g a) + tx_z c m P lf W (nt_v c g a) (nt_nd (nt_v c g a) P C) + nt_nd (nt_v c g a) P C
def tx_T (c : Int32) (g m : Nat) (P : Int32) (lf : Bool) (W : Nat) (a : Int64) (C : Nat) : Nat → Int32 := if c = 99 then (fun _ => (a.toInt32.toUInt32 % 65536).toInt32) else if c = 115 then bs_c a else nt_T c m (nt_v c g a) (nt_N c (nt_v c g a)) (tx_z c m P lf W (nt_v c g a) (nt_nd (nt_v c g a) P C)) (nt_nd (nt_v c g a) P C)
theorem nt_ndb {v : Int64} {P : Int32} {C : Nat} (h : C ≤ 22) : nt_nd v P C ≤ 22 := by
  unfold nt_nd
  by_cases z : v = 0 ∧ P = 0
  · rw [if_pos z]; omega
  · rw [if_neg z]; exact h
theorem tx_nb {c : Int32} {g m : Nat} {P : Int32} {lf : Bool} {W : Nat} {a : Int64} {C : Nat} (hP : pv_ok P) (hW : W ≤ 99) (hC : C ≤ 22) : tx_n c g m P lf W a C ≤ 128 := by
  unfold tx_n
  by_cases c1 : c = 99
  · rw [if_pos c1]; omega
  · rw [if_neg c1]
    by_cases c2 : c = 115
    · rw [if_pos c2]
      have := bs_nb a (bs_M P) 0
      have := bs_Mb hP
      omega
    · rw [if_neg c2]
      have := (tx_zb (c := c) (m := m) (lf := lf) (v := nt_v c g a) (nd := nt_nd (nt_v c g a) P C) hP hW (nt_ndb hC)).1
      omega
theorem tx_Tc {c : Int32} {g m : Nat} {P : Int32} {lf : Bool} {W : Nat} {a : Int64} {C : Nat} (hc : ar_ch c) (hb : cv_t c ∨ ¬ cv_b c = 0) (j : Nat) : ar_ch (tx_T c g m P lf W a C j) := by
  unfold tx_T
  by_cases c1 : c = 99
  · rw [if_pos c1]; exact ar_cast _
  · rw [if_neg c1]
    by_cases c2 : c = 115
    · rw [if_pos c2]; exact ar_cast _
    · rw [if_neg c2]
      exact nt_Tc hc (hb.elim (fun z => absurd z (fun y => y.elim c1 c2)) id) _ _ _ _ _ _
theorem ev_Wb {f : Nat → Int32} {L p s : Nat} {aa : Nat → Int64} (hr : dr_r f L p = 0) (gw : ev_gw f L aa p s) : ev_W f L aa p s ≤ 99 := by
  unfold ev_W
  by_cases z : dr_wu f L p = -1
  · rw [if_pos z]
    rcases pw_ok (dr_ok hr).2.1 with ⟨_, e, _⟩ | ⟨_, _, _, e⟩
    · have e' : dr_w f L p = 0 := e
      omega
    · exact e
  · rw [if_neg z]
    have h := gw z
    rcases ev_rng h.1 h.2 with ⟨c, k, k1, k2, ek⟩ | ⟨c, k, k2, ek⟩
    · rw [if_pos c, ek, nI_clamp (by omega)]; omega
    · rw [if_neg c, ek, nI_clamp (by omega)]; omega
theorem ev_Pb {f : Nat → Int32} {L p s : Nat} {aa : Nat → Int64} (hr : dr_r f L p = 0) (gp : ev_gp f L aa p s) : pv_ok (ev_P f L aa p s) := by
  unfold ev_P
  by_cases z : dr_pu f L p = -1
  · rw [if_pos z]
    rcases pp_ok (dr_ok hr).2.2.1 with ⟨e, _⟩ | ⟨e, _⟩ | ⟨_, k, hk, e⟩
    · exact Or.inl e
    · exact Or.inl e
    · exact Or.inr ⟨k, hk, e⟩
  · rw [if_neg z]
    have h := gp z
    by_cases c : ev_pv f L aa p s < 0
    · rw [if_pos c]; exact Or.inl rfl
    · rw [if_neg c]
      obtain ⟨k, hk, e⟩ := nI_of2 (x := ev_pv f L aa p s) (M := 99) (n := 99) (by decide) c h
      exact Or.inr ⟨k, hk, e⟩
section
variable {cap xfl xol xil xrm xsp xco xec xat xlt xcu xwu xpu xvu xdc xsu xpo xdl xtl xbu : Int32} {xsv : Int64} {af ao ai ak als ale afl awd apr aws aps avs ali adr atx adg : Nat → Int32} {aa ar : Nat → Int64}
variable {L e p q s t : Nat}
theorem xm_cv {post : SX → Prop} {n C : Nat} (he : e < 64) (hn : n < 2 ^ 20) (hd : tb_dir af L ak afl awd apr aws aps avs e p q s t) (gw : ev_gw af L aa p s) (gp : ev_gp af L aa p s) (hC2 : C ≤ 22)
    (hC : ¬ cv_b (dr_c af L p) = 0 → dt_C (cv_b (dr_c af L p)) (nt_N (dr_c af L p) (nt_v (dr_c af L p) (dr_g af L p) (aa (ev_V af L p s).toNatClampNeg))) C)
    (h : ∀ (W tl : Nat) (T : Nat → Int32), W = ev_W af L aa p s → tl = tx_n (dr_c af L p) (dr_g af L p) (dr_m af L p) (ev_P af L aa p s) (ev_L af L aa p s) W (aa (ev_V af L p s).toNatClampNeg) C → T = tx_T (dr_c af L p) (dr_g af L p) (dr_m af L p) (ev_P af L aa p s) (ev_L af L aa p s) W (aa (ev_V af L p s).toNatClampNeg) C → ∀ (xtl : Int32) (atx adg : Nat → Int32), post (cap, xfl, xol, xil, xrm, xsp, xco, xec, xat, xlt, xcu, xwu, xpu, xvu, xdc, xsu, xpo, nI (n + (W - tl) + tl), xtl, xbu, xsv, af, aa, ao, ai, ar, ak, als, ale, afl, awd, apr, aws, aps, avs, ali, em_o (ev_L af L aa p s) W tl T adr n, atx, adg)) : wpX_draftConversion post (cap, xfl, xol, xil, xrm, xsp, xco, xec, xat, xlt, xcu, xwu, xpu, xvu, xdc, xsu, xpo, nI n, xtl, xbu, xsv, af, aa, ao, ai, ar, ak, als, ale, afl, awd, apr, aws, aps, avs, ali, adr, atx, adg) (nI e) := by
  have hr := hd.2.1
  have hW := ev_Wb hr gw
  have hP := ev_Pb hr gp
  have hcc := cv_255 (tb_cc hd) (tb_gz af L p)
  have hok := (pc_ok (dr_ok hr).2.2.2).2.1
  have h' := h _ _ _ rfl rfl rfl
  have fin : ∀ (adg T' : Nat → Int32) (tl : Nat), tl = tx_n (dr_c af L p) (dr_g af L p) (dr_m af L p) (ev_P af L aa p s) (ev_L af L aa p s) (ev_W af L aa p s) (aa (ev_V af L p s).toNatClampNeg) C → (∀ j, j < tl → T' j = tx_T (dr_c af L p) (dr_g af L p) (dr_m af L p) (ev_P af L aa p s) (ev_L af L aa p s) (ev_W af L aa p s) (aa (ev_V af L p s).toNatClampNeg) C j) → wX_draftConversion_57 post (nI e) cap xfl xol xil xrm xsp xco xec xat xlt xcu xwu xpu xvu xdc xsu xpo (nI n) (nI tl) xbu xsv af aa ao ai ar ak als ale afl awd apr aws aps avs ali adr T' adg := by
    intro adg T' tl et eT
    have hb := tx_nb (c := dr_c af L p) (g := dr_g af L p) (m := dr_m af L p) (lf := ev_L af L aa p s) (a := aa (ev_V af L p s).toNatClampNeg) hP hW hC2
    rw [← et] at hb
    refine xm_57 he hd gw hn hb hW (fun j hj => ?_) ?_
    · rw [eT j hj]
      exact tx_Tc hcc.2.2 hok j
    · have := h' (nI tl) T' adg
      rw [← et] at this
      rw [em_cg eT]
      exact this
  unfold wpX_draftConversion
  refine xm_co he hd ?_
  by_cases c1 : dr_c af L p = 99
  · refine br_t c1 ⟨vp_in_nI he (by decide), xm_va he hd (xm_wc (t := 0) (by omega) (ar_cast _) (fin _ _ 1 (by unfold tx_n; rw [if_pos c1]) (fun j hj => ?_)))⟩
    rw [show j = 0 by omega, ef_xt (by omega), pk_us]
    unfold tx_T
    rw [if_pos c1]
  refine br_f c1 ?_
  by_cases c2 : dr_c af L p = 115
  · have e1 : tx_n (dr_c af L p) (dr_g af L p) (dr_m af L p) (ev_P af L aa p s) (ev_L af L aa p s) (ev_W af L aa p s) (aa (ev_V af L p s).toNatClampNeg) C = bs_n (aa (ev_V af L p s).toNatClampNeg) (bs_M (ev_P af L aa p s)) 0 := by unfold tx_n; rw [if_neg c1, if_pos c2]
    refine br_t c2 (xm_wpt he hd hP (fin _ _ _ e1.symm (fun j hj => ?_)))
    have hb := bs_nb (aa (ev_V af L p s).toNatClampNeg) (bs_M (ev_P af L aa p s)) 0
    have hM := bs_Mb hP
    have := ef_at 128 (bs_c (aa (ev_V af L p s).toNatClampNeg)) atx 0 _ (by omega) j hj
    rw [Nat.zero_add] at this
    rw [this]
    unfold tx_T
    rw [if_neg c1, if_pos c2]
  · have hb : ¬ cv_b (dr_c af L p) = 0 := hok.elim (fun z => absurd z (fun y => y.elim c1 c2)) id
    refine br_f c2 (xm_wn he hd gw hW hP hb (hC hb) hC2 (fun v nd z adg ev en ez => fin adg _ _ ?_ (fun j hj => ?_)))
    · unfold tx_n
      rw [if_neg c1, if_neg c2, ← ev, ← en, ← ez]
    · have hzb := (tx_zb (c := dr_c af L p) (m := dr_m af L p) (lf := ev_L af L aa p s) (W := ev_W af L aa p s) (v := v) (nd := nd) hP hW (by rw [en]; exact nt_ndb hC2)).1
      rw [← ez] at hzb
      have := ef_at 128 (nt_T (dr_c af L p) (dr_m af L p) v (nt_N (dr_c af L p) v) z nd) atx 0 _ (by omega) j hj
      rw [Nat.zero_add] at this
      rw [this]
      unfold tx_T
      rw [if_neg c1, if_neg c2, ← ev, ← en, ← ez]
end
end
section
/-! the reference: emit, pad, texts of c and s -/
section
variable {yfl yil yol ytl ycap ymk yen yac yec ypos yco yde ydp ydw ydq ywd ypr yit ym1 ym2 ym3 ym4 ym5 yws yps ylg ycv ycm ycs ycx ycu ysq ysv ycw ycp ycn : Int32} {bf bi bo btm brv : Nat → Int32} {ba brs : Nat → Int64}
theorem ym_em {post : SY → Prop} {n : Nat} {c : Int32} (c' : Int32) (ec : c = c') (hn : n < 2 ^ 30) (hc : ar_ch c') (h : post (yfl, yil, yol, nI (n + 1), ycap, ymk, yen, yac, yec, ypos, yco, yde, ydp, ydw, ydq, ywd, ypr, yit, ym1, ym2, ym3, ym4, ym5, yws, yps, ylg, ycv, ycm, ycs, ycx, ycu, ysq, ysv, ycw, ycp, ycn, bf, bi, bo, ef_x 256 btm n c', brv, ba, brs)) : wpY_emit post (yfl, yil, yol, nI n, ycap, ymk, yen, yac, yec, ypos, yco, yde, ydp, ydw, ydq, ywd, ypr, yit, ym1, ym2, ym3, ym4, ym5, yws, yps, ylg, ycv, ycm, ycs, ycx, ycu, ysq, ysv, ycw, ycp, ycn, bf, bi, bo, btm, brv, ba, brs) c := by
  subst ec
  refine br_f (nI_pos (by omega)) (pk_le 256 n (fun a => nm_r (nI_1 n) ?_) (fun a => ⟨vp_in_nI a (by decide), nm_r (e' := upd btm n c) (by rw [nI_clamp (by omega), ar_nar hc]) (nm_r (nI_1 n) ?_)⟩))
  · rw [ef_xf (by omega)] at h; exact h
  · rw [ef_xt a] at h; exact h
theorem ym_pd {post : SY → Prop} {n k : Nat} {x c : Int32} (hn : n + k < 2 ^ 30) (hk : k ≤ 200) (hc : ar_ch c) (hx : x = nI k ∨ (x < 0 ∧ k = 0)) (h : post (yfl, yil, yol, nI (n + k), ycap, ymk, yen, yac, yec, ypos, yco, yde, ydp, ydw, ydq, ywd, ypr, yit, ym1, ym2, ym3, ym4, ym5, yws, yps, ylg, ycv, ycm, ycs, ycx, ycu, ysq, ysv, ycw, ycp, ycn, bf, bi, bo, ef_f 256 (fun _ => c) btm n k, brv, ba, brs)) : wpY_pad post (yfl, yil, yol, nI n, ycap, ymk, yen, yac, yec, ypos, yco, yde, ydp, ydw, ydq, ywd, ypr, yit, ym1, ym2, ym3, ym4, ym5, yws, yps, ylg, ycv, ycm, ycs, ycx, ycu, ysq, ysv, ycw, ycp, ycn, bf, bi, bo, btm, brv, ba, brs) x c := by
  rcases hx with rfl | ⟨hx, rfl⟩
  · have lo : ∀ r i, i + r = k → wY_pad_2 post (nI k) c (r + 1) (nI i) yfl yil yol (nI (n + i)) ycap ymk yen yac yec ypos yco yde ydp ydw ydq ywd ypr yit ym1 ym2 ym3 ym4 ym5 yws yps ylg ycv ycm ycs ycx ycu ysq ysv ycw ycp ycn bf bi bo (ef_f 256 (fun _ => c) btm n i) brv ba brs := by
      intro r
      induction r with
      | zero =>
        intro i hi
        have e : i = k := by omega
        subst e
        exact br_t (nI_le (by omega) (by omega)) h
      | succ r ih =>
        intro i hi
        exact br_f (nI_ge (by omega) (by omega)) (br_f (nI_ge (b := 200) (by omega) (by decide)) (ym_em c rfl (by omega) hc (nm_r (nI_1 i) (ih (i + 1) (by omega)))))
    exact ⟨k + 1, lo k 0 (by omega)⟩
  · exact ⟨1, br_t (Int32.le_of_lt hx) h⟩
theorem ym_y135 {post : SY → Prop} {n W tl : Nat} {lf : Bool} (hn : n < 2 ^ 20) (hW : W ≤ 99) (ht : tl ≤ 64) (hc : ∀ j, j < tl → ar_ch (brv j)) (h : post (yfl, yil, yol, nI (n + (W - tl) + tl), ycap, ymk, yen, yac, yec, ypos, yco, yde, ydp, ydw, ydq, ywd, ypr, yit, ym1, ym2, ym3, ym4, ym5, yws, yps, ylg, ycv, ycm, ycs, ycx, ycu, ysq, ysv, ycw, ycp, ycn, bf, bi, bo, em_o lf W tl brv btm n, brv, ba, brs)) : wY_renderDir_135 post (nI W) (yb_b lf) (nI tl) yfl yil yol (nI n) ycap ymk yen yac yec ypos yco yde ydp ydw ydq ywd ypr yit ym1 ym2 ym3 ym4 ym5 yws yps ylg ycv ycm ycs ycx ycu ysq ysv ycw ycp ycn bf bi bo btm brv ba brs := by
  have hk := sb_k (W := W) (t := tl) (by omega) (by omega)
  have c32 : ar_ch 32 := ⟨32, by decide, rfl⟩
  have lo : ∀ (btm : Nat → Int32) (n : Nat), n < 2 ^ 21 → post (yfl, yil, yol, (if lf = true then nI (n + tl + (W - tl)) else nI (n + tl)), ycap, ymk, yen, yac, yec, ypos, yco, yde, ydp, ydw, ydq, ywd, ypr, yit, ym1, ym2, ym3, ym4, ym5, yws, yps, ylg, ycv, ycm, ycs, ycx, ycu, ysq, ysv, ycw, ycp, ycn, bf, bi, bo, (if lf = true then ef_f 256 (fun _ => 32) (ef_f 256 brv btm n tl) (n + tl) (W - tl) else ef_f 256 brv btm n tl), brv, ba, brs) → ∀ r i, i + r = tl → wY_renderDir_154 post (nI W) (yb_b lf) (nI tl) (r + 1) (nI i) yfl yil yol (nI (n + i)) ycap ymk yen yac yec ypos yco yde ydp ydw ydq ywd ypr yit ym1 ym2 ym3 ym4 ym5 yws yps ylg ycv ycm ycs ycx ycu ysq ysv ycw ycp ycn bf bi bo (ef_f 256 brv btm n i) brv ba brs := by
    intro btm n hn h r
    induction r with
    | zero =>
      intro i hi
      have e : i = tl := by omega
      subst e
      refine br_t (nI_le (by omega) (by omega)) ?_
      cases lf with
      | false => exact br_t rfl h
      | true => exact br_f (by decide) (ym_pd (k := W - i) (by omega) (by omega) c32 hk h)
    | succ r ih =>
      intro i hi
      exact br_f (nI_ge (by omega) (by omega)) ⟨vp_in_nI (by omega) (by omega), ym_em (brv i) (by rw [nI_clamp (by omega)]) (by omega) (hc i (by omega)) (nm_r (nI_1 i) (ih (i + 1) (by omega)))⟩
  cases lf with
  | false => exact br_t rfl (ym_pd (k := W - tl) (by omega) (by omega) c32 hk ⟨tl + 1, lo _ (n + (W - tl)) (by omega) h tl 0 (by omega)⟩)
  | true =>
    rw [show n + (W - tl) + tl = n + tl + (W - tl) by omega] at h
    exact br_f (by decide) ⟨tl + 1, lo btm n (by omega) h tl 0 (by omega)⟩
theorem ym_63 {post : SY → Prop} {n W : Nat} {lf : Bool} {a : Int64} (hn : n < 2 ^ 20) (hW : W ≤ 99) (hP : pv_ok ycp) (h : ∀ brv, post (yfl, yil, yol, nI (n + (W - bs_n a (bs_M ycp) 0) + bs_n a (bs_M ycp) 0), ycap, ymk, yen, yac, yec, ypos, yco, yde, ydp, ydw, ydq, ywd, ypr, yit, ym1, ym2, ym3, ym4, ym5, yws, yps, ylg, ycv, ycm, ycs, ycx, ycu, ysq, ysv, ycw, ycp, ycn, bf, bi, bo, em_o lf W (bs_n a (bs_M ycp) 0) (bs_c a) btm n, brv, ba, brs)) : ∃ m, wY_renderDir_63 post a 115 (nI W) (yb_b lf) yfl yil yol (nI n) ycap ymk yen yac yec ypos yco yde ydp ydw ydq ywd ypr yit ym1 ym2 ym3 ym4 ym5 yws yps ylg ycv ycm ycs ycx ycu ysq ysv ycw ycp ycn m 0 0 bf bi bo btm brv ba brs := by
  have hM := bs_Mb hP
  have fin : ∀ S, S = bs_n a (bs_M ycp) 0 → S ≤ 8 → wY_renderDir_135 post (nI W) (yb_b lf) (nI S) yfl yil yol (nI n) ycap ymk yen yac yec ypos yco yde ydp ydw ydq ywd ypr yit ym1 ym2 ym3 ym4 ym5 yws yps ylg ycv ycm ycs ycx ycu ysq ysv ycw ycp ycn bf bi bo btm (ef_f 64 (bs_c a) brv 0 S) ba brs := by
    intro S eS hS
    have eT : ∀ j, j < S → ef_f 64 (bs_c a) brv 0 S j = bs_c a j := fun j hj => by
      have := ef_at 64 (bs_c a) brv 0 S (by omega) j hj
      rw [Nat.zero_add] at this
      exact this
    refine ym_y135 hn hW (by omega) (fun j hj => by rw [eT j hj]; exact ar_cast _) ?_
    rw [em_cg eT]
    have := h (ef_f 64 (bs_c a) brv 0 S)
    rw [← eS] at this
    exact this
  have lo : ∀ r k, k + r = bs_M ycp → bs_n a r k = bs_n a (bs_M ycp) 0 → wY_renderDir_63 post a 115 (nI W) (yb_b lf) yfl yil yol (nI n) ycap ymk yen yac yec ypos yco yde ydp ydw ydq ywd ypr yit ym1 ym2 ym3 ym4 ym5 yws yps ylg ycv ycm ycs ycx ycu ysq ysv ycw ycp ycn (r + 1) (nI k) (nI k) bf bi bo btm (ef_f 64 (bs_c a) brv 0 k) ba brs := by
    intro r
    induction r with
    | zero =>
      intro k hk e
      have f := fin k e (by omega)
      refine br_t rfl (pk_le 8 k (fun _ => f) (fun h8 => nm_r (e' := bs_b a (nI k)) rfl ⟨fun _ => f, fun _ => ?_⟩))
      unfold bs_M at hk
      rcases hP with z | ⟨q, hq, ep⟩
      · rw [if_pos z] at hk; omega
      · have z : ¬ ycp = -1 := by rw [ep]; exact us_n1 (by omega)
        rw [if_neg z] at hk
        by_cases z8 : ycp ≤ 8
        · rw [if_pos z8, ep, nI_clamp (by omega)] at hk
          subst ep
          exact br_f (nI_pos (by omega)) (br_f (nI_nlt (by omega) (by omega)) f)
        · rw [if_neg z8] at hk; omega
    | succ r ih =>
      intro k hk e
      refine br_t rfl (br_f (nI_ge (b := 8) (by omega) (by decide)) (nm_r (e' := bs_b a (nI k)) rfl ?_))
      have ek : bs_n a (r + 1) k = if bs_b a (nI k) = 0 then k else bs_n a r (k + 1) := rfl
      rw [ek] at e
      by_cases z : bs_b a (nI k) = 0
      · rw [if_pos z] at e
        exact br_t z (fin k e (by omega))
      · rw [if_neg z] at e
        refine br_f z ?_
        have next : wY_renderDir_115 post (wY_renderDir_63 post a 115 (nI W) (yb_b lf) yfl yil yol (nI n) ycap ymk yen yac yec ypos yco yde ydp ydw ydq ywd ypr yit ym1 ym2 ym3 ym4 ym5 yws yps ylg ycv ycm ycs ycx ycu ysq ysv ycw ycp ycn (r + 1)) a 115 (nI W) (yb_b lf) (nI k) (nI k) (bs_b a (nI k)) yfl yil yol (nI n) ycap ymk yen yac yec ypos yco yde ydp ydw ydq ywd ypr yit ym1 ym2 ym3 ym4 ym5 yws yps ylg ycv ycm ycs ycx ycu ysq ysv ycw ycp ycn bf bi bo btm (ef_f 64 (bs_c a) brv 0 k) ba brs := by
          refine ⟨vp_in_nI (by omega) (by omega), nm_r (e' := ef_f 64 (bs_c a) brv 0 (k + 1)) ?_ (nm_r (nI_1 k) (nm_r (nI_1 k) (ih (k + 1) (by omega) e)))⟩
          rw [nI_clamp (by omega), ar_nar (ar_cast _)]
          show _ = ef_x 64 (ef_f 64 (bs_c a) brv 0 k) (0 + k) (bs_c a k)
          rw [Nat.zero_add, ef_xt (by omega)]
          rfl
        rcases hP with y | ⟨q, hq, ep⟩
        · exact br_t (by rw [y]; decide) next
        · have hkq : k < q := by
            unfold bs_M at hk
            have y : ¬ ycp = -1 := by rw [ep]; exact us_n1 (by omega)
            rw [if_neg y] at hk
            by_cases z8 : ycp ≤ 8
            · rw [if_pos z8, ep, nI_clamp (by omega)] at hk; omega
            · rw [if_neg z8] at hk
              have : ¬ nI q ≤ nI 8 := by rw [← ep]; exact z8
              rw [nI_leI (by omega) (by decide)] at this
              omega
          subst ep
          exact br_f (nI_pos (by omega)) (br_t (nI_lt hkq (by omega)) next)
  exact ⟨bs_M ycp + 1, lo (bs_M ycp) 0 (by omega) rfl⟩
theorem ym_39 {post : SY → Prop} {n W : Nat} {lf : Bool} {a : Int64} {c : Int32} (hc : c = 99 ∨ c = 115) (hn : n < 2 ^ 20) (hW : W ≤ 99) (hP : pv_ok ycp) (g m C : Nat) (h : ∀ brv, post (yfl, yil, yol, nI (n + (W - tx_n c g m ycp lf W a C) + tx_n c g m ycp lf W a C), ycap, ymk, yen, yac, yec, ypos, yco, yde, ydp, ydw, ydq, ywd, ypr, yit, ym1, ym2, ym3, ym4, ym5, yws, yps, ylg, ycv, ycm, ycs, ycx, ycu, ysq, ysv, ycw, ycp, ycn, bf, bi, bo, em_o lf W (tx_n c g m ycp lf W a C) (tx_T c g m ycp lf W a C) btm n, brv, ba, brs)) : wY_renderDir_39 post a c (nI W) (yb_b lf) yfl yil yol (nI n) ycap ymk yen yac yec ypos yco yde ydp ydw ydq ywd ypr yit ym1 ym2 ym3 ym4 ym5 yws yps ylg ycv ycm ycs ycx ycu ysq ysv ycw ycp ycn bf bi bo btm brv ba brs := by
  rcases hc with rfl | rfl
  · have e1 : tx_n 99 g m ycp lf W a C = 1 := if_pos rfl
    have e2 : tx_T 99 g m ycp lf W a C = fun _ => (a.toInt32.toUInt32 % 65536).toInt32 := if_pos rfl
    rw [e1, e2] at h
    refine br_t rfl (nm_r (e' := upd brv 0 (a.toInt32.toUInt32 % 65536).toInt32) (by rw [ar_nar (ar_cast _)]) ⟨1, br_f (by decide) (ym_y135 (tl := 1) hn hW (by omega) (fun j hj => ?_) ?_)⟩)
    · rw [show j = 0 by omega, pk_us]; exact ar_cast _
    · rw [em_cg (T' := fun _ => (a.toInt32.toUInt32 % 65536).toInt32) (fun j hj => by rw [show j = 0 by omega, pk_us])]
      exact h _
  · have e1 : tx_n 115 g m ycp lf W a C = bs_n a (bs_M ycp) 0 := by unfold tx_n; rw [if_neg (by decide), if_pos rfl]
    have e2 : tx_T 115 g m ycp lf W a C = bs_c a := by unfold tx_T; rw [if_neg (by decide), if_pos rfl]
    rw [e1, e2] at h
    exact br_f (by decide) (ym_63 hn hW hP h)
end
end
section
/-! the reference: numbers -/
/-- the reference's step of a digit -/
theorem dt_y {R b : Nat} (hb : 0 < b) : (R / b % 2 = 0 ∧ R / 2 / b * 2 = R / b ∧ R - R / 2 / b * 2 * b = R % b) ∨ (R / b % 2 = 1 ∧ R / 2 / b * 2 + 1 = R / b ∧ R - R / 2 / b * 2 * b = R % b + b) := by
  have e1 : R / 2 / b = R / b / 2 := by rw [Nat.div_div_eq_div_mul, Nat.div_div_eq_div_mul, Nat.mul_comm]
  have e2 := Nat.div_add_mod' R b
  rw [e1]
  have h : R / b % 2 = 0 ∨ R / b % 2 = 1 := by omega
  rcases h with h | h
  · have e3 : R / b / 2 * 2 = R / b := by omega
    rw [e3]
    exact Or.inl ⟨h, rfl, by omega⟩
  · have e3 : R / b / 2 * 2 + 1 = R / b := by omega
    refine Or.inr ⟨h, e3, ?_⟩
    have e4 : R / b * b = R / b / 2 * 2 * b + b := by rw [← e3, Nat.add_mul, Nat.one_mul, e3]
    omega
def nt_cs (c : Int32) (N b : Nat) : Nat → Int32 := fun j => nt_dc c (N / b ^ j % b)
theorem nt_48 {c : Int32} {d : Nat} (hd : d < 16) : nt_dc c d = 48 ↔ d = 0 := by
  unfold nt_dc
  constructor
  · intro h
    by_cases a : d < 10
    · rw [if_pos a] at h
      have := (nI_eq (b := 48) (by omega) (by decide)).mp h
      omega
    · rw [if_neg a] at h
      by_cases c8 : c = 88
      · rw [if_pos c8] at h
        have := (nI_eq (b := 48) (by omega) (by decide)).mp h
        omega
      · rw [if_neg c8] at h
        have := (nI_eq (b := 48) (by omega) (by decide)).mp h
        omega
  · intro h; rw [h, if_pos (by omega)]; rfl
section
variable {yfl yil yol ytl ycap ymk yen yac yec ypos yco yde ydp ydw ydq ywd ypr yit ym1 ym2 ym3 ym4 ym5 yws yps ylg ycv ycm ycs ycx ycu ysq ysv ycw ycp ycn : Int32} {bf bi bo btm brv : Nat → Int32} {ba brs : Nat → Int64}
/-- prefix, zeros, digits and the blanks behind them -/
theorem ym_652 {post : SY → Prop} {n W z nd N : Nat} {c sg hx : Int32} {v : Int64} {m : Nat} {lf : Bool} (hn : n < 2 ^ 21) (hW : W ≤ 99) (hc : ar_ch c) (hb : ¬ cv_b c = 0) (hnd : nd ≤ 22) (ht : nt_pl c m v + z + nd ≤ 128) (es : sg = nt_sg c m v) (ex : hx = 0 ↔ ¬ nt_hx c m v) (h100 : nt_hx c m v → nt_sg c m v = 0)
    (hr : ∀ j, j < nd → brv j = nt_cs c N (cv_b c) j)
    (h : post (yfl, yil, yol, (if lf = true then nI (n + (nt_pl c m v + z + nd) + (W - (nt_pl c m v + z + nd))) else nI (n + (nt_pl c m v + z + nd))), ycap, ymk, yen, yac, yec, ypos, yco, yde, ydp, ydw, ydq, ywd, ypr, yit, ym1, ym2, ym3, ym4, ym5, yws, yps, ylg, ycv, ycm, ycs, ycx, ycu, ysq, ysv, ycw, ycp, ycn, bf, bi, bo, (if lf = true then ef_f 256 (fun _ => 32) (ef_f 256 (nt_T c m v N z nd) btm n (nt_pl c m v + z + nd)) (n + (nt_pl c m v + z + nd)) (W - (nt_pl c m v + z + nd)) else ef_f 256 (nt_T c m v N z nd) btm n (nt_pl c m v + z + nd)), brv, ba, brs)) :
    wY_renderDir_652 post c (nI W) (yb_b lf) sg (nI nd) (nI z) hx (nI (nt_pl c m v + z + nd)) yfl yil yol (nI n) ycap ymk yen yac yec ypos yco yde ydp ydw ydq ywd ypr yit ym1 ym2 ym3 ym4 ym5 yws yps ylg ycv ycm ycs ycx ycu ysq ysv ycw ycp ycn bf bi bo btm brv ba brs := by
  have h2 := nt_pl2 c m v
  have c32 : ar_ch 32 := ⟨32, by decide, rfl⟩
  have c48 : ar_ch 48 := ⟨48, by decide, rfl⟩
  have hk := sb_k (W := W) (t := nt_pl c m v + z + nd) (by omega) (by omega)
  rw [nt_split] at h
  have dig : ∀ (B : Nat → Int32) (k : Nat), post (yfl, yil, yol, (if lf = true then nI (n + (nt_pl c m v + z + nd) + (W - (nt_pl c m v + z + nd))) else nI (n + (nt_pl c m v + z + nd))), ycap, ymk, yen, yac, yec, ypos, yco, yde, ydp, ydw, ydq, ywd, ypr, yit, ym1, ym2, ym3, ym4, ym5, yws, yps, ylg, ycv, ycm, ycs, ycx, ycu, ysq, ysv, ycw, ycp, ycn, bf, bi, bo, (if lf = true then ef_f 256 (fun _ => 32) (ef_f 256 (nt_dg c N nd) B (n + nt_pl c m v + z) nd) (n + (nt_pl c m v + z + nd)) (W - (nt_pl c m v + z + nd)) else ef_f 256 (nt_dg c N nd) B (n + nt_pl c m v + z) nd), brv, ba, brs) → ∀ j, k + j = nd → wY_renderDir_693 post (nI W) (yb_b lf) (nI (nt_pl c m v + z + nd)) (k + 1) (nI k - 1) yfl yil yol (nI (n + nt_pl c m v + z + j)) ycap ymk yen yac yec ypos yco yde ydp ydw ydq ywd ypr yit ym1 ym2 ym3 ym4 ym5 yws yps ylg ycv ycm ycs ycx ycu ysq ysv ycw ycp ycn bf bi bo (ef_f 256 (nt_dg c N nd) B (n + nt_pl c m v + z) j) brv ba brs := by
    intro B k hp
    induction k with
    | zero =>
      intro j hj
      have e1 : j = nd := by omega
      subst e1
      refine br_t (by decide) ?_
      have e2 : n + nt_pl c m v + z + j = n + (nt_pl c m v + z + j) := by omega
      rw [e2]
      cases lf with
      | false => exact br_t rfl hp
      | true => exact br_f (by decide) (ym_pd (k := W - (nt_pl c m v + z + j)) (by omega) (by omega) c32 hk hp)
    | succ k ih =>
      intro j hj
      have em : nI (k + 1) - 1 = nI k := nI_pred k
      have en : nI k + -1 = nI k - 1 := (Int32.sub_eq_add_neg _ _).symm
      have ec : brv k = nt_dg c N nd j := by
        rw [hr k (by omega)]
        unfold nt_dg nt_cs
        rw [show nd - 1 - j = k by omega]
      rw [em]
      exact br_f (nI_pos (by omega)) ⟨vp_in_nI (by omega) (by omega), ym_em (nt_dg c N nd j) (by rw [nI_clamp (by omega)]; exact ec) (by omega) (nt_dgc hb N nd j) (nm_r en (ih (j + 1) (by omega)))⟩
  have k679 : wY_renderDir_679 post (nI W) (yb_b lf) (nI nd) (nI z) (nI (nt_pl c m v + z + nd)) yfl yil yol (nI (n + nt_pl c m v)) ycap ymk yen yac yec ypos yco yde ydp ydw ydq ywd ypr yit ym1 ym2 ym3 ym4 ym5 yws yps ylg ycv ycm ycs ycx ycu ysq ysv ycw ycp ycn bf bi bo (ef_f 256 (nt_pre c m v) btm n (nt_pl c m v)) brv ba brs := by
    unfold wY_renderDir_679
    exact ym_pd (k := z) (by omega) (by omega) c48 (Or.inl rfl) (nm_e ⟨nd + 1, dig _ nd h 0 (by omega)⟩)
  by_cases x : nt_hx c m v
  · have s0 : sg = 0 := es.trans (h100 x)
    have a1 : nt_pl c m v = 2 := if_pos x
    have a2 : nt_pre c m v 0 = 48 := by unfold nt_pre; rw [if_pos x, if_pos rfl]
    have a3 : nt_pre c m v 1 = c := by unfold nt_pre; rw [if_pos x, if_neg (by omega)]
    have e2 : ef_f 256 (nt_pre c m v) btm n 2 = ef_x 256 (ef_x 256 btm n 48) (n + 1) c := by
      show ef_x 256 (ef_x 256 btm (n + 0) (nt_pre c m v 0)) (n + 1) (nt_pre c m v 1) = _
      rw [a2, a3]; rfl
    rw [a1, e2] at k679
    rw [a1]
    exact br_t s0 (br_f (fun y => ex.mp y x) (ym_em 48 rfl (by omega) c48 (ym_em c rfl (by omega) hc k679)))
  · have x0 : hx = 0 := ex.mpr x
    by_cases s0 : nt_sg c m v = 0
    · have a1 : nt_pl c m v = 0 := by unfold nt_pl; rw [if_neg x, if_pos s0]
      rw [a1] at k679 ⊢
      exact br_t (es.trans s0) (br_t x0 k679)
    · have a1 : nt_pl c m v = 1 := by unfold nt_pl; rw [if_neg x, if_neg s0]
      have a2 : nt_pre c m v 0 = nt_sg c m v := by unfold nt_pre; rw [if_neg x]
      have e2 : ef_f 256 (nt_pre c m v) btm n 1 = ef_x 256 btm n (nt_sg c m v) := by
        show ef_x 256 btm (n + 0) (nt_pre c m v 0) = _
        rw [a2]; rfl
      rw [a1, e2] at k679
      rw [a1]
      exact br_f (fun y => s0 (es.symm.trans y)) (ym_em (nt_sg c m v) es (by omega) (nt_sgc c m v) (br_t x0 k679))
theorem ym_626 {post : SY → Prop} {n W z nd N : Nat} {c sg hx : Int32} {v : Int64} {m : Nat} {lf : Bool} (hn : n < 2 ^ 20) (hW : W ≤ 99) (hc : ar_ch c) (hb : ¬ cv_b c = 0) (hnd : nd ≤ 22) (ht : nt_pl c m v + z + nd ≤ 128) (es : sg = nt_sg c m v) (ex : hx = 0 ↔ ¬ nt_hx c m v) (h100 : nt_hx c m v → nt_sg c m v = 0)
    (hr : ∀ j, j < nd → brv j = nt_cs c N (cv_b c) j)
    (h : post (yfl, yil, yol, nI (n + (W - (nt_pl c m v + z + nd)) + (nt_pl c m v + z + nd)), ycap, ymk, yen, yac, yec, ypos, yco, yde, ydp, ydw, ydq, ywd, ypr, yit, ym1, ym2, ym3, ym4, ym5, yws, yps, ylg, ycv, ycm, ycs, ycx, ycu, ysq, ysv, ycw, ycp, ycn, bf, bi, bo, em_o lf W (nt_pl c m v + z + nd) (nt_T c m v N z nd) btm n, brv, ba, brs)) :
    wY_renderDir_626 post c (nI W) (yb_b lf) sg (nI nd) (nI z) hx (nI (nt_pl c m v)) yfl yil yol (nI n) ycap ymk yen yac yec ypos yco yde ydp ydw ydq ywd ypr yit ym1 ym2 ym3 ym4 ym5 yws yps ylg ycv ycm ycs ycx ycu ysq ysv ycw ycp ycn bf bi bo btm brv ba brs := by
  have h2 := nt_pl2 c m v
  have hk := sb_k (W := W) (t := nt_pl c m v + z + nd) (by omega) (by omega)
  refine nm_r (e' := nI (nt_pl c m v + z + nd)) (by rw [nI_add, nI_add]) ?_
  cases lf with
  | false => exact br_t rfl (ym_pd (k := W - (nt_pl c m v + z + nd)) (by omega) (by omega) ⟨32, by decide, rfl⟩ hk (ym_652 (lf := false) (by omega) hW hc hb hnd ht es ex h100 hr h))
  | true =>
    rw [show n + (W - (nt_pl c m v + z + nd)) + (nt_pl c m v + z + nd) = n + (nt_pl c m v + z + nd) + (W - (nt_pl c m v + z + nd)) by omega] at h
    exact br_f (by decide) (ym_652 (lf := true) (by omega) hW hc hb hnd ht es ex h100 hr h)
theorem ym_582 {post : SY → Prop} {n W z1 nd N : Nat} {c sg hx : Int32} {v : Int64} {m : Nat} {lf : Bool} (hn : n < 2 ^ 20) (hW : W ≤ 99) (hc : ar_ch c) (hb : ¬ cv_b c = 0) (hnd : nd ≤ 22) (hz : z1 ≤ 99) (hP : pv_ok ycp) (e4 : ym4 = nI (m / 8 % 2)) (ht : nt_pl c m v + nt_z2 m lf ycp W (nt_pl c m v) z1 nd + nd ≤ 128) (es : sg = nt_sg c m v) (ex : hx = 0 ↔ ¬ nt_hx c m v) (h100 : nt_hx c m v → nt_sg c m v = 0)
    (hr : ∀ j, j < nd → brv j = nt_cs c N (cv_b c) j)
    (h : ∀ z, z = nt_z2 m lf ycp W (nt_pl c m v) z1 nd → post (yfl, yil, yol, nI (n + (W - (nt_pl c m v + z + nd)) + (nt_pl c m v + z + nd)), ycap, ymk, yen, yac, yec, ypos, yco, yde, ydp, ydw, ydq, ywd, ypr, yit, ym1, ym2, ym3, ym4, ym5, yws, yps, ylg, ycv, ycm, ycs, ycx, ycu, ysq, ysv, ycw, ycp, ycn, bf, bi, bo, em_o lf W (nt_pl c m v + z + nd) (nt_T c m v N z nd) btm n, brv, ba, brs)) :
    wY_renderDir_582 post c (nI W) (yb_b lf) sg (nI nd) (nI z1) hx (nI (nt_pl c m v)) yfl yil yol (nI n) ycap ymk yen yac yec ypos yco yde ydp ydw ydq ywd ypr yit ym1 ym2 ym3 ym4 ym5 yws yps ylg ycv ycm ycs ycx ycu ysq ysv ycw ycp ycn bf bi bo btm brv ba brs := by
  have h2 := nt_pl2 c m v
  have fin : ∀ z, z = nt_z2 m lf ycp W (nt_pl c m v) z1 nd → wY_renderDir_626 post c (nI W) (yb_b lf) sg (nI nd) (nI z) hx (nI (nt_pl c m v)) yfl yil yol (nI n) ycap ymk yen yac yec ypos yco yde ydp ydw ydq ywd ypr yit ym1 ym2 ym3 ym4 ym5 yws yps ylg ycv ycm ycs ycx ycu ysq ysv ycw ycp ycn bf bi bo btm brv ba brs := fun z ez => ym_626 hn hW hc hb hnd (by rw [ez]; exact ht) es ex h100 hr (h z ez)
  unfold nt_z2 at fin
  have m2 : m / 8 % 2 < 2 := Nat.mod_lt _ (by decide)
  refine pk_eq (m / 8 % 2) 0 (fun a => ?_) (fun a => ?_) e4
  · exact fin z1 (by rw [if_neg (fun y => by have := y.1; omega)])
  · cases lf with
    | true => exact br_f (by decide) (fin z1 (by rw [if_neg (fun y => y.2.1 rfl)]))
    | false =>
      refine br_t rfl ?_
      rcases hP with p1 | ⟨q, hq, p1⟩
      · refine br_f (by rw [p1]; decide) ?_
        refine pk_le W (nt_pl c m v + z1 + nd) (fun b => ?_) (fun b => nm_r (e' := nI (W - nt_pl c m v - nd)) (by rw [pk_sub (by omega), pk_sub (by omega)]) ?_) rfl (by rw [nI_add, nI_add])
        · exact fin z1 (by rw [if_neg (fun y => by have := y.2.2.2; omega)])
        · exact fin _ (by rw [if_pos ⟨by omega, by decide, p1, b⟩])
      · refine br_t (by rw [p1]; exact nI_pos' (by omega)) (fin z1 ?_)
        rw [if_neg (fun y => ?_)]
        have := y.2.2.1
        rw [p1] at this
        exact us_n1 (by omega) this
theorem ym_530 {post : SY → Prop} {n W z1 nd N : Nat} {c sg : Int32} {v x6 : Int64} {m : Nat} {lf : Bool} (hn : n < 2 ^ 20) (hW : W ≤ 99) (hc : ar_ch c) (hb : ¬ cv_b c = 0) (hnd : nd ≤ 22) (hz : z1 ≤ 99) (hP : pv_ok ycp) (e4 : ym4 = nI (m / 8 % 2)) (e5 : ym5 = nI (m / 16 % 2)) (ev : x6 = 0 ↔ v = 0) (ht : nt_pl c m v + nt_z2 m lf ycp W (nt_pl c m v) z1 nd + nd ≤ 128) (es : sg = nt_sg c m v) (h100 : nt_hx c m v → nt_sg c m v = 0)
    (hr : ∀ j, j < nd → brv j = nt_cs c N (cv_b c) j)
    (h : ∀ z, z = nt_z2 m lf ycp W (nt_pl c m v) z1 nd → post (yfl, yil, yol, nI (n + (W - (nt_pl c m v + z + nd)) + (nt_pl c m v + z + nd)), ycap, ymk, yen, yac, yec, ypos, yco, yde, ydp, ydw, ydq, ywd, ypr, yit, ym1, ym2, ym3, ym4, ym5, yws, yps, ylg, ycv, ycm, ycs, ycx, ycu, ysq, ysv, ycw, ycp, ycn, bf, bi, bo, em_o lf W (nt_pl c m v + z + nd) (nt_T c m v N z nd) btm n, brv, ba, brs)) :
    wY_renderDir_530 post c (nI W) (yb_b lf) x6 sg (nI nd) (nI z1) yfl yil yol (nI n) ycap ymk yen yac yec ypos yco yde ydp ydw ydq ywd ypr yit ym1 ym2 ym3 ym4 ym5 yws yps ylg ycv ycm ycs ycx ycu ysq ysv ycw ycp ycn bf bi bo btm brv ba brs := by
  have b16 : cv_b c = 16 ↔ c = 120 ∨ c = 88 := by
    unfold cv_b
    by_cases a : c = 100 ∨ c = 117
    · rw [if_pos a]
      refine ⟨fun z => absurd z (by decide), fun z => ?_⟩
      rcases a with a | a <;> rcases z with z | z <;> rw [a] at z <;> exact absurd z (by decide)
    · rw [if_neg a]
      by_cases b : c = 120 ∨ c = 88
      · rw [if_pos b]; exact ⟨fun _ => b, fun _ => rfl⟩
      · rw [if_neg b]
        by_cases d : c = 111
        · rw [if_pos d]; exact ⟨fun z => absurd z (by decide), fun z => absurd z b⟩
        · rw [if_neg d]; exact ⟨fun z => absurd z (by decide), fun z => absurd z b⟩
  have no : ¬ nt_hx c m v → wY_renderDir_560 post c (nI W) (yb_b lf) sg (nI nd) (nI z1) yfl yil yol (nI n) ycap ymk yen yac yec ypos yco yde ydp ydw ydq ywd ypr yit ym1 ym2 ym3 ym4 ym5 yws yps ylg ycv ycm ycs ycx ycu ysq ysv ycw ycp ycn bf bi bo btm brv ba brs := by
    intro x
    have k := ym_582 (post := post) (lf := lf) (hx := 0) hn hW hc hb hnd hz hP e4 ht es ⟨fun _ => x, fun _ => rfl⟩ h100 hr h
    refine br_t rfl ?_
    by_cases s0 : nt_sg c m v = 0
    · have a1 : nt_pl c m v = 0 := by unfold nt_pl; rw [if_neg x, if_pos s0]
      rw [a1] at k
      exact br_t (es.trans s0) k
    · have a1 : nt_pl c m v = 1 := by unfold nt_pl; rw [if_neg x, if_neg s0]
      rw [a1] at k
      exact br_f (fun y => s0 (es.symm.trans y)) k
  have yes : nt_hx c m v → wY_renderDir_556 post c (nI W) (yb_b lf) sg (nI nd) (nI z1) yfl yil yol (nI n) ycap ymk yen yac yec ypos yco yde ydp ydw ydq ywd ypr yit ym1 ym2 ym3 ym4 ym5 yws yps ylg ycv ycm ycs ycx ycu ysq ysv ycw ycp ycn bf bi bo btm brv ba brs := by
    intro x
    have k := ym_582 (post := post) (lf := lf) (hx := 1) hn hW hc hb hnd hz hP e4 ht es ⟨fun z => absurd z (by decide), fun z => absurd x z⟩ h100 hr h
    have a1 : nt_pl c m v = 2 := if_pos x
    rw [a1] at k
    exact br_f (by decide) k
  have m2 : m / 16 % 2 < 2 := Nat.mod_lt _ (by decide)
  refine pk_eq (m / 16 % 2) 0 (fun a => no (fun y => by have := y.2.1; omega)) (fun a => ?_) e5
  by_cases v0 : v = 0
  · exact br_t (ev.mpr v0) (no (fun y => y.2.2 v0))
  · refine br_f (fun y => v0 (ev.mp y)) ⟨fun y => yes ⟨b16.mpr (Or.inl y), by omega, v0⟩, fun y1 => ⟨fun y => yes ⟨b16.mpr (Or.inr y), by omega, v0⟩, fun y2 => no (fun y => (b16.mp y.1).elim y1 y2)⟩⟩
end
end
section
/-! the reference: the digits, and the whole conversion -/
section
variable {yfl yil yol ytl ycap ymk yen yac yec ypos yco yde ydp ydw ydq ywd ypr yit ym1 ym2 ym3 ym4 ym5 yws yps ylg ycv ycm ycs ycx ycu ysq ysv ycw ycp ycn : Int32} {bf bi bo btm brv : Nat → Int32} {ba brs : Nat → Int64}
theorem ym_488 {post : SY → Prop} {n W z0 nd N : Nat} {c sg : Int32} {v x6 : Int64} {m : Nat} {lf : Bool} (hn : n < 2 ^ 20) (hW : W ≤ 99) (hc : ar_ch c) (hb : ¬ cv_b c = 0) (hnd : nd ≤ 22) (hz0 : z0 ≤ 99) (hz : nt_z1 c m z0 v nd ≤ 99) (hP : pv_ok ycp) (e4 : ym4 = nI (m / 8 % 2)) (e5 : ym5 = nI (m / 16 % 2)) (ev : x6 = 0 ↔ v = 0) (ht : nt_pl c m v + nt_z2 m lf ycp W (nt_pl c m v) (nt_z1 c m z0 v nd) nd + nd ≤ 128) (es : sg = nt_sg c m v) (h100 : nt_hx c m v → nt_sg c m v = 0)
    (hr : ∀ j, j < nd → brv j = nt_cs c N (cv_b c) j) (htop : 0 < nd → (brv (nd - 1) = 48 ↔ v = 0))
    (h : ∀ z, z = nt_z2 m lf ycp W (nt_pl c m v) (nt_z1 c m z0 v nd) nd → post (yfl, yil, yol, nI (n + (W - (nt_pl c m v + z + nd)) + (nt_pl c m v + z + nd)), ycap, ymk, yen, yac, yec, ypos, yco, yde, ydp, ydw, ydq, ywd, ypr, yit, ym1, ym2, ym3, ym4, ym5, yws, yps, ylg, ycv, ycm, ycs, ycx, ycu, ysq, ysv, ycw, ycp, ycn, bf, bi, bo, em_o lf W (nt_pl c m v + z + nd) (nt_T c m v N z nd) btm n, brv, ba, brs)) :
    wY_renderDir_488 post c (nI W) (yb_b lf) x6 sg (nI nd) (nI z0) yfl yil yol (nI n) ycap ymk yen yac yec ypos yco yde ydp ydw ydq ywd ypr yit ym1 ym2 ym3 ym4 ym5 yws yps ylg ycv ycm ycs ycx ycu ysq ysv ycw ycp ycn bf bi bo btm brv ba brs := by
  have E : nt_z1 c m z0 v nd = if c = 111 ∧ m / 16 % 2 = 1 ∧ ¬ (0 < z0 ∨ (v = 0 ∧ 0 < nd)) then 1 else z0 := rfl
  have same : ¬ (c = 111 ∧ m / 16 % 2 = 1 ∧ ¬ (0 < z0 ∨ (v = 0 ∧ 0 < nd))) → wY_renderDir_530 post c (nI W) (yb_b lf) x6 sg (nI nd) (nI z0) yfl yil yol (nI n) ycap ymk yen yac yec ypos yco yde ydp ydw ydq ywd ypr yit ym1 ym2 ym3 ym4 ym5 yws yps ylg ycv ycm ycs ycx ycu ysq ysv ycw ycp ycn bf bi bo btm brv ba brs := by
    intro q
    rw [if_neg q] at E
    rw [E] at hz ht h
    exact ym_530 hn hW hc hb hnd hz hP e4 e5 ev ht es h100 hr h
  have more : (c = 111 ∧ m / 16 % 2 = 1 ∧ ¬ (0 < z0 ∨ (v = 0 ∧ 0 < nd))) → wY_renderDir_527 post c (nI W) (yb_b lf) x6 sg (nI nd) (nI z0) yfl yil yol (nI n) ycap ymk yen yac yec ypos yco yde ydp ydw ydq ywd ypr yit ym1 ym2 ym3 ym4 ym5 yws yps ylg ycv ycm ycs ycx ycu ysq ysv ycw ycp ycn bf bi bo btm brv ba brs := by
    intro q
    rw [if_pos q] at E
    rw [E] at hz ht h
    have z00 : z0 = 0 := by
      by_cases y : 0 < z0
      · exact absurd (Or.inl y) q.2.2
      · omega
    exact nm_r (e' := nI 1) (by rw [z00]; rfl) (ym_530 (z1 := 1) hn hW hc hb hnd hz hP e4 e5 ev ht es h100 hr h)
  have m2 : m / 16 % 2 < 2 := Nat.mod_lt _ (by decide)
  by_cases c1 : c = 111
  · refine br_t c1 (pk_eq (m / 16 % 2) 0 (fun a => same (fun y => by have := y.2.1; omega)) (fun a => ?_) e5)
    refine pk_lt 0 z0 (fun a => same (fun y => y.2.2 (Or.inl a))) (fun b => pk_le nd 0 (fun d => more ⟨c1, by omega, fun y => by rcases y with y | y <;> omega⟩) (fun d => ?_))
    have e1 : nI nd - 1 = nI (nd - 1) := pk_sub (a := nd) (b := 1) (by omega)
    refine ⟨by rw [e1]; exact vp_in_nI (by omega) (by omega), wk_if (d := v = 0) (by rw [e1, nI_clamp (by omega)]; exact propext (htop d)) (fun v0 => same (fun y => y.2.2 (Or.inr ⟨v0, d⟩))) (fun v0 => more ⟨c1, by omega, fun y => ?_⟩)⟩
    rcases y with y | y
    · omega
    · exact v0 y.1
  · exact br_f c1 (same (fun y => c1 y.1))
theorem ym_468 {post : SY → Prop} {n W nd N : Nat} {c sg : Int32} {v x6 : Int64} {m : Nat} {lf : Bool} (hn : n < 2 ^ 20) (hW : W ≤ 99) (hc : ar_ch c) (hb : ¬ cv_b c = 0) (hnd : nd ≤ 22) (hP : pv_ok ycp) (e4 : ym4 = nI (m / 8 % 2)) (e5 : ym5 = nI (m / 16 % 2)) (ev : x6 = 0 ↔ v = 0) (es : sg = nt_sg c m v) (h100 : nt_hx c m v → nt_sg c m v = 0)
    (hr : ∀ j, j < nd → brv j = nt_cs c N (cv_b c) j) (htop : 0 < nd → (brv (nd - 1) = 48 ↔ v = 0))
    (h : ∀ z, z = tx_z c m ycp lf W v nd → post (yfl, yil, yol, nI (n + (W - (nt_pl c m v + z + nd)) + (nt_pl c m v + z + nd)), ycap, ymk, yen, yac, yec, ypos, yco, yde, ydp, ydw, ydq, ywd, ypr, yit, ym1, ym2, ym3, ym4, ym5, yws, yps, ylg, ycv, ycm, ycs, ycx, ycu, ysq, ysv, ycw, ycp, ycn, bf, bi, bo, em_o lf W (nt_pl c m v + z + nd) (nt_T c m v N z nd) btm n, brv, ba, brs)) :
    wY_renderDir_468 post c (nI W) (yb_b lf) x6 sg (nI nd) yfl yil yol (nI n) ycap ymk yen yac yec ypos yco yde ydp ydw ydq ywd ypr yit ym1 ym2 ym3 ym4 ym5 yws yps ylg ycv ycm ycs ycx ycu ysq ysv ycw ycp ycn bf bi bo btm brv ba brs := by
  have hzb := tx_zb (c := c) (m := m) (lf := lf) (v := v) (nd := nd) hP hW hnd
  have k := ym_488 (post := post) (x6 := x6) (z0 := nt_z0 ycp nd) hn hW hc hb hnd hzb.2.2 hzb.2.1 hP e4 e5 ev (by have := hzb.1; unfold tx_z at this; omega) es h100 hr htop h
  unfold nt_z0 at k
  rcases hP with ep | ⟨q, hq, ep⟩
  · subst ep
    have e0 : (-1 : Int32).toNatClampNeg = 0 := by decide
    rw [e0, Nat.zero_sub] at k
    exact br_t (Int32.le_trans (by decide) (nI_pos' (n := nd) (by omega))) k
  · subst ep
    rw [nI_clamp (by omega)] at k
    refine pk_le q nd (fun a => ?_) (fun a => ?_)
    · rw [show q - nd = 0 by omega] at k
      exact k
    · rw [pk_sub (by omega)]
      exact k
theorem ym_394 {post : SY → Prop} {J : Int32 → Int64 → Int32 → (Nat → Int32) → (Nat → Int32) → (Nat → Int32) → (Nat → Int32) → (Nat → Int32) → (Nat → Int64) → (Nat → Int64) → Prop} {c x4 x5 x10 : Int32} {x6 x8 : Int64} {i d Q : Nat} (hi : i < 64) (hd : d < 16) (hQ : Q < 2 ^ 64)
    (h0 : Q = 0 → wY_renderDir_468 post c x4 x5 x6 x10 (nI (i + 1)) yfl yil yol ytl ycap ymk yen yac yec ypos yco yde ydp ydw ydq ywd ypr yit ym1 ym2 ym3 ym4 ym5 yws yps ylg ycv ycm ycs ycx ycu ysq ysv ycw ycp ycn bf bi bo btm (upd brv i (nt_dc c d)) ba brs) (h1 : ¬ Q = 0 → J (nI (i + 1)) (lN Q) (nI (i + 1)) bf bi bo btm (upd brv i (nt_dc c d)) ba brs) : wY_renderDir_394 post J c x4 x5 x6 x8 x10 (nI i) (nI i) (lN Q) (lN d) yfl yil yol ytl ycap ymk yen yac yec ypos yco yde ydp ydw ydq ywd ypr yit ym1 ym2 ym3 ym4 ym5 yws yps ylg ycv ycm ycs ycx ycu ysq ysv ycw ycp ycn bf bi bo btm brv ba brs := by
  have ei : (lN d).toInt32 = nI d := lN_i d
  have fin : ∀ z : Int32, (z.toUInt32 % 65536).toInt32 = nt_dc c d → wY_renderDir_433 post J c x4 x5 x6 x8 x10 (nI i) (nI i) (lN Q) z yfl yil yol ytl ycap ymk yen yac yec ypos yco yde ydp ydw ydq ywd ypr yit ym1 ym2 ym3 ym4 ym5 yws yps ylg ycv ycm ycs ycx ycu ysq ysv ycw ycp ycn bf bi bo btm brv ba brs := by
    intro z ez
    refine ⟨vp_in_nI hi (by omega), nm_r (e' := upd brv i (nt_dc c d)) (by rw [nI_clamp (by omega), ar_nar (ar_cast _), ez]) (nm_r (nI_1 i) ?_)⟩
    by_cases q : Q = 0
    · exact br_t ((lN_z hQ).mpr q) (h0 q)
    · exact br_f (fun y => q ((lN_z hQ).mp y)) (nm_r (nI_1 i) (h1 q))
  unfold nt_dc at fin
  refine pk_le 10 d (fun a => ?_) (fun a => ?_) rfl ei
  · rw [if_neg (by omega)] at fin
    by_cases c8 : c = 88
    · rw [if_pos c8] at fin
      refine br_t c8 (fin _ ?_)
      rw [ei]; exact dc_uA d hd a
    · rw [if_neg c8] at fin
      refine br_f c8 (fin _ ?_)
      rw [ei]; exact dc_la d hd a
  · rw [if_pos a] at fin
    refine fin _ ?_
    rw [ei]; exact dc_lo d a
theorem ym_352 {post : SY → Prop} {J : Int32 → Int64 → Int32 → (Nat → Int32) → (Nat → Int32) → (Nat → Int32) → (Nat → Int32) → (Nat → Int32) → (Nat → Int64) → (Nat → Int64) → Prop} {c x4 x5 x10 x11 x14 : Int32} {x6 : Int64} {b R : Nat} (hb : 8 ≤ b ∧ b ≤ 16) (hR : R < 2 ^ 64)
    (h : wY_renderDir_394 post J c x4 x5 x6 (lN b) x10 x11 x14 (lN (R / b)) (lN (R % b)) yfl yil yol ytl ycap ymk yen yac yec ypos yco yde ydp ydw ydq ywd ypr yit ym1 ym2 ym3 ym4 ym5 yws yps ylg ycv ycm ycs ycx ycu ysq ysv ycw ycp ycn bf bi bo btm brv ba brs) : wY_renderDir_352 post J c x4 x5 x6 (lN b) x10 x11 (lN R) x14 yfl yil yol ytl ycap ymk yen yac yec ypos yco yde ydp ydw ydq ywd ypr yit ym1 ym2 ym3 ym4 ym5 yws yps ylg ycv ycm ycs ycx ycu ysq ysv ycw ycp ycn bf bi bo btm brv ba brs := by
  have s1 : ((lN R).toUInt64 >>> ((1 : Int32).toInt64.toUInt64 &&& Int64.toUInt64 63)).toInt64 = lN (R / 2) := wb_shr (k := 1) hR (by decide)
  have q1 : lN (R / 2) / lN b = lN (R / 2 / b) := pk_lDiv (by omega) (by omega) (by omega)
  have s2 : lN (R / 2 / b) <<< ((1 : Int32).toInt64 &&& 63) = lN (R / 2 / b * 2) := wb_shl (R / 2 / b) (k := 1) (by decide)
  have hm : R % b < b := Nat.mod_lt _ (by omega)
  have hle : R / 2 / b * 2 * b ≤ R := by
    have e1 := Nat.div_add_mod' R b
    rcases dt_y (R := R) (b := b) (by omega) with ⟨_, e2, _⟩ | ⟨_, e2, _⟩
    · rw [e2]; omega
    · have : R / b * b = R / 2 / b * 2 * b + b := by rw [← e2, Nat.add_mul, Nat.one_mul]
      omega
  refine ⟨lN_nz (by omega) (by omega), nm_r (e' := lN (R / 2 / b * 2)) (by rw [s1, q1, s2]) (nm_r (e' := lN (R - R / 2 / b * 2 * b)) (by rw [lN_mul, lN_sub hle]) ?_)⟩
  rcases dt_y (R := R) (b := b) (by omega) with ⟨_, e2, e3⟩ | ⟨_, e2, e3⟩
  · rw [e3, e2]
    exact br_t ((pk_lLT (by omega) (by omega)).mpr hm) h
  · rw [e3]
    have e4 : lN (R / 2 / b * 2) + 1 = lN (R / b) := by rw [lN_1, e2]
    have e5 : lN (R % b + b) - lN b = lN (R % b) := by rw [lN_sub (by omega), Nat.add_sub_cancel]
    exact br_f (fun y => by have := (pk_lLT (by omega) (by omega)).mp y; omega) (nm_r e4 (nm_r e5 h))
theorem ym_331 {post : SY → Prop} {c x4 x5 x10 : Int32} {N C b : Nat} {x6 : Int64} (hb : 8 ≤ b ∧ b ≤ 16) (hN : N < 2 ^ 64) (hC : dt_C b N C) (hC2 : C ≤ 22) (hz : ¬ (x6 = 0 ∧ ycp = 0)) (h : wY_renderDir_468 post c x4 x5 x6 x10 (nI C) yfl yil yol ytl ycap ymk yen yac yec ypos yco yde ydp ydw ydq ywd ypr yit ym1 ym2 ym3 ym4 ym5 yws yps ylg ycv ycm ycs ycx ycu ysq ysv ycw ycp ycn bf bi bo btm (ef_f 64 (nt_cs c N b) brv 0 C) ba brs) :
    ∀ r i, i + r + 1 = C → wY_renderDir_331 post c x4 x5 x6 (lN b) x10 yfl yil yol ytl ycap ymk yen yac yec ypos yco yde ydp ydw ydq ywd ypr yit ym1 ym2 ym3 ym4 ym5 yws yps ylg ycv ycm ycs ycx ycu ysq ysv ycw ycp ycn (r + 1) (nI i) (lN (N / b ^ i)) (nI i) bf bi bo btm (ef_f 64 (nt_cs c N b) brv 0 i) ba brs := by
  intro r
  induction r with
  | zero =>
    intro i hi
    have hR : N / b ^ i < 2 ^ 64 := Nat.lt_of_le_of_lt (Nat.div_le_self _ _) hN
    have hQ : N / b ^ (i + 1) < 2 ^ 64 := Nat.lt_of_le_of_lt (Nat.div_le_self _ _) hN
    have hm : N / b ^ i % b < b := Nat.mod_lt _ (by omega)
    have z : N / b ^ (i + 1) = 0 := by rw [show i + 1 = C by omega]; exact hC.2.1
    have ef : ef_f 64 (nt_cs c N b) brv 0 (i + 1) = upd (ef_f 64 (nt_cs c N b) brv 0 i) i (nt_dc c (N / b ^ i % b)) := by
      show ef_x 64 _ (0 + i) _ = _
      rw [Nat.zero_add, ef_xt (by omega)]
      rfl
    have step : ∀ J, wY_renderDir_352 post J c x4 x5 x6 (lN b) x10 (nI i) (lN (N / b ^ i)) (nI i) yfl yil yol ytl ycap ymk yen yac yec ypos yco yde ydp ydw ydq ywd ypr yit ym1 ym2 ym3 ym4 ym5 yws yps ylg ycv ycm ycs ycx ycu ysq ysv ycw ycp ycn bf bi bo btm (ef_f 64 (nt_cs c N b) brv 0 i) ba brs := by
      intro J
      refine ym_352 hb hR ?_
      rw [dt_s]
      refine ym_394 (by omega) (by omega) hQ (fun _ => ?_) (fun y => absurd z y)
      rw [← ef, show i + 1 = C by omega]
      exact h
    refine br_f (nI_ge (b := 64) (by omega) (by decide)) ⟨fun y => ⟨fun y2 => absurd ⟨y, y2⟩ hz, fun _ => step _⟩, fun _ => step _⟩
  | succ r ih =>
    intro i hi
    have hR : N / b ^ i < 2 ^ 64 := Nat.lt_of_le_of_lt (Nat.div_le_self _ _) hN
    have hQ : N / b ^ (i + 1) < 2 ^ 64 := Nat.lt_of_le_of_lt (Nat.div_le_self _ _) hN
    have hm : N / b ^ i % b < b := Nat.mod_lt _ (by omega)
    have z : ¬ N / b ^ (i + 1) = 0 := hC.2.2 (i + 1) (by omega) (by omega)
    have ef : ef_f 64 (nt_cs c N b) brv 0 (i + 1) = upd (ef_f 64 (nt_cs c N b) brv 0 i) i (nt_dc c (N / b ^ i % b)) := by
      show ef_x 64 _ (0 + i) _ = _
      rw [Nat.zero_add, ef_xt (by omega)]
      rfl
    have next := ih (i + 1) (by omega)
    rw [ef] at next
    have step : wY_renderDir_352 post (wY_renderDir_331 post c x4 x5 x6 (lN b) x10 yfl yil yol ytl ycap ymk yen yac yec ypos yco yde ydp ydw ydq ywd ypr yit ym1 ym2 ym3 ym4 ym5 yws yps ylg ycv ycm ycs ycx ycu ysq ysv ycw ycp ycn (r + 1)) c x4 x5 x6 (lN b) x10 (nI i) (lN (N / b ^ i)) (nI i) yfl yil yol ytl ycap ymk yen yac yec ypos yco yde ydp ydw ydq ywd ypr yit ym1 ym2 ym3 ym4 ym5 yws yps ylg ycv ycm ycs ycx ycu ysq ysv ycw ycp ycn bf bi bo btm (ef_f 64 (nt_cs c N b) brv 0 i) ba brs := by
      refine ym_352 hb hR ?_
      rw [dt_s]
      exact ym_394 (by omega) (by omega) hQ (fun y => absurd y z) (fun _ => next)
    refine br_f (nI_ge (b := 64) (by omega) (by decide)) ⟨fun y => ⟨fun y2 => absurd ⟨y, y2⟩ hz, fun _ => step⟩, fun _ => step⟩
/-- the digits and all behind them -/
theorem ym_go {post : SY → Prop} {n W C : Nat} {c sg : Int32} {v : Int64} {m : Nat} {lf : Bool} (hn : n < 2 ^ 20) (hW : W ≤ 99) (hc : ar_ch c) (hb : ¬ cv_b c = 0) (hP : pv_ok ycp) (e4 : ym4 = nI (m / 8 % 2)) (e5 : ym5 = nI (m / 16 % 2)) (es : sg = nt_sg c m v)
    (hC : dt_C (cv_b c) (nt_N c v) C) (hC2 : C ≤ 22)
    (h : ∀ nd z, nd = nt_nd v ycp C → z = tx_z c m ycp lf W v nd → ∀ brv, post (yfl, yil, yol, nI (n + (W - (nt_pl c m v + z + nd)) + (nt_pl c m v + z + nd)), ycap, ymk, yen, yac, yec, ypos, yco, yde, ydp, ydw, ydq, ywd, ypr, yit, ym1, ym2, ym3, ym4, ym5, yws, yps, ylg, ycv, ycm, ycs, ycx, ycu, ysq, ysv, ycw, ycp, ycn, bf, bi, bo, em_o lf W (nt_pl c m v + z + nd) (nt_T c m v (nt_N c v) z nd) btm n, brv, ba, brs)) :
    ∃ k, wY_renderDir_331 post c (nI W) (yb_b lf) (nt_M c v) (lN (cv_b c)) sg yfl yil yol (nI n) ycap ymk yen yac yec ypos yco yde ydp ydw ydq ywd ypr yit ym1 ym2 ym3 ym4 ym5 yws yps ylg ycv ycm ycs ycx ycu ysq ysv ycw ycp ycn k 0 (nt_M c v) 0 bf bi bo btm brv ba brs := by
  have hb2 : 8 ≤ cv_b c ∧ cv_b c ≤ 16 := by rcases cv_b16 c with e | e | e | e <;> omega
  have hN := nt_Nb c v
  have h100 : nt_hx c m v → nt_sg c m v = 0 := by
    intro x
    unfold nt_sg
    by_cases c1 : c = 100
    · have := x.1
      rw [c1] at this
      exact absurd this (by decide)
    · rw [if_neg c1]
  by_cases z : v = 0 ∧ ycp = 0
  · have e0 : nt_nd v ycp C = 0 := if_pos z
    refine ⟨1, br_f (by decide) (br_t ((nt_M0 c v).mpr z.1) (br_t z.2 ?_))⟩
    exact ym_468 (nd := 0) (N := nt_N c v) hn hW hc hb (by omega) hP e4 e5 (nt_M0 c v) es h100 (fun j hj => absurd hj (by omega)) (fun y => absurd y (by omega)) (fun z' ez => h 0 z' e0.symm ez _)
  · have e0 : nt_nd v ycp C = C := if_neg z
    have hr : ∀ j, j < C → ef_f 64 (nt_cs c (nt_N c v) (cv_b c)) brv 0 C j = nt_cs c (nt_N c v) (cv_b c) j := fun j hj => by
      have := ef_at 64 (nt_cs c (nt_N c v) (cv_b c)) brv 0 C (by omega) j hj
      rw [Nat.zero_add] at this
      exact this
    have htop : 0 < C → (ef_f 64 (nt_cs c (nt_N c v) (cv_b c)) brv 0 C (C - 1) = 48 ↔ v = 0) := by
      intro hC0
      rw [hr (C - 1) (by omega)]
      have hm : nt_N c v / cv_b c ^ (C - 1) % cv_b c < cv_b c := Nat.mod_lt _ (by omega)
      show nt_dc c (nt_N c v / cv_b c ^ (C - 1) % cv_b c) = 48 ↔ v = 0
      rw [nt_48 (by omega), ← nt_N0 c v]
      constructor
      · intro y
        by_cases w : nt_N c v = 0
        · exact w
        · exact absurd y (dt_top hb2.1 hC w)
      · intro y
        rw [y, Nat.zero_div, Nat.zero_mod]
    have k := ym_331 (post := post) (x6 := nt_M c v) hb2 hN hC hC2 (fun y => z ⟨(nt_M0 c v).mp y.1, y.2⟩) (ym_468 (N := nt_N c v) hn hW hc hb hC2 hP e4 e5 (nt_M0 c v) es h100 hr htop (fun z' ez => h C z' e0.symm ez _)) (C - 1) 0 (by have := hC.1; omega)
    rw [Nat.pow_zero, Nat.div_one, ← nt_NM c v] at k
    exact ⟨_, k⟩
end
end
section
/-! the reference: one conversion -/
section
variable {yfl yil yol ytl ycap ymk yen yac yec ypos yco yde ydp ydw ydq ywd ypr yit ym1 ym2 ym3 ym4 ym5 yws yps ylg ycv ycm ycs ycx ycu ysq ysv ycw ycp ycn : Int32} {bf bi bo btm brv : Nat → Int32} {ba brs : Nat → Int64}
theorem ym_rd {post : SY → Prop} {n W C g m j : Nat} {lf : Bool} (hj : j < 8) (hn : n < 2 ^ 20) (hW : W ≤ 99) (hg : g = 0 ∨ g = 1) (hc : ar_ch ycv) (hok : cv_t ycv ∨ ¬ cv_b ycv = 0) (hP : pv_ok ycp) (hC2 : C ≤ 22)
    (hC : ¬ cv_b ycv = 0 → dt_C (cv_b ycv) (nt_N ycv (nt_v ycv g (ba j))) C)
    (h : ∀ brv, post (yfl, yil, yol, nI (n + (W - tx_n ycv g m ycp lf W (ba j) C) + tx_n ycv g m ycp lf W (ba j) C), ycap, ymk, yen, yac, yec, ypos, yco, yde, ydp, ydw, ydq, ywd, ypr, yit, ym1, nI (m / 2 % 2), nI (m / 4 % 2), nI (m / 8 % 2), nI (m / 16 % 2), yws, yps, nI g, ycv, ycm, ycs, ycx, ycu, ysq, nI j, nI W, ycp, yb_b lf, bf, bi, bo, em_o lf W (tx_n ycv g m ycp lf W (ba j) C) (tx_T ycv g m ycp lf W (ba j) C) btm n, brv, ba, brs)) :
    wpY_renderDir post (yfl, yil, yol, nI n, ycap, ymk, yen, yac, yec, ypos, yco, yde, ydp, ydw, ydq, ywd, ypr, yit, ym1, nI (m / 2 % 2), nI (m / 4 % 2), nI (m / 8 % 2), nI (m / 16 % 2), yws, yps, nI g, ycv, ycm, ycs, ycx, ycu, ysq, nI j, nI W, ycp, yb_b lf, bf, bi, bo, btm, brv, ba, brs) := by
  refine ⟨vp_in_nI hj (by decide), nm_r (e' := ba j) (by rw [nI_clamp (by omega)]) ?_⟩
  by_cases c1 : ycv = 99
  · exact br_t c1 (ym_39 (Or.inl c1) hn hW hP g m C h)
  refine br_f c1 ?_
  by_cases c2 : ycv = 115
  · exact br_t c2 (ym_39 (Or.inr c2) hn hW hP g m C h)
  refine br_f c2 ?_
  have hb : ¬ cv_b ycv = 0 := hok.elim (fun z => absurd z (fun y => y.elim c1 c2)) id
  have hC := hC hb
  unfold tx_n tx_T at h
  rw [if_neg c1, if_neg c2, if_neg c1, if_neg c2] at h
  have m1 : m / 2 % 2 < 2 := Nat.mod_lt _ (by decide)
  have m2 : m / 4 % 2 < 2 := Nat.mod_lt _ (by decide)
  have go : ∀ v : Int64, nt_v ycv g (ba j) = v → ∀ sg : Int32, sg = nt_sg ycv m v → ∃ k, wY_renderDir_331 post ycv (nI W) (yb_b lf) (nt_M ycv v) (lN (cv_b ycv)) sg yfl yil yol (nI n) ycap ymk yen yac yec ypos yco yde ydp ydw ydq ywd ypr yit ym1 (nI (m / 2 % 2)) (nI (m / 4 % 2)) (nI (m / 8 % 2)) (nI (m / 16 % 2)) yws yps (nI g) ycv ycm ycs ycx ycu ysq (nI j) (nI W) ycp (yb_b lf) k 0 (nt_M ycv v) 0 bf bi bo btm brv ba brs := by
    intro v ev sg es
    rw [ev] at h hC
    exact ym_go hn hW hc hb hP rfl rfl es hC hC2 (fun nd z en ez brv => by rw [ez, en]; exact h brv)
  by_cases c3 : ycv = 100
  · refine br_t c3 ?_
    have k223 : ∀ v : Int64, nt_v ycv g (ba j) = v → wY_renderDir_223 post ycv (nI W) (yb_b lf) 10 0 v yfl yil yol (nI n) ycap ymk yen yac yec ypos yco yde ydp ydw ydq ywd ypr yit ym1 (nI (m / 2 % 2)) (nI (m / 4 % 2)) (nI (m / 8 % 2)) (nI (m / 16 % 2)) yws yps (nI g) ycv ycm ycs ycx ycu ysq (nI j) (nI W) ycp (yb_b lf) bf bi bo btm brv ba brs := by
      intro v ev
      have g1 := go v ev
      have eb : cv_b ycv = 10 := by rw [c3]; rfl
      rw [eb] at g1
      unfold nt_M nt_sg at g1
      rw [if_pos c3] at g1
      by_cases n0 : v < 0
      · have nn : ycv = 100 ∧ v < 0 := ⟨c3, n0⟩
        rw [if_pos n0, if_pos nn] at g1
        exact br_f (Int64.not_le.mpr n0) (nm_e (g1 45 rfl))
      · have nn : ¬ (ycv = 100 ∧ v < 0) := fun y => n0 y.2
        rw [if_neg n0, if_neg nn] at g1
        refine br_t (Int64.not_lt.mp n0) (pk_eq (m / 2 % 2) 0 (fun a => ?_) (fun a => ?_))
        · rw [if_neg (by omega)] at g1
          refine pk_eq (m / 4 % 2) 0 (fun b => ?_) (fun b => ?_)
          · rw [if_neg (by omega)] at g1
            exact g1 0 rfl
          · rw [if_pos (by omega)] at g1
            exact g1 32 rfl
        · rw [if_pos (by omega)] at g1
          exact g1 43 rfl
    rcases hg with g0 | g0
    · rw [g0] at k223 ⊢
      exact br_t rfl (k223 _ (by unfold nt_v; rw [if_neg (by omega), if_pos c3]))
    · rw [g0] at k223 ⊢
      exact br_f (by decide) (k223 _ (by unfold nt_v; rw [if_pos rfl]))
  · refine br_f c3 ?_
    have k288 : ∀ v : Int64, nt_v ycv g (ba j) = v → wY_renderDir_288 post ycv (nI W) (yb_b lf) 10 0 v yfl yil yol (nI n) ycap ymk yen yac yec ypos yco yde ydp ydw ydq ywd ypr yit ym1 (nI (m / 2 % 2)) (nI (m / 4 % 2)) (nI (m / 8 % 2)) (nI (m / 16 % 2)) yws yps (nI g) ycv ycm ycs ycx ycu ysq (nI j) (nI W) ycp (yb_b lf) bf bi bo btm brv ba brs := by
      intro v ev
      have g1 := go v ev 0 (by unfold nt_sg; rw [if_neg c3])
      unfold nt_M at g1
      rw [if_neg (fun y => c3 y.1)] at g1
      by_cases a1 : ycv = 120
      · have eb : cv_b ycv = 16 := by rw [a1]; rfl
        rw [eb] at g1
        exact br_t a1 g1
      refine br_f a1 ?_
      by_cases a2 : ycv = 88
      · have eb : cv_b ycv = 16 := by rw [a2]; rfl
        rw [eb] at g1
        exact br_t a2 g1
      refine br_f a2 ?_
      by_cases a3 : ycv = 111
      · have eb : cv_b ycv = 8 := by rw [a3]; rfl
        rw [eb] at g1
        exact br_t a3 g1
      · have eb : cv_b ycv = 10 := by
          rcases cv_cases hok with y | y | y | y | y | y | y
          · exact absurd y c1
          · exact absurd y c2
          · exact absurd y c3
          · rw [y]; rfl
          · exact absurd y a1
          · exact absurd y a2
          · exact absurd y a3
        rw [eb] at g1
        exact br_f a3 g1
    rcases hg with g0 | g0
    · rw [g0] at k288 ⊢
      exact br_t rfl (k288 _ (by unfold nt_v; rw [if_neg (by omega), if_neg c3]))
    · rw [g0] at k288 ⊢
      exact br_f (by decide) (k288 _ (by unfold nt_v; rw [if_pos rfl]))
end
end
section
/-! render: both walk in step -/
section
variable {cap xfl xol xil xrm xsp xco xec xat xlt xcu xwu xpu xvu xdc xsu xpo xdl xtl xbu : Int32} {xsv : Int64} {af ao ai ak als ale afl awd apr aws aps avs ali adr atx adg : Nat → Int32} {aa ar : Nat → Int64}
theorem xm_79 {post : Int32 → SX → Prop} {n : Nat} (hn : n ≤ 256) (hc : ∀ j, ar_ch (adr j)) (h : post (nI n) (cap, xfl, nI n, xil, xrm, xsp, xco, xec, xat, xlt, xcu, xwu, xpu, xvu, xdc, xsu, xpo, nI n, xtl, xbu, xsv, af, aa, ef_f 256 adr ao 0 n, ai, ar, ak, als, ale, afl, awd, apr, aws, aps, avs, ali, adr, atx, adg)) : ∀ r i, i + r = n → wX_render_79 post cap xfl xol xil xrm xsp xco xec xat xlt xcu xwu xpu xvu xdc xsu xpo (nI n) xtl xbu xsv (r + 1) (nI i) af aa (ef_f 256 adr ao 0 i) ai ar ak als ale afl awd apr aws aps avs ali adr atx adg := by
  intro r
  induction r with
  | zero =>
    intro i hi
    have e : i = n := by omega
    subst e
    exact br_t (nI_le (by omega) (by omega)) h
  | succ r ih =>
    intro i hi
    have e : (nI i).toNatClampNeg = i := nI_clamp (by omega)
    have vi : vp_in (nI i) 256 := vp_in_nI (by omega) (by omega)
    refine br_f (nI_ge (by omega) (by omega)) ⟨vi, vi, nm_r (e' := ef_f 256 adr ao 0 (i + 1)) ?_ (nm_r (nI_1 i) (ih (i + 1) (by omega)))⟩
    rw [e, ar_nar (hc i)]
    show _ = ef_x 256 (ef_f 256 adr ao 0 i) (0 + i) (adr i)
    rw [Nat.zero_add, ef_xt (by omega)]
end
section
variable {yfl yil yol ytl ycap ymk yen yac yec ypos yco yde ydp ydw ydq ywd ypr yit ym1 ym2 ym3 ym4 ym5 yws yps ylg ycv ycm ycs ycx ycu ysq ysv ycw ycp ycn : Int32} {bf bi bo btm brv : Nat → Int32} {ba brs : Nat → Int64}
theorem ym_114 {post : Int32 → SY → Prop} {n : Nat} (hn : n ≤ 256) (hc : ∀ j, ar_ch (btm j)) (h : post (nI n) (yfl, yil, nI n, nI n, ycap, ymk, yen, yac, yec, ypos, yco, yde, ydp, ydw, ydq, ywd, ypr, yit, ym1, ym2, ym3, ym4, ym5, yws, yps, ylg, ycv, ycm, ycs, ycx, ycu, ysq, ysv, ycw, ycp, ycn, bf, bi, ef_f 256 btm bo 0 n, btm, brv, ba, brs)) : ∀ r i, i + r = n → wY_render_114 post yfl yil yol (nI n) ycap ymk yen yac yec ypos yco yde ydp ydw ydq ywd ypr yit ym1 ym2 ym3 ym4 ym5 yws yps ylg ycv ycm ycs ycx ycu ysq ysv ycw ycp ycn (r + 1) (nI i) bf bi (ef_f 256 btm bo 0 i) btm brv ba brs := by
  intro r
  induction r with
  | zero =>
    intro i hi
    have e : i = n := by omega
    subst e
    exact br_t (nI_le (by omega) (by omega)) h
  | succ r ih =>
    intro i hi
    have e : (nI i).toNatClampNeg = i := nI_clamp (by omega)
    have vi : vp_in (nI i) 256 := vp_in_nI (by omega) (by omega)
    refine br_f (nI_ge (by omega) (by omega)) (br_f (nI_ge (b := 256) (by omega) (by decide)) ⟨vi, vi, nm_r (e' := ef_f 256 btm bo 0 (i + 1)) ?_ (nm_r (nI_1 i) (ih (i + 1) (by omega)))⟩)
    rw [e, ar_nar (hc i)]
    show _ = ef_x 256 (ef_f 256 btm bo 0 i) (0 + i) (btm i)
    rw [Nat.zero_add, ef_xt (by omega)]
end
section
variable {C L O N E T : Nat} {xrm xsp xat xlt xcu xwu xpu xvu xdc xsu xpo xbu yac ypos ycm ycs ycx ycu : Int32} {xsv : Int64} {af ao ai ak als ale afl awd apr aws aps avs ali : Nat → Int32} {aa ar : Nat → Int64} {pe se : Nat → Nat}
theorem rd_lit (hL : L ≤ 64) (hf : ∀ j, ar_ch (af j)) (G : (Int32 → SY → Prop) → Prop) {e s' cnt : Nat} {q : Nat → Nat} (he : e < 64) (hs : s' + cnt ≤ 64) (h2 : ale e = nI (s' + cnt)) (rj : ∀ j, j < cnt → it_lit af L (q j) (ali (s' + j)) (q (j + 1))) (sq : Nat) (P : SX → Prop) (n0 : Nat) (hn0 : n0 < 2 ^ 20) (xtl : Int32) (atx adg : Nat → Int32)
    (hP : ∀ (adr : Nat → Int32) (n g : Nat), (∀ j, ar_ch (adr j)) → n ≤ n0 + cnt → g ≤ q cnt → (∀ post : Int32 → SY → Prop, (∃ m, ∀ (yde ydp ydw ydq ywd ypr yit ym1 ym2 ym3 ym4 ym5 yws yps ylg ycv ysv ycw ycp ycn : Int32) (brv : Nat → Int32), wY_render_34 post m (nI (q cnt)) (nI g) (nI L) (nI N) (nI O) (nI n) (nI C) xrm xsp yac (nI E) ypos 1 yde ydp ydw ydq ywd ypr yit ym1 ym2 ym3 ym4 ym5 yws yps ylg ycv ycm ycs ycx ycu (nI sq) ysv ycw ycp ycn af ai ao adr brv aa ar) → G post) → P (nI C, nI L, nI O, nI N, xrm, xsp, 1, nI E, xat, xlt, xcu, xwu, xpu, xvu, xdc, xsu, xpo, nI n, xtl, xbu, xsv, af, aa, ao, ai, ar, ak, als, ale, afl, awd, apr, aws, aps, avs, ali, adr, atx, adg)) :
    ∀ t j (adr : Nat → Int32) (n g : Nat), j + t = cnt → (∀ i, ar_ch (adr i)) → n ≤ n0 + j → g ≤ q j → (∀ post : Int32 → SY → Prop, (∃ m, ∀ (yde ydp ydw ydq ywd ypr yit ym1 ym2 ym3 ym4 ym5 yws yps ylg ycv ysv ycw ycp ycn : Int32) (brv : Nat → Int32), wY_render_34 post m (nI (q j)) (nI g) (nI L) (nI N) (nI O) (nI n) (nI C) xrm xsp yac (nI E) ypos 1 yde ydp ydw ydq ywd ypr yit ym1 ym2 ym3 ym4 ym5 yws yps ylg ycv ycm ycs ycx ycu (nI sq) ysv ycw ycp ycn af ai ao adr brv aa ar) → G post) → wX_draftLiteral_7 P (nI e) (t + 1) (nI (s' + j)) (nI C) (nI L) (nI O) (nI N) xrm xsp 1 (nI E) xat xlt xcu xwu xpu xvu xdc xsu xpo (nI n) xtl xbu xsv af aa ao ai ar ak als ale afl awd apr aws aps avs ali adr atx adg := by
  intro t
  induction t with
  | zero =>
    intro j adr n g hj hc hn hg H
    have e1 : j = cnt := by omega
    subst e1
    exact ⟨vp_in_nI he (by decide), br_t (by rw [nI_clamp (by omega), h2]; exact nI_le (Nat.le_refl _) (by omega)) (hP adr n g hc hn hg H)⟩
  | succ t ih =>
    intro j adr n g hj hc hn hg H
    have hi := rj j (by omega)
    have hlt := hi.1
    have hq := it_q hi
    have hch := it_c hf hi
    refine ⟨vp_in_nI he (by decide), br_f (by rw [nI_clamp (by omega), h2]; exact nI_ge (by omega) (by omega)) ⟨vp_in_nI (by omega) (by omega), xm_dc (ali (s' + j)) (by rw [nI_clamp (by omega)]) (by omega) hch (nm_r (nI_1 (s' + j)) ?_)⟩⟩
    refine ih (j + 1) _ (n + 1) (g + 1) (by omega) (ef_xc 256 hc hch) (by omega) (by omega) ?_
    intro post hm
    obtain ⟨m, hm⟩ := hm
    refine H post ⟨m + 1, ?_⟩
    intro yde ydp ydw ydq ywd ypr yit ym1 ym2 ym3 ym4 ym5 yws yps ylg ycv ysv ycw ycp ycn brv
    exact br_f (nI_ge (b := 64) (by omega) (by decide)) (br_f (nI_ge hlt (by omega)) (ym_itl hL hi (br_t (nI_lt hq.1 (by omega)) (br_f (Int32.not_lt.mpr (ar_pos hch)) (ym_em (ali (s' + j)) (ar_castI hch) (by omega) hch (nm_r (nI_1 g) (hm _ _ _ _ _ _ _ _ _ _ _ _ _ _ _ _ _ _ _ _ _)))))))
theorem rd_lp (k : Nat) (hB1 : C ≤ 256) (hL : L ≤ 64) (hO : O ≤ 256) (hN : N ≤ 256) (hf : ∀ j, ar_ch (af j)) (ho : ∀ j, ar_ch (ao j)) (hE : E ≤ 64) (hT64 : T ≤ 64) (hp : pe E = L) (hT : tb_tab af L T ak als ale afl awd apr aws aps avs ali E pe se) (hRT : rl_T L 1 (nI E) xat yac (nI E) af ak als ale afl awd apr aws aps avs ali) (good : ∀ e, e < E → sg_w aa (aws e) ∧ sg_p aa (aps e)) (G : (Int32 → SY → Prop) → Prop) :
    ∀ r e n g (xtl : Int32) (adr atx adg : Nat → Int32), e + r = E → g ≤ pe e → n ≤ 300 * e → (∀ j, ar_ch (adr j)) →
    (∀ post : Int32 → SY → Prop, (∃ m, ∀ (yde ydp ydw ydq ywd ypr yit ym1 ym2 ym3 ym4 ym5 yws yps ylg ycv ysv ycw ycp ycn : Int32) (brv : Nat → Int32), wY_render_34 post m (nI (pe e)) (nI g) (nI L) (nI N) (nI O) (nI n) (nI C) xrm xsp yac (nI E) ypos 1 yde ydp ydw ydq ywd ypr yit ym1 ym2 ym3 ym4 ym5 yws yps ylg ycv ycm ycs ycx ycu (nI (se e)) ysv ycw ycp ycn af ai ao adr brv aa ar) → G post) →
    wX_render_27 (fun r u' => G (fun r' v' => r' = r ∧ i_Rel k u' v')) (r + 1) (nI e) (nI C) (nI L) (nI O) (nI N) xrm xsp 1 (nI E) xat xlt xcu xwu xpu xvu xdc xsu xpo (nI n) xtl xbu xsv af aa ao ai ar ak als ale afl awd apr aws aps avs ali adr atx adg := by
  intro r
  induction r with
  | zero =>
    intro e n g xtl adr atx adg he hg hn hc H
    have e0 : E = e := by omega
    subst e0
    rw [hp] at hg H
    refine br_t (nI_le (by omega) (by omega)) (pk_le n C (fun a => ?_) (fun a => ?_))
    · refine ⟨n + 1, xm_79 (by omega) hc (H _ ⟨1, ?_⟩) n 0 (by omega)⟩
      intro yde ydp ydw ydq ywd ypr yit ym1 ym2 ym3 ym4 ym5 yws yps ylg ycv ysv ycw ycp ycn brv
      have k98 : wY_render_98 (fun r' v' => r' = nI n ∧ i_Rel k (nI C, nI L, nI n, nI N, xrm, xsp, 1, nI E, xat, xlt, xcu, xwu, xpu, xvu, xdc, xsu, xpo, nI n, xtl, xbu, xsv, af, aa, ef_f 256 adr ao 0 n, ai, ar, ak, als, ale, afl, awd, apr, aws, aps, avs, ali, adr, atx, adg) v') (nI L) (nI N) (nI O) (nI n) (nI C) xrm xsp yac (nI E) ypos 1 yde ydp ydw ydq ywd ypr yit ym1 ym2 ym3 ym4 ym5 yws yps ylg ycv ycm ycs ycx ycu (nI (se E)) ysv ycw ycp ycn af ai ao adr brv aa ar := by
        refine br_t (nI_le a (by omega)) ⟨n + 1, ym_114 (by omega) hc ⟨rfl, ?_⟩ n 0 (by omega)⟩
        exact rl_i k ⟨hB1, hL, by omega, hN, hf, ef_ch 256 0 ho n (fun j _ => hc j), hc⟩ hRT
      exact pk_le 64 g (fun _ => k98) (fun _ => br_t (nI_le (Nat.le_refl _) (by omega)) k98)
    · refine H _ ⟨1, ?_⟩
      intro yde ydp ydw ydq ywd ypr yit ym1 ym2 ym3 ym4 ym5 yws yps ylg ycv ysv ycw ycp ycn brv
      have k98 : wY_render_98 (fun r' v' => r' = (-8) ∧ i_Rel k (nI C, nI L, nI O, nI N, xrm, xsp, 1, nI E, xat, xlt, xcu, xwu, xpu, xvu, xdc, xsu, xpo, nI n, xtl, xbu, xsv, af, aa, ao, ai, ar, ak, als, ale, afl, awd, apr, aws, aps, avs, ali, adr, atx, adg) v') (nI L) (nI N) (nI O) (nI n) (nI C) xrm xsp yac (nI E) ypos 1 yde ydp ydw ydq ywd ypr yit ym1 ym2 ym3 ym4 ym5 yws yps ylg ycv ycm ycs ycx ycu (nI (se E)) ysv ycw ycp ycn af ai ao adr brv aa ar := br_f (nI_ge a (by omega)) ⟨rfl, rl_i k ⟨hB1, hL, hO, hN, hf, ho, hc⟩ hRT⟩
      exact pk_le 64 g (fun _ => k98) (fun _ => br_t (nI_le (Nat.le_refl _) (by omega)) k98)
  | succ r ih =>
    intro e n g xtl adr atx adg he hg hn hc H
    have ve : vp_in (nI e) 64 := vp_in_nI (by omega) (by omega)
    have ee : (nI e).toNatClampNeg = e := nI_clamp (by omega)
    refine br_f (nI_ge (by omega) (by omega)) ⟨ve, ?_⟩
    rcases hT.2.2.1 e (by omega) with ⟨⟨k0, w0, p0, s', cnt, q, h1, h2, h3, n0, r0, r1, rj⟩, es⟩ | hd
    · refine br_t (by rw [ee]; exact k0) ⟨ve, nm_r (e' := nI s') (by rw [ee]; exact h1) ⟨cnt + 1, ?_⟩⟩
      refine rd_lit hL hf G (by omega) (by omega) h2 rj (se e) _ n (by omega) xtl atx adg ?_ cnt 0 adr n g (by omega) hc (by omega) (by rw [r0]; exact hg) (by rw [r0]; exact H)
      intro adr n' g hc' hn' hg' H'
      rw [r1] at hg' H'
      rw [← es] at H'
      exact nm_r (nI_1 e) (ih (e + 1) n' g _ _ _ _ (by omega) hg' (by omega) hc' H')
    · obtain ⟨g1, g2⟩ := tb_good (aa := aa) hd
      have gd := good e (by omega)
      have gw := g1.mp gd.1
      have gp := g2.mp gd.2
      have hd' := hd
      obtain ⟨hpc, hr, hq, hrow⟩ := hd
      have hlt := hpc.1
      have hb := dr_b af hlt
      have hk : dr_k af L (pe e) < L := (pc_ok (dr_ok hr).2.2.2).1
      have kz : ¬ ak e = 0 := by rw [hrow.1]; exact tb_kz (pc_ok (dr_ok hr).2.2.2)
      have et := hrow.2.2.2.2.2.2.2.1
      have e8 := (tb_s8 hd').1
      have hok := (pc_ok (dr_ok hr).2.2.2).2.1
      have hcc := cv_255 (tb_cc hd') (tb_gz af L (pe e))
      have hW := ev_Wb hr gw
      have hP := ev_Pb hr gp
      obtain ⟨j, hj, ej⟩ := sl_in (dr_us hr).2.2 e8
      have ejV : ev_V af L (pe e) (se e) = nI j := ej
      obtain ⟨Cd, hC2, hC⟩ : ∃ Cd, Cd ≤ 22 ∧ (¬ cv_b (dr_c af L (pe e)) = 0 → dt_C (cv_b (dr_c af L (pe e))) (nt_N (dr_c af L (pe e)) (nt_v (dr_c af L (pe e)) (dr_g af L (pe e)) (aa j))) Cd) := by
        by_cases z : cv_b (dr_c af L (pe e)) = 0
        · exact ⟨1, by omega, fun y => absurd z y⟩
        · obtain ⟨Cd, a, b⟩ := dt_ex (b := cv_b (dr_c af L (pe e))) (N := nt_N (dr_c af L (pe e)) (nt_v (dr_c af L (pe e)) (dr_g af L (pe e)) (aa j))) (by rcases cv_b16 (dr_c af L (pe e)) with q | q | q | q <;> omega) (nt_Nb _ _)
          exact ⟨Cd, b, fun _ => a⟩
      have eja : aa (ev_V af L (pe e) (se e)).toNatClampNeg = aa j := by rw [ejV, nI_clamp (by omega)]
      refine br_f (by rw [ee]; exact kz) (xm_cv (C := Cd) (by omega) (by omega) hd' gw gp hC2 (by rw [eja]; exact hC) ?_)
      intro W tl T' eW etl eT xtl' atx' adg'
      rw [eja] at etl eT
      rw [← eW] at hW
      have htl : tl ≤ 128 := by rw [etl]; exact tx_nb hP hW hC2
      refine nm_r (nI_1 e) (ih (e + 1) (n + (W - tl) + tl) (g + 1) _ _ _ _ (by omega) (by omega) (by omega) (em_ch hc (fun j _ => by rw [eT]; exact tx_Tc hcc.2.2 hok j)) ?_)
      intro post hm
      obtain ⟨m, hm⟩ := hm
      rw [hq, et] at hm
      refine H post ⟨m + 1, ?_⟩
      intro yde ydp ydw ydq ywd ypr yit ym1 ym2 ym3 ym4 ym5 yws yps ylg ycv ysv ycw ycp ycn brv
      refine br_f (nI_ge (b := 64) (by omega) (by decide)) (br_f (nI_ge hlt (by omega)) (ym_itd hL hpc hf (fun z => absurd hr z) (fun _ => br_t (nI_lt (by omega) (by omega)) (br_t (by decide) (ym_st hr e8 (fun z => absurd ⟨gw, gp⟩ z) (fun _ _ => ?_))))))
      rw [ejV]
      refine ym_rd (lf := ev_L af L aa (pe e) (se e)) hj (by omega) (by rw [← eW]; exact hW) (tb_gz af L (pe e)) hcc.2.2 hok hP hC2 hC (fun brv => ?_)
      rw [← eW, ← etl, ← eT]
      exact nm_r (nI_1 g) (hm _ _ _ _ _ _ _ _ _ _ _ _ _ _ _ _ _ _ _ _ _)
end
section
variable {yfl yil yol ytl ycap ymk yen yac yec ypos yco yde ydp ydw ydq ywd ypr yit ym1 ym2 ym3 ym4 ym5 yws yps ylg ycv ycm ycs ycx ycu ysq ysv ycw ycp ycn : Int32} {bf bi bo btm brv : Nat → Int32} {ba brs : Nat → Int64}
variable {L T E : Nat} {ak als ale afl awd apr aws aps avs ali : Nat → Int32} {pe se : Nat → Nat}
theorem ym_ck {post : Int32 → SY → Prop} (hL : L ≤ 64) (hE : E ≤ 64) (hf : ∀ j, ar_ch (bf j)) (hT : tb_tab bf L T ak als ale afl awd apr aws aps avs ali E pe se) (hp : pe E = L)
    (h1 : (∀ e, e < E → sg_w ba (aws e) ∧ sg_p ba (aps e)) → ∀ (yde ydp ydw ydq ywd ypr yit ym1 ym2 ym3 ym4 ym5 yws yps ylg ycv : Int32) (ysq ysv ycw ycp ycn : Int32), post 0 (nI L, yil, yol, ytl, ycap, ymk, yen, yac, yec, ypos, yco, yde, ydp, ydw, ydq, ywd, ypr, yit, ym1, ym2, ym3, ym4, ym5, yws, yps, ylg, ycv, ycm, ycs, ycx, ycu, ysq, ysv, ycw, ycp, ycn, bf, bi, bo, btm, brv, ba, brs))
    (h0 : ∀ e0, e0 < E → ¬ (sg_w ba (aws e0) ∧ sg_p ba (aps e0)) → ∀ (yde ydp ydw ydq ywd ypr yit ym1 ym2 ym3 ym4 ym5 yws yps ylg ycv : Int32) (ysq ysv ycw ycp ycn : Int32), post (-5) (nI L, yil, yol, ytl, ycap, ymk, yen, yac, yec, ypos, yco, yde, ydp, ydw, ydq, ywd, ypr, yit, ym1, ym2, ym3, ym4, ym5, yws, yps, ylg, ycv, ycm, ycs, ycx, ycu, ysq, ysv, ycw, ycp, ycn, bf, bi, bo, btm, brv, ba, brs)) : wpY_checkStars post (nI L, yil, yol, ytl, ycap, ymk, yen, yac, yec, ypos, yco, yde, ydp, ydw, ydq, ywd, ypr, yit, ym1, ym2, ym3, ym4, ym5, yws, yps, ylg, ycv, ycm, ycs, ycx, ycu, ysq, ysv, ycw, ycp, ycn, bf, bi, bo, btm, brv, ba, brs) := by
  have k := ym_cs (post := post) hL hE hf hT hp h1 (fun e0 a b _ => h0 e0 a b) E 0 0 (by omega) (by omega) (fun e he => absurd he (by omega)) yde ydp ydw ydq ywd ypr yit ym1 ym2 ym3 ym4 ym5 yws yps ylg ycv ysv ycw ycp ycn
  rw [hT.1, hT.2.1] at k
  exact k
end
theorem i_vc_render {k : Nat} {u : SX} {v : SY} (I : i_Rel k u v) (hk : k + 4 ≤ 2049) : wpX_render (fun r u' => wpY_render (fun r' v' => r' = r ∧ i_Rel (k + 4) u' v') v) u := by
  refine rl_e (P := fun u v => wpX_render (fun r u' => wpY_render (fun r' v' => r' = r ∧ i_Rel (k + 4) u' v') v) u) I ?_
  intro C L O N co xrm xsp xec xat xlt xcu xwu xpu xvu xdc xsu xpo xdl xtl xbu xsv af ao ai ak als ale afl awd apr aws aps avs ali adr atx adg aa ar ytl yac yec ypos yde ydp ydw ydq ywd ypr yit ym1 ym2 ym3 ym4 ym5 yws yps ylg ycv ycm ycs ycx ycu ysq ysv ycw ycp ycn brv hB hT
  have hB' := hB
  have hT' := hT
  obtain ⟨B1, B2, B3, B4, B5, B6, B7⟩ := hB
  rcases hT with z | ⟨z, e, E, T, pe, se, e1, e2, hE, hTT, hp, hT⟩
  · subst z; exact br_t rfl (br_t rfl ⟨rfl, rl_i (k + 4) hB' hT'⟩)
  · subst z; subst e1; subst e2
    refine br_f (by decide) (xm_sg hE (fun e he => tb_slots (hT.2.2.1 e he)) (fun good => br_f (by decide) ?_) (fun e0 he0 hbad hless => br_t rfl (br_f (by decide) ?_)))
    · refine ⟨E + 1, rd_lp (ypos := ypos) (ycm := ycm) (ycs := ycs) (ycx := ycx) (ycu := ycu) (k + 4) B1 B2 B3 B4 B5 B6 hE hTT hp hT hT' good (fun post => wpY_render post (nI L, nI N, nI O, ytl, nI C, xrm, xsp, yac, nI E, ypos, 1, yde, ydp, ydw, ydq, ywd, ypr, yit, ym1, ym2, ym3, ym4, ym5, yws, yps, ylg, ycv, ycm, ycs, ycx, ycu, ysq, ysv, ycw, ycp, ycn, af, ai, ao, adr, brv, aa, ar)) E 0 0 0 xtl adr atx adg (by omega) (by omega) (by omega) B7 ?_⟩
      intro post hm
      obtain ⟨m, hm⟩ := hm
      rw [hT.1, hT.2.1] at hm
      refine br_f (by decide) (ym_ck B2 hE B5 hT hp (fun _ => ?_) (fun e0 a b => absurd (good e0 a) b))
      intro yde ydp ydw ydq ywd ypr yit ym1 ym2 ym3 ym4 ym5 yws yps ylg ycv ysq ysv ycw ycp ycn
      exact br_t rfl ⟨m, hm _ _ _ _ _ _ _ _ _ _ _ _ _ _ _ _ _ _ _ _ _⟩
    · refine ym_ck B2 hE B5 hT hp (fun good => absurd (good e0 he0) hbad) (fun _ _ _ => ?_)
      intro yde ydp ydw ydq ywd ypr yit ym1 ym2 ym3 ym4 ym5 yws yps ylg ycv ysq ysv ycw ycp ycn
      exact br_f (by decide) ⟨rfl, rl_i (k + 4) hB' hT'⟩
end
section
/-! the class: what scan calls -/
theorem st_E0 {f : Nat → Int32} {n b j : Nat} (h : n = 0 ∨ b = 0 ∨ ¬ st_g (f j)) : st_E f n b j = j := by
  cases n with
  | zero => rfl
  | succ n =>
    cases b with
    | zero => rfl
    | succ b =>
      unfold st_E
      rcases h with h | h | h
      · omega
      · omega
      · rw [if_neg h]
theorem st_V0 {f : Nat → Int32} {n b k j : Nat} {v : Int64} (h : n = 0 ∨ b = 0 ∨ ¬ st_g (f j)) : st_V f n b k j v = v := by
  cases n with
  | zero => rfl
  | succ n =>
    cases b with
    | zero => rfl
    | succ b =>
      unfold st_V
      rcases h with h | h | h
      · omega
      · omega
      · rw [if_neg h]
theorem st_E1 {f : Nat → Int32} {n b j : Nat} (h : st_g (f j)) : st_E f (n + 1) (b + 1) j = st_E f n b (j + 1) := by rw [st_E, if_pos h]
theorem st_V1 {f : Nat → Int32} {n b k j : Nat} {v : Int64} (h : st_g (f j)) : st_V f (n + 1) (b + 1) k j v = st_V f n b (k + 1) (j + 1) (v + ((f j).toInt64 <<< ((8 * nI k).toInt64 &&& 63))) := by rw [st_V, if_pos h]
theorem dg_E0 {f : Nat → Int32} {base n b j : Nat} (h : n = 0 ∨ b = 0 ∨ ¬ dv_v (f j) < base) : dg_E f base n b j = j := by
  cases n with
  | zero => rfl
  | succ n =>
    cases b with
    | zero => rfl
    | succ b =>
      unfold dg_E
      rcases h with h | h | h
      · omega
      · omega
      · rw [if_neg h]
theorem dg_V0 {f : Nat → Int32} {base n b j : Nat} {v : Int64} (h : n = 0 ∨ b = 0 ∨ ¬ dv_v (f j) < base) : dg_V f base n b j v = v := by
  cases n with
  | zero => rfl
  | succ n =>
    cases b with
    | zero => rfl
    | succ b =>
      unfold dg_V
      rcases h with h | h | h
      · omega
      · omega
      · rw [if_neg h]
theorem dg_E1 {f : Nat → Int32} {base n b j : Nat} (h : dv_v (f j) < base) : dg_E f base (n + 1) (b + 1) j = dg_E f base n b (j + 1) := by rw [dg_E, if_pos h]
theorem dg_V1 {f : Nat → Int32} {base n b j : Nat} {v : Int64} (h : dv_v (f j) < base) : dg_V f base (n + 1) (b + 1) j v = dg_V f base n b (j + 1) (v * (nI base).toInt64 + (nI (dv_v (f j))).toInt64) := by rw [dg_V, if_pos h]
def cl_f (a : Nat → Int64) : Nat → (Nat → Int64)
  | 0 => a
  | i + 1 => vp_updL (cl_f a i) i 0
section
variable {cap xfl xol xil xrm xsp xco xec xat xlt xcu xwu xpu xvu xdc xsu xpo xdl xtl xbu : Int32} {xsv : Int64} {af ao ai ak als ale afl awd apr aws aps avs ali adr atx adg : Nat → Int32} {aa ar : Nat → Int64}
theorem xm_cr {post : SX → Prop} (h : post (cap, xfl, xol, xil, 0, 0, xco, xec, xat, xlt, xcu, xwu, xpu, xvu, xdc, xsu, xpo, xdl, xtl, xbu, xsv, af, aa, ao, ai, cl_f ar 8, ak, als, ale, afl, awd, apr, aws, aps, avs, ali, adr, atx, adg)) : wpX_clearResults post (cap, xfl, xol, xil, xrm, xsp, xco, xec, xat, xlt, xcu, xwu, xpu, xvu, xdc, xsu, xpo, xdl, xtl, xbu, xsv, af, aa, ao, ai, ar, ak, als, ale, afl, awd, apr, aws, aps, avs, ali, adr, atx, adg) := by
  have lo : ∀ r i, i + r = 8 → wX_clearResults_2 post cap xfl xol xil xrm xsp xco xec xat xlt xcu xwu xpu xvu xdc xsu xpo xdl xtl xbu xsv (r + 1) (nI i) af aa ao ai (cl_f ar i) ak als ale afl awd apr aws aps avs ali adr atx adg := by
    intro r
    induction r with
    | zero =>
      intro i hi
      have e : i = 8 := by omega
      subst e
      exact br_t (by decide) h
    | succ r ih =>
      intro i hi
      exact br_f (nI_ge (b := 8) (by omega) (by decide)) ⟨vp_in_nI (by omega) (by decide), nm_r (e' := cl_f ar (i + 1)) (by rw [nI_clamp (by omega)]; rfl) (nm_r (nI_1 i) (ih (i + 1) (by omega)))⟩
  exact ⟨9, lo 8 0 rfl⟩
theorem xm_ws {post : Int32 → Prop} {c : Int32} (c' : Int32) (e : c = c') (h1 : sk_w c' → post 1) (h0 : ¬ sk_w c' → post 0) : wpX_isWhitespace post (cap, xfl, xol, xil, xrm, xsp, xco, xec, xat, xlt, xcu, xwu, xpu, xvu, xdc, xsu, xpo, xdl, xtl, xbu, xsv, af, aa, ao, ai, ar, ak, als, ale, afl, awd, apr, aws, aps, avs, ali, adr, atx, adg) c := by
  subst e
  by_cases a : c = 32
  · exact br_t a (h1 (Or.inl a))
  refine br_f a ?_
  by_cases b : c < 9
  · exact br_t b (h0 (fun z => z.elim a (fun y => absurd y.1 (Int32.not_le.mpr b))))
  refine br_f b ?_
  by_cases d : 13 < c
  · exact br_t d (h0 (fun z => z.elim a (fun y => absurd y.2 (Int32.not_le.mpr d))))
  · exact br_f d (h1 (Or.inr ⟨Int32.not_lt.mp b, Int32.not_lt.mp d⟩))
theorem xm_sw {post : SX → Prop} {N p : Nat} (hN : N ≤ 256) (hp : p ≤ N) (h : post (cap, xfl, xol, nI N, xrm, nI (sc_1 ai N p), xco, xec, xat, xlt, xcu, xwu, xpu, xvu, xdc, xsu, xpo, xdl, xtl, xbu, xsv, af, aa, ao, ai, ar, ak, als, ale, afl, awd, apr, aws, aps, avs, ali, adr, atx, adg)) : wpX_skipWhitespace post (cap, xfl, xol, nI N, xrm, nI p, xco, xec, xat, xlt, xcu, xwu, xpu, xvu, xdc, xsu, xpo, xdl, xtl, xbu, xsv, af, aa, ao, ai, ar, ak, als, ale, afl, awd, apr, aws, aps, avs, ali, adr, atx, adg) := by
  have lo : ∀ n j, j ≤ N → N - j < n → post (cap, xfl, xol, nI N, xrm, nI (sk_E ai (N - j) j), xco, xec, xat, xlt, xcu, xwu, xpu, xvu, xdc, xsu, xpo, xdl, xtl, xbu, xsv, af, aa, ao, ai, ar, ak, als, ale, afl, awd, apr, aws, aps, avs, ali, adr, atx, adg) → wX_skipWhitespace_0 post cap xfl xol (nI N) xrm xco xec xat xlt xcu xwu xpu xvu xdc xsu xpo xdl xtl xbu xsv af aa ao ai ar ak als ale afl awd apr aws aps avs ali adr atx adg n (nI j) := by
    intro n
    induction n with
    | zero => intro j hj hn; omega
    | succ n ih =>
      intro j hj hn h
      refine pk_le N j (fun a => ?_) (fun a => ⟨vp_in_nI (by omega) (by omega), xm_ws (ai j) (by rw [nI_clamp (by omega)]) (fun w => ?_) (fun w => ?_)⟩)
      · rw [show N - j = 0 by omega] at h
        exact h
      · obtain ⟨m, hm⟩ : ∃ m, N - j = m + 1 := ⟨N - j - 1, by omega⟩
        rw [hm, sk_Es ai w, show m = N - (j + 1) by omega] at h
        exact br_f (by decide) (nm_r (nI_1 j) (ih (j + 1) (by omega) (by omega) h))
      · rw [sk_E0 ai w] at h
        exact br_t rfl h
  exact ⟨N - p + 1, lo (N - p + 1) p hp (by omega) h⟩
theorem xm_dv {post : Int32 → Prop} {c : Int32} (c' : Int32) (e : c = c') (h : post (nI (dv_v c'))) : wpX_digitValue post (cap, xfl, xol, xil, xrm, xsp, xco, xec, xat, xlt, xcu, xwu, xpu, xvu, xdc, xsu, xpo, xdl, xtl, xbu, xsv, af, aa, ao, ai, ar, ak, als, ale, afl, awd, apr, aws, aps, avs, ali, adr, atx, adg) c := by
  subst e
  unfold dv_v at h
  have k37 : ¬ (48 ≤ c ∧ c ≤ 57) → ¬ (97 ≤ c ∧ c ≤ 102) → wX_digitValue_37 post c cap xfl xol xil xrm xsp xco xec xat xlt xcu xwu xpu xvu xdc xsu xpo xdl xtl xbu xsv af aa ao ai ar ak als ale afl awd apr aws aps avs ali adr atx adg := by
    intro a b
    rw [if_neg a, if_neg b] at h
    by_cases d : c < 65
    · rw [if_neg (fun z => absurd z.1 (Int32.not_le.mpr d))] at h
      exact br_t d h
    refine br_f d ?_
    by_cases f : 70 < c
    · rw [if_neg (fun z => absurd z.2 (Int32.not_le.mpr f))] at h
      exact br_t f h
    · have y : 65 ≤ c ∧ c ≤ 70 := ⟨Int32.not_lt.mp d, Int32.not_lt.mp f⟩
      rw [if_pos y] at h
      refine br_f f ?_
      obtain ⟨j, h1, h2, rfl⟩ := dv_rng (a := 65) (b := 70) (by decide) (by decide) y
      rw [nI_clamp (by omega)] at h
      have e1 : nI j - 65 = nI (j - 65) := pk_sub (b := 65) h1
      have e2 : nI (j - 65) + 10 = nI (j - 65 + 10) := nI_add (j - 65) 10
      rw [e1, e2, show j - 65 + 10 = j - 55 by omega]
      exact h
  have k17 : ¬ (48 ≤ c ∧ c ≤ 57) → wX_digitValue_17 post c cap xfl xol xil xrm xsp xco xec xat xlt xcu xwu xpu xvu xdc xsu xpo xdl xtl xbu xsv af aa ao ai ar ak als ale afl awd apr aws aps avs ali adr atx adg := by
    intro a
    by_cases d : c < 97
    · exact br_t d (k37 a (fun z => absurd z.1 (Int32.not_le.mpr d)))
    refine br_f d ?_
    by_cases f : 102 < c
    · exact br_t f (k37 a (fun z => absurd z.2 (Int32.not_le.mpr f)))
    · have y : 97 ≤ c ∧ c ≤ 102 := ⟨Int32.not_lt.mp d, Int32.not_lt.mp f⟩
      rw [if_neg a, if_pos y] at h
      refine br_f f ?_
      obtain ⟨j, h1, h2, rfl⟩ := dv_rng (a := 97) (b := 102) (by decide) (by decide) y
      rw [nI_clamp (by omega)] at h
      have e1 : nI j - 97 = nI (j - 97) := pk_sub (b := 97) h1
      have e2 : nI (j - 97) + 10 = nI (j - 97 + 10) := nI_add (j - 97) 10
      rw [e1, e2, show j - 97 + 10 = j - 87 by omega]
      exact h
  by_cases d : c < 48
  · exact br_t d (k17 (fun z => absurd z.1 (Int32.not_le.mpr d)))
  refine br_f d ?_
  by_cases f : 57 < c
  · exact br_t f (k17 (fun z => absurd z.2 (Int32.not_le.mpr f)))
  · have y : 48 ≤ c ∧ c ≤ 57 := ⟨Int32.not_lt.mp d, Int32.not_lt.mp f⟩
    rw [if_pos y] at h
    refine br_f f ?_
    obtain ⟨j, h1, h2, rfl⟩ := dv_rng (a := 48) (b := 57) (by decide) (by decide) y
    rw [nI_clamp (by omega)] at h
    have e1 : nI j - 48 = nI (j - 48) := pk_sub (b := 48) h1
    rw [e1]
    exact h
theorem xm_s36 {post : Int32 → SX → Prop} {N M : Nat} (hN : N ≤ 256) (hM : M ≤ 8) : ∀ f k j v, j ≤ N → k ≤ M → N - j < f →
    wX_scanPackedText_124 post (nI (k + (st_E ai (N - j) (M - k) j - j))) cap xfl xol (nI N) xrm (nI (st_E ai (N - j) (M - k) j)) xco xec xat xlt xcu xwu xpu xvu xdc xsu xpo xdl xtl xbu (st_V ai (N - j) (M - k) k j v) af aa ao ai ar ak als ale afl awd apr aws aps avs ali adr atx adg →
    wX_scanPackedText_36 post (nI M) cap xfl xol (nI N) xrm xco xec xat xlt xcu xwu xpu xvu xdc xsu xpo xdl xtl xbu af aa ao ai ar ak als ale afl awd apr aws aps avs ali adr atx adg f (nI k) (nI j) v := by
  intro f
  induction f with
  | zero => intro k j v hj hk hf; omega
  | succ f ih =>
    intro k j v hj hk hf h
    have stop : (N - j = 0 ∨ M - k = 0 ∨ ¬ st_g (ai j)) → wX_scanPackedText_124 post (nI k) cap xfl xol (nI N) xrm (nI j) xco xec xat xlt xcu xwu xpu xvu xdc xsu xpo xdl xtl xbu v af aa ao ai ar ak als ale afl awd apr aws aps avs ali adr atx adg := by
      intro z
      rw [st_E0 z, st_V0 z, Nat.sub_self, Nat.add_zero] at h
      exact h
    refine pk_le M k (fun a => stop (Or.inr (Or.inl (by omega)))) (fun a => pk_le N j (fun b => stop (Or.inl (by omega))) (fun b => ⟨vp_in_nI (by omega) (by omega), nm_r (e' := ai j) (by rw [nI_clamp (by omega)]) ?_⟩))
    by_cases c1 : ai j < 1
    · exact br_t c1 (stop (Or.inr (Or.inr (fun z => z.1 c1))))
    refine br_f c1 ?_
    by_cases c2 : 255 < ai j
    · exact br_t c2 (stop (Or.inr (Or.inr (fun z => absurd z.2.1 (Int32.not_le.mpr c2)))))
    refine br_f c2 (xm_ws (ai j) rfl (fun w => br_f (by decide) (stop (Or.inr (Or.inr (fun z => z.2.2 w))))) (fun w => br_t rfl (nm_e (nm_r (nI_1 k) (nm_r (nI_1 j) ?_)))))
    have g : st_g (ai j) := ⟨c1, Int32.not_lt.mp c2, w⟩
    obtain ⟨n', hn⟩ : ∃ m, N - j = m + 1 := ⟨N - j - 1, by omega⟩
    obtain ⟨b', hb⟩ : ∃ m, M - k = m + 1 := ⟨M - k - 1, by omega⟩
    rw [hn, hb, st_E1 g, st_V1 g, show n' = N - (j + 1) by omega, show b' = M - (k + 1) by omega] at h
    have hE := st_Eb ai (N - (j + 1)) (M - (k + 1)) (j + 1)
    rw [show k + (st_E ai (N - (j + 1)) (M - (k + 1)) (j + 1) - j) = k + 1 + (st_E ai (N - (j + 1)) (M - (k + 1)) (j + 1) - (j + 1)) by omega] at h
    exact ih (k + 1) (j + 1) _ (by omega) (by omega) (by omega) h
theorem xm_td {post : Int32 → SX → Prop} {N base p B : Nat} (hN : N ≤ 256) (hp : p ≤ N) (hB : B ≤ 1000) (hb : base ≤ 16)
    (h1 : p < dg_E ai base (N - p) B p → ∀ xbu, post 1 (cap, xfl, xol, nI N, xrm, nI (dg_E ai base (N - p) B p), xco, xec, xat, xlt, xcu, xwu, xpu, xvu, xdc, xsu, xpo, xdl, xtl, xbu, dg_V ai base (N - p) B p 0, af, aa, ao, ai, ar, ak, als, ale, afl, awd, apr, aws, aps, avs, ali, adr, atx, adg)) (h0 : ¬ p < dg_E ai base (N - p) B p → ∀ (xsp xbu : Int32) (xsv : Int64), post 0 (cap, xfl, xol, nI N, xrm, xsp, xco, xec, xat, xlt, xcu, xwu, xpu, xvu, xdc, xsu, xpo, xdl, xtl, xbu, xsv, af, aa, ao, ai, ar, ak, als, ale, afl, awd, apr, aws, aps, avs, ali, adr, atx, adg)) : wpX_takeDigits post (cap, xfl, xol, nI N, xrm, nI p, xco, xec, xat, xlt, xcu, xwu, xpu, xvu, xdc, xsu, xpo, xdl, xtl, nI B, xsv, af, aa, ao, ai, ar, ak, als, ale, afl, awd, apr, aws, aps, avs, ali, adr, atx, adg) (nI base) := by
  have lo : ∀ f j B' v, p ≤ j → j ≤ N → B' ≤ 1000 → N - j < f → dg_E ai base (N - j) B' j = dg_E ai base (N - p) B p ∧ dg_V ai base (N - j) B' j v = dg_V ai base (N - p) B p 0 → wX_takeDigits_10 post (nI base) (nI p) cap xfl xol (nI N) xrm xco xec xat xlt xcu xwu xpu xvu xdc xsu xpo xdl xtl af aa ao ai ar ak als ale afl awd apr aws aps avs ali adr atx adg f (nI j) (nI B') v := by
    intro f
    induction f with
    | zero => intro j B' v hpj hj hB' hf; omega
    | succ f ih =>
      intro j B' v hpj hj hB' hf h
      have stop : (N - j = 0 ∨ B' = 0 ∨ ¬ dv_v (ai j) < base) → wX_takeDigits_87 post (nI p) cap xfl xol (nI N) xrm (nI j) xco xec xat xlt xcu xwu xpu xvu xdc xsu xpo xdl xtl (nI B') v af aa ao ai ar ak als ale afl awd apr aws aps avs ali adr atx adg := by
        intro z
        rw [dg_E0 z, dg_V0 z] at h
        rw [← h.1, ← h.2] at h1
        rw [← h.1] at h0
        exact pk_le j p (fun a => h0 (by omega) _ _ _) (fun a => h1 a _)
      refine pk_le B' 0 (fun a => stop (Or.inr (Or.inl (by omega)))) (fun a => pk_le N j (fun b => stop (Or.inl (by omega))) (fun b => ⟨vp_in_nI (by omega) (by omega), xm_dv (ai j) (by rw [nI_clamp (by omega)]) ?_⟩))
      have hd := dv_b (ai j)
      refine pk_lt (dv_v (ai j)) base (fun d => nm_e (nm_r (nI_1 j) (nm_r (e' := nI (B' - 1)) (pk_sub (b := 1) (by omega)) (ih (j + 1) (B' - 1) _ (by omega) (by omega) (by omega) (by omega) ?_)))) (fun d => stop (Or.inr (Or.inr (by omega))))
      obtain ⟨n', hn⟩ : ∃ m, N - j = m + 1 := ⟨N - j - 1, by omega⟩
      obtain ⟨b', hb⟩ : ∃ m, B' = m + 1 := ⟨B' - 1, by omega⟩
      rw [hn, hb, dg_E1 d, dg_V1 d, show n' = N - (j + 1) by omega] at h
      rw [show B' - 1 = b' by omega]
      exact h
  exact ⟨N - p + 1, lo (N - p + 1) p B 0 (by omega) hp hB (by omega) ⟨rfl, rfl⟩⟩
end
end
section
/-! the class: one conversion of scan -/
section
variable {cap xfl xol xil xrm xsp xco xec xat xlt xcu xwu xpu xvu xdc xsu xpo xdl xtl xbu : Int32} {xsv : Int64} {af ao ai ak als ale afl awd apr aws aps avs ali adr atx adg : Nat → Int32} {aa ar : Nat → Int64}
theorem xm_sgn {post : Int32 → SX → Prop} {N p B : Nat} (hN : N ≤ 256) (hp : p ≤ N) (hB : 1 ≤ B ∧ B ≤ 1000) (h1 : p < N → (ai p = 43 ∨ ai p = 45) → post (if ai p = 45 then 1 else 0) (cap, xfl, xol, nI N, xrm, nI (p + 1), xco, xec, xat, xlt, xcu, xwu, xpu, xvu, xdc, xsu, xpo, xdl, xtl, nI (B - 1), xsv, af, aa, ao, ai, ar, ak, als, ale, afl, awd, apr, aws, aps, avs, ali, adr, atx, adg))
    (h0 : ¬ (p < N ∧ (ai p = 43 ∨ ai p = 45)) → post 0 (cap, xfl, xol, nI N, xrm, nI p, xco, xec, xat, xlt, xcu, xwu, xpu, xvu, xdc, xsu, xpo, xdl, xtl, nI B, xsv, af, aa, ao, ai, ar, ak, als, ale, afl, awd, apr, aws, aps, avs, ali, adr, atx, adg)) : wpX_takeSign post (cap, xfl, xol, nI N, xrm, nI p, xco, xec, xat, xlt, xcu, xwu, xpu, xvu, xdc, xsu, xpo, xdl, xtl, nI B, xsv, af, aa, ao, ai, ar, ak, als, ale, afl, awd, apr, aws, aps, avs, ali, adr, atx, adg) := by
  refine pk_le N p (fun a => h0 (fun z => by omega)) (fun a => ?_)
  have e : (nI p).toNatClampNeg = p := nI_clamp (by omega)
  have vi : vp_in (nI p) 256 := vp_in_nI (by omega) (by omega)
  have k41 : (ai p = 43 ∨ ai p = 45) → wX_takeSign_41 post cap xfl xol (nI N) xrm (nI p) xco xec xat xlt xcu xwu xpu xvu xdc xsu xpo xdl xtl (nI B) xsv af aa ao ai ar ak als ale afl awd apr aws aps avs ali adr atx adg := by
    intro z
    have h1 := h1 a z
    refine ⟨vi, wk_if (d := ai p = 45) (by rw [e]) (fun y => ?_) (fun y => ?_)⟩
    · rw [if_pos y] at h1
      exact nm_r (nI_1 p) (nm_r (e' := nI (B - 1)) (pk_sub (b := 1) hB.1) ⟨rfl, h1⟩)
    · rw [if_neg y] at h1
      exact nm_r (nI_1 p) (nm_r (e' := nI (B - 1)) (pk_sub (b := 1) hB.1) ⟨rfl, h1⟩)
  refine ⟨vi, wk_if (d := ai p = 43) (by rw [e]) (fun y => k41 (Or.inl y)) (fun y => ⟨vi, wk_if (d := ai p = 45) (by rw [e]) (fun z => k41 (Or.inr z)) (fun z => h0 (fun w => w.2.elim y z))⟩)⟩
theorem xm_hxp {post : SX → Prop} {N p B : Nat} (hN : N ≤ 256) (hp : p ≤ N) (hB : B ≤ 1000)
    (h1 : (3 ≤ B ∧ p + 2 < N ∧ ai p = 48 ∧ (ai (p + 1) = 120 ∨ ai (p + 1) = 88) ∧ dv_v (ai (p + 2)) < 16) → post (cap, xfl, xol, nI N, xrm, nI (p + 2), xco, xec, xat, xlt, xcu, xwu, xpu, xvu, xdc, xsu, xpo, xdl, xtl, nI (B - 2), xsv, af, aa, ao, ai, ar, ak, als, ale, afl, awd, apr, aws, aps, avs, ali, adr, atx, adg))
    (h0 : ¬ (3 ≤ B ∧ p + 2 < N ∧ ai p = 48 ∧ (ai (p + 1) = 120 ∨ ai (p + 1) = 88) ∧ dv_v (ai (p + 2)) < 16) → post (cap, xfl, xol, nI N, xrm, nI p, xco, xec, xat, xlt, xcu, xwu, xpu, xvu, xdc, xsu, xpo, xdl, xtl, nI B, xsv, af, aa, ao, ai, ar, ak, als, ale, afl, awd, apr, aws, aps, avs, ali, adr, atx, adg)) : wpX_takeHexPrefix post (cap, xfl, xol, nI N, xrm, nI p, xco, xec, xat, xlt, xcu, xwu, xpu, xvu, xdc, xsu, xpo, xdl, xtl, nI B, xsv, af, aa, ao, ai, ar, ak, als, ale, afl, awd, apr, aws, aps, avs, ali, adr, atx, adg) := by
  have e1 : nI p + 1 = nI (p + 1) := nI_1 p
  have e2 : nI p + 2 = nI (p + 2) := nI_add p 2
  refine pk_lt B 3 (fun a => h0 (fun z => by omega)) (fun a => pk_le N (p + 2) (fun b => h0 (fun z => by omega)) (fun b => ?_) rfl e2)
  have v0 : vp_in (nI p) 256 := vp_in_nI (by omega) (by omega)
  have v1 : vp_in (nI p + 1) 256 := by rw [e1]; exact vp_in_nI (by omega) (by omega)
  have v2 : vp_in (nI p + 2) 256 := by rw [e2]; exact vp_in_nI (by omega) (by omega)
  refine ⟨v0, wk_if (d := ai p = 48) (by rw [nI_clamp (by omega)]) (fun c => ⟨v1, nm_r (e' := ai (p + 1)) (by rw [e1, nI_clamp (by omega)]) ?_⟩) (fun c => h0 (fun z => c z.2.2.1))⟩
  have k60 : (ai (p + 1) = 120 ∨ ai (p + 1) = 88) → wX_takeHexPrefix_60 post cap xfl xol (nI N) xrm (nI p) xco xec xat xlt xcu xwu xpu xvu xdc xsu xpo xdl xtl (nI B) xsv af aa ao ai ar ak als ale afl awd apr aws aps avs ali adr atx adg := by
    intro y
    have hd := dv_b (ai (p + 2))
    refine ⟨v2, xm_dv (ai (p + 2)) (by rw [e2, nI_clamp (by omega)]) (pk_le 16 (dv_v (ai (p + 2))) (fun w => h0 (fun z => by have := z.2.2.2.2; omega)) (fun w => nm_r e2 (nm_r (e' := nI (B - 2)) (pk_sub (b := 2) (by omega)) (h1 ⟨a, b, c, y, w⟩))))⟩
  refine ⟨fun y => k60 (Or.inl y), fun y1 => ⟨fun y => k60 (Or.inr y), fun y2 => h0 (fun z => z.2.2.2.1.elim y1 y2)⟩⟩
variable {L e p q s t : Nat}
theorem xm_sn {post : Int32 → SX → Prop} {N r : Nat} (he : e < 64) (hd : tb_dir af L ak afl awd apr aws aps avs e p q s t) (gw : ev_gw af L aa p s) (hN : N ≤ 256) (hr : r ≤ N) (c1 : ¬ dr_c af L p = 99) (c2 : ¬ dr_c af L p = 115)
    (h1 : sc_ok (dr_c af L p) (ev_W af L aa p s) ai N r → ∀ xbu, post 1 (cap, xfl, xol, nI N, xrm, nI (sc_E (dr_c af L p) (ev_W af L aa p s) ai N r), xco, xec, xat, xlt, xcu, xwu, xpu, xvu, xdc, xsu, xpo, xdl, xtl, xbu, sc_V (dr_c af L p) (dr_g af L p) (ev_W af L aa p s) ai N r, af, aa, ao, ai, ar, ak, als, ale, afl, awd, apr, aws, aps, avs, ali, adr, atx, adg))
    (h0 : ¬ sc_ok (dr_c af L p) (ev_W af L aa p s) ai N r → ∀ (xsp xbu : Int32) (xsv : Int64), post 0 (cap, xfl, xol, nI N, xrm, xsp, xco, xec, xat, xlt, xcu, xwu, xpu, xvu, xdc, xsu, xpo, xdl, xtl, xbu, xsv, af, aa, ao, ai, ar, ak, als, ale, afl, awd, apr, aws, aps, avs, ali, adr, atx, adg)) : wpX_scanNumber post (cap, xfl, xol, nI N, xrm, nI r, xco, xec, xat, xlt, xcu, xwu, xpu, xvu, xdc, xsu, xpo, xdl, xtl, xbu, xsv, af, aa, ao, ai, ar, ak, als, ale, afl, awd, apr, aws, aps, avs, ali, adr, atx, adg) (nI e) := by
  have hW := ev_Wb hd.2.1 gw
  have hs := sc_1b ai hr
  have hok : cv_t (dr_c af L p) ∨ ¬ cv_b (dr_c af L p) = 0 := (pc_ok (dr_ok hd.2.1).2.2.2).2.1
  have hb : ¬ cv_b (dr_c af L p) = 0 := hok.elim (fun z => absurd z (fun y => y.elim c1 c2)) id
  have hb16 : cv_b (dr_c af L p) ≤ 16 := by rcases cv_b16 (dr_c af L p) with e | e | e | e <;> omega
  have hB : 1 ≤ sc_B (ev_W af L aa p s) ∧ sc_B (ev_W af L aa p s) ≤ 1000 := by
    unfold sc_B
    by_cases w : 1 ≤ ev_W af L aa p s
    · rw [if_pos w]; omega
    · rw [if_neg w]; omega
  unfold sc_ok sc_E sc_V at h1
  unfold sc_ok at h0
  rw [if_neg c1, if_neg c2, if_neg c1, if_neg c2, if_neg c1, if_neg c2] at h1
  rw [if_neg c1, if_neg c2] at h0
  -- the digits and the value
  have k68 : ∀ (kk : Nat) (ng : Int32), sc_k (dr_c af L p) (ev_W af L aa p s) ai N (sc_1 ai N r) = kk → (ng = 0 ↔ ¬ (sc_sg (dr_c af L p) ai N (sc_1 ai N r) ∧ ai (sc_1 ai N r) = 45)) → wX_scanNumber_68 post (nI e) (nI (cv_b (dr_c af L p))) ng cap xfl xol (nI N) xrm (nI (sc_1 ai N r + kk)) xco xec xat xlt xcu xwu xpu xvu xdc xsu xpo xdl xtl (nI (sc_B (ev_W af L aa p s) - kk)) xsv af aa ao ai ar ak als ale afl awd apr aws aps avs ali adr atx adg := by
    intro kk ng ek ing
    have hk := sc_kb (dr_c af L p) (ev_W af L aa p s) ai hs.2
    unfold sc_v sc_e sc_w at h1
    unfold sc_e at h0
    rw [ek] at h1 h0 hk
    unfold wX_scanNumber_68
    refine xm_td hN (by omega) (by omega) hb16 (fun z xbu => br_f (by decide) ?_) (fun z xsp xbu xsv => br_t rfl (h0 z _ _ _))
    have h1 := h1 z xbu
    by_cases n0 : sc_sg (dr_c af L p) ai N (sc_1 ai N r) ∧ ai (sc_1 ai N r) = 45
    · rw [if_pos n0] at h1
      refine br_f (fun y => ing.mp y n0) (nm_e ?_)
      unfold wX_scanNumber_93
      exact xm_fi he hd h1
    · rw [if_neg n0] at h1
      refine br_t (ing.mpr n0) ?_
      unfold wX_scanNumber_93
      exact xm_fi he hd h1
  have k23 : wX_scanNumber_23 post (nI e) (nI (sc_B (ev_W af L aa p s))) cap xfl xol (nI N) xrm (nI (sc_1 ai N r)) xco xec xat xlt xcu xwu xpu xvu xdc xsu xpo xdl xtl xbu xsv af aa ao ai ar ak als ale afl awd apr aws aps avs ali adr atx adg := by
    unfold wX_scanNumber_23
    refine xm_co he hd (xm_bo ?_)
    by_cases c3 : dr_c af L p = 100
    · have nx : ¬ sc_hx (dr_c af L p) (ev_W af L aa p s) ai N (sc_1 ai N r) := fun z => by
        have := z.1
        rw [c3] at this
        exact absurd this (by decide)
      refine br_t c3 (xm_sgn hN hs.2 hB (fun a b => ?_) (fun a => ?_))
      · have g : sc_sg (dr_c af L p) ai N (sc_1 ai N r) := ⟨c3, a, b⟩
        refine k68 1 _ (by unfold sc_k; rw [if_pos g]) ?_
        by_cases m : ai (sc_1 ai N r) = 45
        · rw [if_pos m]; exact ⟨fun z => absurd z (by decide), fun z => absurd ⟨g, m⟩ z⟩
        · rw [if_neg m]; exact ⟨fun _ z => m z.2, fun _ => rfl⟩
      · have g : ¬ sc_sg (dr_c af L p) ai N (sc_1 ai N r) := fun z => a ⟨z.2.1, z.2.2⟩
        exact k68 0 0 (by unfold sc_k; rw [if_neg g, if_neg nx]) ⟨fun _ z => g z.1, fun _ => rfl⟩
    · have g : ¬ sc_sg (dr_c af L p) ai N (sc_1 ai N r) := fun z => c3 z.1
      refine br_f c3 (pk_eq (cv_b (dr_c af L p)) 16 (fun a => xm_hxp hN hs.2 hB.2 (fun y => ?_) (fun y => ?_)) (fun a => ?_))
      · have x : sc_hx (dr_c af L p) (ev_W af L aa p s) ai N (sc_1 ai N r) := ⟨a, y⟩
        exact k68 2 0 (by unfold sc_k; rw [if_neg g, if_pos x]) ⟨fun _ z => g z.1, fun _ => rfl⟩
      · have x : ¬ sc_hx (dr_c af L p) (ev_W af L aa p s) ai N (sc_1 ai N r) := fun z => y z.2
        exact k68 0 0 (by unfold sc_k; rw [if_neg g, if_neg x]) ⟨fun _ z => g z.1, fun _ => rfl⟩
      · have x : ¬ sc_hx (dr_c af L p) (ev_W af L aa p s) ai N (sc_1 ai N r) := fun z => a z.1
        exact k68 0 0 (by unfold sc_k; rw [if_neg g, if_neg x]) ⟨fun _ z => g z.1, fun _ => rfl⟩
  unfold wpX_scanNumber
  refine xm_sw hN hr (xm_wo he hd gw (pk_lt (ev_W af L aa p s) 1 (fun a => ?_) (fun a => ?_)))
  · have eB : sc_B (ev_W af L aa p s) = 1000 := if_neg (by omega)
    rw [eB] at k23
    exact k23
  · have eB : sc_B (ev_W af L aa p s) = ev_W af L aa p s := if_pos a
    rw [eB] at k23
    exact k23
theorem xm_sp {post : Int32 → SX → Prop} {N r : Nat} (he : e < 64) (hd : tb_dir af L ak afl awd apr aws aps avs e p q s t) (gw : ev_gw af L aa p s) (hN : N ≤ 256) (hr : r ≤ N) (c2 : dr_c af L p = 115)
    (h1 : sc_ok (dr_c af L p) (ev_W af L aa p s) ai N r → post 1 (cap, xfl, xol, nI N, xrm, nI (sc_E (dr_c af L p) (ev_W af L aa p s) ai N r), xco, xec, xat, xlt, xcu, xwu, xpu, xvu, xdc, xsu, xpo, xdl, xtl, xbu, sc_V (dr_c af L p) (dr_g af L p) (ev_W af L aa p s) ai N r, af, aa, ao, ai, ar, ak, als, ale, afl, awd, apr, aws, aps, avs, ali, adr, atx, adg))
    (h0 : ¬ sc_ok (dr_c af L p) (ev_W af L aa p s) ai N r → ∀ (xsp : Int32) (xsv : Int64), post 0 (cap, xfl, xol, nI N, xrm, xsp, xco, xec, xat, xlt, xcu, xwu, xpu, xvu, xdc, xsu, xpo, xdl, xtl, xbu, xsv, af, aa, ao, ai, ar, ak, als, ale, afl, awd, apr, aws, aps, avs, ali, adr, atx, adg)) : wpX_scanPackedText post (cap, xfl, xol, nI N, xrm, nI r, xco, xec, xat, xlt, xcu, xwu, xpu, xvu, xdc, xsu, xpo, xdl, xtl, xbu, xsv, af, aa, ao, ai, ar, ak, als, ale, afl, awd, apr, aws, aps, avs, ali, adr, atx, adg) (nI e) := by
  have hW := ev_Wb hd.2.1 gw
  have hs := sc_1b ai hr
  have c1 : ¬ dr_c af L p = 99 := by rw [c2]; decide
  have hS : 1 ≤ sc_S (ev_W af L aa p s) ∧ sc_S (ev_W af L aa p s) ≤ 8 := by
    unfold sc_S
    by_cases w : 1 ≤ ev_W af L aa p s ∧ ev_W af L aa p s ≤ 8
    · rw [if_pos w]; exact w
    · rw [if_neg w]; omega
  unfold sc_ok sc_E sc_V at h1
  unfold sc_ok at h0
  rw [if_neg c1, if_pos c2, if_neg c1, if_pos c2, if_neg c1, if_pos c2] at h1
  rw [if_neg c1, if_pos c2] at h0
  have hb := st_Eb ai (N - sc_1 ai N r) (sc_S (ev_W af L aa p s)) (sc_1 ai N r)
  have k36 : ∃ f, wX_scanPackedText_36 post (nI (sc_S (ev_W af L aa p s))) cap xfl xol (nI N) xrm xco xec xat xlt xcu xwu xpu xvu xdc xsu xpo xdl xtl xbu af aa ao ai ar ak als ale afl awd apr aws aps avs ali adr atx adg f 0 (nI (sc_1 ai N r)) 0 := by
    refine ⟨N - sc_1 ai N r + 1, xm_s36 hN hS.2 (N - sc_1 ai N r + 1) 0 (sc_1 ai N r) 0 hs.2 (by omega) (by omega) ?_⟩
    rw [Nat.sub_zero, Nat.zero_add]
    refine pk_le (st_E ai (N - sc_1 ai N r) (sc_S (ev_W af L aa p s)) (sc_1 ai N r) - sc_1 ai N r) 0 (fun a => h0 (by omega) _ _) (fun a => h1 (by omega))
  unfold wpX_scanPackedText
  refine xm_sw hN hr (xm_wo he hd gw (pk_lt (ev_W af L aa p s) 1 (fun a => ?_) (fun a => pk_lt 8 (ev_W af L aa p s) (fun b => ?_) (fun b => ?_))))
  · have eS : sc_S (ev_W af L aa p s) = 8 := if_neg (fun z => by omega)
    rw [eS] at k36
    exact k36
  · have eS : sc_S (ev_W af L aa p s) = 8 := if_neg (fun z => by omega)
    rw [eS] at k36
    exact k36
  · have eS : sc_S (ev_W af L aa p s) = ev_W af L aa p s := if_pos ⟨a, b⟩
    rw [eS] at k36
    exact k36
theorem xm_scv {post : Int32 → SX → Prop} {N r j : Nat} (he : e < 64) (hd : tb_dir af L ak afl awd apr aws aps avs e p q s t) (gw : ev_gw af L aa p s) (hN : N ≤ 256) (hr : r ≤ N) (hj : j < 8) (ej : ev_V af L p s = nI j)
    (h1 : sc_ok (dr_c af L p) (ev_W af L aa p s) ai N r → ∀ (xbu : Int32) (xsv : Int64), post 1 (cap, xfl, xol, nI N, xrm ||| ((1 : Int32) <<< (nI j &&& 31)), nI (sc_E (dr_c af L p) (ev_W af L aa p s) ai N r), xco, xec, xat, xlt, xcu, xwu, xpu, xvu, xdc, xsu, xpo, xdl, xtl, xbu, xsv, af, aa, ao, ai, vp_updL ar j (sc_V (dr_c af L p) (dr_g af L p) (ev_W af L aa p s) ai N r), ak, als, ale, afl, awd, apr, aws, aps, avs, ali, adr, atx, adg))
    (h0 : ¬ sc_ok (dr_c af L p) (ev_W af L aa p s) ai N r → ∀ (xbu : Int32) (xsv : Int64), post 0 (cap, xfl, xol, nI N, xrm, nI r, xco, xec, xat, xlt, xcu, xwu, xpu, xvu, xdc, xsu, xpo, xdl, xtl, xbu, xsv, af, aa, ao, ai, ar, ak, als, ale, afl, awd, apr, aws, aps, avs, ali, adr, atx, adg)) : wpX_scanConversion post (cap, xfl, xol, nI N, xrm, nI r, xco, xec, xat, xlt, xcu, xwu, xpu, xvu, xdc, xsu, xpo, xdl, xtl, xbu, xsv, af, aa, ao, ai, ar, ak, als, ale, afl, awd, apr, aws, aps, avs, ali, adr, atx, adg) (nI e) := by
  have ee : (nI e).toNatClampNeg = e := nI_clamp (by omega)
  have ve : vp_in (nI e) 64 := vp_in_nI (by omega) (by omega)
  have ev : avs e = nI j := (hd.2.2.2.2.2.2.2.2.2.1).trans ej
  have y : sc_ok (dr_c af L p) (ev_W af L aa p s) ai N r → ∀ xbu : Int32, wX_scanConversion_48 post (nI e) (nI r) 1 cap xfl xol (nI N) xrm (nI (sc_E (dr_c af L p) (ev_W af L aa p s) ai N r)) xco xec xat xlt xcu xwu xpu xvu xdc xsu xpo xdl xtl xbu (sc_V (dr_c af L p) (dr_g af L p) (ev_W af L aa p s) ai N r) af aa ao ai ar ak als ale afl awd apr aws aps avs ali adr atx adg := by
    intro z xbu
    refine br_f (by decide) ⟨ve, ?_⟩
    rw [ee, ev]
    exact br_f (nI_pos (by omega)) (br_f (nI_ge (b := 8) hj (by decide)) ⟨vp_in_nI hj (by decide), nm_r (e' := vp_updL ar j (sc_V (dr_c af L p) (dr_g af L p) (ev_W af L aa p s) ai N r)) (by rw [nI_clamp (by omega)]) (nm_e (h1 z _ _))⟩)
  have n : ¬ sc_ok (dr_c af L p) (ev_W af L aa p s) ai N r → ∀ (xsp xbu : Int32) (xsv : Int64), wX_scanConversion_48 post (nI e) (nI r) 0 cap xfl xol (nI N) xrm xsp xco xec xat xlt xcu xwu xpu xvu xdc xsu xpo xdl xtl xbu xsv af aa ao ai ar ak als ale afl awd apr aws aps avs ali adr atx adg := fun z xsp xbu xsv => br_t rfl (h0 z _ _)
  unfold wpX_scanConversion
  refine xm_co he hd ?_
  by_cases c1 : dr_c af L p = 99
  · have e1 : sc_ok (dr_c af L p) (ev_W af L aa p s) ai N r ↔ r < N := by unfold sc_ok; rw [if_pos c1]
    have e2 : sc_E (dr_c af L p) (ev_W af L aa p s) ai N r = r + 1 := if_pos c1
    have e3 : sc_V (dr_c af L p) (dr_g af L p) (ev_W af L aa p s) ai N r = (ai r).toInt64 := if_pos c1
    refine br_t c1 (pk_lt r N (fun a => ⟨vp_in_nI (by omega) (by omega), nm_r (e' := (ai r).toInt64) (by rw [nI_clamp (by omega)]) (nm_r (nI_1 r) ?_)⟩) (fun a => n (fun z => by have := e1.mp z; omega) _ _ _))
    have := y (e1.mpr a) xbu
    rw [e2, e3] at this
    exact this
  refine br_f c1 (xm_co he hd ?_)
  by_cases c2 : dr_c af L p = 115
  · exact br_t c2 (xm_sp he hd gw hN hr c2 (fun z => y z _) (fun z _ _ => n z _ _ _))
  · exact br_f c2 (xm_sn he hd gw hN hr c1 c2 (fun z xbu => y z xbu) (fun z _ _ _ => n z _ _ _))
end
end
section
/-! the reference: what scan calls -/
theorem sb_m2 (n : Nat) : nI (n + 2) + (-2) = nI n := by
  rw [← nI_add, Int32.add_assoc, show nI 2 + (-2) = 0 from by decide, Int32.add_zero]
theorem sb_p1 {n : Nat} (h : 1 ≤ n) : nI n + (-1) = nI (n - 1) := by
  obtain ⟨k, rfl⟩ : ∃ k, n = k + 1 := ⟨n - 1, by omega⟩
  exact pk_m1 k
theorem sb_p2 {n : Nat} (h : 2 ≤ n) : nI n + (-2) = nI (n - 2) := by
  obtain ⟨k, rfl⟩ : ∃ k, n = k + 2 := ⟨n - 2, by omega⟩
  exact sb_m2 k
section
variable {yfl yil yol ytl ycap ymk yen yac yec ypos yco yde ydp ydw ydq ywd ypr yit ym1 ym2 ym3 ym4 ym5 yws yps ylg ycv ycm ycs ycx ycu ysq ysv ycw ycp ycn : Int32} {bf bi bo btm brv : Nat → Int32} {ba brs : Nat → Int64}
theorem ym_ws {post : Int32 → Prop} {c : Int32} (c' : Int32) (e : c = c') (h1 : sk_w c' → post 1) (h0 : ¬ sk_w c' → post 0) : wpY_ws post c := by
  subst e
  by_cases a : c = 32
  · exact br_t a (h1 (Or.inl a))
  refine br_f a ?_
  by_cases b : c < 9
  · exact br_t b (h0 (fun z => z.elim a (fun y => absurd y.1 (Int32.not_le.mpr b))))
  refine br_f b ?_
  by_cases d : 13 < c
  · exact br_t d (h0 (fun z => z.elim a (fun y => absurd y.2 (Int32.not_le.mpr d))))
  · exact br_f d (h1 (Or.inr ⟨Int32.not_lt.mp b, Int32.not_lt.mp d⟩))
theorem ym_sw {post : SY → Prop} {N p : Nat} (hN : N ≤ 256) (hp : p ≤ N) (h : post (yfl, nI N, yol, ytl, ycap, ymk, yen, yac, yec, nI (sc_1 bi N p), yco, yde, ydp, ydw, ydq, ywd, ypr, yit, ym1, ym2, ym3, ym4, ym5, yws, yps, ylg, ycv, ycm, ycs, ycx, ycu, ysq, ysv, ycw, ycp, ycn, bf, bi, bo, btm, brv, ba, brs)) : wpY_skipWs post (yfl, nI N, yol, ytl, ycap, ymk, yen, yac, yec, nI p, yco, yde, ydp, ydw, ydq, ywd, ypr, yit, ym1, ym2, ym3, ym4, ym5, yws, yps, ylg, ycv, ycm, ycs, ycx, ycu, ysq, ysv, ycw, ycp, ycn, bf, bi, bo, btm, brv, ba, brs) := by
  have lo : ∀ n j k, k ≤ j → j ≤ N → N - j < n → post (yfl, nI N, yol, ytl, ycap, ymk, yen, yac, yec, nI (sk_E bi (N - j) j), yco, yde, ydp, ydw, ydq, ywd, ypr, yit, ym1, ym2, ym3, ym4, ym5, yws, yps, ylg, ycv, ycm, ycs, ycx, ycu, ysq, ysv, ycw, ycp, ycn, bf, bi, bo, btm, brv, ba, brs) → wY_skipWs_2 post yfl (nI N) yol ytl ycap ymk yen yac yec yco yde ydp ydw ydq ywd ypr yit ym1 ym2 ym3 ym4 ym5 yws yps ylg ycv ycm ycs ycx ycu ysq ysv ycw ycp ycn bf bi bo btm brv ba brs n (nI k) (nI j) := by
    intro n
    induction n with
    | zero => intro j k hk hj hn; omega
    | succ n ih =>
      intro j k hk hj hn h
      have h0 : N ≤ j → post (yfl, nI N, yol, ytl, ycap, ymk, yen, yac, yec, nI j, yco, yde, ydp, ydw, ydq, ywd, ypr, yit, ym1, ym2, ym3, ym4, ym5, yws, yps, ylg, ycv, ycm, ycs, ycx, ycu, ysq, ysv, ycw, ycp, ycn, bf, bi, bo, btm, brv, ba, brs) := fun a => by
        rw [show N - j = 0 by omega] at h
        exact h
      refine pk_le 256 k (fun a => h0 (by omega)) (fun a => pk_le N j h0 (fun b => ⟨vp_in_nI (by omega) (by omega), ym_ws (bi j) (by rw [nI_clamp (by omega)]) (fun w => ?_) (fun w => ?_)⟩))
      · obtain ⟨m, hm⟩ : ∃ m, N - j = m + 1 := ⟨N - j - 1, by omega⟩
        rw [hm, sk_Es bi w, show m = N - (j + 1) by omega] at h
        exact br_f (by decide) (nm_r (nI_1 j) (nm_r (nI_1 k) (ih (j + 1) (k + 1) (by omega) (by omega) (by omega) h)))
      · rw [sk_E0 bi w] at h
        exact br_t rfl h
  exact ⟨N - p + 1, lo (N - p + 1) p 0 (by omega) hp (by omega) h⟩
theorem ym_dv {post : Int32 → Prop} {c : Int32} {base : Nat} (c' : Int32) (e : c = c') (hb : base ≤ 16) (h1 : dv_v c' < base → post (nI (dv_v c'))) (h0 : ¬ dv_v c' < base → post (-1)) : wpY_digitVal post c (nI base) := by
  subst e
  have k65 : ∀ d : Nat, dv_v c = d → d ≤ 15 → wY_digitVal_65 post (nI base) (nI d) := by
    intro d ed hd
    rw [ed] at h1 h0
    exact pk_le base d (fun a => h0 (by omega)) (fun a => h1 a)
  unfold dv_v at k65 h0
  have k45 : ¬ (48 ≤ c ∧ c ≤ 57) → ¬ (97 ≤ c ∧ c ≤ 102) → wY_digitVal_45 post c (nI base) (-1) := by
    intro a b
    rw [if_neg a, if_neg b] at k65 h0
    have no : ¬ (65 ≤ c ∧ c ≤ 70) → wY_digitVal_65 post (nI base) (-1) := by
      intro z
      rw [if_neg z] at h0
      refine br_f (fun y => ?_) (h0 (by omega))
      exact absurd (Int32.le_trans (nI_pos' (n := base) (by omega)) y) (by decide)
    by_cases d : c < 65
    · exact br_t d (no (fun z => absurd z.1 (Int32.not_le.mpr d)))
    refine br_f d ?_
    by_cases f : 70 < c
    · exact br_t f (no (fun z => absurd z.2 (Int32.not_le.mpr f)))
    · have y : 65 ≤ c ∧ c ≤ 70 := ⟨Int32.not_lt.mp d, Int32.not_lt.mp f⟩
      rw [if_pos y] at k65
      obtain ⟨j, h1, h2, ej⟩ := dv_rng (a := 65) (b := 70) (by decide) (by decide) y
      have e1 : nI j - 65 = nI (j - 65) := pk_sub (b := 65) h1
      have e2 : nI (j - 65) + 10 = nI (j - 65 + 10) := nI_add (j - 65) 10
      refine br_f f (nm_r (e' := nI (j - 55)) (by rw [ej, e1, e2, show j - 65 + 10 = j - 55 by omega]) (k65 (j - 55) (by rw [ej, nI_clamp (by omega)]) (by omega)))
  have k22 : ¬ (48 ≤ c ∧ c ≤ 57) → wY_digitVal_22 post c (nI base) (-1) := by
    intro a
    by_cases d : c < 97
    · exact br_t d (k45 a (fun z => absurd z.1 (Int32.not_le.mpr d)))
    refine br_f d ?_
    by_cases f : 102 < c
    · exact br_t f (k45 a (fun z => absurd z.2 (Int32.not_le.mpr f)))
    · have y : 97 ≤ c ∧ c ≤ 102 := ⟨Int32.not_lt.mp d, Int32.not_lt.mp f⟩
      rw [if_neg a, if_pos y] at k65
      obtain ⟨j, h1, h2, ej⟩ := dv_rng (a := 97) (b := 102) (by decide) (by decide) y
      have e1 : nI j - 97 = nI (j - 97) := pk_sub (b := 97) h1
      have e2 : nI (j - 97) + 10 = nI (j - 97 + 10) := nI_add (j - 97) 10
      refine br_f f (nm_r (e' := nI (j - 87)) (by rw [ej, e1, e2, show j - 97 + 10 = j - 87 by omega]) (k65 (j - 87) (by rw [ej, nI_clamp (by omega)]) (by omega)))
  by_cases d : c < 48
  · exact br_t d (k22 (fun z => absurd z.1 (Int32.not_le.mpr d)))
  refine br_f d ?_
  by_cases f : 57 < c
  · exact br_t f (k22 (fun z => absurd z.2 (Int32.not_le.mpr f)))
  · have y : 48 ≤ c ∧ c ≤ 57 := ⟨Int32.not_lt.mp d, Int32.not_lt.mp f⟩
    rw [if_pos y] at k65
    obtain ⟨j, h1, h2, ej⟩ := dv_rng (a := 48) (b := 57) (by decide) (by decide) y
    have e1 : nI j - 48 = nI (j - 48) := pk_sub (b := 48) h1
    exact br_f f (nm_r (e' := nI (j - 48)) (by rw [ej, e1]) (k65 (j - 48) (by rw [ej, nI_clamp (by omega)]) (by omega)))
theorem ym_593 {post : Int32 → SY → Prop} {j : Nat} {x : Int64} (hj : j < 8) (h : post 1 (yfl, yil, yol, ytl, ycap, ymk ||| ((1 : Int32) <<< (nI j &&& 31)), yen, yac, yec, ypos, yco, yde, ydp, ydw, ydq, ywd, ypr, yit, ym1, ym2, ym3, ym4, ym5, yws, yps, ylg, ycv, ycm, ycs, ycx, ycu, ysq, nI j, ycw, ycp, ycn, bf, bi, bo, btm, brv, ba, vp_updL brs j x)) : wY_scanDir_593 post x yfl yil yol ytl ycap ymk yen yac yec ypos yco yde ydp ydw ydq ywd ypr yit ym1 ym2 ym3 ym4 ym5 yws yps ylg ycv ycm ycs ycx ycu ysq (nI j) ycw ycp ycn bf bi bo btm brv ba brs :=
  ⟨vp_in_nI hj (by decide), nm_r (e' := vp_updL brs j x) (by rw [nI_clamp (by omega)]) (nm_e h)⟩
theorem ym_s96 {post : Int32 → SY → Prop} {N M : Nat} {x1 : Int32} (hN : N ≤ 256) (hM : M ≤ 8) : ∀ f k j v, j ≤ N → k ≤ M → N - j < f →
    wY_scanDir_186 post x1 (st_V bi (N - j) (M - k) k j v) (nI (k + (st_E bi (N - j) (M - k) j - j))) yfl (nI N) yol ytl ycap ymk yen yac yec (nI (st_E bi (N - j) (M - k) j)) yco yde ydp ydw ydq ywd ypr yit ym1 ym2 ym3 ym4 ym5 yws yps ylg ycv ycm ycs ycx ycu ysq ysv ycw ycp ycn bf bi bo btm brv ba brs →
    wY_scanDir_96 post x1 yfl (nI N) yol ytl ycap ymk yen yac yec yco yde ydp ydw ydq ywd ypr yit ym1 ym2 ym3 ym4 ym5 yws yps ylg ycv ycm ycs ycx ycu ysq ysv ycw ycp ycn bf bi bo btm brv ba brs f v (nI (M - k)) (nI k) (nI j) := by
  intro f
  induction f with
  | zero => intro k j v hj hk hf; omega
  | succ f ih =>
    intro k j v hj hk hf h
    have stop : (N - j = 0 ∨ M - k = 0 ∨ ¬ st_g (bi j)) → wY_scanDir_186 post x1 v (nI k) yfl (nI N) yol ytl ycap ymk yen yac yec (nI j) yco yde ydp ydw ydq ywd ypr yit ym1 ym2 ym3 ym4 ym5 yws yps ylg ycv ycm ycs ycx ycu ysq ysv ycw ycp ycn bf bi bo btm brv ba brs := by
      intro z
      rw [st_E0 z, st_V0 z, Nat.sub_self, Nat.add_zero] at h
      exact h
    refine pk_le 8 k (fun a => stop (Or.inr (Or.inl (by omega)))) (fun a => pk_le (M - k) 0 (fun a => stop (Or.inr (Or.inl (by omega)))) (fun a => pk_le N j (fun b => stop (Or.inl (by omega))) (fun b => ⟨vp_in_nI (by omega) (by omega), nm_r (e' := bi j) (by rw [nI_clamp (by omega)]) (ym_ws (bi j) rfl (fun w => br_f (by decide) (stop (Or.inr (Or.inr (fun z => z.2.2 w))))) (fun w => br_t rfl ?_))⟩)))
    by_cases c1 : bi j < 1
    · exact br_t c1 (stop (Or.inr (Or.inr (fun z => z.1 c1))))
    refine br_f c1 ?_
    by_cases c2 : bi j ≤ 255
    · refine br_t c2 (nm_e (nm_r (nI_1 j) (nm_r (e' := nI (M - (k + 1))) (by rw [sb_p1 (by omega), show M - k - 1 = M - (k + 1) by omega]) (nm_r (nI_1 k) ?_))))
      have g : st_g (bi j) := ⟨c1, c2, w⟩
      obtain ⟨n', hn⟩ : ∃ m, N - j = m + 1 := ⟨N - j - 1, by omega⟩
      obtain ⟨b', hb⟩ : ∃ m, M - k = m + 1 := ⟨M - k - 1, by omega⟩
      rw [hn, hb, st_E1 g, st_V1 g, show n' = N - (j + 1) by omega, show b' = M - (k + 1) by omega] at h
      have hE := st_Eb bi (N - (j + 1)) (M - (k + 1)) (j + 1)
      rw [show k + (st_E bi (N - (j + 1)) (M - (k + 1)) (j + 1) - j) = k + 1 + (st_E bi (N - (j + 1)) (M - (k + 1)) (j + 1) - (j + 1)) by omega] at h
      exact ih (k + 1) (j + 1) _ (by omega) (by omega) (by omega) h
    · exact br_f c2 (stop (Or.inr (Or.inr (fun z => c2 z.2.1))))
theorem ym_457 {post : Int32 → SY → Prop} {N base : Nat} {x1 x2 x7 : Int32} (hN : N ≤ 256) (hb : base ≤ 16) : ∀ f j B v t, t ≤ j → j ≤ N → B ≤ 1000 → N - j < f →
    wY_scanDir_539 post x1 x2 x7 (dg_V bi base (N - j) B j v) (nI (t + (dg_E bi base (N - j) B j - j))) yfl (nI N) yol ytl ycap ymk yen yac yec (nI (dg_E bi base (N - j) B j)) yco yde ydp ydw ydq ywd ypr yit ym1 ym2 ym3 ym4 ym5 yws yps ylg ycv ycm ycs ycx ycu ysq ysv ycw ycp ycn bf bi bo btm brv ba brs →
    wY_scanDir_457 post x1 x2 (nI base) x7 yfl (nI N) yol ytl ycap ymk yen yac yec yco yde ydp ydw ydq ywd ypr yit ym1 ym2 ym3 ym4 ym5 yws yps ylg ycv ycm ycs ycx ycu ysq ysv ycw ycp ycn bf bi bo btm brv ba brs f (nI B) v (nI t) (nI t) (nI j) := by
  intro f
  induction f with
  | zero => intro j B v t ht hj hB hf; omega
  | succ f ih =>
    intro j B v t ht hj hB hf h
    have stop : (N - j = 0 ∨ B = 0 ∨ ¬ dv_v (bi j) < base) → wY_scanDir_539 post x1 x2 x7 v (nI t) yfl (nI N) yol ytl ycap ymk yen yac yec (nI j) yco yde ydp ydw ydq ywd ypr yit ym1 ym2 ym3 ym4 ym5 yws yps ylg ycv ycm ycs ycx ycu ysq ysv ycw ycp ycn bf bi bo btm brv ba brs := by
      intro z
      rw [dg_E0 z, dg_V0 z, Nat.sub_self, Nat.add_zero] at h
      exact h
    have hd := dv_b (bi j)
    refine pk_le 256 t (fun a => stop (Or.inl (by omega))) (fun a => pk_le B 0 (fun b => stop (Or.inr (Or.inl (by omega)))) (fun b => pk_le N j (fun c => stop (Or.inl (by omega))) (fun c => ⟨vp_in_nI (by omega) (by omega), ym_dv (bi j) (by rw [nI_clamp (by omega)]) hb (fun d => ?_) (fun d => ?_)⟩)))
    · refine br_t (nI_pos' (by omega)) (nm_e (nm_r (nI_1 j) (nm_r (e' := nI (B - 1)) (sb_p1 b) (nm_r (nI_1 t) (nm_r (nI_1 t) (ih (j + 1) (B - 1) _ (t + 1) (by omega) (by omega) (by omega) (by omega) ?_))))))
      obtain ⟨n', hn⟩ : ∃ m, N - j = m + 1 := ⟨N - j - 1, by omega⟩
      obtain ⟨b', hb'⟩ : ∃ m, B = m + 1 := ⟨B - 1, by omega⟩
      rw [hn, hb', dg_E1 d, dg_V1 d, show n' = N - (j + 1) by omega] at h
      rw [show B - 1 = b' by omega]
      have hE := dg_Eb bi base (N - (j + 1)) b' (j + 1)
      rw [show t + (dg_E bi base (N - (j + 1)) b' (j + 1) - j) = t + 1 + (dg_E bi base (N - (j + 1)) b' (j + 1) - (j + 1)) by omega] at h
      exact h
    · exact br_f (by decide) (stop (Or.inr (Or.inr d)))
end
end
section
/-! the reference: one conversion of scan -/
section
variable {yfl yil yol ytl ycap ymk yen yac yec ypos yco yde ydp ydw ydq ywd ypr yit ym1 ym2 ym3 ym4 ym5 yws yps ylg ycv ycm ycs ycx ycu ysq ysv ycw ycp ycn : Int32} {bf bi bo btm brv : Nat → Int32} {ba brs : Nat → Int64}
theorem ym_sdr {post : Int32 → SY → Prop} {N r j g W : Nat} (hN : N ≤ 256) (hr : r ≤ N) (hj : j < 8) (hg : g = 0 ∨ g = 1) (hW : W ≤ 99) (hok : cv_t ycv ∨ ¬ cv_b ycv = 0)
    (h1 : sc_ok ycv W bi N r → post 1 (yfl, nI N, yol, ytl, ycap, ymk ||| ((1 : Int32) <<< (nI j &&& 31)), yen, yac, yec, nI (sc_E ycv W bi N r), yco, yde, ydp, ydw, ydq, ywd, ypr, yit, ym1, ym2, ym3, ym4, ym5, yws, yps, nI g, ycv, ycm, ycs, ycx, ycu, ysq, nI j, nI W, ycp, ycn, bf, bi, bo, btm, brv, ba, vp_updL brs j (sc_V ycv g W bi N r)))
    (h0 : ¬ sc_ok ycv W bi N r → post 0 (yfl, nI N, yol, ytl, ycap, ymk, yen, yac, yec, nI r, yco, yde, ydp, ydw, ydq, ywd, ypr, yit, ym1, ym2, ym3, ym4, ym5, yws, yps, nI g, ycv, ycm, ycs, ycx, ycu, ysq, nI j, nI W, ycp, ycn, bf, bi, bo, btm, brv, ba, brs)) : wpY_scanDir post (yfl, nI N, yol, ytl, ycap, ymk, yen, yac, yec, nI r, yco, yde, ydp, ydw, ydq, ywd, ypr, yit, ym1, ym2, ym3, ym4, ym5, yws, yps, nI g, ycv, ycm, ycs, ycx, ycu, ysq, nI j, nI W, ycp, ycn, bf, bi, bo, btm, brv, ba, brs) := by
  have hs := sc_1b bi hr
  by_cases c1 : ycv = 99
  · have e1 : sc_ok ycv W bi N r ↔ r < N := by unfold sc_ok; rw [if_pos c1]
    have e2 : sc_E ycv W bi N r = r + 1 := if_pos c1
    have e3 : sc_V ycv g W bi N r = (bi r).toInt64 := if_pos c1
    rw [e2, e3] at h1
    exact br_t c1 (pk_lt r N (fun a => ⟨vp_in_nI (by omega) (by omega), nm_r (e' := (bi r).toInt64) (by rw [nI_clamp (by omega)]) (nm_r (nI_1 r) (ym_593 hj (h1 (e1.mpr a))))⟩) (fun a => h0 (fun z => by have := e1.mp z; omega)))
  refine br_f c1 ?_
  by_cases c2 : ycv = 115
  · refine br_t c2 ?_
    unfold sc_ok sc_E sc_V at h1
    unfold sc_ok at h0
    rw [if_neg c1, if_pos c2, if_neg c1, if_pos c2, if_neg c1, if_pos c2] at h1
    rw [if_neg c1, if_pos c2] at h0
    have hS : 1 ≤ sc_S W ∧ sc_S W ≤ 8 := by
      unfold sc_S
      by_cases w : 1 ≤ W ∧ W ≤ 8
      · rw [if_pos w]; exact w
      · rw [if_neg w]; omega
    have hb := st_Eb bi (N - sc_1 bi N r) (sc_S W) (sc_1 bi N r)
    have k96 : ∃ f, wY_scanDir_96 post (nI r) yfl (nI N) yol ytl ycap ymk yen yac yec yco yde ydp ydw ydq ywd ypr yit ym1 ym2 ym3 ym4 ym5 yws yps (nI g) ycv ycm ycs ycx ycu ysq (nI j) (nI W) ycp ycn bf bi bo btm brv ba brs f 0 (nI (sc_S W)) 0 (nI (sc_1 bi N r)) := by
      refine ⟨N - sc_1 bi N r + 1, ym_s96 (M := sc_S W) hN hS.2 (N - sc_1 bi N r + 1) 0 (sc_1 bi N r) 0 hs.2 (by omega) (by omega) ?_⟩
      rw [Nat.sub_zero, Nat.zero_add]
      exact pk_eq (st_E bi (N - sc_1 bi N r) (sc_S W) (sc_1 bi N r) - sc_1 bi N r) 0 (fun a => h0 (by omega)) (fun a => ym_593 hj (h1 (by omega)))
    refine ym_sw hN hr (pk_lt W 1 (fun a => ?_) (fun a => pk_lt 8 W (fun b => ?_) (fun b => ?_)))
    · have eS : sc_S W = 8 := if_neg (fun z => by omega)
      rw [eS] at k96
      exact k96
    · have eS : sc_S W = 8 := if_neg (fun z => by omega)
      rw [eS] at k96
      exact k96
    · have eS : sc_S W = W := if_pos ⟨a, b⟩
      rw [eS] at k96
      exact k96
  · refine br_f c2 ?_
    have hb : ¬ cv_b ycv = 0 := hok.elim (fun z => absurd z (fun y => y.elim c1 c2)) id
    have hb16 : cv_b ycv ≤ 16 := by rcases cv_b16 ycv with e | e | e | e <;> omega
    unfold sc_ok sc_E sc_V at h1
    unfold sc_ok at h0
    rw [if_neg c1, if_neg c2, if_neg c1, if_neg c2, if_neg c1, if_neg c2] at h1
    rw [if_neg c1, if_neg c2] at h0
    have hB : 1 ≤ sc_B W ∧ sc_B W ≤ 1000 := by
      unfold sc_B
      by_cases w : 1 ≤ W
      · rw [if_pos w]; omega
      · rw [if_neg w]; omega
    have k457 : ∀ (kk : Nat) (ng : Int32), sc_k ycv W bi N (sc_1 bi N r) = kk → (ng = 0 ↔ ¬ (sc_sg ycv bi N (sc_1 bi N r) ∧ bi (sc_1 bi N r) = 45)) → ∃ f, wY_scanDir_457 post (nI r) ycv (nI (cv_b ycv)) ng yfl (nI N) yol ytl ycap ymk yen yac yec yco yde ydp ydw ydq ywd ypr yit ym1 ym2 ym3 ym4 ym5 yws yps (nI g) ycv ycm ycs ycx ycu ysq (nI j) (nI W) ycp ycn bf bi bo btm brv ba brs f (nI (sc_B W - kk)) 0 0 0 (nI (sc_1 bi N r + kk)) := by
      intro kk ng ek ing
      have hk := sc_kb ycv W bi hs.2
      unfold sc_v sc_e sc_w at h1
      unfold sc_e at h0
      rw [ek] at h1 h0 hk
      have hE := dg_Eb bi (cv_b ycv) (N - (sc_1 bi N r + kk)) (sc_B W - kk) (sc_1 bi N r + kk)
      refine ⟨N - (sc_1 bi N r + kk) + 1, ym_457 hN hb16 (N - (sc_1 bi N r + kk) + 1) (sc_1 bi N r + kk) (sc_B W - kk) 0 0 (by omega) hk.1 (by omega) (by omega) ?_⟩
      rw [Nat.zero_add]
      refine pk_eq (dg_E bi (cv_b ycv) (N - (sc_1 bi N r + kk)) (sc_B W - kk) (sc_1 bi N r + kk) - (sc_1 bi N r + kk)) 0 (fun a => h0 (by omega)) (fun a => ?_)
      have h1 := h1 (by omega)
      have fin : ∀ v : Int64, (if sc_sg ycv bi N (sc_1 bi N r) ∧ bi (sc_1 bi N r) = 45 then - dg_V bi (cv_b ycv) (N - (sc_1 bi N r + kk)) (sc_B W - kk) (sc_1 bi N r + kk) 0 else dg_V bi (cv_b ycv) (N - (sc_1 bi N r + kk)) (sc_B W - kk) (sc_1 bi N r + kk) 0) = v → wY_scanDir_561 post ycv v yfl (nI N) yol ytl ycap ymk yen yac yec (nI (dg_E bi (cv_b ycv) (N - (sc_1 bi N r + kk)) (sc_B W - kk) (sc_1 bi N r + kk))) yco yde ydp ydw ydq ywd ypr yit ym1 ym2 ym3 ym4 ym5 yws yps (nI g) ycv ycm ycs ycx ycu ysq (nI j) (nI W) ycp ycn bf bi bo btm brv ba brs := by
        intro v ev
        rw [ev] at h1
        unfold nt_v at h1
        rcases hg with g0 | g0
        · rw [g0] at h1 ⊢
          rw [if_neg (by omega)] at h1
          refine br_t rfl ?_
          by_cases c3 : ycv = 100
          · rw [if_pos c3] at h1
            exact br_t c3 (ym_593 hj h1)
          · rw [if_neg c3] at h1
            exact br_f c3 (ym_593 hj h1)
        · rw [g0] at h1 ⊢
          rw [if_pos rfl] at h1
          exact br_f (by decide) (ym_593 hj h1)
      by_cases n0 : sc_sg ycv bi N (sc_1 bi N r) ∧ bi (sc_1 bi N r) = 45
      · exact br_f (fun y => ing.mp y n0) (nm_e (fin _ (by rw [if_pos n0])))
      · exact br_t (ing.mpr n0) (fin _ (by rw [if_neg n0]))
    have p1 : nI (sc_1 bi N r) + 1 = nI (sc_1 bi N r + 1) := nI_1 _
    have p2 : nI (sc_1 bi N r) + 2 = nI (sc_1 bi N r + 2) := nI_add _ 2
    have k255 : wY_scanDir_255 post (nI r) ycv (nI (sc_B W)) (nI (cv_b ycv)) yfl (nI N) yol ytl ycap ymk yen yac yec (nI (sc_1 bi N r)) yco yde ydp ydw ydq ywd ypr yit ym1 ym2 ym3 ym4 ym5 yws yps (nI g) ycv ycm ycs ycx ycu ysq (nI j) (nI W) ycp ycn bf bi bo btm brv ba brs := by
      by_cases c3 : ycv = 100
      · have b10 : cv_b ycv = 10 := by rw [c3]; rfl
        have nx : ¬ sc_hx ycv W bi N (sc_1 bi N r) := fun z => by have := z.1; omega
        have n16 : ¬ nI (cv_b ycv) = 16 := by rw [b10]; decide
        have no : ¬ sc_sg ycv bi N (sc_1 bi N r) → wY_scanDir_344 post (nI r) ycv (nI (sc_B W)) (nI (cv_b ycv)) 0 yfl (nI N) yol ytl ycap ymk yen yac yec (nI (sc_1 bi N r)) yco yde ydp ydw ydq ywd ypr yit ym1 ym2 ym3 ym4 ym5 yws yps (nI g) ycv ycm ycs ycx ycu ysq (nI j) (nI W) ycp ycn bf bi bo btm brv ba brs := by
          intro s0
          exact br_f n16 (k457 0 0 (by unfold sc_k; rw [if_neg s0, if_neg nx]) ⟨fun _ z => s0 z.1, fun _ => rfl⟩)
        refine br_t c3 (br_f (nI_nle (by omega) (by omega)) (pk_le N (sc_1 bi N r) (fun a => no (fun z => by have := z.2.1; omega)) (fun a => ?_)))
        have vi : vp_in (nI (sc_1 bi N r)) 256 := vp_in_nI (by omega) (by omega)
        have e : (nI (sc_1 bi N r)).toNatClampNeg = sc_1 bi N r := nI_clamp (by omega)
        have yes : (bi (sc_1 bi N r) = 43 ∨ bi (sc_1 bi N r) = 45) → wY_scanDir_310 post (nI r) ycv (nI (sc_B W)) (nI (cv_b ycv)) yfl (nI N) yol ytl ycap ymk yen yac yec (nI (sc_1 bi N r)) yco yde ydp ydw ydq ywd ypr yit ym1 ym2 ym3 ym4 ym5 yws yps (nI g) ycv ycm ycs ycx ycu ysq (nI j) (nI W) ycp ycn bf bi bo btm brv ba brs := by
          intro y
          have s1 : sc_sg ycv bi N (sc_1 bi N r) := ⟨c3, a, y⟩
          have k329 : ∀ ng : Int32, (ng = 0 ↔ ¬ (sc_sg ycv bi N (sc_1 bi N r) ∧ bi (sc_1 bi N r) = 45)) → wY_scanDir_329 post (nI r) ycv (nI (sc_B W)) (nI (cv_b ycv)) ng yfl (nI N) yol ytl ycap ymk yen yac yec (nI (sc_1 bi N r)) yco yde ydp ydw ydq ywd ypr yit ym1 ym2 ym3 ym4 ym5 yws yps (nI g) ycv ycm ycs ycx ycu ysq (nI j) (nI W) ycp ycn bf bi bo btm brv ba brs := by
            intro ng ing
            exact nm_r p1 (nm_r (e' := nI (sc_B W - 1)) (sb_p1 hB.1) (br_f n16 (k457 1 ng (by unfold sc_k; rw [if_pos s1]) ing)))
          refine ⟨vi, wk_if (d := bi (sc_1 bi N r) = 45) (by rw [e]) (fun z => k329 1 ⟨fun w => absurd w (by decide), fun w => absurd ⟨s1, z⟩ w⟩) (fun z => k329 0 ⟨fun _ w => z w.2, fun _ => rfl⟩)⟩
        refine ⟨vi, wk_if (d := bi (sc_1 bi N r) = 43) (by rw [e]) (fun z => yes (Or.inl z)) (fun z => ⟨vi, wk_if (d := bi (sc_1 bi N r) = 45) (by rw [e]) (fun w => yes (Or.inr w)) (fun w => no (fun y => y.2.2.elim z w))⟩)⟩
      · have s0 : ¬ sc_sg ycv bi N (sc_1 bi N r) := fun z => c3 z.1
        have plain : ¬ sc_hx ycv W bi N (sc_1 bi N r) → ∃ f, wY_scanDir_457 post (nI r) ycv (nI (cv_b ycv)) 0 yfl (nI N) yol ytl ycap ymk yen yac yec yco yde ydp ydw ydq ywd ypr yit ym1 ym2 ym3 ym4 ym5 yws yps (nI g) ycv ycm ycs ycx ycu ysq (nI j) (nI W) ycp ycn bf bi bo btm brv ba brs f (nI (sc_B W)) 0 0 0 (nI (sc_1 bi N r)) := fun x => k457 0 0 (by unfold sc_k; rw [if_neg s0, if_neg x]) ⟨fun _ z => s0 z.1, fun _ => rfl⟩
        refine br_f c3 (pk_eq (cv_b ycv) 16 (fun a => ?_) (fun a => plain (fun z => a z.1)))
        refine pk_lt (sc_B W) 3 (fun b => plain (fun z => by have := z.2.1; omega)) (fun b => pk_le N (sc_1 bi N r + 2) (fun d => plain (fun z => by have := z.2.2.1; omega)) (fun d => ?_) rfl p2)
        have v0 : vp_in (nI (sc_1 bi N r)) 256 := vp_in_nI (by omega) (by omega)
        have v1 : vp_in (nI (sc_1 bi N r) + 1) 256 := by rw [p1]; exact vp_in_nI (by omega) (by omega)
        have v2 : vp_in (nI (sc_1 bi N r) + 2) 256 := by rw [p2]; exact vp_in_nI (by omega) (by omega)
        have e1 : (nI (sc_1 bi N r) + 1).toNatClampNeg = sc_1 bi N r + 1 := by rw [p1]; exact nI_clamp (by omega)
        have e2 : (nI (sc_1 bi N r) + 2).toNatClampNeg = sc_1 bi N r + 2 := by rw [p2]; exact nI_clamp (by omega)
        refine ⟨v0, wk_if (d := bi (sc_1 bi N r) = 48) (by rw [nI_clamp (by omega)]) (fun y => ⟨v1, ?_⟩) (fun y => plain (fun z => y z.2.2.2.1))⟩
        have k416 : (bi (sc_1 bi N r + 1) = 120 ∨ bi (sc_1 bi N r + 1) = 88) → wY_scanDir_416 post (nI r) ycv (nI (sc_B W)) (nI (cv_b ycv)) 0 yfl (nI N) yol ytl ycap ymk yen yac yec (nI (sc_1 bi N r)) yco yde ydp ydw ydq ywd ypr yit ym1 ym2 ym3 ym4 ym5 yws yps (nI g) ycv ycm ycs ycx ycu ysq (nI j) (nI W) ycp ycn bf bi bo btm brv ba brs := by
          intro w
          have hd := dv_b (bi (sc_1 bi N r + 2))
          refine ⟨v2, ym_dv (base := 16) (bi (sc_1 bi N r + 2)) (by rw [e2]) (by omega) (fun z => ?_) (fun z => ?_)⟩
          · have x : sc_hx ycv W bi N (sc_1 bi N r) := ⟨a, b, d, y, w, z⟩
            exact br_f (nI_pos (by omega)) (nm_r p2 (nm_r (e' := nI (sc_B W - 2)) (sb_p2 (by omega)) (k457 2 0 (by unfold sc_k; rw [if_neg s0, if_pos x]) ⟨fun _ z => s0 z.1, fun _ => rfl⟩)))
          · exact br_t (by decide) (plain (fun x => z x.2.2.2.2.2))
        refine wk_if (d := bi (sc_1 bi N r + 1) = 120) (by rw [e1]) (fun w => k416 (Or.inl w)) (fun w => ⟨v1, wk_if (d := bi (sc_1 bi N r + 1) = 88) (by rw [e1]) (fun w2 => k416 (Or.inr w2)) (fun w2 => plain (fun x => x.2.2.2.2.1.elim w w2))⟩)
    have k223 : wY_scanDir_223 post (nI r) ycv (nI (sc_B W)) yfl (nI N) yol ytl ycap ymk yen yac yec (nI (sc_1 bi N r)) yco yde ydp ydw ydq ywd ypr yit ym1 ym2 ym3 ym4 ym5 yws yps (nI g) ycv ycm ycs ycx ycu ysq (nI j) (nI W) ycp ycn bf bi bo btm brv ba brs := by
      by_cases a1 : ycv = 100
      · have eb : cv_b ycv = 10 := by rw [a1]; rfl
        rw [eb] at k255
        exact br_t a1 k255
      refine br_f a1 ?_
      by_cases a2 : ycv = 117
      · have eb : cv_b ycv = 10 := by rw [a2]; rfl
        rw [eb] at k255
        exact br_t a2 k255
      refine br_f a2 ?_
      by_cases a3 : ycv = 111
      · have eb : cv_b ycv = 8 := by rw [a3]; rfl
        rw [eb] at k255
        exact br_t a3 k255
      · have eb : cv_b ycv = 16 := by
          rcases cv_cases hok with y | y | y | y | y | y | y
          · exact absurd y c1
          · exact absurd y c2
          · exact absurd y a1
          · exact absurd y a2
          · rw [y]; rfl
          · rw [y]; rfl
          · exact absurd y a3
        rw [eb] at k255
        exact br_f a3 k255
    refine ym_sw hN hr (pk_lt W 1 (fun a => ?_) (fun a => ?_))
    · have eB : sc_B W = 1000 := if_neg (by omega)
      rw [eB] at k223
      exact k223
    · have eB : sc_B W = W := if_pos a
      rw [eB] at k223
      exact k223
end
end
section
/-! scan: both walk in step -/
section
variable {yfl yil yol ytl ycap ymk yen yac yec ypos yco yde ydp ydw ydq ywd ypr yit ym1 ym2 ym3 ym4 ym5 yws yps ylg ycv ycm ycs ycx ycu ysq ysv ycw ycp ycn : Int32} {bf bi bo btm brv : Nat → Int32} {ba brs : Nat → Int64}
theorem ym_sl {post : Int32 → SY → Prop} {N p : Nat} {c : Int32} (c' : Int32) (ec : c = c') (hN : N ≤ 256) (hp : p ≤ N) (hw : sk_w c' → post 1 (yfl, nI N, yol, ytl, ycap, ymk, yen, yac, yec, nI (sc_1 bi N p), yco, yde, ydp, ydw, ydq, ywd, ypr, yit, ym1, ym2, ym3, ym4, ym5, yws, yps, ylg, ycv, ycm, ycs, ycx, ycu, ysq, ysv, ycw, ycp, ycn, bf, bi, bo, btm, brv, ba, brs)) (hm : ¬ sk_w c' → p < N → bi p = c' → post 1 (yfl, nI N, yol, ytl, ycap, ymk, yen, yac, yec, nI (p + 1), yco, yde, ydp, ydw, ydq, ywd, ypr, yit, ym1, ym2, ym3, ym4, ym5, yws, yps, ylg, ycv, ycm, ycs, ycx, ycu, ysq, ysv, ycw, ycp, ycn, bf, bi, bo, btm, brv, ba, brs))
    (h0 : ¬ sk_w c' → ¬ (p < N ∧ bi p = c') → post 0 (yfl, nI N, yol, ytl, ycap, ymk, yen, yac, yec, nI p, yco, yde, ydp, ydw, ydq, ywd, ypr, yit, ym1, ym2, ym3, ym4, ym5, yws, yps, ylg, ycv, ycm, ycs, ycx, ycu, ysq, ysv, ycw, ycp, ycn, bf, bi, bo, btm, brv, ba, brs)) : wpY_scanLit post (yfl, nI N, yol, ytl, ycap, ymk, yen, yac, yec, nI p, yco, yde, ydp, ydw, ydq, ywd, ypr, yit, ym1, ym2, ym3, ym4, ym5, yws, yps, ylg, ycv, ycm, ycs, ycx, ycu, ysq, ysv, ycw, ycp, ycn, bf, bi, bo, btm, brv, ba, brs) c := by
  subst ec
  unfold wpY_scanLit
  refine ym_ws c rfl (fun w => br_f (by decide) (ym_sw hN hp (hw w))) (fun w => br_t rfl (pk_le N p (fun a => h0 w (fun z => by omega)) (fun a => ⟨vp_in_nI (by omega) (by omega), wk_if (d := bi p = c) (by rw [nI_clamp (by omega)]) (fun b => nm_r (nI_1 p) (hm w a b)) (fun b => h0 w (fun z => b z.2))⟩)))
theorem ym_37 {post : Int32 → SY → Prop} (h : ∃ n, wY_scan_62 post n 0 0 0 yfl yil yol ytl ycap ymk yen yac yec ypos yco yde ydp ydw ydq ywd ypr yit ym1 ym2 ym3 ym4 ym5 yws yps ylg ycv ycm ycs ycx ycu ysq ysv ycw ycp ycn bf bi bo btm brv ba (cl_f brs 8)) : ∃ n, wY_scan_37 post yfl yil yol ytl ycap ymk yen yac yec ypos yco yde ydp ydw ydq ywd ypr yit ym1 ym2 ym3 ym4 ym5 yws yps ylg ycv ycm ycs ycx ycu ysq ysv ycw ycp ycn n 0 bf bi bo btm brv ba brs := by
  have lo : ∀ r i, i + r = 8 → wY_scan_37 post yfl yil yol ytl ycap ymk yen yac yec ypos yco yde ydp ydw ydq ywd ypr yit ym1 ym2 ym3 ym4 ym5 yws yps ylg ycv ycm ycs ycx ycu ysq ysv ycw ycp ycn (r + 1) (nI i) bf bi bo btm brv ba (cl_f brs i) := by
    intro r
    induction r with
    | zero =>
      intro i hi
      have e : i = 8 := by omega
      subst e
      exact br_t (by decide) h
    | succ r ih =>
      intro i hi
      exact br_f (nI_ge (b := 8) (by omega) (by decide)) ⟨vp_in_nI (by omega) (by decide), nm_r (e' := cl_f brs (i + 1)) (by rw [nI_clamp (by omega)]; rfl) (nm_r (nI_1 i) (ih (i + 1) (by omega)))⟩
  exact ⟨9, lo 8 0 rfl⟩
end
section
variable {C L O N E T : Nat} {xat xlt xcu xwu xpu xvu xdc xsu xpo xdl xtl ytl ye0 yac ycm ycs ycx ycu : Int32} {af ao ai adr atx adg ak als ale afl awd apr aws aps avs ali : Nat → Int32} {aa : Nat → Int64} {pe se : Nat → Nat}
theorem sm_lit (hL : L ≤ 64) (hN : N ≤ 256) (hf : ∀ j, ar_ch (af j)) (G : (Int32 → SY → Prop) → Prop) {e s' cnt : Nat} {q : Nat → Nat} (he : e < 64) (hs : s' + cnt ≤ 64) (h2 : ale e = nI (s' + cnt)) (rj : ∀ j, j < cnt → it_lit af L (q j) (ali (s' + j)) (q (j + 1))) (sq : Nat) (P : Int32 → SX → Prop) (ct mk xbu : Int32) (xsv : Int64) (rs : Nat → Int64)
    (hP1 : ∀ pos g : Nat, pos ≤ N → g ≤ q cnt → (∀ post : Int32 → SY → Prop, (∃ m, ∀ (yde ydp ydw ydq ywd ypr yit ym1 ym2 ym3 ym4 ym5 yws yps ylg ycv ysv ycw ycp ycn : Int32) (brv : Nat → Int32), wY_scan_62 post m ct (nI (q cnt)) (nI g) (nI L) (nI N) (nI O) ytl (nI C) mk ye0 yac (nI E) (nI pos) 1 yde ydp ydw ydq ywd ypr yit ym1 ym2 ym3 ym4 ym5 yws yps ylg ycv ycm ycs ycx ycu (nI sq) ysv ycw ycp ycn af ai ao adr brv aa rs) → G post) → P 1 (nI C, nI L, nI O, nI N, mk, nI pos, 1, nI E, xat, xlt, xcu, xwu, xpu, xvu, xdc, xsu, xpo, xdl, xtl, xbu, xsv, af, aa, ao, ai, rs, ak, als, ale, afl, awd, apr, aws, aps, avs, ali, adr, atx, adg))
    (hP0 : ∀ pos : Nat, pos ≤ N → (∀ post : Int32 → SY → Prop, (∀ (yde ydp ydw ydq ywd ypr yit ym1 ym2 ym3 ym4 ym5 yws yps ylg ycv ysv ycw ycp ycn : Int32) (brv : Nat → Int32), post ct (nI L, nI N, nI O, ytl, nI C, mk, nI pos, yac, nI E, nI pos, 1, yde, ydp, ydw, ydq, ywd, ypr, yit, ym1, ym2, ym3, ym4, ym5, yws, yps, ylg, ycv, ycm, ycs, ycx, ycu, nI sq, ysv, ycw, ycp, ycn, af, ai, ao, adr, brv, aa, rs)) → G post) → P 0 (nI C, nI L, nI O, nI N, mk, nI pos, 1, nI E, xat, xlt, xcu, xwu, xpu, xvu, xdc, xsu, xpo, xdl, xtl, xbu, xsv, af, aa, ao, ai, rs, ak, als, ale, afl, awd, apr, aws, aps, avs, ali, adr, atx, adg)) :
    ∀ t j (pos g : Nat), j + t = cnt → pos ≤ N → g ≤ q j → (∀ post : Int32 → SY → Prop, (∃ m, ∀ (yde ydp ydw ydq ywd ypr yit ym1 ym2 ym3 ym4 ym5 yws yps ylg ycv ysv ycw ycp ycn : Int32) (brv : Nat → Int32), wY_scan_62 post m ct (nI (q j)) (nI g) (nI L) (nI N) (nI O) ytl (nI C) mk ye0 yac (nI E) (nI pos) 1 yde ydp ydw ydq ywd ypr yit ym1 ym2 ym3 ym4 ym5 yws yps ylg ycv ycm ycs ycx ycu (nI sq) ysv ycw ycp ycn af ai ao adr brv aa rs) → G post) → wX_matchLiteral_7 P (nI e) (t + 1) (nI (s' + j)) (nI C) (nI L) (nI O) (nI N) mk (nI pos) 1 (nI E) xat xlt xcu xwu xpu xvu xdc xsu xpo xdl xtl xbu xsv af aa ao ai rs ak als ale afl awd apr aws aps avs ali adr atx adg := by
  intro t
  induction t with
  | zero =>
    intro j pos g hj hpos hg H
    have e1 : j = cnt := by omega
    subst e1
    exact ⟨vp_in_nI he (by decide), br_t (by rw [nI_clamp (by omega), h2]; exact nI_le (Nat.le_refl _) (by omega)) (hP1 pos g hpos hg H)⟩
  | succ t ih =>
    intro j pos g hj hpos hg H
    have hi := rj j (by omega)
    have hlt := hi.1
    have hq := it_q hi
    have hch := it_c hf hi
    have n64 : ¬ (64 : Int32) ≤ nI g := nI_ge (b := 64) (by omega) (by decide)
    have nL : ¬ nI L ≤ nI (q j) := nI_ge hlt (by omega)
    have hs1 := sc_1b ai hpos
    have es : (nI (s' + j)).toNatClampNeg = s' + j := nI_clamp (by omega)
    have vs : vp_in (nI (s' + j)) 64 := vp_in_nI (by omega) (by omega)
    refine ⟨vp_in_nI he (by decide), br_f (by rw [nI_clamp (by omega), h2]; exact nI_ge (by omega) (by omega)) ⟨vs, xm_ws (ali (s' + j)) (by rw [es]) (fun w => br_f (by decide) (xm_sw hN hpos (nm_r (nI_1 (s' + j)) ?_))) (fun w => br_t rfl ?_)⟩⟩
    · refine ih (j + 1) (sc_1 ai N pos) (g + 1) (by omega) hs1.2 (by omega) ?_
      intro post hm
      obtain ⟨m, hm⟩ := hm
      refine H post ⟨m + 1, ?_⟩
      intro yde ydp ydw ydq ywd ypr yit ym1 ym2 ym3 ym4 ym5 yws yps ylg ycv ysv ycw ycp ycn brv
      exact br_f n64 (br_f nL (ym_itl hL hi (br_t (nI_lt hq.1 (by omega)) (br_f (Int32.not_lt.mpr (ar_pos hch)) (ym_sl (ali (s' + j)) (ar_castI hch) hN hpos (fun _ => br_f (by decide) (nm_r (nI_1 g) (hm _ _ _ _ _ _ _ _ _ _ _ _ _ _ _ _ _ _ _ _ _))) (fun z => absurd w z) (fun z => absurd w z))))))
    · have fail : ¬ (pos < N ∧ ai pos = ali (s' + j)) → P 0 (nI C, nI L, nI O, nI N, mk, nI pos, 1, nI E, xat, xlt, xcu, xwu, xpu, xvu, xdc, xsu, xpo, xdl, xtl, xbu, xsv, af, aa, ao, ai, rs, ak, als, ale, afl, awd, apr, aws, aps, avs, ali, adr, atx, adg) := by
        intro z
        refine hP0 pos hpos (fun post hm => H post ⟨1, ?_⟩)
        intro yde ydp ydw ydq ywd ypr yit ym1 ym2 ym3 ym4 ym5 yws yps ylg ycv ysv ycw ycp ycn brv
        exact br_f n64 (br_f nL (ym_itl hL hi (br_t (nI_lt hq.1 (by omega)) (br_f (Int32.not_lt.mpr (ar_pos hch)) (ym_sl (ali (s' + j)) (ar_castI hch) hN hpos (fun y => absurd y w) (fun _ a b => absurd ⟨a, b⟩ z) (fun _ _ => br_t rfl (hm _ _ _ _ _ _ _ _ _ _ _ _ _ _ _ _ _ _ _ _ _)))))))
      refine pk_le N pos (fun a => fail (fun z => by omega)) (fun a => ⟨vp_in_nI (by omega) (by omega), vs, wk_if (d := ai pos = ali (s' + j)) (by rw [nI_clamp (by omega), es]) (fun b => nm_r (nI_1 pos) (nm_r (nI_1 (s' + j)) ?_)) (fun b => fail (fun z => b z.2))⟩)
      refine ih (j + 1) (pos + 1) (g + 1) (by omega) (by omega) (by omega) ?_
      intro post hm
      obtain ⟨m, hm⟩ := hm
      refine H post ⟨m + 1, ?_⟩
      intro yde ydp ydw ydq ywd ypr yit ym1 ym2 ym3 ym4 ym5 yws yps ylg ycv ysv ycw ycp ycn brv
      exact br_f n64 (br_f nL (ym_itl hL hi (br_t (nI_lt hq.1 (by omega)) (br_f (Int32.not_lt.mpr (ar_pos hch)) (ym_sl (ali (s' + j)) (ar_castI hch) hN hpos (fun y => absurd y w) (fun _ _ _ => br_f (by decide) (nm_r (nI_1 g) (hm _ _ _ _ _ _ _ _ _ _ _ _ _ _ _ _ _ _ _ _ _))) (fun _ z => absurd ⟨a, b⟩ z))))))
theorem sm_lp (k : Nat) (hB : rl_B C L O N af ao adr) (hE : E ≤ 64) (hT64 : T ≤ 64) (hp : pe E = L) (hT : tb_tab af L T ak als ale afl awd apr aws aps avs ali E pe se) (hRT : rl_T L 1 (nI E) xat yac (nI E) af ak als ale afl awd apr aws aps avs ali) (good : ∀ e, e < E → sg_w aa (aws e) ∧ sg_p aa (aps e)) (G : (Int32 → SY → Prop) → Prop) :
    ∀ r e ct g pos (mk xbu : Int32) (xsv : Int64) (rs : Nat → Int64), e + r = E → g ≤ pe e → pos ≤ N →
    (∀ post : Int32 → SY → Prop, (∃ m, ∀ (yde ydp ydw ydq ywd ypr yit ym1 ym2 ym3 ym4 ym5 yws yps ylg ycv ysv ycw ycp ycn : Int32) (brv : Nat → Int32), wY_scan_62 post m (nI ct) (nI (pe e)) (nI g) (nI L) (nI N) (nI O) ytl (nI C) mk ye0 yac (nI E) (nI pos) 1 yde ydp ydw ydq ywd ypr yit ym1 ym2 ym3 ym4 ym5 yws yps ylg ycv ycm ycs ycx ycu (nI (se e)) ysv ycw ycp ycn af ai ao adr brv aa rs) → G post) →
    wX_scan_30 (fun r u' => G (fun r' v' => r' = r ∧ i_Rel k u' v')) (r + 1) (nI ct) 1 (nI e) (nI C) (nI L) (nI O) (nI N) mk (nI pos) 1 (nI E) xat xlt xcu xwu xpu xvu xdc xsu xpo xdl xtl xbu xsv af aa ao ai rs ak als ale afl awd apr aws aps avs ali adr atx adg := by
  have hB' := hB
  obtain ⟨hB1, hL, hO, hN, hf, ho, hc⟩ := hB
  intro r
  induction r with
  | zero =>
    intro e ct g pos mk xbu xsv rs he hg hpos H
    have e0 : E = e := by omega
    subst e0
    rw [hp] at hg H
    refine br_t (nI_le (by omega) (by omega)) (H _ ⟨1, ?_⟩)
    intro yde ydp ydw ydq ywd ypr yit ym1 ym2 ym3 ym4 ym5 yws yps ylg ycv ysv ycw ycp ycn brv
    have fin : (fun r' v' => r' = nI ct ∧ i_Rel k (nI C, nI L, nI O, nI N, mk, nI pos, 1, nI E, xat, xlt, xcu, xwu, xpu, xvu, xdc, xsu, xpo, xdl, xtl, xbu, xsv, af, aa, ao, ai, rs, ak, als, ale, afl, awd, apr, aws, aps, avs, ali, adr, atx, adg) v') (nI ct) (nI L, nI N, nI O, ytl, nI C, mk, nI pos, yac, nI E, nI pos, 1, yde, ydp, ydw, ydq, ywd, ypr, yit, ym1, ym2, ym3, ym4, ym5, yws, yps, ylg, ycv, ycm, ycs, ycx, ycu, nI (se E), ysv, ycw, ycp, ycn, af, ai, ao, adr, brv, aa, rs) := ⟨rfl, rl_i k hB' hRT⟩
    exact pk_le 64 g (fun _ => fin) (fun _ => br_t (nI_le (Nat.le_refl _) (by omega)) fin)
  | succ r ih =>
    intro e ct g pos mk xbu xsv rs he hg hpos H
    have ve : vp_in (nI e) 64 := vp_in_nI (by omega) (by omega)
    have ee : (nI e).toNatClampNeg = e := nI_clamp (by omega)
    -- behind a failure the loop only ends
    have over : ∀ (pos : Nat) (mk xbu : Int32) (xsv : Int64) (rs : Nat → Int64) (ysq : Int32), (∀ post : Int32 → SY → Prop, (∀ (yde ydp ydw ydq ywd ypr yit ym1 ym2 ym3 ym4 ym5 yws yps ylg ycv ysv ycw ycp ycn : Int32) (brv : Nat → Int32), post (nI ct) (nI L, nI N, nI O, ytl, nI C, mk, nI pos, yac, nI E, nI pos, 1, yde, ydp, ydw, ydq, ywd, ypr, yit, ym1, ym2, ym3, ym4, ym5, yws, yps, ylg, ycv, ycm, ycs, ycx, ycu, ysq, ysv, ycw, ycp, ycn, af, ai, ao, adr, brv, aa, rs)) → G post) → wX_scan_30 (fun r u' => G (fun r' v' => r' = r ∧ i_Rel k u' v')) (r + 1) (nI ct) 0 (nI (e + 1)) (nI C) (nI L) (nI O) (nI N) mk (nI pos) 1 (nI E) xat xlt xcu xwu xpu xvu xdc xsu xpo xdl xtl xbu xsv af aa ao ai rs ak als ale afl awd apr aws aps avs ali adr atx adg := by
      intro pos mk xbu xsv rs ysq H'
      have hp : G (fun r' v' => r' = nI ct ∧ i_Rel k (nI C, nI L, nI O, nI N, mk, nI pos, 1, nI E, xat, xlt, xcu, xwu, xpu, xvu, xdc, xsu, xpo, xdl, xtl, xbu, xsv, af, aa, ao, ai, rs, ak, als, ale, afl, awd, apr, aws, aps, avs, ali, adr, atx, adg) v') := by
        refine H' _ ?_
        intro yde ydp ydw ydq ywd ypr yit ym1 ym2 ym3 ym4 ym5 yws yps ylg ycv ysv ycw ycp ycn brv
        exact ⟨rfl, rl_i k hB' hRT⟩
      exact ⟨fun _ => hp, fun _ => br_t rfl hp⟩
    refine br_f (nI_ge (by omega) (by omega)) (br_f (by decide) ⟨ve, ?_⟩)
    rcases hT.2.2.1 e (by omega) with ⟨⟨k0, w0, p0, s', cnt, q, h1, h2, h3, n0, r0, r1, rj⟩, es⟩ | hd
    · refine br_t (by rw [ee]; exact k0) ⟨ve, nm_r (e' := nI s') (by rw [ee]; exact h1) ⟨cnt + 1, ?_⟩⟩
      refine sm_lit hL hN hf G (by omega) (by omega) h2 rj (se e) _ (nI ct) mk xbu xsv rs (fun pos' g' hpos' hg' H' => ?_) (fun pos' hpos' H' => ?_) cnt 0 pos g (by omega) hpos (by rw [r0]; exact hg) (by rw [r0]; exact H)
      · rw [r1] at hg' H'
        rw [← es] at H'
        exact nm_r (nI_1 e) (ih (e + 1) ct g' pos' mk _ _ rs (by omega) hg' hpos' H')
      · exact nm_r (nI_1 e) (over pos' mk _ _ rs _ H')
    · obtain ⟨g1, g2⟩ := tb_good (aa := aa) hd
      have gd := good e (by omega)
      have gw := g1.mp gd.1
      have gp := g2.mp gd.2
      have hd' := hd
      obtain ⟨hpc, hr, hq, hrow⟩ := hd
      have hlt := hpc.1
      have hb := dr_b af hlt
      have hk : dr_k af L (pe e) < L := (pc_ok (dr_ok hr).2.2.2).1
      have kz : ¬ ak e = 0 := by rw [hrow.1]; exact tb_kz (pc_ok (dr_ok hr).2.2.2)
      have et := hrow.2.2.2.2.2.2.2.1
      have e8 := (tb_s8 hd').1
      have hok := (pc_ok (dr_ok hr).2.2.2).2.1
      have hW := ev_Wb hr gw
      obtain ⟨j, hj, ej⟩ := sl_in (dr_us hr).2.2 e8
      have ejV : ev_V af L (pe e) (se e) = nI j := ej
      have n64 : ¬ (64 : Int32) ≤ nI g := nI_ge (b := 64) (by omega) (by decide)
      have nL : ¬ nI L ≤ nI (pe e) := nI_ge hlt (by omega)
      refine br_f (by rw [ee]; exact kz) (xm_scv (by omega) hd' gw hN hpos hj ejV (fun ok xbu xsv => ?_) (fun nok xbu xsv => ?_))
      · refine br_f (by decide) (nm_r (nI_1 ct) (nm_r (nI_1 e) (ih (e + 1) (ct + 1) (g + 1) (sc_E (dr_c af L (pe e)) (ev_W af L aa (pe e) (se e)) ai N pos) _ _ _ _ (by omega) (by omega) (sc_Eb hpos ok) ?_)))
        intro post hm
        obtain ⟨m, hm⟩ := hm
        rw [hq, et] at hm
        refine H post ⟨m + 1, ?_⟩
        intro yde ydp ydw ydq ywd ypr yit ym1 ym2 ym3 ym4 ym5 yws yps ylg ycv ysv ycw ycp ycn brv
        refine br_f n64 (br_f nL (ym_itd hL hpc hf (fun z => absurd hr z) (fun _ => br_t (nI_lt (by omega) (by omega)) (br_t (by decide) (ym_st hr e8 (fun z => absurd ⟨gw, gp⟩ z) (fun _ _ => ?_))))))
        rw [ejV]
        exact ym_sdr hN hpos hj (tb_gz af L (pe e)) hW hok (fun _ => br_f (by decide) (nm_r (nI_1 ct) (nm_r (nI_1 g) (hm _ _ _ _ _ _ _ _ _ _ _ _ _ _ _ _ _ _ _ _ _)))) (fun z => absurd ok z)
      · refine br_t rfl (nm_r (nI_1 e) (over pos mk _ _ rs (nI (sl_n (dr_v af L (pe e)) (sl_n (dr_pu af L (pe e)) (sl_n (dr_wu af L (pe e)) (se e))))) (fun post hm => H post ⟨1, ?_⟩)))
        intro yde ydp ydw ydq ywd ypr yit ym1 ym2 ym3 ym4 ym5 yws yps ylg ycv ysv ycw ycp ycn brv
        refine br_f n64 (br_f nL (ym_itd hL hpc hf (fun z => absurd hr z) (fun _ => br_t (nI_lt (by omega) (by omega)) (br_t (by decide) (ym_st hr e8 (fun z => absurd ⟨gw, gp⟩ z) (fun _ _ => ?_))))))
        rw [ejV]
        exact ym_sdr hN hpos hj (tb_gz af L (pe e)) hW hok (fun z => absurd z nok) (fun _ => br_t rfl (hm _ _ _ _ _ _ _ _ _ _ _ _ _ _ _ _ _ _ _ _ _))
end
end
section
/-! scan, from both starts -/
theorem i_vc_scan {k : Nat} {u : SX} {v : SY} (I : i_Rel k u v) (hk : k + 4 ≤ 2049) : wpX_scan (fun r u' => wpY_scan (fun r' v' => r' = r ∧ i_Rel (k + 4) u' v') v) u := by
  refine rl_e (P := fun u v => wpX_scan (fun r u' => wpY_scan (fun r' v' => r' = r ∧ i_Rel (k + 4) u' v') v) u) I ?_
  intro C L O N co xrm xsp xec xat xlt xcu xwu xpu xvu xdc xsu xpo xdl xtl xbu xsv af ao ai ak als ale afl awd apr aws aps avs ali adr atx adg aa ar ytl yac yec ypos yde ydp ydw ydq ywd ypr yit ym1 ym2 ym3 ym4 ym5 yws yps ylg ycv ycm ycs ycx ycu ysq ysv ycw ycp ycn brv hB hT
  have hB' := hB
  have hT' := hT
  obtain ⟨B1, B2, B3, B4, B5, B6, B7⟩ := hB
  rcases hT with z | ⟨z, e, E, T, pe, se, e1, e2, hE, hTT, hp, hT⟩
  · subst z; exact br_t rfl (br_t rfl ⟨rfl, rl_i (k + 4) hB' hT'⟩)
  · subst z; subst e1; subst e2
    refine br_f (by decide) (xm_sg hE (fun e he => tb_slots (hT.2.2.1 e he)) (fun good => br_f (by decide) (xm_cr ?_)) (fun e0 he0 hbad hless => br_t rfl (br_f (by decide) ?_)))
    · refine ⟨E + 1, sm_lp (ytl := ytl) (ye0 := xsp) (ycm := ycm) (ycs := ycs) (ycx := ycx) (ycu := ycu) (k + 4) hB' hE hTT hp hT hT' good (fun post => wpY_scan post (nI L, nI N, nI O, ytl, nI C, xrm, xsp, yac, nI E, ypos, 1, yde, ydp, ydw, ydq, ywd, ypr, yit, ym1, ym2, ym3, ym4, ym5, yws, yps, ylg, ycv, ycm, ycs, ycx, ycu, ysq, ysv, ycw, ycp, ycn, af, ai, ao, adr, brv, aa, ar)) E 0 0 0 0 0 xbu xsv (cl_f ar 8) (by omega) (by omega) (by omega) ?_⟩
      intro post hm
      obtain ⟨m, hm⟩ := hm
      rw [hT.1, hT.2.1] at hm
      refine br_f (by decide) (ym_ck B2 hE B5 hT hp (fun _ => ?_) (fun e0 a b => absurd (good e0 a) b))
      intro yde ydp ydw ydq ywd ypr yit ym1 ym2 ym3 ym4 ym5 yws yps ylg ycv ysq ysv ycw ycp ycn
      exact br_t rfl (ym_37 ⟨m, hm _ _ _ _ _ _ _ _ _ _ _ _ _ _ _ _ _ _ _ _ _⟩)
    · refine ym_ck B2 hE B5 hT hp (fun good => absurd (good e0 he0) hbad) (fun _ _ _ => ?_)
      intro yde ydp ydw ydq ywd ypr yit ym1 ym2 ym3 ym4 ym5 yws yps ylg ycv ysq ysv ycw ycp ycn
      exact br_f (by decide) ⟨rfl, rl_i (k + 4) hB' hT'⟩
end
