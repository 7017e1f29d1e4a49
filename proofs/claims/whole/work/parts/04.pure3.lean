/-! pure rows: uses of a compile, the text of a conversion -/
def us_r (u : Int32) (s b : Nat) : Int32 := if u = 0 then (if ¬ b = 0 then -4 else if 8 ≤ s then -6 else nI s) else (if 0 < s then -4 else u - 1)
def us_b (u : Int32) (b : Nat) : Nat := if u = -1 then b else if u = 0 then b else b ||| 2 ^ (u.toNatClampNeg - 1)
def us_l (b : Nat) : Nat := if b < 1 then 0 else if b < 2 then 1 else if b < 4 then 2 else if b < 8 then 3 else if b < 16 then 4 else if b < 32 then 5 else if b < 64 then 6 else if b < 128 then 7 else 8
def us_m (s b : Nat) : Int32 := if ¬ b = 0 then 2 else if 0 < s then 1 else 0
abbrev us_I (s b : Nat) : Prop := (s = 0 ∨ b = 0) ∧ b < 256 ∧ s ≤ 8
theorem us_t1 : ∀ b, b < 256 → ∀ k, k < 8 → b ||| 2 ^ k < 256 ∧ ¬ (b ||| 2 ^ k) = 0 := by decide +kernel
theorem us_t2 : ∀ b, b < 256 → ∀ k, k < 8 → us_l (b ||| 2 ^ k) = (if us_l b < k + 1 then k + 1 else us_l b) := by decide +kernel
theorem us_t3 : ∀ b, b < 256 → ∀ k, k < 8 → nI b ||| ((1 : Int32) <<< (nI k &&& 31)) = nI (b ||| 2 ^ k) := by decide +kernel
theorem us_t4 : ∀ b, b < 256 → ∀ k, k < 9 → nI b >>> (nI k &&& 31) = nI (b / 2 ^ k) := by decide +kernel
theorem us_t5 : ∀ b, b < 256 → ∀ k, k < 9 → nI (b / 2 ^ k) &&& 1 = nI (b / 2 ^ k % 2) := by decide +kernel
theorem us_t6 : ∀ b, b < 256 → ∀ t, t < 9 → b / 2 ^ t = 0 → (t = 0 ∨ b / 2 ^ (t - 1) % 2 = 1) → us_l b = t := by decide +kernel
theorem us_t7 : ∀ b, b < 256 → ∀ t, t < 9 → ¬ b / 2 ^ t = 0 → t < us_l b := by decide +kernel
theorem us_t8 : ∀ b, b < 256 → us_l b ≤ 8 ∧ (us_l b = 0 ↔ b = 0) := by decide +kernel
theorem us_n1 {n : Nat} (h : n < 2 ^ 31) : ¬ nI n = -1 := by
  intro z
  have := congrArg Int32.toInt z
  rw [nI_toInt h] at this
  have e : (-1 : Int32).toInt = -1 := by decide
  omega
theorem us_bk {k : Nat} (hk : k < 8) (b : Nat) : us_b (nI (k + 1)) b = b ||| 2 ^ k := by
  unfold us_b
  rw [if_neg (us_n1 (by omega)), if_neg (nI_ne0 (by omega) (by omega)), nI_clamp (by omega), Nat.add_sub_cancel]
theorem us_b0 (b : Nat) : us_b 0 b = b := rfl
theorem us_r0 (s b : Nat) : us_r 0 s b = if ¬ b = 0 then -4 else if 8 ≤ s then -6 else nI s := rfl
theorem us_rk {k : Nat} (hk : k < 8) (s b : Nat) : us_r (nI (k + 1)) s b = if 0 < s then -4 else nI k := by
  unfold us_r
  rw [if_neg (nI_ne0 (by omega) (by omega)), nI_pred]
/-- a use is refused, or takes the slot that sl_s tells -/
theorem us_cs {u : Int32} {s b : Nat} (hu : ∃ k : Nat, k ≤ 8 ∧ u = nI k) (I : us_I s b) : (us_r u s b < 0) ∨ (¬ us_r u s b < 0 ∧ us_r u s b = sl_s u s ∧ us_I (sl_n u s) (us_b u b)) := by
  obtain ⟨k, hk, rfl⟩ := hu
  obtain ⟨I1, I2, I3⟩ := I
  cases k with
  | zero =>
    rw [nI_0, us_r0]
    by_cases h1 : ¬ b = 0
    · rw [if_pos h1]; exact Or.inl (by decide)
    · rw [if_neg h1]
      by_cases h2 : 8 ≤ s
      · rw [if_pos h2]; exact Or.inl (by decide)
      · rw [if_neg h2]
        refine Or.inr ⟨nI_pos (by omega), rfl, ?_⟩
        rw [sl_n0, us_b0]
        exact ⟨Or.inr (Decidable.not_not.mp h1), I2, by omega⟩
  | succ k =>
    rw [us_rk (by omega)]
    by_cases h1 : 0 < s
    · rw [if_pos h1]; exact Or.inl (by decide)
    · rw [if_neg h1]
      refine Or.inr ⟨nI_pos (by omega), (sl_sk k (by omega) s).symm, ?_⟩
      rw [sl_nk (by omega), us_bk (by omega)]
      exact ⟨Or.inl (by omega), (us_t1 b I2 k (by omega)).1, I3⟩

/-- the error of a use, -1 being no use at all -/
def us_e (u : Int32) (s b : Nat) : Int32 := if u = -1 then 0 else if us_r u s b < 0 then us_r u s b else 0
/-- the error of a directive's uses -/
def tk_r (d : Nat) (wu pu vu : Int32) (s b : Nat) : Int32 := if 16 < d + 1 then -6 else if ¬ us_e wu s b = 0 then us_e wu s b else if ¬ us_e pu (sl_n wu s) (us_b wu b) = 0 then us_e pu (sl_n wu s) (us_b wu b) else us_e vu (sl_n pu (sl_n wu s)) (us_b pu (us_b wu b))
/-- bits of the flags -/
theorem fl_b : ∀ m, m < 32 → ((nI m &&& 1 = 0 ↔ m % 2 = 0) ∧ (nI m &&& 2 = 0 ↔ m / 2 % 2 = 0) ∧ (nI m &&& 4 = 0 ↔ m / 4 % 2 = 0)) := by decide +kernel
theorem fl_b2 : ∀ m, m < 32 → ((nI m &&& 8 = 0 ↔ m / 8 % 2 = 0) ∧ (nI m &&& 16 = 0 ↔ m / 16 % 2 = 0)) := by decide +kernel
theorem fl_ob : ∀ m, m < 32 → (nI m ||| 1 = nI (m ||| 1) ∧ nI m ||| 2 = nI (m ||| 2) ∧ nI m ||| 4 = nI (m ||| 4) ∧ nI m ||| 8 = nI (m ||| 8)) ∧ nI m ||| 16 = nI (m ||| 16) := by decide +kernel
theorem fl_y1 : ∀ m, m < 32 → (m ||| 1) % 2 = 1 ∧ (m ||| 1) / 2 % 2 = m / 2 % 2 ∧ (m ||| 1) / 4 % 2 = m / 4 % 2 ∧ (m ||| 1) / 8 % 2 = m / 8 % 2 ∧ (m ||| 1) / 16 % 2 = m / 16 % 2 := by decide +kernel
theorem fl_y2 : ∀ m, m < 32 → (m ||| 2) % 2 = m % 2 ∧ (m ||| 2) / 2 % 2 = 1 ∧ (m ||| 2) / 4 % 2 = m / 4 % 2 ∧ (m ||| 2) / 8 % 2 = m / 8 % 2 ∧ (m ||| 2) / 16 % 2 = m / 16 % 2 := by decide +kernel
theorem fl_y3 : ∀ m, m < 32 → (m ||| 4) % 2 = m % 2 ∧ (m ||| 4) / 2 % 2 = m / 2 % 2 ∧ (m ||| 4) / 4 % 2 = 1 ∧ (m ||| 4) / 8 % 2 = m / 8 % 2 ∧ (m ||| 4) / 16 % 2 = m / 16 % 2 := by decide +kernel
theorem fl_y4 : ∀ m, m < 32 → (m ||| 8) % 2 = m % 2 ∧ (m ||| 8) / 2 % 2 = m / 2 % 2 ∧ (m ||| 8) / 4 % 2 = m / 4 % 2 ∧ (m ||| 8) / 8 % 2 = 1 ∧ (m ||| 8) / 16 % 2 = m / 16 % 2 := by decide +kernel
theorem fl_y5 : ∀ m, m < 32 → (m ||| 16) % 2 = m % 2 ∧ (m ||| 16) / 2 % 2 = m / 2 % 2 ∧ (m ||| 16) / 4 % 2 = m / 4 % 2 ∧ (m ||| 16) / 8 % 2 = m / 8 % 2 ∧ (m ||| 16) / 16 % 2 = 1 := by decide +kernel

/-- the text of a number: its parts -/
def nt_v (c : Int32) (g : Nat) (a : Int64) : Int64 := if g = 1 then a else if c = 100 then a.toInt32.toInt64 else a &&& 4294967295
def nt_sg (c : Int32) (m : Nat) (v : Int64) : Int32 := if c = 100 then (if v < 0 then 45 else if m / 2 % 2 = 1 then 43 else if m / 4 % 2 = 1 then 32 else 0) else 0
abbrev nt_hx (c : Int32) (m : Nat) (v : Int64) : Prop := cv_b c = 16 ∧ m / 16 % 2 = 1 ∧ ¬ v = 0
def nt_pl (c : Int32) (m : Nat) (v : Int64) : Nat := if nt_hx c m v then 2 else if nt_sg c m v = 0 then 0 else 1
def nt_pre (c : Int32) (m : Nat) (v : Int64) : Nat → Int32 := fun j => if nt_hx c m v then (if j = 0 then 48 else c) else nt_sg c m v
def nt_nd (v : Int64) (P : Int32) (C : Nat) : Nat := if v = 0 ∧ P = 0 then 0 else C
def nt_z0 (P : Int32) (nd : Nat) : Nat := P.toNatClampNeg - nd
def nt_z1 (c : Int32) (m z0 : Nat) (v : Int64) (nd : Nat) : Nat := if c = 111 ∧ m / 16 % 2 = 1 ∧ ¬ (0 < z0 ∨ (v = 0 ∧ 0 < nd)) then 1 else z0
def nt_z2 (m : Nat) (left : Bool) (P : Int32) (W pl z1 nd : Nat) : Nat := if m / 8 % 2 = 1 ∧ ¬ left = true ∧ P = -1 ∧ pl + z1 + nd < W then W - pl - nd else z1
/-- a digit's char -/
def nt_dc (c : Int32) (d : Nat) : Int32 := if d < 10 then nI (48 + d) else if c = 88 then nI (55 + d) else nI (87 + d)
def nt_dg (c : Int32) (N nd : Nat) : Nat → Int32 := fun j => nt_dc c (N / cv_b c ^ (nd - 1 - j) % cv_b c)
def nt_T (c : Int32) (m : Nat) (v : Int64) (N z nd : Nat) : Nat → Int32 := fun j => if j < nt_pl c m v then nt_pre c m v j else if j < nt_pl c m v + z then 48 else nt_dg c N nd (j - nt_pl c m v - z)
theorem nt_dch (c : Int32) {d : Nat} (h : d < 16) : ar_ch (nt_dc c d) := by
  unfold nt_dc
  by_cases h1 : d < 10
  · rw [if_pos h1]; exact ar_nI (by omega)
  · rw [if_neg h1]
    by_cases h2 : c = 88
    · rw [if_pos h2]; exact ar_nI (by omega)
    · rw [if_neg h2]; exact ar_nI (by omega)
/-- a text of tl chars, padded to the width W, behind n chars of D -/
def em_o (left : Bool) (W tl : Nat) (T D : Nat → Int32) (n : Nat) : Nat → Int32 :=
  if left = true then ef_f 256 (fun _ => 32) (ef_f 256 T D n tl) (n + tl) (W - tl) else ef_f 256 T (ef_f 256 (fun _ => 32) D n (W - tl)) (n + (W - tl)) tl
theorem em_cg {left : Bool} {W tl : Nat} {T T' D : Nat → Int32} {n : Nat} (h : ∀ j, j < tl → T j = T' j) : em_o left W tl T D n = em_o left W tl T' D n := by
  unfold em_o
  rw [ef_cg 256 D n tl h, ef_cg 256 _ (n + (W - tl)) tl h]
theorem em_ch {left : Bool} {W tl : Nat} {T D : Nat → Int32} {n : Nat} (hD : ∀ j, ar_ch (D j)) (h : ∀ j, j < tl → ar_ch (T j)) : ∀ j, ar_ch (em_o left W tl T D n j) := by
  unfold em_o
  by_cases l : left = true
  · rw [if_pos l]
    exact ef_ch 256 _ (ef_ch 256 _ hD _ h) _ (fun _ _ => ⟨32, by decide, rfl⟩)
  · rw [if_neg l]
    exact ef_ch 256 _ (ef_ch 256 _ hD _ (fun _ _ => ⟨32, by decide, rfl⟩)) _ h

/-- what a directive asks for, its stars looked up: aa the arguments, s the count of sequential uses ahead of it -/
def ev_a (aa : Nat → Int64) (u : Int32) (s : Nat) : Int32 := (aa (sl_s u s).toNatClampNeg).toInt32
def ev_wv (f : Nat → Int32) (L : Nat) (aa : Nat → Int64) (p s : Nat) : Int32 := ev_a aa (dr_wu f L p) s
def ev_pv (f : Nat → Int32) (L : Nat) (aa : Nat → Int64) (p s : Nat) : Int32 := ev_a aa (dr_pu f L p) (sl_n (dr_wu f L p) s)
def ev_W (f : Nat → Int32) (L : Nat) (aa : Nat → Int64) (p s : Nat) : Nat := if dr_wu f L p = -1 then dr_w f L p else (if ev_wv f L aa p s < 0 then - ev_wv f L aa p s else ev_wv f L aa p s).toNatClampNeg
def ev_P (f : Nat → Int32) (L : Nat) (aa : Nat → Int64) (p s : Nat) : Int32 := if dr_pu f L p = -1 then dr_p f L p else if ev_pv f L aa p s < 0 then -1 else ev_pv f L aa p s
def ev_L (f : Nat → Int32) (L : Nat) (aa : Nat → Int64) (p s : Nat) : Bool := decide (dr_m f L p % 2 = 1 ∨ (¬ dr_wu f L p = -1 ∧ ev_wv f L aa p s < 0))
def ev_V (f : Nat → Int32) (L : Nat) (p s : Nat) : Int32 := sl_s (dr_v f L p) (sl_n (dr_pu f L p) (sl_n (dr_wu f L p) s))
abbrev ev_gw (f : Nat → Int32) (L : Nat) (aa : Nat → Int64) (p s : Nat) : Prop := ¬ dr_wu f L p = -1 → -99 ≤ ev_wv f L aa p s ∧ ev_wv f L aa p s ≤ 99
abbrev ev_gp (f : Nat → Int32) (L : Nat) (aa : Nat → Int64) (p s : Nat) : Prop := ¬ dr_pu f L p = -1 → ev_pv f L aa p s ≤ 99
theorem ev_neg : ∀ k, k ≤ 99 → -(-nI k) = nI k := by decide +kernel
theorem ev_rng {v : Int32} (h1 : -99 ≤ v) (h2 : v ≤ 99) : (v < 0 ∧ ∃ k : Nat, 1 ≤ k ∧ k ≤ 99 ∧ -v = nI k) ∨ (¬ v < 0 ∧ ∃ k : Nat, k ≤ 99 ∧ v = nI k) := by
  by_cases h : v < 0
  · refine Or.inl ⟨h, ?_⟩
    have a : (-99 : Int32).toInt ≤ v.toInt := Int32.le_iff_toInt_le.mp h1
    have b : v.toInt < (0 : Int32).toInt := Int32.lt_iff_toInt_lt.mp h
    have e1 : (-99 : Int32).toInt = -99 := by decide
    have e2 : (0 : Int32).toInt = 0 := by decide
    refine ⟨(-v.toInt).toNat, by omega, by omega, ?_⟩
    apply Int32.toInt_inj.mp
    rw [nI_toInt (by omega), Int32.toInt_neg]
    rw [show -v.toInt = (((-v.toInt).toNat : Nat) : Int) by omega]
    exact Int.bmod_eq_of_le (by omega) (by omega)
  · refine Or.inr ⟨h, ?_⟩
    obtain ⟨j, hj, rfl⟩ := nI_of h
    exact ⟨j, (nI_leI (b := 99) hj (by decide)).mp h2, rfl⟩
