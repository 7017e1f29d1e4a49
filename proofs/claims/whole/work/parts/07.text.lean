/-! the text of a number, in pieces and in one -/
theorem nt_split (M : Nat) (D : Nat → Int32) (n : Nat) (c : Int32) (m : Nat) (v : Int64) (N z nd : Nat) :
    ef_f M (nt_T c m v N z nd) D n (nt_pl c m v + z + nd) = ef_f M (nt_dg c N nd) (ef_f M (fun _ => 48) (ef_f M (nt_pre c m v) D n (nt_pl c m v)) (n + nt_pl c m v) z) (n + nt_pl c m v + z) nd := by
  have h1 : ef_f M (nt_T c m v N z nd) D n (nt_pl c m v) = ef_f M (nt_pre c m v) D n (nt_pl c m v) := by
    apply ef_cg
    intro j hj
    unfold nt_T
    rw [if_pos hj]
  have h2 : ∀ D' n', ef_f M (fun j => nt_T c m v N z nd (nt_pl c m v + j)) D' n' z = ef_f M (fun _ => 48) D' n' z := by
    intro D' n'
    apply ef_cg
    intro j hj
    show nt_T c m v N z nd (nt_pl c m v + j) = 48
    unfold nt_T
    rw [if_neg (by omega), if_pos (by omega)]
  have h3 : ∀ D' n', ef_f M (fun j => nt_T c m v N z nd (nt_pl c m v + z + j)) D' n' nd = ef_f M (nt_dg c N nd) D' n' nd := by
    intro D' n'
    apply ef_cg
    intro j hj
    show nt_T c m v N z nd (nt_pl c m v + z + j) = nt_dg c N nd j
    unfold nt_T
    rw [if_neg (by omega), if_neg (by omega), show nt_pl c m v + z + j - nt_pl c m v - z = j by omega]
  rw [ef_add, ef_add, h1, h2, h3, Nat.add_assoc]
theorem nt_pl2 (c : Int32) (m : Nat) (v : Int64) : nt_pl c m v ≤ 2 := by
  unfold nt_pl
  by_cases h : nt_hx c m v
  · rw [if_pos h]; exact Nat.le_refl _
  · rw [if_neg h]
    by_cases h : nt_sg c m v = 0
    · rw [if_pos h]; omega
    · rw [if_neg h]; omega
theorem nt_sgc (c : Int32) (m : Nat) (v : Int64) : ar_ch (nt_sg c m v) := by
  unfold nt_sg
  by_cases h : c = 100
  · rw [if_pos h]
    by_cases h : v < 0
    · rw [if_pos h]; exact ⟨45, by decide, rfl⟩
    · rw [if_neg h]
      by_cases h : m / 2 % 2 = 1
      · rw [if_pos h]; exact ⟨43, by decide, rfl⟩
      · rw [if_neg h]
        by_cases h : m / 4 % 2 = 1
        · rw [if_pos h]; exact ⟨32, by decide, rfl⟩
        · rw [if_neg h]; exact ar_0
  · rw [if_neg h]; exact ar_0
theorem nt_prec {c : Int32} (hc : ar_ch c) (m : Nat) (v : Int64) (j : Nat) : ar_ch (nt_pre c m v j) := by
  unfold nt_pre
  by_cases h : nt_hx c m v
  · rw [if_pos h]
    by_cases h : j = 0
    · rw [if_pos h]; exact ⟨48, by decide, rfl⟩
    · rw [if_neg h]; exact hc
  · rw [if_neg h]; exact nt_sgc c m v
theorem cv_b16 (c : Int32) : cv_b c = 0 ∨ cv_b c = 8 ∨ cv_b c = 10 ∨ cv_b c = 16 := by
  unfold cv_b
  by_cases h : c = 100 ∨ c = 117
  · rw [if_pos h]; exact Or.inr (Or.inr (Or.inl rfl))
  · rw [if_neg h]
    by_cases h : c = 120 ∨ c = 88
    · rw [if_pos h]; exact Or.inr (Or.inr (Or.inr rfl))
    · rw [if_neg h]
      by_cases h : c = 111
      · rw [if_pos h]; exact Or.inr (Or.inl rfl)
      · rw [if_neg h]; exact Or.inl rfl
theorem nt_dgc {c : Int32} (hb : ¬ cv_b c = 0) (N nd j : Nat) : ar_ch (nt_dg c N nd j) := by
  unfold nt_dg
  apply nt_dch
  have h : N / cv_b c ^ (nd - 1 - j) % cv_b c < cv_b c := Nat.mod_lt _ (by omega)
  rcases cv_b16 c with e | e | e | e <;> omega
theorem nt_Tc {c : Int32} (hc : ar_ch c) (hb : ¬ cv_b c = 0) (m : Nat) (v : Int64) (N z nd j : Nat) : ar_ch (nt_T c m v N z nd j) := by
  unfold nt_T
  by_cases h : j < nt_pl c m v
  · rw [if_pos h]; exact nt_prec hc m v j
  · rw [if_neg h]
    by_cases h : j < nt_pl c m v + z
    · rw [if_pos h]; exact ⟨48, by decide, rfl⟩
    · rw [if_neg h]; exact nt_dgc hb N nd _
theorem dc_lo : ∀ d, d < 10 → (((48 : Int32) + nI d).toUInt32 % 65536).toInt32 = nI (48 + d) := by decide +kernel
theorem dc_la : ∀ d, d < 16 → 10 ≤ d → (((97 : Int32) + nI d - 10).toUInt32 % 65536).toInt32 = nI (87 + d) := by decide +kernel
theorem dc_uA : ∀ d, d < 16 → 10 ≤ d → (((65 : Int32) + nI d - 10).toUInt32 % 65536).toInt32 = nI (55 + d) := by decide +kernel
/-- the magnitude of a number, taken as unsigned -/
def nt_M (c : Int32) (v : Int64) : Int64 := if c = 100 ∧ v < 0 then -v else v
def nt_N (c : Int32) (v : Int64) : Nat := (nt_M c v).toBitVec.toNat
theorem nt_NM (c : Int32) (v : Int64) : nt_M c v = lN (nt_N c v) := by
  obtain ⟨n, hn, e⟩ := wb_of (nt_M c v)
  have h : nt_N c v = n := by
    unfold nt_N
    rw [e, wb_tn hn]
  rw [h, e]
theorem nt_Nb (c : Int32) (v : Int64) : nt_N c v < 2 ^ 64 := (nt_M c v).toBitVec.isLt
theorem nt_M0 (c : Int32) (v : Int64) : nt_M c v = 0 ↔ v = 0 := by
  unfold nt_M
  by_cases h : c = 100 ∧ v < 0
  · rw [if_pos h]
    constructor
    · intro z
      have := congrArg (fun x => -x) z
      simpa using this
    · intro z; rw [z]; rfl
  · rw [if_neg h]
theorem nt_N0 (c : Int32) (v : Int64) : nt_N c v = 0 ↔ v = 0 := by
  rw [← nt_M0 c v, nt_NM c v]
  constructor
  · intro z; rw [z]; rfl
  · intro z
    have h : (lN (nt_N c v)).toBitVec.toNat = (0 : Int64).toBitVec.toNat := by rw [z]
    rw [wb_tn (nt_Nb c v)] at h
    exact h
