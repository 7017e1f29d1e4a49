/-! pure rows: what one conversion takes of the input (I, N chars), from the place p on, under the width W -/
def sc_1 (I : Nat → Int32) (N p : Nat) : Nat := sk_E I (N - p) p
theorem sc_1b (I : Nat → Int32) {N p : Nat} (h : p ≤ N) : p ≤ sc_1 I N p ∧ sc_1 I N p ≤ N := by
  have := sk_Eb I (N - p) p
  unfold sc_1
  omega
def sc_B (W : Nat) : Nat := if 1 ≤ W then W else 1000
def sc_S (W : Nat) : Nat := if 1 ≤ W ∧ W ≤ 8 then W else 8
abbrev sc_sg (c : Int32) (I : Nat → Int32) (N q : Nat) : Prop := c = 100 ∧ q < N ∧ (I q = 43 ∨ I q = 45)
abbrev sc_hx (c : Int32) (W : Nat) (I : Nat → Int32) (N q : Nat) : Prop := cv_b c = 16 ∧ 3 ≤ sc_B W ∧ q + 2 < N ∧ I q = 48 ∧ (I (q + 1) = 120 ∨ I (q + 1) = 88) ∧ dv_v (I (q + 2)) < 16
def sc_k (c : Int32) (W : Nat) (I : Nat → Int32) (N q : Nat) : Nat := if sc_sg c I N q then 1 else if sc_hx c W I N q then 2 else 0
theorem sc_kb (c : Int32) (W : Nat) (I : Nat → Int32) {N q : Nat} (h : q ≤ N) : q + sc_k c W I N q ≤ N ∧ sc_k c W I N q ≤ sc_B W := by
  unfold sc_k
  by_cases a : sc_sg c I N q
  · rw [if_pos a]
    have := a.2.1
    unfold sc_B
    by_cases w : 1 ≤ W
    · rw [if_pos w]; omega
    · rw [if_neg w]; omega
  · rw [if_neg a]
    by_cases b : sc_hx c W I N q
    · rw [if_pos b]; have := b.2.1; have := b.2.2.1; omega
    · rw [if_neg b]; omega
/-- the end of a number's digits, and the value as it is stored -/
def sc_e (c : Int32) (W : Nat) (I : Nat → Int32) (N q : Nat) : Nat := dg_E I (cv_b c) (N - (q + sc_k c W I N q)) (sc_B W - sc_k c W I N q) (q + sc_k c W I N q)
def sc_w (c : Int32) (W : Nat) (I : Nat → Int32) (N q : Nat) : Int64 := dg_V I (cv_b c) (N - (q + sc_k c W I N q)) (sc_B W - sc_k c W I N q) (q + sc_k c W I N q) 0
def sc_v (c : Int32) (g W : Nat) (I : Nat → Int32) (N q : Nat) : Int64 := nt_v c g (if sc_sg c I N q ∧ I q = 45 then - sc_w c W I N q else sc_w c W I N q)
/-- the end of a conversion, its value, and whether it took anything -/
def sc_E (c : Int32) (W : Nat) (I : Nat → Int32) (N p : Nat) : Nat := if c = 99 then p + 1 else if c = 115 then st_E I (N - sc_1 I N p) (sc_S W) (sc_1 I N p) else sc_e c W I N (sc_1 I N p)
def sc_V (c : Int32) (g W : Nat) (I : Nat → Int32) (N p : Nat) : Int64 := if c = 99 then (I p).toInt64 else if c = 115 then st_V I (N - sc_1 I N p) (sc_S W) 0 (sc_1 I N p) 0 else sc_v c g W I N (sc_1 I N p)
abbrev sc_ok (c : Int32) (W : Nat) (I : Nat → Int32) (N p : Nat) : Prop := if c = 99 then p < N else if c = 115 then sc_1 I N p < st_E I (N - sc_1 I N p) (sc_S W) (sc_1 I N p) else sc_1 I N p + sc_k c W I N (sc_1 I N p) < sc_e c W I N (sc_1 I N p)
theorem sc_Eb {c : Int32} {W : Nat} {I : Nat → Int32} {N p : Nat} (h : p ≤ N) (ho : sc_ok c W I N p) : sc_E c W I N p ≤ N := by
  unfold sc_ok at ho
  unfold sc_E
  by_cases a : c = 99
  · rw [if_pos a] at ho ⊢; omega
  · rw [if_neg a] at ho ⊢
    have h1 := sc_1b I h
    by_cases b : c = 115
    · rw [if_pos b] at ho ⊢
      have := st_Eb I (N - sc_1 I N p) (sc_S W) (sc_1 I N p)
      omega
    · rw [if_neg b] at ho ⊢
      have h2 := sc_kb c W I h1.2
      have := dg_Eb I (cv_b c) (N - (sc_1 I N p + sc_k c W I N (sc_1 I N p))) (sc_B W - sc_k c W I N (sc_1 I N p)) (sc_1 I N p + sc_k c W I N (sc_1 I N p))
      unfold sc_e
      omega
