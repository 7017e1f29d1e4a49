/-! pure rows: what a good directive is, slots, emission, digits, scanning -/
theorem dr_ok {f : Nat → Int32} {L p : Nat} (h : dr_r f L p = 0) : ¬ dr_v f L p < 0 ∧ pw_r f L (dr_2 f L p) = 0 ∧ pp_r f L (dr_3 f L p) = 0 ∧ pc_r f L (dr_4 f L p) = 0 := by
  unfold dr_r at h
  by_cases a : dr_v f L p < 0
  · rw [if_pos a] at h; rw [h] at a; exact absurd a (by decide)
  · rw [if_neg a] at h
    by_cases b : ¬ pw_r f L (dr_2 f L p) = 0
    · rw [if_pos b] at h; exact absurd h b
    · rw [if_neg b] at h
      by_cases c : ¬ pp_r f L (dr_3 f L p) = 0
      · rw [if_pos c] at h; exact absurd h c
      · rw [if_neg c] at h
        exact ⟨a, Decidable.not_not.mp b, Decidable.not_not.mp c, h⟩
theorem ps_vk {f : Nat → Int32} {L j : Nat} (h : ¬ ps_v f L j < 0) : ∃ k : Nat, k ≤ 8 ∧ ps_v f L j = nI k := by
  rcases ps_vr f L j with e | e
  · rw [e] at h; exact absurd (by decide) h
  · exact e
theorem pw_ok {f : Nat → Int32} {L j : Nat} (h : pw_r f L j = 0) : (pw_s f L j ∧ pw_w f L j = 0 ∧ ∃ k : Nat, k ≤ 8 ∧ pw_u f L j = nI k) ∨ (¬ pw_s f L j ∧ pw_u f L j = -1 ∧ pw_w f L j = rn_V f (L - j) j 0 ∧ pw_w f L j ≤ 99) := by
  unfold pw_r at h
  unfold pw_u pw_w
  by_cases c : pw_s f L j
  · rw [if_pos c] at h
    rw [if_pos c, if_pos c]
    refine Or.inl ⟨c, rfl, ?_⟩
    by_cases b : ps_v f L (j + 1) < 0
    · rw [if_pos b] at h; rw [h] at b; exact absurd b (by decide)
    · exact ps_vk b
  · rw [if_neg c] at h
    rw [if_neg c, if_neg c]
    refine Or.inr ⟨c, rfl, rfl, ?_⟩
    by_cases b : 99 < rn_V f (L - j) j 0
    · rw [if_pos b] at h; exact absurd h (by decide)
    · omega
theorem pp_ok {f : Nat → Int32} {L j : Nat} (h : pp_r f L j = 0) : (pp_p f L j = -1 ∧ pp_u f L j = -1) ∨ (pp_p f L j = -1 ∧ ∃ k : Nat, k ≤ 8 ∧ pp_u f L j = nI k) ∨ (pp_u f L j = -1 ∧ ∃ k : Nat, k ≤ 99 ∧ pp_p f L j = nI k) := by
  unfold pp_r at h
  unfold pp_u pp_p
  by_cases c : pp_d f L j
  · rw [if_pos c] at h
    rw [if_pos c, if_pos c]
    rcases pw_ok h with ⟨s, _, k, hk, e⟩ | ⟨s, e, e2, e3⟩
    · rw [if_pos s]; exact Or.inr (Or.inl ⟨rfl, k, hk, e⟩)
    · rw [if_neg s]; exact Or.inr (Or.inr ⟨e, _, by omega, rfl⟩)
  · rw [if_neg c, if_neg c]; exact Or.inl ⟨rfl, rfl⟩
theorem pc_ok {f : Nat → Int32} {L j : Nat} (h : pc_r f L j = 0) : pc_k f L j < L ∧ (cv_t (f (pc_k f L j)) ∨ ¬ cv_b (f (pc_k f L j)) = 0) ∧ ¬ (cv_t (f (pc_k f L j)) ∧ pc_l f L j) := by
  unfold pc_r at h
  by_cases a : L ≤ pc_k f L j
  · rw [if_pos a] at h; exact absurd h (by decide)
  · rw [if_neg a] at h
    by_cases b : ¬ cv_t (f (pc_k f L j)) ∧ cv_b (f (pc_k f L j)) = 0
    · rw [if_pos b] at h; exact absurd h (by decide)
    · rw [if_neg b] at h
      by_cases c : cv_t (f (pc_k f L j)) ∧ pc_l f L j
      · rw [if_pos c] at h; exact absurd h (by decide)
      · refine ⟨by omega, ?_, c⟩
        by_cases t : cv_t (f (pc_k f L j))
        · exact Or.inl t
        · exact Or.inr (fun z => b ⟨t, z⟩)
theorem cv_cases {c : Int32} (h : cv_t c ∨ ¬ cv_b c = 0) : c = 99 ∨ c = 115 ∨ c = 100 ∨ c = 117 ∨ c = 120 ∨ c = 88 ∨ c = 111 := by
  rcases h with (h | h) | h
  · exact Or.inl h
  · exact Or.inr (Or.inl h)
  · unfold cv_b at h
    by_cases a : c = 100 ∨ c = 117
    · rcases a with a | a
      · exact Or.inr (Or.inr (Or.inl a))
      · exact Or.inr (Or.inr (Or.inr (Or.inl a)))
    · rw [if_neg a] at h
      by_cases b : c = 120 ∨ c = 88
      · rcases b with b | b
        · exact Or.inr (Or.inr (Or.inr (Or.inr (Or.inl b))))
        · exact Or.inr (Or.inr (Or.inr (Or.inr (Or.inr (Or.inl b)))))
      · rw [if_neg b] at h
        by_cases d : c = 111
        · exact Or.inr (Or.inr (Or.inr (Or.inr (Or.inr (Or.inr d)))))
        · rw [if_neg d] at h; exact absurd rfl h

/-- the slot of a use (-1: none, 0: the next one, else a position) at the count s, and the count behind it -/
def sl_s (u : Int32) (s : Nat) : Int32 := if u = -1 then -1 else if u = 0 then nI s else u - 1
def sl_n (u : Int32) (s : Nat) : Nat := if u = 0 then s + 1 else s
theorem sl_nb (u : Int32) (s : Nat) : s ≤ sl_n u s ∧ sl_n u s ≤ s + 1 := by
  unfold sl_n
  by_cases h : u = 0
  · rw [if_pos h]; omega
  · rw [if_neg h]; omega
theorem sl_n1 (s : Nat) : sl_n (-1) s = s := rfl
theorem sl_s1 (s : Nat) : sl_s (-1) s = -1 := rfl
theorem sl_s0 (s : Nat) : sl_s 0 s = nI s := rfl
theorem sl_n0 (s : Nat) : sl_n 0 s = s + 1 := rfl
theorem sl_sk : ∀ k, k < 8 → ∀ s, sl_s (nI (k + 1)) s = nI k := by
  intro k hk s
  unfold sl_s
  have a : ¬ nI (k + 1) = -1 := by
    intro z
    have := congrArg Int32.toInt z
    rw [nI_toInt (by omega)] at this
    have e : (-1 : Int32).toInt = -1 := by decide
    omega
  have b : ¬ nI (k + 1) = 0 := nI_ne0 (by omega) (by omega)
  rw [if_neg a, if_neg b, nI_pred]
theorem sl_nk {k : Nat} (hk : k < 8) (s : Nat) : sl_n (nI (k + 1)) s = s := by
  unfold sl_n
  rw [if_neg (nI_ne0 (by omega) (by omega))]
/-- a use that is no error has a slot below 8 -/
theorem sl_in {u : Int32} {s : Nat} (hu : ∃ k : Nat, k ≤ 8 ∧ u = nI k) (hs : sl_n u s ≤ 8) : ∃ j : Nat, j < 8 ∧ sl_s u s = nI j := by
  obtain ⟨k, hk, rfl⟩ := hu
  cases k with
  | zero =>
    have e : sl_n (nI 0) s = s + 1 := sl_n0 s
    exact ⟨s, by omega, sl_s0 s⟩
  | succ k => exact ⟨k, by omega, sl_sk k (by omega) s⟩

/-- items of a format -/
abbrev it_lit (f : Nat → Int32) (L p : Nat) (c : Int32) (q : Nat) : Prop := p < L ∧ ((¬ f p = 37 ∧ c = f p ∧ q = p + 1) ∨ (f p = 37 ∧ p + 1 < L ∧ f (p + 1) = 37 ∧ c = 37 ∧ q = p + 2))
abbrev it_pc (f : Nat → Int32) (L p : Nat) : Prop := p < L ∧ f p = 37 ∧ ¬ (p + 1 < L ∧ f (p + 1) = 37)
theorem it_q {f : Nat → Int32} {L p q : Nat} {c : Int32} (h : it_lit f L p c q) : p < q ∧ q ≤ L := by
  rcases h with ⟨a, ⟨_, _, rfl⟩ | ⟨_, b, _, _, rfl⟩⟩ <;> omega
theorem it_c {f : Nat → Int32} {L p q : Nat} {c : Int32} (hf : ∀ j, ar_ch (f j)) (h : it_lit f L p c q) : ar_ch c := by
  rcases h with ⟨a, ⟨_, rfl, _⟩ | ⟨_, b, _, rfl, _⟩⟩
  · exact hf _
  · exact ⟨37, by decide, rfl⟩
/-- what a row of the table holds for the directive at p, the count of sequential uses being s -/
def tb_row (f : Nat → Int32) (L : Nat) (ak afl awd apr aws aps avs : Nat → Int32) (e p s t : Nat) : Prop :=
  ak e = dr_c f L p + nI (256 * dr_g f L p) ∧ afl e = nI (dr_m f L p) ∧ awd e = nI (dr_w f L p) ∧ apr e = dr_p f L p ∧
  aws e = sl_s (dr_wu f L p) s ∧ aps e = sl_s (dr_pu f L p) (sl_n (dr_wu f L p) s) ∧ avs e = sl_s (dr_v f L p) (sl_n (dr_pu f L p) (sl_n (dr_wu f L p) s)) ∧
  t = sl_n (dr_v f L p) (sl_n (dr_pu f L p) (sl_n (dr_wu f L p) s)) ∧ t ≤ 8
/-- the literal entry e: n items from place p to place q; T literal chars stand in the table -/
def tb_lit (f : Nat → Int32) (L T : Nat) (ak als ale aws aps ali : Nat → Int32) (e p q : Nat) : Prop :=
  ak e = 0 ∧ aws e = -1 ∧ aps e = -1 ∧ ∃ (s n : Nat) (r : Nat → Nat), als e = nI s ∧ ale e = nI (s + n) ∧ s + n ≤ T ∧ 0 < n ∧ r 0 = p ∧ r n = q ∧ ∀ j, j < n → it_lit f L (r j) (ali (s + j)) (r (j + 1))
def tb_dir (f : Nat → Int32) (L : Nat) (ak afl awd apr aws aps avs : Nat → Int32) (e p q s t : Nat) : Prop :=
  it_pc f L p ∧ dr_r f L p = 0 ∧ q = dr_k f L p + 1 ∧ tb_row f L ak afl awd apr aws aps avs e p s t
def tb_ent (f : Nat → Int32) (L T : Nat) (ak als ale afl awd apr aws aps avs ali : Nat → Int32) (e p q s t : Nat) : Prop :=
  (tb_lit f L T ak als ale aws aps ali e p q ∧ t = s) ∨ tb_dir f L ak afl awd apr aws aps avs e p q s t
/-- E entries, at the places pe 0 .. pe E; se: the count of sequential uses ahead of each -/
def tb_tab (f : Nat → Int32) (L T : Nat) (ak als ale afl awd apr aws aps avs ali : Nat → Int32) (E : Nat) (pe se : Nat → Nat) : Prop :=
  pe 0 = 0 ∧ se 0 = 0 ∧ (∀ e, e < E → tb_ent f L T ak als ale afl awd apr aws aps avs ali e (pe e) (pe (e + 1)) (se e) (se (e + 1))) ∧
  (∀ e, e + 1 < E → ak e = 0 → ¬ ak (e + 1) = 0)
theorem tb_litc {f : Nat → Int32} {L T T' : Nat} {ak als ale aws aps ali ak' als' ale' aws' aps' ali' : Nat → Int32} {e p q : Nat} (hT : T ≤ T') (h1 : ak' e = ak e) (h2 : als' e = als e) (h3 : ale' e = ale e) (h5 : aws' e = aws e) (h6 : aps' e = aps e) (h4 : ∀ j, j < T → ali' j = ali j) (h : tb_lit f L T ak als ale aws aps ali e p q) : tb_lit f L T' ak' als' ale' aws' aps' ali' e p q := by
  obtain ⟨a, a5, a6, s, n, r, b1, b2, b3, b4, b5, b6, b7⟩ := h
  refine ⟨h1.trans a, h5.trans a5, h6.trans a6, s, n, r, h2.trans b1, h3.trans b2, by omega, b4, b5, b6, fun j hj => ?_⟩
  rw [h4 (s + j) (by omega)]
  exact b7 j hj
theorem tb_rowc {f : Nat → Int32} {L : Nat} {ak afl awd apr aws aps avs ak' afl' awd' apr' aws' aps' avs' : Nat → Int32} {e p s t : Nat} (h1 : ak' e = ak e) (h2 : afl' e = afl e) (h3 : awd' e = awd e) (h4 : apr' e = apr e) (h5 : aws' e = aws e) (h6 : aps' e = aps e) (h7 : avs' e = avs e) (h : tb_row f L ak afl awd apr aws aps avs e p s t) : tb_row f L ak' afl' awd' apr' aws' aps' avs' e p s t := by
  obtain ⟨b1, b2, b3, b4, b5, b6, b7, b8⟩ := h
  exact ⟨h1.trans b1, h2.trans b2, h3.trans b3, h4.trans b4, h5.trans b5, h6.trans b6, h7.trans b7, b8⟩
theorem tb_less {f : Nat → Int32} {L T : Nat} {ak als ale afl awd apr aws aps avs ali : Nat → Int32} {E E' : Nat} {pe se : Nat → Nat} (hE : E' ≤ E) (h : tb_tab f L T ak als ale afl awd apr aws aps avs ali E pe se) : tb_tab f L T ak als ale afl awd apr aws aps avs ali E' pe se := by
  obtain ⟨a, b, c, d⟩ := h
  exact ⟨a, b, fun e he => c e (by omega), fun e he => d e (by omega)⟩
/-- rows written at E or beyond, and chars at T or beyond, change nothing of E entries -/
theorem tb_keep {f : Nat → Int32} {L T T' : Nat} {ak als ale afl awd apr aws aps avs ali ak' als' ale' afl' awd' apr' aws' aps' avs' ali' : Nat → Int32} {E : Nat} {pe se pe' se' : Nat → Nat} (hT : T ≤ T')
    (h1 : ∀ e, e < E → ak' e = ak e) (h2 : ∀ e, e < E → als' e = als e) (h3 : ∀ e, e < E → ale' e = ale e) (h4 : ∀ e, e < E → afl' e = afl e) (h5 : ∀ e, e < E → awd' e = awd e) (h6 : ∀ e, e < E → apr' e = apr e) (h7 : ∀ e, e < E → aws' e = aws e) (h8 : ∀ e, e < E → aps' e = aps e) (h9 : ∀ e, e < E → avs' e = avs e) (hl : ∀ j, j < T → ali' j = ali j)
    (hp : ∀ j, j ≤ E → pe' j = pe j) (hs : ∀ j, j ≤ E → se' j = se j) (h : tb_tab f L T ak als ale afl awd apr aws aps avs ali E pe se) : tb_tab f L T' ak' als' ale' afl' awd' apr' aws' aps' avs' ali' E pe' se' := by
  obtain ⟨a, b, c, d⟩ := h
  refine ⟨(hp 0 (by omega)).trans a, (hs 0 (by omega)).trans b, fun e he => ?_, fun e he => ?_⟩
  · rw [hp e (by omega), hp (e + 1) (by omega), hs e (by omega), hs (e + 1) (by omega)]
    rcases c e he with ⟨x, y⟩ | ⟨x1, x2, x3, x4⟩
    · exact Or.inl ⟨tb_litc hT (h1 e he) (h2 e he) (h3 e he) (h7 e he) (h8 e he) hl x, y⟩
    · exact Or.inr ⟨x1, x2, x3, tb_rowc (h1 e he) (h4 e he) (h5 e he) (h6 e he) (h7 e he) (h8 e he) (h9 e he) x4⟩
  · rw [h1 e (by omega), h1 (e + 1) he]
    exact d e he
theorem tb_more {f : Nat → Int32} {L T : Nat} {ak als ale afl awd apr aws aps avs ali : Nat → Int32} {E : Nat} {pe se : Nat → Nat} (h : tb_tab f L T ak als ale afl awd apr aws aps avs ali E pe se) (he : tb_ent f L T ak als ale afl awd apr aws aps avs ali E (pe E) (pe (E + 1)) (se E) (se (E + 1))) (ha : 0 < E → ak (E - 1) = 0 → ¬ ak E = 0) : tb_tab f L T ak als ale afl awd apr aws aps avs ali (E + 1) pe se := by
  obtain ⟨a, b, c, d⟩ := h
  refine ⟨a, b, fun e h => ?_, fun e h => ?_⟩
  · by_cases x : e = E
    · rw [x]; exact he
    · exact c e (by omega)
  · by_cases x : e + 1 = E
    · have := ha (by omega)
      rw [show E - 1 = e by omega] at this
      rw [x]
      exact this
    · exact d e (by omega)
/-- one more place at the end -/
def tb_at (pe : Nat → Nat) (E q : Nat) : Nat → Nat := fun j => if j = E then q else pe j
theorem tb_atE (pe : Nat → Nat) (E q : Nat) : tb_at pe E q E = q := if_pos rfl
theorem tb_atn {pe : Nat → Nat} {E q j : Nat} (h : ¬ j = E) : tb_at pe E q j = pe j := if_neg h

/-- chars put one behind another, within M -/
def ef_x (M : Nat) (D : Nat → Int32) (n : Nat) (c : Int32) : Nat → Int32 := if n < M then upd D n c else D
def ef_f (M : Nat) (c : Nat → Int32) (D : Nat → Int32) (n : Nat) : Nat → (Nat → Int32)
  | 0 => D
  | k + 1 => ef_x M (ef_f M c D n k) (n + k) (c k)
theorem ef_add (M : Nat) (c D : Nat → Int32) (n a : Nat) : ∀ b, ef_f M c D n (a + b) = ef_f M (fun j => c (a + j)) (ef_f M c D n a) (n + a) b := by
  intro b
  induction b with
  | zero => rfl
  | succ b ih =>
    show ef_x M (ef_f M c D n (a + b)) (n + (a + b)) (c (a + b)) = ef_x M (ef_f M (fun j => c (a + j)) (ef_f M c D n a) (n + a) b) (n + a + b) (c (a + b))
    rw [ih, Nat.add_assoc]
theorem ef_cg (M : Nat) {c c' : Nat → Int32} (D : Nat → Int32) (n : Nat) : ∀ k, (∀ j, j < k → c j = c' j) → ef_f M c D n k = ef_f M c' D n k := by
  intro k
  induction k with
  | zero => intro _; rfl
  | succ k ih =>
    intro h
    show ef_x M (ef_f M c D n k) (n + k) (c k) = ef_x M (ef_f M c' D n k) (n + k) (c' k)
    rw [ih (fun j hj => h j (by omega)), h k (by omega)]
theorem ef_lo (M : Nat) (c D : Nat → Int32) (n : Nat) {i : Nat} (hi : i < n) : ∀ k, ef_f M c D n k i = D i := by
  intro k
  induction k with
  | zero => rfl
  | succ k ih =>
    show ef_x M (ef_f M c D n k) (n + k) (c k) i = D i
    unfold ef_x
    by_cases h : n + k < M
    · rw [if_pos h, pk_un (by omega), ih]
    · rw [if_neg h, ih]
theorem ef_at (M : Nat) (c D : Nat → Int32) (n : Nat) : ∀ k, n + k ≤ M → ∀ i, i < k → ef_f M c D n k (n + i) = c i := by
  intro k
  induction k with
  | zero => intro _ i hi; exact absurd hi (by omega)
  | succ k ih =>
    intro hk i hi
    show ef_x M (ef_f M c D n k) (n + k) (c k) (n + i) = c i
    unfold ef_x
    rw [if_pos (show n + k < M by omega)]
    by_cases e : i = k
    · rw [e, pk_us]
    · rw [pk_un (by omega), ih (by omega) i (by omega)]
theorem ef_xc (M : Nat) {D : Nat → Int32} {n : Nat} {c : Int32} (h : ∀ j, ar_ch (D j)) (hc : ar_ch c) : ∀ j, ar_ch (ef_x M D n c j) := by
  unfold ef_x
  by_cases e : n < M
  · rw [if_pos e]; exact ar_chu h hc
  · rw [if_neg e]; exact h
theorem ef_ch (M : Nat) {c D : Nat → Int32} (n : Nat) (h : ∀ j, ar_ch (D j)) : ∀ k, (∀ j, j < k → ar_ch (c j)) → ∀ j, ar_ch (ef_f M c D n k j) := by
  intro k
  induction k with
  | zero => intro _; exact h
  | succ k ih =>
    intro hc
    exact ef_xc M (ih (fun j hj => hc j (by omega))) (hc k (by omega))

/-- C is the number of digits of N in base b -/
abbrev dt_C (b N C : Nat) : Prop := 1 ≤ C ∧ N / b ^ C = 0 ∧ ∀ i, 1 ≤ i → i < C → ¬ N / b ^ i = 0
theorem dt_big {b N : Nat} (hb : 8 ≤ b) (hN : N < 2 ^ 64) : N / b ^ 22 = 0 := by
  apply Nat.div_eq_of_lt
  have h : 8 ^ 22 ≤ b ^ 22 := Nat.pow_le_pow_left hb 22
  have e : (2 : Nat) ^ 64 ≤ 8 ^ 22 := by decide
  omega
theorem dt_ex {b N : Nat} (hb : 8 ≤ b) (hN : N < 2 ^ 64) : ∃ C, dt_C b N C ∧ C ≤ 22 := by
  obtain ⟨k, ⟨h1, h2⟩, h3⟩ := pk_least (fun k => 1 ≤ k ∧ N / b ^ k = 0) ⟨22, by omega, dt_big hb hN⟩
  refine ⟨k, ⟨h1, h2, fun i i1 i2 z => h3 i i2 ⟨i1, z⟩⟩, ?_⟩
  by_cases h : k ≤ 22
  · exact h
  · exact absurd ⟨by omega, dt_big hb hN⟩ (h3 22 (by omega))
theorem dt_top {b N C : Nat} (hb : 8 ≤ b) (h : dt_C b N C) (hN : ¬ N = 0) : ¬ N / b ^ (C - 1) % b = 0 := by
  obtain ⟨h1, h2, h3⟩ := h
  have hn : ¬ N / b ^ (C - 1) = 0 := by
    by_cases e : C = 1
    · rw [e]; simpa using hN
    · exact h3 (C - 1) (by omega) (by omega)
  have hl : N / b ^ (C - 1) < b := by
    have e : N / b ^ (C - 1) / b = 0 := by
      rw [Nat.div_div_eq_div_mul, ← Nat.pow_succ, show (C - 1).succ = C by omega]
      exact h2
    exact (Nat.div_eq_zero_iff_lt (by omega)).mp e
  rw [Nat.mod_eq_of_lt hl]
  exact hn
theorem dt_zero {b C : Nat} (h : dt_C b 0 C) : C = 1 := by
  obtain ⟨h1, h2, h3⟩ := h
  by_cases e : C = 1
  · exact e
  · exact absurd (Nat.zero_div _) (h3 1 (by omega) (by omega))
theorem dt_s (b N i : Nat) : N / b ^ i / b = N / b ^ (i + 1) := by
  rw [Nat.div_div_eq_div_mul, ← Nat.pow_succ]
theorem dt_half {R h : Nat} : R / 2 / h = R / (2 * h) := by rw [Nat.div_div_eq_div_mul]
/-- the class's step: (R >>> 1) / (b / 2), and the rest -/
theorem dt_x {R h : Nat} (h0 : 0 < h) : R - R / 2 / h * h * 2 = R % (2 * h) ∧ R / 2 / h * h * 2 ≤ R := by
  rw [dt_half, Nat.mul_assoc, Nat.mul_comm h 2]
  have := Nat.div_add_mod' R (2 * h)
  omega

/-- blanks of the input -/
abbrev sk_w (c : Int32) : Prop := c = 32 ∨ (9 ≤ c ∧ c ≤ 13)
def sk_E (f : Nat → Int32) : Nat → Nat → Nat
  | 0, j => j
  | n + 1, j => if sk_w (f j) then sk_E f n (j + 1) else j
theorem sk_Eb (f : Nat → Int32) : ∀ n j, j ≤ sk_E f n j ∧ sk_E f n j ≤ j + n := by
  intro n
  induction n with
  | zero => intro j; exact ⟨Nat.le_refl _, Nat.le_refl _⟩
  | succ n ih =>
    intro j
    unfold sk_E
    by_cases h : sk_w (f j)
    · rw [if_pos h]; have := ih (j + 1); omega
    · rw [if_neg h]; omega
theorem sk_E0 (f : Nat → Int32) {n j : Nat} (h : ¬ sk_w (f j)) : sk_E f n j = j := by
  cases n with
  | zero => rfl
  | succ n => unfold sk_E; rw [if_neg h]
theorem sk_Es (f : Nat → Int32) {n j : Nat} (h : sk_w (f j)) : sk_E f (n + 1) j = sk_E f n (j + 1) := by
  rw [sk_E, if_pos h]
/-- the value of a digit char, 16 for any other -/
def dv_v (c : Int32) : Nat := if 48 ≤ c ∧ c ≤ 57 then c.toNatClampNeg - 48 else if 97 ≤ c ∧ c ≤ 102 then c.toNatClampNeg - 87 else if 65 ≤ c ∧ c ≤ 70 then c.toNatClampNeg - 55 else 16
theorem dv_rng {c : Int32} {a b : Nat} (ha : a < 2 ^ 31) (hb : b < 2 ^ 31) (h : nI a ≤ c ∧ c ≤ nI b) : ∃ j : Nat, a ≤ j ∧ j ≤ b ∧ c = nI j := by
  obtain ⟨j, hj, rfl⟩ := nI_of (x := c) (Int32.not_lt.mpr (Int32.le_trans (nI_pos' ha) h.1))
  exact ⟨j, (nI_leI ha hj).mp h.1, (nI_leI hj hb).mp h.2, rfl⟩
theorem dv_b (c : Int32) : dv_v c ≤ 16 := by
  unfold dv_v
  by_cases a : 48 ≤ c ∧ c ≤ 57
  · obtain ⟨j, h1, h2, rfl⟩ := dv_rng (a := 48) (b := 57) (by decide) (by decide) a
    rw [if_pos a, nI_clamp (by omega)]; omega
  · rw [if_neg a]
    by_cases b : 97 ≤ c ∧ c ≤ 102
    · obtain ⟨j, h1, h2, rfl⟩ := dv_rng (a := 97) (b := 102) (by decide) (by decide) b
      rw [if_pos b, nI_clamp (by omega)]; omega
    · rw [if_neg b]
      by_cases d : 65 ≤ c ∧ c ≤ 70
      · obtain ⟨j, h1, h2, rfl⟩ := dv_rng (a := 65) (b := 70) (by decide) (by decide) d
        rw [if_pos d, nI_clamp (by omega)]; omega
      · rw [if_neg d]; exact Nat.le_refl _
/-- digits of the input: n chars left, a budget b, a place; the end, the budget left and the value -/
def dg_E (f : Nat → Int32) (base : Nat) : Nat → Nat → Nat → Nat
  | 0, _, j => j
  | _ + 1, 0, j => j
  | n + 1, b + 1, j => if dv_v (f j) < base then dg_E f base n b (j + 1) else j
def dg_V (f : Nat → Int32) (base : Nat) : Nat → Nat → Nat → Int64 → Int64
  | 0, _, _, v => v
  | _ + 1, 0, _, v => v
  | n + 1, b + 1, j, v => if dv_v (f j) < base then dg_V f base n b (j + 1) (v * (nI base).toInt64 + (nI (dv_v (f j))).toInt64) else v
theorem dg_Eb (f : Nat → Int32) (base : Nat) : ∀ n b j, j ≤ dg_E f base n b j ∧ dg_E f base n b j ≤ j + n := by
  intro n
  induction n with
  | zero => intro b j; unfold dg_E; omega
  | succ n ih =>
    intro b j
    cases b with
    | zero => unfold dg_E; omega
    | succ b =>
      unfold dg_E
      by_cases h : dv_v (f j) < base
      · rw [if_pos h]; have := ih b (j + 1); omega
      · rw [if_neg h]; omega
/-- a packed text of the input: at most b chars, k are taken -/
abbrev st_g (c : Int32) : Prop := ¬ c < 1 ∧ c ≤ 255 ∧ ¬ sk_w c
def st_E (f : Nat → Int32) : Nat → Nat → Nat → Nat
  | 0, _, j => j
  | _ + 1, 0, j => j
  | n + 1, b + 1, j => if st_g (f j) then st_E f n b (j + 1) else j
def st_V (f : Nat → Int32) : Nat → Nat → Nat → Nat → Int64 → Int64
  | 0, _, _, _, v => v
  | _ + 1, 0, _, _, v => v
  | n + 1, b + 1, k, j, v => if st_g (f j) then st_V f n b (k + 1) (j + 1) (v + ((f j).toInt64 <<< ((8 * nI k).toInt64 &&& 63))) else v
theorem st_Eb (f : Nat → Int32) : ∀ n b j, j ≤ st_E f n b j ∧ st_E f n b j ≤ j + n := by
  intro n
  induction n with
  | zero => intro b j; unfold st_E; omega
  | succ n ih =>
    intro b j
    cases b with
    | zero => unfold st_E; omega
    | succ b =>
      unfold st_E
      by_cases h : st_g (f j)
      · rw [if_pos h]; have := ih b (j + 1); omega
      · rw [if_neg h]; omega
