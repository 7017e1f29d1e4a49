/-! the table while it is built -/
def tb_inv (f : Nat → Int32) (L T : Nat) (ak als ale afl awd apr aws aps avs ali : Nat → Int32) (E p d s b : Nat) (pe se : Nat → Nat) : Prop :=
  tb_tab f L T ak als ale afl awd apr aws aps avs ali E pe se ∧ pe E = p ∧ se E = s ∧ us_I s b ∧ (0 < E → ak (E - 1) = 0 → ale (E - 1) = nI T) ∧ E ≤ p ∧ T ≤ p ∧ d ≤ p ∧ p ≤ L
theorem tb_inv0 (f : Nat → Int32) (L : Nat) (ak als ale afl awd apr aws aps avs ali : Nat → Int32) : tb_inv f L 0 ak als ale afl awd apr aws aps avs ali 0 0 0 0 0 (fun _ => 0) (fun _ => 0) :=
  ⟨⟨rfl, rfl, fun e he => absurd he (by omega), fun e he => absurd he (by omega)⟩, rfl, rfl, ⟨Or.inl rfl, by decide, by decide⟩, fun h => absurd h (by omega), by omega, by omega, by omega, by omega⟩
theorem tb_gz (f : Nat → Int32) (L p : Nat) : dr_g f L p = 0 ∨ dr_g f L p = 1 := by
  unfold dr_g
  by_cases h : pc_l f L (dr_4 f L p)
  · rw [if_pos h]; exact Or.inr rfl
  · rw [if_neg h]; exact Or.inl rfl
/-- the kind of a directive isn't a literal's -/
theorem tb_kz {f : Nat → Int32} {L p : Nat} (h : pc_k f L (dr_4 f L p) < L ∧ (cv_t (f (pc_k f L (dr_4 f L p))) ∨ ¬ cv_b (f (pc_k f L (dr_4 f L p))) = 0) ∧ ¬ (cv_t (f (pc_k f L (dr_4 f L p))) ∧ pc_l f L (dr_4 f L p))) : ¬ dr_c f L p + nI (256 * dr_g f L p) = 0 := by
  have hc := cv_cases h.2.1
  have e : dr_c f L p = f (pc_k f L (dr_4 f L p)) := rfl
  rw [← e] at hc
  rcases tb_gz f L p with g | g <;> rw [g] <;> rcases hc with c | c | c | c | c | c | c <;> rw [c] <;> decide
section
variable {f : Nat → Int32} {L T : Nat} {ak als ale afl awd apr aws aps avs ali : Nat → Int32} {E p d s b : Nat} {pe se : Nat → Nat}
theorem tb_newlit {c : Int32} {q : Nat} (I : tb_inv f L T ak als ale afl awd apr aws aps avs ali E p d s b pe se) (hl : it_lit f L p c q) (hn : 0 < E → ¬ ak (E - 1) = 0) :
    tb_inv f L (T + 1) (upd ak E 0) (upd als E (nI T)) (upd ale E (nI (T + 1))) (upd afl E 0) (upd awd E 0) (upd apr E (-1)) (upd aws E (-1)) (upd aps E (-1)) (upd avs E (-1)) (upd ali T c) (E + 1) q d s b (tb_at pe (E + 1) q) (tb_at se (E + 1) s) := by
  obtain ⟨I1, I2, I3, I4, I5, I6, I7, I8, I9⟩ := I
  have hq := it_q hl
  refine ⟨?_, tb_atE _ _ _, tb_atE _ _ _, I4, fun _ _ => ?_, by omega, by omega, by omega, hq.2⟩
  · refine tb_more (tb_keep (T := T) (pe := pe) (se := se) (by omega) (fun e he => pk_un (by omega)) (fun e he => pk_un (by omega)) (fun e he => pk_un (by omega)) (fun e he => pk_un (by omega)) (fun e he => pk_un (by omega)) (fun e he => pk_un (by omega)) (fun e he => pk_un (by omega)) (fun e he => pk_un (by omega)) (fun e he => pk_un (by omega)) (fun j hj => pk_un (by omega)) (fun j hj => tb_atn (by omega)) (fun j hj => tb_atn (by omega)) I1) ?_ ?_
    · rw [tb_atE, tb_atE, tb_atn (by omega), tb_atn (by omega), I2, I3]
      refine Or.inl ⟨⟨pk_us, pk_us, pk_us, T, 1, fun j => if j = 0 then p else q, pk_us, pk_us, by omega, by omega, rfl, rfl, fun j hj => ?_⟩, rfl⟩
      have e : j = 0 := by omega
      rw [e]
      show it_lit f L p (upd ali T c (T + 0)) q
      rw [Nat.add_zero, pk_us]
      exact hl
    · intro h0 h1
      rw [pk_un (by omega)] at h1
      exact absurd h1 (hn h0)
  · rw [Nat.add_sub_cancel, pk_us]
theorem tb_applit {c : Int32} {q : Nat} (hL : L ≤ 64) (I : tb_inv f L T ak als ale afl awd apr aws aps avs ali E p d s b pe se) (hl : it_lit f L p c q) (h0 : 0 < E) (hk : ak (E - 1) = 0) :
    tb_inv f L (T + 1) ak als (upd ale (E - 1) (nI (T + 1))) afl awd apr aws aps avs (upd ali T c) E q d s b (tb_at pe E q) se := by
  obtain ⟨I1, I2, I3, I4, I5, I6, I7, I8, I9⟩ := I
  have hq := it_q hl
  obtain ⟨E, rfl⟩ : ∃ e, E = e + 1 := ⟨E - 1, by omega⟩
  rw [Nat.add_sub_cancel] at hk ⊢
  have I5' := I5 (by omega)
  rw [Nat.add_sub_cancel] at I5'
  have I5'' := I5' hk
  refine ⟨?_, tb_atE _ _ _, I3, I4, fun _ _ => pk_us, by omega, by omega, by omega, hq.2⟩
  have I1' := I1.2.2.1 E (by omega)
  have I1d := I1.2.2.2
  refine tb_more (tb_keep (T := T) (pe := pe) (se := se) (by omega) (fun e he => rfl) (fun e he => rfl) (fun e he => pk_un (by omega)) (fun e he => rfl) (fun e he => rfl) (fun e he => rfl) (fun e he => rfl) (fun e he => rfl) (fun e he => rfl) (fun j hj => pk_un (by omega)) (fun j hj => tb_atn (by omega)) (fun j hj => rfl) (tb_less (by omega) I1)) ?_ ?_
  · rw [tb_atE, tb_atn (by omega)]
    rcases I1' with ⟨⟨a, a5, a6, s', n, r, b1, b2, b3, b4, b5, b6, b7⟩, y⟩ | ⟨x1, x2, x3, x4⟩
    · refine Or.inl ⟨⟨a, a5, a6, s', n + 1, fun j => if j = n + 1 then q else r j, b1, ?_, by omega, by omega, ?_, if_pos rfl, fun j hj => ?_⟩, y⟩
      · rw [pk_us]
        have e := b2.symm.trans I5''
        have e2 := (nI_eq (by omega) (by omega)).mp e
        rw [← e2, Nat.add_assoc]
      · show (if 0 = n + 1 then q else r 0) = pe E
        rw [if_neg (by omega)]; exact b5
      · show it_lit f L (if j = n + 1 then q else r j) _ (if j + 1 = n + 1 then q else r (j + 1))
        rw [if_neg (by omega)]
        have e := b2.symm.trans I5''
        have e2 := (nI_eq (by omega) (by omega)).mp e
        by_cases x : j = n
        · rw [if_pos (by omega), x, e2, pk_us, b6, I2]
          exact hl
        · rw [if_neg (by omega), pk_un (by omega)]
          exact b7 j (by omega)
    · exfalso
      have k1 := x4.1
      rw [hk] at k1
      exact tb_kz (pc_ok (dr_ok x2).2.2.2) k1.symm
  · intro h1 h2 h3
    have := I1d (E - 1) (by omega) h2
    rw [show E - 1 + 1 = E by omega] at this
    exact this hk
/-- the uses of a directive went well -/
theorem us_ok {u : Int32} {s b : Nat} (hu : u = -1 ∨ ∃ k : Nat, k ≤ 8 ∧ u = nI k) (I : us_I s b) (h : us_e u s b = 0) : us_I (sl_n u s) (us_b u b) ∧ (u = -1 ∨ (¬ us_r u s b < 0 ∧ us_r u s b = sl_s u s)) := by
  rcases hu with rfl | hu
  · exact ⟨I, Or.inl rfl⟩
  · have hn : ¬ u = -1 := by
      obtain ⟨k, hk, rfl⟩ := hu
      exact us_n1 (by omega)
    unfold us_e at h
    rw [if_neg hn] at h
    rcases us_cs hu I with c | ⟨c1, c2, c3⟩
    · rw [if_pos c] at h
      rw [h] at c
      exact absurd c (by decide)
    · exact ⟨c3, Or.inr ⟨c1, c2⟩⟩
theorem dr_us (h : dr_r f L p = 0) : (dr_wu f L p = -1 ∨ ∃ k : Nat, k ≤ 8 ∧ dr_wu f L p = nI k) ∧ (dr_pu f L p = -1 ∨ ∃ k : Nat, k ≤ 8 ∧ dr_pu f L p = nI k) ∧ (∃ k : Nat, k ≤ 8 ∧ dr_v f L p = nI k) := by
  obtain ⟨h1, h2, h3, h4⟩ := dr_ok h
  refine ⟨?_, ?_, ps_vk h1⟩
  · rcases pw_ok h2 with ⟨_, _, x⟩ | ⟨_, x, _⟩
    · exact Or.inr x
    · exact Or.inl x
  · rcases pp_ok h3 with ⟨_, x⟩ | ⟨_, x⟩ | ⟨x, _⟩
    · exact Or.inl x
    · exact Or.inr x
    · exact Or.inl x
theorem tk_ok {d : Nat} {wu pu vu : Int32} {s b : Nat} (h : tk_r d wu pu vu s b = 0) : ¬ 16 < d + 1 ∧ us_e wu s b = 0 ∧ us_e pu (sl_n wu s) (us_b wu b) = 0 ∧ us_e vu (sl_n pu (sl_n wu s)) (us_b pu (us_b wu b)) = 0 := by
  unfold tk_r at h
  by_cases a : 16 < d + 1
  · rw [if_pos a] at h; exact absurd h (by decide)
  · rw [if_neg a] at h
    by_cases b' : ¬ us_e wu s b = 0
    · rw [if_pos b'] at h; exact absurd h b'
    · rw [if_neg b'] at h
      by_cases c : ¬ us_e pu (sl_n wu s) (us_b wu b) = 0
      · rw [if_pos c] at h; exact absurd h c
      · rw [if_neg c] at h
        exact ⟨a, Decidable.not_not.mp b', Decidable.not_not.mp c, h⟩
theorem tb_newdir (I : tb_inv f L T ak als ale afl awd apr aws aps avs ali E p d s b pe se) (hp : it_pc f L p) (hr : dr_r f L p = 0) (ht : tk_r d (dr_wu f L p) (dr_pu f L p) (dr_v f L p) s b = 0) :
    tb_inv f L T (upd ak E (dr_c f L p + nI (256 * dr_g f L p))) (upd als E (nI T)) (upd ale E (nI T)) (upd afl E (nI (dr_m f L p))) (upd awd E (nI (dr_w f L p))) (upd apr E (dr_p f L p)) (upd aws E (sl_s (dr_wu f L p) s)) (upd aps E (sl_s (dr_pu f L p) (sl_n (dr_wu f L p) s))) (upd avs E (sl_s (dr_v f L p) (sl_n (dr_pu f L p) (sl_n (dr_wu f L p) s)))) ali (E + 1) (dr_k f L p + 1) (d + 1)
      (sl_n (dr_v f L p) (sl_n (dr_pu f L p) (sl_n (dr_wu f L p) s))) (us_b (dr_v f L p) (us_b (dr_pu f L p) (us_b (dr_wu f L p) b))) (tb_at pe (E + 1) (dr_k f L p + 1)) (tb_at se (E + 1) (sl_n (dr_v f L p) (sl_n (dr_pu f L p) (sl_n (dr_wu f L p) s)))) := by
  obtain ⟨I1, I2, I3, I4, I5, I6, I7, I8, I9⟩ := I
  have hb := dr_b f hp.1
  have hk := pc_ok (dr_ok hr).2.2.2
  have hk1 : dr_k f L p < L := hk.1
  obtain ⟨u1, u2, u3⟩ := dr_us hr
  obtain ⟨t0, t1, t2, t3⟩ := tk_ok ht
  have J1 := (us_ok u1 I4 t1).1
  have J2 := (us_ok u2 J1 t2).1
  have J3 := (us_ok (Or.inr u3) J2 t3).1
  have kz := tb_kz hk
  refine ⟨?_, tb_atE _ _ _, tb_atE _ _ _, J3, fun _ h => ?_, by omega, by omega, by omega, by omega⟩
  · refine tb_more (tb_keep (T := T) (pe := pe) (se := se) (by omega) (fun e he => pk_un (by omega)) (fun e he => pk_un (by omega)) (fun e he => pk_un (by omega)) (fun e he => pk_un (by omega)) (fun e he => pk_un (by omega)) (fun e he => pk_un (by omega)) (fun e he => pk_un (by omega)) (fun e he => pk_un (by omega)) (fun e he => pk_un (by omega)) (fun j hj => rfl) (fun j hj => tb_atn (by omega)) (fun j hj => tb_atn (by omega)) I1) ?_ ?_
    · rw [tb_atE, tb_atE, tb_atn (by omega), tb_atn (by omega), I2, I3]
      exact Or.inr ⟨hp, hr, rfl, pk_us, pk_us, pk_us, pk_us, pk_us, pk_us, pk_us, rfl, J3.2.2⟩
    · intro _ _
      rw [pk_us]
      exact kz
  · rw [Nat.add_sub_cancel, pk_us] at h
    exact absurd h kz
end
