/-! the reference: numbers -/
/-- the reference's step of a digit -/
theorem dt_y {R b : Nat} (hb : 0 < b) : (R / b % 2 = 0 ∧ R / 2 / b * 2 = R / b ∧ R - R / 2 / b * 2 * b = R % b) ∨ (R / b % 2 = 1 ∧ R / 2 / b * 2 + 1 = R / b ∧ R - R / 2 / b * 2 * b = R % b + b) := by
  have e1 : R / 2 / b = R / b / 2 := by rw [Nat.div_div_eq_div_mul, Nat.div_div_eq_div_mul, Nat.mul_comm]
  have e2 := Nat.div_add_mod' R b
  rw [e1]
  have h : R / b % 2 = 0 ∨ R / b % 2 = 1 := by omega
  rcases h with h | h
  · have e3 : R / b / 2 * 2 = R / b := by omega
    rw [e3]
    exact Or.inl ⟨h, rfl, by omega⟩
  · have e3 : R / b / 2 * 2 + 1 = R / b := by omega
    refine Or.inr ⟨h, e3, ?_⟩
    have e4 : R / b * b = R / b / 2 * 2 * b + b := by rw [← e3, Nat.add_mul, Nat.one_mul, e3]
    omega
def nt_cs (c : Int32) (N b : Nat) : Nat → Int32 := fun j => nt_dc c (N / b ^ j % b)
theorem nt_48 {c : Int32} {d : Nat} (hd : d < 16) : nt_dc c d = 48 ↔ d = 0 := by
  unfold nt_dc
  constructor
  · intro h
    by_cases a : d < 10
    · rw [if_pos a] at h
      have := (nI_eq (b := 48) (by omega) (by decide)).mp h
      omega
    · rw [if_neg a] at h
      by_cases c8 : c = 88
      · rw [if_pos c8] at h
        have := (nI_eq (b := 48) (by omega) (by decide)).mp h
        omega
      · rw [if_neg c8] at h
        have := (nI_eq (b := 48) (by omega) (by decide)).mp h
        omega
  · intro h; rw [h, if_pos (by omega)]; rfl
section
variable {yfl yil yol ytl ycap ymk yen yac yec ypos yco yde ydp ydw ydq ywd ypr yit ym1 ym2 ym3 ym4 ym5 yws yps ylg ycv ycm ycs ycx ycu ysq ysv ycw ycp ycn : Int32} {bf bi bo btm brv : Nat → Int32} {ba brs : Nat → Int64}
/-- prefix, zeros, digits and the blanks behind them -/
theorem ym_652 {post : SY → Prop} {n W z nd N : Nat} {c sg hx : Int32} {v : Int64} {m : Nat} {lf : Bool} (hn : n < 2 ^ 21) (hW : W ≤ 99) (hc : ar_ch c) (hb : ¬ cv_b c = 0) (hnd : nd ≤ 22) (ht : nt_pl c m v + z + nd ≤ 128) (es : sg = nt_sg c m v) (ex : hx = 0 ↔ ¬ nt_hx c m v) (h100 : nt_hx c m v → nt_sg c m v = 0)
    (hr : ∀ j, j < nd → brv j = nt_cs c N (cv_b c) j)
    (h : post (yfl, yil, yol, (if lf = true then nI (n + (nt_pl c m v + z + nd) + (W - (nt_pl c m v + z + nd))) else nI (n + (nt_pl c m v + z + nd))), ycap, ymk, yen, yac, yec, ypos, yco, yde, ydp, ydw, ydq, ywd, ypr, yit, ym1, ym2, ym3, ym4, ym5, yws, yps, ylg, ycv, ycm, ycs, ycx, ycu, ysq, ysv, ycw, ycp, ycn, bf, bi, bo, (if lf = true then ef_f 256 (fun _ => 32) (ef_f 256 (nt_T c m v N z nd) btm n (nt_pl c m v + z + nd)) (n + (nt_pl c m v + z + nd)) (W - (nt_pl c m v + z + nd)) else ef_f 256 (nt_T c m v N z nd) btm n (nt_pl c m v + z + nd)), brv, ba, brs)) :
    wY_renderDir_652 post c (nI W) (yb_b lf) sg (nI nd) (nI z) hx (nI (nt_pl c m v + z + nd)) yfl yil yol (nI n) ycap ymk yen yac yec ypos yco yde ydp ydw ydq ywd ypr yit ym1 ym2 ym3 ym4 ym5 yws yps ylg ycv ycm ycs ycx ycu ysq ysv ycw ycp ycn bf bi bo btm brv ba brs := by
  have h2 := nt_pl2 c m v
  have c32 : ar_ch 32 := ⟨32, by decide, rfl⟩
  have c48 : ar_ch 48 := ⟨48, by decide, rfl⟩
  have hk := sb_k (W := W) (t := nt_pl c m v + z + nd) (by omega) (by omega)
  rw [nt_split] at h
  have dig : ∀ (B : Nat → Int32) (k : Nat), post (yfl, yil, yol, (if lf = true then nI (n + (nt_pl c m v + z + nd) + (W - (nt_pl c m v + z + nd))) else nI (n + (nt_pl c m v + z + nd))), ycap, ymk, yen, yac, yec, ypos, yco, yde, ydp, ydw, ydq, ywd, ypr, yit, ym1, ym2, ym3, ym4, ym5, yws, yps, ylg, ycv, ycm, ycs, ycx, ycu, ysq, ysv, ycw, ycp, ycn, bf, bi, bo, (if lf = true then ef_f 256 (fun _ => 32) (ef_f 256 (nt_dg c N nd) B (n + nt_pl c m v + z) nd) (n + (nt_pl c m v + z + nd)) (W - (nt_pl c m v + z + nd)) else ef_f 256 (nt_dg c N nd) B (n + nt_pl c m v + z) nd), brv, ba, brs) → ∀ j, k + j = nd → wY_renderDir_693 post (nI W) (yb_b lf) (nI (nt_pl c m v + z + nd)) (k + 1) (nI k - 1) yfl yil yol (nI (n + nt_pl c m v + z + j)) ycap ymk yen yac yec ypos yco yde ydp ydw ydq ywd ypr yit ym1 ym2 ym3 ym4 ym5 yws yps ylg ycv ycm ycs ycx ycu ysq ysv ycw ycp ycn bf bi bo (ef_f 256 (nt_dg c N nd) B (n + nt_pl c m v + z) j) brv ba brs := by
    intro B k hp
    induction k with
    | zero =>
      intro j hj
      have e1 : j = nd := by omega
      subst e1
      refine br_t (by decide) ?_
      have e2 : n + nt_pl c m v + z + j = n + (nt_pl c m v + z + j) := by omega
      rw [e2]
      cases lf with
      | false => exact br_t rfl hp
      | true => exact br_f (by decide) (ym_pd (k := W - (nt_pl c m v + z + j)) (by omega) (by omega) c32 hk hp)
    | succ k ih =>
      intro j hj
      have em : nI (k + 1) - 1 = nI k := nI_pred k
      have en : nI k + -1 = nI k - 1 := (Int32.sub_eq_add_neg _ _).symm
      have ec : brv k = nt_dg c N nd j := by
        rw [hr k (by omega)]
        unfold nt_dg nt_cs
        rw [show nd - 1 - j = k by omega]
      rw [em]
      exact br_f (nI_pos (by omega)) ⟨vp_in_nI (by omega) (by omega), ym_em (nt_dg c N nd j) (by rw [nI_clamp (by omega)]; exact ec) (by omega) (nt_dgc hb N nd j) (nm_r en (ih (j + 1) (by omega)))⟩
  have k679 : wY_renderDir_679 post (nI W) (yb_b lf) (nI nd) (nI z) (nI (nt_pl c m v + z + nd)) yfl yil yol (nI (n + nt_pl c m v)) ycap ymk yen yac yec ypos yco yde ydp ydw ydq ywd ypr yit ym1 ym2 ym3 ym4 ym5 yws yps ylg ycv ycm ycs ycx ycu ysq ysv ycw ycp ycn bf bi bo (ef_f 256 (nt_pre c m v) btm n (nt_pl c m v)) brv ba brs := by
    unfold wY_renderDir_679
    exact ym_pd (k := z) (by omega) (by omega) c48 (Or.inl rfl) (nm_e ⟨nd + 1, dig _ nd h 0 (by omega)⟩)
  by_cases x : nt_hx c m v
  · have s0 : sg = 0 := es.trans (h100 x)
    have a1 : nt_pl c m v = 2 := if_pos x
    have a2 : nt_pre c m v 0 = 48 := by unfold nt_pre; rw [if_pos x, if_pos rfl]
    have a3 : nt_pre c m v 1 = c := by unfold nt_pre; rw [if_pos x, if_neg (by omega)]
    have e2 : ef_f 256 (nt_pre c m v) btm n 2 = ef_x 256 (ef_x 256 btm n 48) (n + 1) c := by
      show ef_x 256 (ef_x 256 btm (n + 0) (nt_pre c m v 0)) (n + 1) (nt_pre c m v 1) = _
      rw [a2, a3]; rfl
    rw [a1, e2] at k679
    rw [a1]
    exact br_t s0 (br_f (fun y => ex.mp y x) (ym_em 48 rfl (by omega) c48 (ym_em c rfl (by omega) hc k679)))
  · have x0 : hx = 0 := ex.mpr x
    by_cases s0 : nt_sg c m v = 0
    · have a1 : nt_pl c m v = 0 := by unfold nt_pl; rw [if_neg x, if_pos s0]
      rw [a1] at k679 ⊢
      exact br_t (es.trans s0) (br_t x0 k679)
    · have a1 : nt_pl c m v = 1 := by unfold nt_pl; rw [if_neg x, if_neg s0]
      have a2 : nt_pre c m v 0 = nt_sg c m v := by unfold nt_pre; rw [if_neg x]
      have e2 : ef_f 256 (nt_pre c m v) btm n 1 = ef_x 256 btm n (nt_sg c m v) := by
        show ef_x 256 btm (n + 0) (nt_pre c m v 0) = _
        rw [a2]; rfl
      rw [a1, e2] at k679
      rw [a1]
      exact br_f (fun y => s0 (es.symm.trans y)) (ym_em (nt_sg c m v) es (by omega) (nt_sgc c m v) (br_t x0 k679))
theorem ym_626 {post : SY → Prop} {n W z nd N : Nat} {c sg hx : Int32} {v : Int64} {m : Nat} {lf : Bool} (hn : n < 2 ^ 20) (hW : W ≤ 99) (hc : ar_ch c) (hb : ¬ cv_b c = 0) (hnd : nd ≤ 22) (ht : nt_pl c m v + z + nd ≤ 128) (es : sg = nt_sg c m v) (ex : hx = 0 ↔ ¬ nt_hx c m v) (h100 : nt_hx c m v → nt_sg c m v = 0)
    (hr : ∀ j, j < nd → brv j = nt_cs c N (cv_b c) j)
    (h : post (yfl, yil, yol, nI (n + (W - (nt_pl c m v + z + nd)) + (nt_pl c m v + z + nd)), ycap, ymk, yen, yac, yec, ypos, yco, yde, ydp, ydw, ydq, ywd, ypr, yit, ym1, ym2, ym3, ym4, ym5, yws, yps, ylg, ycv, ycm, ycs, ycx, ycu, ysq, ysv, ycw, ycp, ycn, bf, bi, bo, em_o lf W (nt_pl c m v + z + nd) (nt_T c m v N z nd) btm n, brv, ba, brs)) :
    wY_renderDir_626 post c (nI W) (yb_b lf) sg (nI nd) (nI z) hx (nI (nt_pl c m v)) yfl yil yol (nI n) ycap ymk yen yac yec ypos yco yde ydp ydw ydq ywd ypr yit ym1 ym2 ym3 ym4 ym5 yws yps ylg ycv ycm ycs ycx ycu ysq ysv ycw ycp ycn bf bi bo btm brv ba brs := by
  have h2 := nt_pl2 c m v
  have hk := sb_k (W := W) (t := nt_pl c m v + z + nd) (by omega) (by omega)
  refine nm_r (e' := nI (nt_pl c m v + z + nd)) (by rw [nI_add, nI_add]) ?_
  cases lf with
  | false => exact br_t rfl (ym_pd (k := W - (nt_pl c m v + z + nd)) (by omega) (by omega) ⟨32, by decide, rfl⟩ hk (ym_652 (lf := false) (by omega) hW hc hb hnd ht es ex h100 hr h))
  | true =>
    rw [show n + (W - (nt_pl c m v + z + nd)) + (nt_pl c m v + z + nd) = n + (nt_pl c m v + z + nd) + (W - (nt_pl c m v + z + nd)) by omega] at h
    exact br_f (by decide) (ym_652 (lf := true) (by omega) hW hc hb hnd ht es ex h100 hr h)
theorem ym_582 {post : SY → Prop} {n W z1 nd N : Nat} {c sg hx : Int32} {v : Int64} {m : Nat} {lf : Bool} (hn : n < 2 ^ 20) (hW : W ≤ 99) (hc : ar_ch c) (hb : ¬ cv_b c = 0) (hnd : nd ≤ 22) (hz : z1 ≤ 99) (hP : pv_ok ycp) (e4 : ym4 = nI (m / 8 % 2)) (ht : nt_pl c m v + nt_z2 m lf ycp W (nt_pl c m v) z1 nd + nd ≤ 128) (es : sg = nt_sg c m v) (ex : hx = 0 ↔ ¬ nt_hx c m v) (h100 : nt_hx c m v → nt_sg c m v = 0)
    (hr : ∀ j, j < nd → brv j = nt_cs c N (cv_b c) j)
    (h : ∀ z, z = nt_z2 m lf ycp W (nt_pl c m v) z1 nd → post (yfl, yil, yol, nI (n + (W - (nt_pl c m v + z + nd)) + (nt_pl c m v + z + nd)), ycap, ymk, yen, yac, yec, ypos, yco, yde, ydp, ydw, ydq, ywd, ypr, yit, ym1, ym2, ym3, ym4, ym5, yws, yps, ylg, ycv, ycm, ycs, ycx, ycu, ysq, ysv, ycw, ycp, ycn, bf, bi, bo, em_o lf W (nt_pl c m v + z + nd) (nt_T c m v N z nd) btm n, brv, ba, brs)) :
    wY_renderDir_582 post c (nI W) (yb_b lf) sg (nI nd) (nI z1) hx (nI (nt_pl c m v)) yfl yil yol (nI n) ycap ymk yen yac yec ypos yco yde ydp ydw ydq ywd ypr yit ym1 ym2 ym3 ym4 ym5 yws yps ylg ycv ycm ycs ycx ycu ysq ysv ycw ycp ycn bf bi bo btm brv ba brs := by
  have h2 := nt_pl2 c m v
  have fin : ∀ z, z = nt_z2 m lf ycp W (nt_pl c m v) z1 nd → wY_renderDir_626 post c (nI W) (yb_b lf) sg (nI nd) (nI z) hx (nI (nt_pl c m v)) yfl yil yol (nI n) ycap ymk yen yac yec ypos yco yde ydp ydw ydq ywd ypr yit ym1 ym2 ym3 ym4 ym5 yws yps ylg ycv ycm ycs ycx ycu ysq ysv ycw ycp ycn bf bi bo btm brv ba brs := fun z ez => ym_626 hn hW hc hb hnd (by rw [ez]; exact ht) es ex h100 hr (h z ez)
  unfold nt_z2 at fin
  have m2 : m / 8 % 2 < 2 := Nat.mod_lt _ (by decide)
  refine pk_eq (m / 8 % 2) 0 (fun a => ?_) (fun a => ?_) e4
  · exact fin z1 (by rw [if_neg (fun y => by have := y.1; omega)])
  · cases lf with
    | true => exact br_f (by decide) (fin z1 (by rw [if_neg (fun y => y.2.1 rfl)]))
    | false =>
      refine br_t rfl ?_
      rcases hP with p1 | ⟨q, hq, p1⟩
      · refine br_f (by rw [p1]; decide) ?_
        refine pk_le W (nt_pl c m v + z1 + nd) (fun b => ?_) (fun b => nm_r (e' := nI (W - nt_pl c m v - nd)) (by rw [pk_sub (by omega), pk_sub (by omega)]) ?_) rfl (by rw [nI_add, nI_add])
        · exact fin z1 (by rw [if_neg (fun y => by have := y.2.2.2; omega)])
        · exact fin _ (by rw [if_pos ⟨by omega, by decide, p1, b⟩])
      · refine br_t (by rw [p1]; exact nI_pos' (by omega)) (fin z1 ?_)
        rw [if_neg (fun y => ?_)]
        have := y.2.2.1
        rw [p1] at this
        exact us_n1 (by omega) this
theorem ym_530 {post : SY → Prop} {n W z1 nd N : Nat} {c sg : Int32} {v x6 : Int64} {m : Nat} {lf : Bool} (hn : n < 2 ^ 20) (hW : W ≤ 99) (hc : ar_ch c) (hb : ¬ cv_b c = 0) (hnd : nd ≤ 22) (hz : z1 ≤ 99) (hP : pv_ok ycp) (e4 : ym4 = nI (m / 8 % 2)) (e5 : ym5 = nI (m / 16 % 2)) (ev : x6 = 0 ↔ v = 0) (ht : nt_pl c m v + nt_z2 m lf ycp W (nt_pl c m v) z1 nd + nd ≤ 128) (es : sg = nt_sg c m v) (h100 : nt_hx c m v → nt_sg c m v = 0)
    (hr : ∀ j, j < nd → brv j = nt_cs c N (cv_b c) j)
    (h : ∀ z, z = nt_z2 m lf ycp W (nt_pl c m v) z1 nd → post (yfl, yil, yol, nI (n + (W - (nt_pl c m v + z + nd)) + (nt_pl c m v + z + nd)), ycap, ymk, yen, yac, yec, ypos, yco, yde, ydp, ydw, ydq, ywd, ypr, yit, ym1, ym2, ym3, ym4, ym5, yws, yps, ylg, ycv, ycm, ycs, ycx, ycu, ysq, ysv, ycw, ycp, ycn, bf, bi, bo, em_o lf W (nt_pl c m v + z + nd) (nt_T c m v N z nd) btm n, brv, ba, brs)) :
    wY_renderDir_530 post c (nI W) (yb_b lf) x6 sg (nI nd) (nI z1) yfl yil yol (nI n) ycap ymk yen yac yec ypos yco yde ydp ydw ydq ywd ypr yit ym1 ym2 ym3 ym4 ym5 yws yps ylg ycv ycm ycs ycx ycu ysq ysv ycw ycp ycn bf bi bo btm brv ba brs := by
  have b16 : cv_b c = 16 ↔ c = 120 ∨ c = 88 := by
    unfold cv_b
    by_cases a : c = 100 ∨ c = 117
    · rw [if_pos a]
      refine ⟨fun z => absurd z (by decide), fun z => ?_⟩
      rcases a with a | a <;> rcases z with z | z <;> rw [a] at z <;> exact absurd z (by decide)
    · rw [if_neg a]
      by_cases b : c = 120 ∨ c = 88
      · rw [if_pos b]; exact ⟨fun _ => b, fun _ => rfl⟩
      · rw [if_neg b]
        by_cases d : c = 111
        · rw [if_pos d]; exact ⟨fun z => absurd z (by decide), fun z => absurd z b⟩
        · rw [if_neg d]; exact ⟨fun z => absurd z (by decide), fun z => absurd z b⟩
  have no : ¬ nt_hx c m v → wY_renderDir_560 post c (nI W) (yb_b lf) sg (nI nd) (nI z1) yfl yil yol (nI n) ycap ymk yen yac yec ypos yco yde ydp ydw ydq ywd ypr yit ym1 ym2 ym3 ym4 ym5 yws yps ylg ycv ycm ycs ycx ycu ysq ysv ycw ycp ycn bf bi bo btm brv ba brs := by
    intro x
    have k := ym_582 (post := post) (lf := lf) (hx := 0) hn hW hc hb hnd hz hP e4 ht es ⟨fun _ => x, fun _ => rfl⟩ h100 hr h
    refine br_t rfl ?_
    by_cases s0 : nt_sg c m v = 0
    · have a1 : nt_pl c m v = 0 := by unfold nt_pl; rw [if_neg x, if_pos s0]
      rw [a1] at k
      exact br_t (es.trans s0) k
    · have a1 : nt_pl c m v = 1 := by unfold nt_pl; rw [if_neg x, if_neg s0]
      rw [a1] at k
      exact br_f (fun y => s0 (es.symm.trans y)) k
  have yes : nt_hx c m v → wY_renderDir_556 post c (nI W) (yb_b lf) sg (nI nd) (nI z1) yfl yil yol (nI n) ycap ymk yen yac yec ypos yco yde ydp ydw ydq ywd ypr yit ym1 ym2 ym3 ym4 ym5 yws yps ylg ycv ycm ycs ycx ycu ysq ysv ycw ycp ycn bf bi bo btm brv ba brs := by
    intro x
    have k := ym_582 (post := post) (lf := lf) (hx := 1) hn hW hc hb hnd hz hP e4 ht es ⟨fun z => absurd z (by decide), fun z => absurd x z⟩ h100 hr h
    have a1 : nt_pl c m v = 2 := if_pos x
    rw [a1] at k
    exact br_f (by decide) k
  have m2 : m / 16 % 2 < 2 := Nat.mod_lt _ (by decide)
  refine pk_eq (m / 16 % 2) 0 (fun a => no (fun y => by have := y.2.1; omega)) (fun a => ?_) e5
  by_cases v0 : v = 0
  · exact br_t (ev.mpr v0) (no (fun y => y.2.2 v0))
  · refine br_f (fun y => v0 (ev.mp y)) ⟨fun y => yes ⟨b16.mpr (Or.inl y), by omega, v0⟩, fun y1 => ⟨fun y => yes ⟨b16.mpr (Or.inr y), by omega, v0⟩, fun y2 => no (fun y => (b16.mp y.1).elim y1 y2)⟩⟩
end
