/-! the reference: the digits, and the whole conversion -/
section
variable {yfl yil yol ytl ycap ymk yen yac yec ypos yco yde ydp ydw ydq ywd ypr yit ym1 ym2 ym3 ym4 ym5 yws yps ylg ycv ycm ycs ycx ycu ysq ysv ycw ycp ycn : Int32} {bf bi bo btm brv : Nat → Int32} {ba brs : Nat → Int64}
theorem ym_488 {post : SY → Prop} {n W z0 nd N : Nat} {c sg : Int32} {v x6 : Int64} {m : Nat} {lf : Bool} (hn : n < 2 ^ 20) (hW : W ≤ 99) (hc : ar_ch c) (hb : ¬ cv_b c = 0) (hnd : nd ≤ 22) (hz0 : z0 ≤ 99) (hz : nt_z1 c m z0 v nd ≤ 99) (hP : pv_ok ycp) (e4 : ym4 = nI (m / 8 % 2)) (e5 : ym5 = nI (m / 16 % 2)) (ev : x6 = 0 ↔ v = 0) (ht : nt_pl c m v + nt_z2 m lf ycp W (nt_pl c m v) (nt_z1 c m z0 v nd) nd + nd ≤ 128) (es : sg = nt_sg c m v) (h100 : nt_hx c m v → nt_sg c m v = 0)
    (hr : ∀ j, j < nd → brv j = nt_cs c N (cv_b c) j) (htop : 0 < nd → (brv (nd - 1) = 48 ↔ v = 0))
    (h : ∀ z, z = nt_z2 m lf ycp W (nt_pl c m v) (nt_z1 c m z0 v nd) nd → post (yfl, yil, yol, nI (n + (W - (nt_pl c m v + z + nd)) + (nt_pl c m v + z + nd)), ycap, ymk, yen, yac, yec, ypos, yco, yde, ydp, ydw, ydq, ywd, ypr, yit, ym1, ym2, ym3, ym4, ym5, yws, yps, ylg, ycv, ycm, ycs, ycx, ycu, ysq, ysv, ycw, ycp, ycn, bf, bi, bo, em_o lf W (nt_pl c m v + z + nd) (nt_T c m v N z nd) btm n, brv, ba, brs)) :
    wY_renderDir_488 post c (nI W) (yb_b lf) x6 sg (nI nd) (nI z0) yfl yil yol (nI n) ycap ymk yen yac yec ypos yco yde ydp ydw ydq ywd ypr yit ym1 ym2 ym3 ym4 ym5 yws yps ylg ycv ycm ycs ycx ycu ysq ysv ycw ycp ycn bf bi bo btm brv ba brs := by
  have E : nt_z1 c m z0 v nd = if c = 111 ∧ m / 16 % 2 = 1 ∧ ¬ (0 < z0 ∨ (v = 0 ∧ 0 < nd)) then 1 else z0 := rfl
  have same : ¬ (c = 111 ∧ m / 16 % 2 = 1 ∧ ¬ (0 < z0 ∨ (v = 0 ∧ 0 < nd))) → wY_renderDir_530 post c (nI W) (yb_b lf) x6 sg (nI nd) (nI z0) yfl yil yol (nI n) ycap ymk yen yac yec ypos yco yde ydp ydw ydq ywd ypr yit ym1 ym2 ym3 ym4 ym5 yws yps ylg ycv ycm ycs ycx ycu ysq ysv ycw ycp ycn bf bi bo btm brv ba brs := by
    intro q
    rw [if_neg q] at E
    rw [E] at hz ht h
    exact ym_530 hn hW hc hb hnd hz hP e4 e5 ev ht es h100 hr h
  have more : (c = 111 ∧ m / 16 % 2 = 1 ∧ ¬ (0 < z0 ∨ (v = 0 ∧ 0 < nd))) → wY_renderDir_527 post c (nI W) (yb_b lf) x6 sg (nI nd) (nI z0) yfl yil yol (nI n) ycap ymk yen yac yec ypos yco yde ydp ydw ydq ywd ypr yit ym1 ym2 ym3 ym4 ym5 yws yps ylg ycv ycm ycs ycx ycu ysq ysv ycw ycp ycn bf bi bo btm brv ba brs := by
    intro q
    rw [if_pos q] at E
    rw [E] at hz ht h
    have z00 : z0 = 0 := by
      by_cases y : 0 < z0
      · exact absurd (Or.inl y) q.2.2
      · omega
    exact nm_r (e' := nI 1) (by rw [z00]; rfl) (ym_530 (z1 := 1) hn hW hc hb hnd hz hP e4 e5 ev ht es h100 hr h)
  have m2 : m / 16 % 2 < 2 := Nat.mod_lt _ (by decide)
  by_cases c1 : c = 111
  · refine br_t c1 (pk_eq (m / 16 % 2) 0 (fun a => same (fun y => by have := y.2.1; omega)) (fun a => ?_) e5)
    refine pk_lt 0 z0 (fun a => same (fun y => y.2.2 (Or.inl a))) (fun b => pk_le nd 0 (fun d => more ⟨c1, by omega, fun y => by rcases y with y | y <;> omega⟩) (fun d => ?_))
    have e1 : nI nd - 1 = nI (nd - 1) := pk_sub (a := nd) (b := 1) (by omega)
    refine ⟨by rw [e1]; exact vp_in_nI (by omega) (by omega), wk_if (d := v = 0) (by rw [e1, nI_clamp (by omega)]; exact propext (htop d)) (fun v0 => same (fun y => y.2.2 (Or.inr ⟨v0, d⟩))) (fun v0 => more ⟨c1, by omega, fun y => ?_⟩)⟩
    rcases y with y | y
    · omega
    · exact v0 y.1
  · exact br_f c1 (same (fun y => c1 y.1))
theorem ym_468 {post : SY → Prop} {n W nd N : Nat} {c sg : Int32} {v x6 : Int64} {m : Nat} {lf : Bool} (hn : n < 2 ^ 20) (hW : W ≤ 99) (hc : ar_ch c) (hb : ¬ cv_b c = 0) (hnd : nd ≤ 22) (hP : pv_ok ycp) (e4 : ym4 = nI (m / 8 % 2)) (e5 : ym5 = nI (m / 16 % 2)) (ev : x6 = 0 ↔ v = 0) (es : sg = nt_sg c m v) (h100 : nt_hx c m v → nt_sg c m v = 0)
    (hr : ∀ j, j < nd → brv j = nt_cs c N (cv_b c) j) (htop : 0 < nd → (brv (nd - 1) = 48 ↔ v = 0))
    (h : ∀ z, z = tx_z c m ycp lf W v nd → post (yfl, yil, yol, nI (n + (W - (nt_pl c m v + z + nd)) + (nt_pl c m v + z + nd)), ycap, ymk, yen, yac, yec, ypos, yco, yde, ydp, ydw, ydq, ywd, ypr, yit, ym1, ym2, ym3, ym4, ym5, yws, yps, ylg, ycv, ycm, ycs, ycx, ycu, ysq, ysv, ycw, ycp, ycn, bf, bi, bo, em_o lf W (nt_pl c m v + z + nd) (nt_T c m v N z nd) btm n, brv, ba, brs)) :
    wY_renderDir_468 post c (nI W) (yb_b lf) x6 sg (nI nd) yfl yil yol (nI n) ycap ymk yen yac yec ypos yco yde ydp ydw ydq ywd ypr yit ym1 ym2 ym3 ym4 ym5 yws yps ylg ycv ycm ycs ycx ycu ysq ysv ycw ycp ycn bf bi bo btm brv ba brs := by
  have hzb := tx_zb (c := c) (m := m) (lf := lf) (v := v) (nd := nd) hP hW hnd
  have k := ym_488 (post := post) (x6 := x6) (z0 := nt_z0 ycp nd) hn hW hc hb hnd hzb.2.2 hzb.2.1 hP e4 e5 ev (by have := hzb.1; unfold tx_z at this; omega) es h100 hr htop h
  unfold nt_z0 at k
  rcases hP with ep | ⟨q, hq, ep⟩
  · subst ep
    have e0 : (-1 : Int32).toNatClampNeg = 0 := by decide
    rw [e0, Nat.zero_sub] at k
    exact br_t (Int32.le_trans (by decide) (nI_pos' (n := nd) (by omega))) k
  · subst ep
    rw [nI_clamp (by omega)] at k
    refine pk_le q nd (fun a => ?_) (fun a => ?_)
    · rw [show q - nd = 0 by omega] at k
      exact k
    · rw [pk_sub (by omega)]
      exact k
theorem ym_394 {post : SY → Prop} {J : Int32 → Int64 → Int32 → (Nat → Int32) → (Nat → Int32) → (Nat → Int32) → (Nat → Int32) → (Nat → Int32) → (Nat → Int64) → (Nat → Int64) → Prop} {c x4 x5 x10 : Int32} {x6 x8 : Int64} {i d Q : Nat} (hi : i < 64) (hd : d < 16) (hQ : Q < 2 ^ 64)
    (h0 : Q = 0 → wY_renderDir_468 post c x4 x5 x6 x10 (nI (i + 1)) yfl yil yol ytl ycap ymk yen yac yec ypos yco yde ydp ydw ydq ywd ypr yit ym1 ym2 ym3 ym4 ym5 yws yps ylg ycv ycm ycs ycx ycu ysq ysv ycw ycp ycn bf bi bo btm (upd brv i (nt_dc c d)) ba brs) (h1 : ¬ Q = 0 → J (nI (i + 1)) (lN Q) (nI (i + 1)) bf bi bo btm (upd brv i (nt_dc c d)) ba brs) : wY_renderDir_394 post J c x4 x5 x6 x8 x10 (nI i) (nI i) (lN Q) (lN d) yfl yil yol ytl ycap ymk yen yac yec ypos yco yde ydp ydw ydq ywd ypr yit ym1 ym2 ym3 ym4 ym5 yws yps ylg ycv ycm ycs ycx ycu ysq ysv ycw ycp ycn bf bi bo btm brv ba brs := by
  have ei : (lN d).toInt32 = nI d := lN_i d
  have fin : ∀ z : Int32, (z.toUInt32 % 65536).toInt32 = nt_dc c d → wY_renderDir_433 post J c x4 x5 x6 x8 x10 (nI i) (nI i) (lN Q) z yfl yil yol ytl ycap ymk yen yac yec ypos yco yde ydp ydw ydq ywd ypr yit ym1 ym2 ym3 ym4 ym5 yws yps ylg ycv ycm ycs ycx ycu ysq ysv ycw ycp ycn bf bi bo btm brv ba brs := by
    intro z ez
    refine ⟨vp_in_nI hi (by omega), nm_r (e' := upd brv i (nt_dc c d)) (by rw [nI_clamp (by omega), ar_nar (ar_cast _), ez]) (nm_r (nI_1 i) ?_)⟩
    by_cases q : Q = 0
    · exact br_t ((lN_z hQ).mpr q) (h0 q)
    · exact br_f (fun y => q ((lN_z hQ).mp y)) (nm_r (nI_1 i) (h1 q))
  unfold nt_dc at fin
  refine pk_le 10 d (fun a => ?_) (fun a => ?_) rfl ei
  · rw [if_neg (by omega)] at fin
    by_cases c8 : c = 88
    · rw [if_pos c8] at fin
      refine br_t c8 (fin _ ?_)
      rw [ei]; exact dc_uA d hd a
    · rw [if_neg c8] at fin
      refine br_f c8 (fin _ ?_)
      rw [ei]; exact dc_la d hd a
  · rw [if_pos a] at fin
    refine fin _ ?_
    rw [ei]; exact dc_lo d a
theorem ym_352 {post : SY → Prop} {J : Int32 → Int64 → Int32 → (Nat → Int32) → (Nat → Int32) → (Nat → Int32) → (Nat → Int32) → (Nat → Int32) → (Nat → Int64) → (Nat → Int64) → Prop} {c x4 x5 x10 x11 x14 : Int32} {x6 : Int64} {b R : Nat} (hb : 8 ≤ b ∧ b ≤ 16) (hR : R < 2 ^ 64)
    (h : wY_renderDir_394 post J c x4 x5 x6 (lN b) x10 x11 x14 (lN (R / b)) (lN (R % b)) yfl yil yol ytl ycap ymk yen yac yec ypos yco yde ydp ydw ydq ywd ypr yit ym1 ym2 ym3 ym4 ym5 yws yps ylg ycv ycm ycs ycx ycu ysq ysv ycw ycp ycn bf bi bo btm brv ba brs) : wY_renderDir_352 post J c x4 x5 x6 (lN b) x10 x11 (lN R) x14 yfl yil yol ytl ycap ymk yen yac yec ypos yco yde ydp ydw ydq ywd ypr yit ym1 ym2 ym3 ym4 ym5 yws yps ylg ycv ycm ycs ycx ycu ysq ysv ycw ycp ycn bf bi bo btm brv ba brs := by
  have s1 : ((lN R).toUInt64 >>> ((1 : Int32).toInt64.toUInt64 &&& Int64.toUInt64 63)).toInt64 = lN (R / 2) := wb_shr (k := 1) hR (by decide)
  have q1 : lN (R / 2) / lN b = lN (R / 2 / b) := pk_lDiv (by omega) (by omega) (by omega)
  have s2 : lN (R / 2 / b) <<< ((1 : Int32).toInt64 &&& 63) = lN (R / 2 / b * 2) := wb_shl (R / 2 / b) (k := 1) (by decide)
  have hm : R % b < b := Nat.mod_lt _ (by omega)
  have hle : R / 2 / b * 2 * b ≤ R := by
    have e1 := Nat.div_add_mod' R b
    rcases dt_y (R := R) (b := b) (by omega) with ⟨_, e2, _⟩ | ⟨_, e2, _⟩
    · rw [e2]; omega
    · have : R / b * b = R / 2 / b * 2 * b + b := by rw [← e2, Nat.add_mul, Nat.one_mul]
      omega
  refine ⟨lN_nz (by omega) (by omega), nm_r (e' := lN (R / 2 / b * 2)) (by rw [s1, q1, s2]) (nm_r (e' := lN (R - R / 2 / b * 2 * b)) (by rw [lN_mul, lN_sub hle]) ?_)⟩
  rcases dt_y (R := R) (b := b) (by omega) with ⟨_, e2, e3⟩ | ⟨_, e2, e3⟩
  · rw [e3, e2]
    exact br_t ((pk_lLT (by omega) (by omega)).mpr hm) h
  · rw [e3]
    have e4 : lN (R / 2 / b * 2) + 1 = lN (R / b) := by rw [lN_1, e2]
    have e5 : lN (R % b + b) - lN b = lN (R % b) := by rw [lN_sub (by omega), Nat.add_sub_cancel]
    exact br_f (fun y => by have := (pk_lLT (by omega) (by omega)).mp y; omega) (nm_r e4 (nm_r e5 h))
theorem ym_331 {post : SY → Prop} {c x4 x5 x10 : Int32} {N C b : Nat} {x6 : Int64} (hb : 8 ≤ b ∧ b ≤ 16) (hN : N < 2 ^ 64) (hC : dt_C b N C) (hC2 : C ≤ 22) (hz : ¬ (x6 = 0 ∧ ycp = 0)) (h : wY_renderDir_468 post c x4 x5 x6 x10 (nI C) yfl yil yol ytl ycap ymk yen yac yec ypos yco yde ydp ydw ydq ywd ypr yit ym1 ym2 ym3 ym4 ym5 yws yps ylg ycv ycm ycs ycx ycu ysq ysv ycw ycp ycn bf bi bo btm (ef_f 64 (nt_cs c N b) brv 0 C) ba brs) :
    ∀ r i, i + r + 1 = C → wY_renderDir_331 post c x4 x5 x6 (lN b) x10 yfl yil yol ytl ycap ymk yen yac yec ypos yco yde ydp ydw ydq ywd ypr yit ym1 ym2 ym3 ym4 ym5 yws yps ylg ycv ycm ycs ycx ycu ysq ysv ycw ycp ycn (r + 1) (nI i) (lN (N / b ^ i)) (nI i) bf bi bo btm (ef_f 64 (nt_cs c N b) brv 0 i) ba brs := by
  intro r
  induction r with
  | zero =>
    intro i hi
    have hR : N / b ^ i < 2 ^ 64 := Nat.lt_of_le_of_lt (Nat.div_le_self _ _) hN
    have hQ : N / b ^ (i + 1) < 2 ^ 64 := Nat.lt_of_le_of_lt (Nat.div_le_self _ _) hN
    have hm : N / b ^ i % b < b := Nat.mod_lt _ (by omega)
    have z : N / b ^ (i + 1) = 0 := by rw [show i + 1 = C by omega]; exact hC.2.1
    have ef : ef_f 64 (nt_cs c N b) brv 0 (i + 1) = upd (ef_f 64 (nt_cs c N b) brv 0 i) i (nt_dc c (N / b ^ i % b)) := by
      show ef_x 64 _ (0 + i) _ = _
      rw [Nat.zero_add, ef_xt (by omega)]
      rfl
    have step : ∀ J, wY_renderDir_352 post J c x4 x5 x6 (lN b) x10 (nI i) (lN (N / b ^ i)) (nI i) yfl yil yol ytl ycap ymk yen yac yec ypos yco yde ydp ydw ydq ywd ypr yit ym1 ym2 ym3 ym4 ym5 yws yps ylg ycv ycm ycs ycx ycu ysq ysv ycw ycp ycn bf bi bo btm (ef_f 64 (nt_cs c N b) brv 0 i) ba brs := by
      intro J
      refine ym_352 hb hR ?_
      rw [dt_s]
      refine ym_394 (by omega) (by omega) hQ (fun _ => ?_) (fun y => absurd z y)
      rw [← ef, show i + 1 = C by omega]
      exact h
    refine br_f (nI_ge (b := 64) (by omega) (by decide)) ⟨fun y => ⟨fun y2 => absurd ⟨y, y2⟩ hz, fun _ => step _⟩, fun _ => step _⟩
  | succ r ih =>
    intro i hi
    have hR : N / b ^ i < 2 ^ 64 := Nat.lt_of_le_of_lt (Nat.div_le_self _ _) hN
    have hQ : N / b ^ (i + 1) < 2 ^ 64 := Nat.lt_of_le_of_lt (Nat.div_le_self _ _) hN
    have hm : N / b ^ i % b < b := Nat.mod_lt _ (by omega)
    have z : ¬ N / b ^ (i + 1) = 0 := hC.2.2 (i + 1) (by omega) (by omega)
    have ef : ef_f 64 (nt_cs c N b) brv 0 (i + 1) = upd (ef_f 64 (nt_cs c N b) brv 0 i) i (nt_dc c (N / b ^ i % b)) := by
      show ef_x 64 _ (0 + i) _ = _
      rw [Nat.zero_add, ef_xt (by omega)]
      rfl
    have next := ih (i + 1) (by omega)
    rw [ef] at next
    have step : wY_renderDir_352 post (wY_renderDir_331 post c x4 x5 x6 (lN b) x10 yfl yil yol ytl ycap ymk yen yac yec ypos yco yde ydp ydw ydq ywd ypr yit ym1 ym2 ym3 ym4 ym5 yws yps ylg ycv ycm ycs ycx ycu ysq ysv ycw ycp ycn (r + 1)) c x4 x5 x6 (lN b) x10 (nI i) (lN (N / b ^ i)) (nI i) yfl yil yol ytl ycap ymk yen yac yec ypos yco yde ydp ydw ydq ywd ypr yit ym1 ym2 ym3 ym4 ym5 yws yps ylg ycv ycm ycs ycx ycu ysq ysv ycw ycp ycn bf bi bo btm (ef_f 64 (nt_cs c N b) brv 0 i) ba brs := by
      refine ym_352 hb hR ?_
      rw [dt_s]
      exact ym_394 (by omega) (by omega) hQ (fun y => absurd y z) (fun _ => next)
    refine br_f (nI_ge (b := 64) (by omega) (by decide)) ⟨fun y => ⟨fun y2 => absurd ⟨y, y2⟩ hz, fun _ => step⟩, fun _ => step⟩
/-- the digits and all behind them -/
theorem ym_go {post : SY → Prop} {n W C : Nat} {c sg : Int32} {v : Int64} {m : Nat} {lf : Bool} (hn : n < 2 ^ 20) (hW : W ≤ 99) (hc : ar_ch c) (hb : ¬ cv_b c = 0) (hP : pv_ok ycp) (e4 : ym4 = nI (m / 8 % 2)) (e5 : ym5 = nI (m / 16 % 2)) (es : sg = nt_sg c m v)
    (hC : dt_C (cv_b c) (nt_N c v) C) (hC2 : C ≤ 22)
    (h : ∀ nd z, nd = nt_nd v ycp C → z = tx_z c m ycp lf W v nd → ∀ brv, post (yfl, yil, yol, nI (n + (W - (nt_pl c m v + z + nd)) + (nt_pl c m v + z + nd)), ycap, ymk, yen, yac, yec, ypos, yco, yde, ydp, ydw, ydq, ywd, ypr, yit, ym1, ym2, ym3, ym4, ym5, yws, yps, ylg, ycv, ycm, ycs, ycx, ycu, ysq, ysv, ycw, ycp, ycn, bf, bi, bo, em_o lf W (nt_pl c m v + z + nd) (nt_T c m v (nt_N c v) z nd) btm n, brv, ba, brs)) :
    ∃ k, wY_renderDir_331 post c (nI W) (yb_b lf) (nt_M c v) (lN (cv_b c)) sg yfl yil yol (nI n) ycap ymk yen yac yec ypos yco yde ydp ydw ydq ywd ypr yit ym1 ym2 ym3 ym4 ym5 yws yps ylg ycv ycm ycs ycx ycu ysq ysv ycw ycp ycn k 0 (nt_M c v) 0 bf bi bo btm brv ba brs := by
  have hb2 : 8 ≤ cv_b c ∧ cv_b c ≤ 16 := by rcases cv_b16 c with e | e | e | e <;> omega
  have hN := nt_Nb c v
  have h100 : nt_hx c m v → nt_sg c m v = 0 := by
    intro x
    unfold nt_sg
    by_cases c1 : c = 100
    · have := x.1
      rw [c1] at this
      exact absurd this (by decide)
    · rw [if_neg c1]
  by_cases z : v = 0 ∧ ycp = 0
  · have e0 : nt_nd v ycp C = 0 := if_pos z
    refine ⟨1, br_f (by decide) (br_t ((nt_M0 c v).mpr z.1) (br_t z.2 ?_))⟩
    exact ym_468 (nd := 0) (N := nt_N c v) hn hW hc hb (by omega) hP e4 e5 (nt_M0 c v) es h100 (fun j hj => absurd hj (by omega)) (fun y => absurd y (by omega)) (fun z' ez => h 0 z' e0.symm ez _)
  · have e0 : nt_nd v ycp C = C := if_neg z
    have hr : ∀ j, j < C → ef_f 64 (nt_cs c (nt_N c v) (cv_b c)) brv 0 C j = nt_cs c (nt_N c v) (cv_b c) j := fun j hj => by
      have := ef_at 64 (nt_cs c (nt_N c v) (cv_b c)) brv 0 C (by omega) j hj
      rw [Nat.zero_add] at this
      exact this
    have htop : 0 < C → (ef_f 64 (nt_cs c (nt_N c v) (cv_b c)) brv 0 C (C - 1) = 48 ↔ v = 0) := by
      intro hC0
      rw [hr (C - 1) (by omega)]
      have hm : nt_N c v / cv_b c ^ (C - 1) % cv_b c < cv_b c := Nat.mod_lt _ (by omega)
      show nt_dc c (nt_N c v / cv_b c ^ (C - 1) % cv_b c) = 48 ↔ v = 0
      rw [nt_48 (by omega), ← nt_N0 c v]
      constructor
      · intro y
        by_cases w : nt_N c v = 0
        · exact w
        · exact absurd y (dt_top hb2.1 hC w)
      · intro y
        rw [y, Nat.zero_div, Nat.zero_mod]
    have k := ym_331 (post := post) (x6 := nt_M c v) hb2 hN hC hC2 (fun y => z ⟨(nt_M0 c v).mp y.1, y.2⟩) (ym_468 (N := nt_N c v) hn hW hc hb hC2 hP e4 e5 (nt_M0 c v) es h100 hr htop (fun z' ez => h C z' e0.symm ez _)) (C - 1) 0 (by have := hC.1; omega)
    rw [Nat.pow_zero, Nat.div_one, ← nt_NM c v] at k
    exact ⟨_, k⟩
end
