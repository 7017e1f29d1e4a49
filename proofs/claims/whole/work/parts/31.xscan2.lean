/-! the class: one conversion of scan -/
section
variable {cap xfl xol xil xrm xsp xco xec xat xlt xcu xwu xpu xvu xdc xsu xpo xdl xtl xbu : Int32} {xsv : Int64} {af ao ai ak als ale afl awd apr aws aps avs ali adr atx adg : Nat → Int32} {aa ar : Nat → Int64}
theorem xm_sgn {post : Int32 → SX → Prop} {N p B : Nat} (hN : N ≤ 256) (hp : p ≤ N) (hB : 1 ≤ B ∧ B ≤ 1000) (h1 : p < N → (ai p = 43 ∨ ai p = 45) → post (if ai p = 45 then 1 else 0) (cap, xfl, xol, nI N, xrm, nI (p + 1), xco, xec, xat, xlt, xcu, xwu, xpu, xvu, xdc, xsu, xpo, xdl, xtl, nI (B - 1), xsv, af, aa, ao, ai, ar, ak, als, ale, afl, awd, apr, aws, aps, avs, ali, adr, atx, adg))
    (h0 : ¬ (p < N ∧ (ai p = 43 ∨ ai p = 45)) → post 0 (cap, xfl, xol, nI N, xrm, nI p, xco, xec, xat, xlt, xcu, xwu, xpu, xvu, xdc, xsu, xpo, xdl, xtl, nI B, xsv, af, aa, ao, ai, ar, ak, als, ale, afl, awd, apr, aws, aps, avs, ali, adr, atx, adg)) : wpX_takeSign post (cap, xfl, xol, nI N, xrm, nI p, xco, xec, xat, xlt, xcu, xwu, xpu, xvu, xdc, xsu, xpo, xdl, xtl, nI B, xsv, af, aa, ao, ai, ar, ak, als, ale, afl, awd, apr, aws, aps, avs, ali, adr, atx, adg) := by
  refine pk_le N p (fun a => h0 (fun z => by omega)) (fun a => ?_)
  have e : (nI p).toNatClampNeg = p := nI_clamp (by omega)
  have vi : vp_in (nI p) 256 := vp_in_nI (by omega) (by omega)
  have k41 : (ai p = 43 ∨ ai p = 45) → wX_takeSign_41 post cap xfl xol (nI N) xrm (nI p) xco xec xat xlt xcu xwu xpu xvu xdc xsu xpo xdl xtl (nI B) xsv af aa ao ai ar ak als ale afl awd apr aws aps avs ali adr atx adg := by
    intro z
    have h1 := h1 a z
    refine ⟨vi, wk_if (d := ai p = 45) (by rw [e]) (fun y => ?_) (fun y => ?_)⟩
    · rw [if_pos y] at h1
      exact nm_r (nI_1 p) (nm_r (e' := nI (B - 1)) (pk_sub (b := 1) hB.1) ⟨rfl, h1⟩)
    · rw [if_neg y] at h1
      exact nm_r (nI_1 p) (nm_r (e' := nI (B - 1)) (pk_sub (b := 1) hB.1) ⟨rfl, h1⟩)
  refine ⟨vi, wk_if (d := ai p = 43) (by rw [e]) (fun y => k41 (Or.inl y)) (fun y => ⟨vi, wk_if (d := ai p = 45) (by rw [e]) (fun z => k41 (Or.inr z)) (fun z => h0 (fun w => w.2.elim y z))⟩)⟩
theorem xm_hxp {post : SX → Prop} {N p B : Nat} (hN : N ≤ 256) (hp : p ≤ N) (hB : B ≤ 1000)
    (h1 : (3 ≤ B ∧ p + 2 < N ∧ ai p = 48 ∧ (ai (p + 1) = 120 ∨ ai (p + 1) = 88) ∧ dv_v (ai (p + 2)) < 16) → post (cap, xfl, xol, nI N, xrm, nI (p + 2), xco, xec, xat, xlt, xcu, xwu, xpu, xvu, xdc, xsu, xpo, xdl, xtl, nI (B - 2), xsv, af, aa, ao, ai, ar, ak, als, ale, afl, awd, apr, aws, aps, avs, ali, adr, atx, adg))
    (h0 : ¬ (3 ≤ B ∧ p + 2 < N ∧ ai p = 48 ∧ (ai (p + 1) = 120 ∨ ai (p + 1) = 88) ∧ dv_v (ai (p + 2)) < 16) → post (cap, xfl, xol, nI N, xrm, nI p, xco, xec, xat, xlt, xcu, xwu, xpu, xvu, xdc, xsu, xpo, xdl, xtl, nI B, xsv, af, aa, ao, ai, ar, ak, als, ale, afl, awd, apr, aws, aps, avs, ali, adr, atx, adg)) : wpX_takeHexPrefix post (cap, xfl, xol, nI N, xrm, nI p, xco, xec, xat, xlt, xcu, xwu, xpu, xvu, xdc, xsu, xpo, xdl, xtl, nI B, xsv, af, aa, ao, ai, ar, ak, als, ale, afl, awd, apr, aws, aps, avs, ali, adr, atx, adg) := by
  have e1 : nI p + 1 = nI (p + 1) := nI_1 p
  have e2 : nI p + 2 = nI (p + 2) := nI_add p 2
  refine pk_lt B 3 (fun a => h0 (fun z => by omega)) (fun a => pk_le N (p + 2) (fun b => h0 (fun z => by omega)) (fun b => ?_) rfl e2)
  have v0 : vp_in (nI p) 256 := vp_in_nI (by omega) (by omega)
  have v1 : vp_in (nI p + 1) 256 := by rw [e1]; exact vp_in_nI (by omega) (by omega)
  have v2 : vp_in (nI p + 2) 256 := by rw [e2]; exact vp_in_nI (by omega) (by omega)
  refine ⟨v0, wk_if (d := ai p = 48) (by rw [nI_clamp (by omega)]) (fun c => ⟨v1, nm_r (e' := ai (p + 1)) (by rw [e1, nI_clamp (by omega)]) ?_⟩) (fun c => h0 (fun z => c z.2.2.1))⟩
  have k60 : (ai (p + 1) = 120 ∨ ai (p + 1) = 88) → wX_takeHexPrefix_60 post cap xfl xol (nI N) xrm (nI p) xco xec xat xlt xcu xwu xpu xvu xdc xsu xpo xdl xtl (nI B) xsv af aa ao ai ar ak als ale afl awd apr aws aps avs ali adr atx adg := by
    intro y
    have hd := dv_b (ai (p + 2))
    refine ⟨v2, xm_dv (ai (p + 2)) (by rw [e2, nI_clamp (by omega)]) (pk_le 16 (dv_v (ai (p + 2))) (fun w => h0 (fun z => by have := z.2.2.2.2; omega)) (fun w => nm_r e2 (nm_r (e' := nI (B - 2)) (pk_sub (b := 2) (by omega)) (h1 ⟨a, b, c, y, w⟩))))⟩
  refine ⟨fun y => k60 (Or.inl y), fun y1 => ⟨fun y => k60 (Or.inr y), fun y2 => h0 (fun z => z.2.2.2.1.elim y1 y2)⟩⟩
variable {L e p q s t : Nat}
theorem xm_sn {post : Int32 → SX → Prop} {N r : Nat} (he : e < 64) (hd : tb_dir af L ak afl awd apr aws aps avs e p q s t) (gw : ev_gw af L aa p s) (hN : N ≤ 256) (hr : r ≤ N) (c1 : ¬ dr_c af L p = 99) (c2 : ¬ dr_c af L p = 115)
    (h1 : sc_ok (dr_c af L p) (ev_W af L aa p s) ai N r → ∀ xbu, post 1 (cap, xfl, xol, nI N, xrm, nI (sc_E (dr_c af L p) (ev_W af L aa p s) ai N r), xco, xec, xat, xlt, xcu, xwu, xpu, xvu, xdc, xsu, xpo, xdl, xtl, xbu, sc_V (dr_c af L p) (dr_g af L p) (ev_W af L aa p s) ai N r, af, aa, ao, ai, ar, ak, als, ale, afl, awd, apr, aws, aps, avs, ali, adr, atx, adg))
    (h0 : ¬ sc_ok (dr_c af L p) (ev_W af L aa p s) ai N r → ∀ (xsp xbu : Int32) (xsv : Int64), post 0 (cap, xfl, xol, nI N, xrm, xsp, xco, xec, xat, xlt, xcu, xwu, xpu, xvu, xdc, xsu, xpo, xdl, xtl, xbu, xsv, af, aa, ao, ai, ar, ak, als, ale, afl, awd, apr, aws, aps, avs, ali, adr, atx, adg)) : wpX_scanNumber post (cap, xfl, xol, nI N, xrm, nI r, xco, xec, xat, xlt, xcu, xwu, xpu, xvu, xdc, xsu, xpo, xdl, xtl, xbu, xsv, af, aa, ao, ai, ar, ak, als, ale, afl, awd, apr, aws, aps, avs, ali, adr, atx, adg) (nI e) := by
  have hW := ev_Wb hd.2.1 gw
  have hs := sc_1b ai hr
  have hok : cv_t (dr_c af L p) ∨ ¬ cv_b (dr_c af L p) = 0 := (pc_ok (dr_ok hd.2.1).2.2.2).2.1
  have hb : ¬ cv_b (dr_c af L p) = 0 := hok.elim (fun z => absurd z (fun y => y.elim c1 c2)) id
  have hb16 : cv_b (dr_c af L p) ≤ 16 := by rcases cv_b16 (dr_c af L p) with e | e | e | e <;> omega
  have hB : 1 ≤ sc_B (ev_W af L aa p s) ∧ sc_B (ev_W af L aa p s) ≤ 1000 := by
    unfold sc_B
    by_cases w : 1 ≤ ev_W af L aa p s
    · rw [if_pos w]; omega
    · rw [if_neg w]; omega
  unfold sc_ok sc_E sc_V at h1
  unfold sc_ok at h0
  rw [if_neg c1, if_neg c2, if_neg c1, if_neg c2, if_neg c1, if_neg c2] at h1
  rw [if_neg c1, if_neg c2] at h0
  -- the digits and the value
  have k68 : ∀ (kk : Nat) (ng : Int32), sc_k (dr_c af L p) (ev_W af L aa p s) ai N (sc_1 ai N r) = kk → (ng = 0 ↔ ¬ (sc_sg (dr_c af L p) ai N (sc_1 ai N r) ∧ ai (sc_1 ai N r) = 45)) → wX_scanNumber_68 post (nI e) (nI (cv_b (dr_c af L p))) ng cap xfl xol (nI N) xrm (nI (sc_1 ai N r + kk)) xco xec xat xlt xcu xwu xpu xvu xdc xsu xpo xdl xtl (nI (sc_B (ev_W af L aa p s) - kk)) xsv af aa ao ai ar ak als ale afl awd apr aws aps avs ali adr atx adg := by
    intro kk ng ek ing
    have hk := sc_kb (dr_c af L p) (ev_W af L aa p s) ai hs.2
    unfold sc_v sc_e sc_w at h1
    unfold sc_e at h0
    rw [ek] at h1 h0 hk
    unfold wX_scanNumber_68
    refine xm_td hN (by omega) (by omega) hb16 (fun z xbu => br_f (by decide) ?_) (fun z xsp xbu xsv => br_t rfl (h0 z _ _ _))
    have h1 := h1 z xbu
    by_cases n0 : sc_sg (dr_c af L p) ai N (sc_1 ai N r) ∧ ai (sc_1 ai N r) = 45
    · rw [if_pos n0] at h1
      refine br_f (fun y => ing.mp y n0) (nm_e ?_)
      unfold wX_scanNumber_93
      exact xm_fi he hd h1
    · rw [if_neg n0] at h1
      refine br_t (ing.mpr n0) ?_
      unfold wX_scanNumber_93
      exact xm_fi he hd h1
  have k23 : wX_scanNumber_23 post (nI e) (nI (sc_B (ev_W af L aa p s))) cap xfl xol (nI N) xrm (nI (sc_1 ai N r)) xco xec xat xlt xcu xwu xpu xvu xdc xsu xpo xdl xtl xbu xsv af aa ao ai ar ak als ale afl awd apr aws aps avs ali adr atx adg := by
    unfold wX_scanNumber_23
    refine xm_co he hd (xm_bo ?_)
    by_cases c3 : dr_c af L p = 100
    · have nx : ¬ sc_hx (dr_c af L p) (ev_W af L aa p s) ai N (sc_1 ai N r) := fun z => by
        have := z.1
        rw [c3] at this
        exact absurd this (by decide)
      refine br_t c3 (xm_sgn hN hs.2 hB (fun a b => ?_) (fun a => ?_))
      · have g : sc_sg (dr_c af L p) ai N (sc_1 ai N r) := ⟨c3, a, b⟩
        refine k68 1 _ (by unfold sc_k; rw [if_pos g]) ?_
        by_cases m : ai (sc_1 ai N r) = 45
        · rw [if_pos m]; exact ⟨fun z => absurd z (by decide), fun z => absurd ⟨g, m⟩ z⟩
        · rw [if_neg m]; exact ⟨fun _ z => m z.2, fun _ => rfl⟩
      · have g : ¬ sc_sg (dr_c af L p) ai N (sc_1 ai N r) := fun z => a ⟨z.2.1, z.2.2⟩
        exact k68 0 0 (by unfold sc_k; rw [if_neg g, if_neg nx]) ⟨fun _ z => g z.1, fun _ => rfl⟩
    · have g : ¬ sc_sg (dr_c af L p) ai N (sc_1 ai N r) := fun z => c3 z.1
      refine br_f c3 (pk_eq (cv_b (dr_c af L p)) 16 (fun a => xm_hxp hN hs.2 hB.2 (fun y => ?_) (fun y => ?_)) (fun a => ?_))
      · have x : sc_hx (dr_c af L p) (ev_W af L aa p s) ai N (sc_1 ai N r) := ⟨a, y⟩
        exact k68 2 0 (by unfold sc_k; rw [if_neg g, if_pos x]) ⟨fun _ z => g z.1, fun _ => rfl⟩
      · have x : ¬ sc_hx (dr_c af L p) (ev_W af L aa p s) ai N (sc_1 ai N r) := fun z => y z.2
        exact k68 0 0 (by unfold sc_k; rw [if_neg g, if_neg x]) ⟨fun _ z => g z.1, fun _ => rfl⟩
      · have x : ¬ sc_hx (dr_c af L p) (ev_W af L aa p s) ai N (sc_1 ai N r) := fun z => a z.1
        exact k68 0 0 (by unfold sc_k; rw [if_neg g, if_neg x]) ⟨fun _ z => g z.1, fun _ => rfl⟩
  unfold wpX_scanNumber
  refine xm_sw hN hr (xm_wo he hd gw (pk_lt (ev_W af L aa p s) 1 (fun a => ?_) (fun a => ?_)))
  · have eB : sc_B (ev_W af L aa p s) = 1000 := if_neg (by omega)
    rw [eB] at k23
    exact k23
  · have eB : sc_B (ev_W af L aa p s) = ev_W af L aa p s := if_pos a
    rw [eB] at k23
    exact k23
theorem xm_sp {post : Int32 → SX → Prop} {N r : Nat} (he : e < 64) (hd : tb_dir af L ak afl awd apr aws aps avs e p q s t) (gw : ev_gw af L aa p s) (hN : N ≤ 256) (hr : r ≤ N) (c2 : dr_c af L p = 115)
    (h1 : sc_ok (dr_c af L p) (ev_W af L aa p s) ai N r → post 1 (cap, xfl, xol, nI N, xrm, nI (sc_E (dr_c af L p) (ev_W af L aa p s) ai N r), xco, xec, xat, xlt, xcu, xwu, xpu, xvu, xdc, xsu, xpo, xdl, xtl, xbu, sc_V (dr_c af L p) (dr_g af L p) (ev_W af L aa p s) ai N r, af, aa, ao, ai, ar, ak, als, ale, afl, awd, apr, aws, aps, avs, ali, adr, atx, adg))
    (h0 : ¬ sc_ok (dr_c af L p) (ev_W af L aa p s) ai N r → ∀ (xsp : Int32) (xsv : Int64), post 0 (cap, xfl, xol, nI N, xrm, xsp, xco, xec, xat, xlt, xcu, xwu, xpu, xvu, xdc, xsu, xpo, xdl, xtl, xbu, xsv, af, aa, ao, ai, ar, ak, als, ale, afl, awd, apr, aws, aps, avs, ali, adr, atx, adg)) : wpX_scanPackedText post (cap, xfl, xol, nI N, xrm, nI r, xco, xec, xat, xlt, xcu, xwu, xpu, xvu, xdc, xsu, xpo, xdl, xtl, xbu, xsv, af, aa, ao, ai, ar, ak, als, ale, afl, awd, apr, aws, aps, avs, ali, adr, atx, adg) (nI e) := by
  have hW := ev_Wb hd.2.1 gw
  have hs := sc_1b ai hr
  have c1 : ¬ dr_c af L p = 99 := by rw [c2]; decide
  have hS : 1 ≤ sc_S (ev_W af L aa p s) ∧ sc_S (ev_W af L aa p s) ≤ 8 := by
    unfold sc_S
    by_cases w : 1 ≤ ev_W af L aa p s ∧ ev_W af L aa p s ≤ 8
    · rw [if_pos w]; exact w
    · rw [if_neg w]; omega
  unfold sc_ok sc_E sc_V at h1
  unfold sc_ok at h0
  rw [if_neg c1, if_pos c2, if_neg c1, if_pos c2, if_neg c1, if_pos c2] at h1
  rw [if_neg c1, if_pos c2] at h0
  have hb := st_Eb ai (N - sc_1 ai N r) (sc_S (ev_W af L aa p s)) (sc_1 ai N r)
  have k36 : ∃ f, wX_scanPackedText_36 post (nI (sc_S (ev_W af L aa p s))) cap xfl xol (nI N) xrm xco xec xat xlt xcu xwu xpu xvu xdc xsu xpo xdl xtl xbu af aa ao ai ar ak als ale afl awd apr aws aps avs ali adr atx adg f 0 (nI (sc_1 ai N r)) 0 := by
    refine ⟨N - sc_1 ai N r + 1, xm_s36 hN hS.2 (N - sc_1 ai N r + 1) 0 (sc_1 ai N r) 0 hs.2 (by omega) (by omega) ?_⟩
    rw [Nat.sub_zero, Nat.zero_add]
    refine pk_le (st_E ai (N - sc_1 ai N r) (sc_S (ev_W af L aa p s)) (sc_1 ai N r) - sc_1 ai N r) 0 (fun a => h0 (by omega) _ _) (fun a => h1 (by omega))
  unfold wpX_scanPackedText
  refine xm_sw hN hr (xm_wo he hd gw (pk_lt (ev_W af L aa p s) 1 (fun a => ?_) (fun a => pk_lt 8 (ev_W af L aa p s) (fun b => ?_) (fun b => ?_))))
  · have eS : sc_S (ev_W af L aa p s) = 8 := if_neg (fun z => by omega)
    rw [eS] at k36
    exact k36
  · have eS : sc_S (ev_W af L aa p s) = 8 := if_neg (fun z => by omega)
    rw [eS] at k36
    exact k36
  · have eS : sc_S (ev_W af L aa p s) = ev_W af L aa p s := if_pos ⟨a, b⟩
    rw [eS] at k36
    exact k36
theorem xm_scv {post : Int32 → SX → Prop} {N r j : Nat} (he : e < 64) (hd : tb_dir af L ak afl awd apr aws aps avs e p q s t) (gw : ev_gw af L aa p s) (hN : N ≤ 256) (hr : r ≤ N) (hj : j < 8) (ej : ev_V af L p s = nI j)
    (h1 : sc_ok (dr_c af L p) (ev_W af L aa p s) ai N r → ∀ (xbu : Int32) (xsv : Int64), post 1 (cap, xfl, xol, nI N, xrm ||| ((1 : Int32) <<< (nI j &&& 31)), nI (sc_E (dr_c af L p) (ev_W af L aa p s) ai N r), xco, xec, xat, xlt, xcu, xwu, xpu, xvu, xdc, xsu, xpo, xdl, xtl, xbu, xsv, af, aa, ao, ai, vp_updL ar j (sc_V (dr_c af L p) (dr_g af L p) (ev_W af L aa p s) ai N r), ak, als, ale, afl, awd, apr, aws, aps, avs, ali, adr, atx, adg))
    (h0 : ¬ sc_ok (dr_c af L p) (ev_W af L aa p s) ai N r → ∀ (xbu : Int32) (xsv : Int64), post 0 (cap, xfl, xol, nI N, xrm, nI r, xco, xec, xat, xlt, xcu, xwu, xpu, xvu, xdc, xsu, xpo, xdl, xtl, xbu, xsv, af, aa, ao, ai, ar, ak, als, ale, afl, awd, apr, aws, aps, avs, ali, adr, atx, adg)) : wpX_scanConversion post (cap, xfl, xol, nI N, xrm, nI r, xco, xec, xat, xlt, xcu, xwu, xpu, xvu, xdc, xsu, xpo, xdl, xtl, xbu, xsv, af, aa, ao, ai, ar, ak, als, ale, afl, awd, apr, aws, aps, avs, ali, adr, atx, adg) (nI e) := by
  have ee : (nI e).toNatClampNeg = e := nI_clamp (by omega)
  have ve : vp_in (nI e) 64 := vp_in_nI (by omega) (by omega)
  have ev : avs e = nI j := (hd.2.2.2.2.2.2.2.2.2.1).trans ej
  have y : sc_ok (dr_c af L p) (ev_W af L aa p s) ai N r → ∀ xbu : Int32, wX_scanConversion_48 post (nI e) (nI r) 1 cap xfl xol (nI N) xrm (nI (sc_E (dr_c af L p) (ev_W af L aa p s) ai N r)) xco xec xat xlt xcu xwu xpu xvu xdc xsu xpo xdl xtl xbu (sc_V (dr_c af L p) (dr_g af L p) (ev_W af L aa p s) ai N r) af aa ao ai ar ak als ale afl awd apr aws aps avs ali adr atx adg := by
    intro z xbu
    refine br_f (by decide) ⟨ve, ?_⟩
    rw [ee, ev]
    exact br_f (nI_pos (by omega)) (br_f (nI_ge (b := 8) hj (by decide)) ⟨vp_in_nI hj (by decide), nm_r (e' := vp_updL ar j (sc_V (dr_c af L p) (dr_g af L p) (ev_W af L aa p s) ai N r)) (by rw [nI_clamp (by omega)]) (nm_e (h1 z _ _))⟩)
  have n : ¬ sc_ok (dr_c af L p) (ev_W af L aa p s) ai N r → ∀ (xsp xbu : Int32) (xsv : Int64), wX_scanConversion_48 post (nI e) (nI r) 0 cap xfl xol (nI N) xrm xsp xco xec xat xlt xcu xwu xpu xvu xdc xsu xpo xdl xtl xbu xsv af aa ao ai ar ak als ale afl awd apr aws aps avs ali adr atx adg := fun z xsp xbu xsv => br_t rfl (h0 z _ _)
  unfold wpX_scanConversion
  refine xm_co he hd ?_
  by_cases c1 : dr_c af L p = 99
  · have e1 : sc_ok (dr_c af L p) (ev_W af L aa p s) ai N r ↔ r < N := by unfold sc_ok; rw [if_pos c1]
    have e2 : sc_E (dr_c af L p) (ev_W af L aa p s) ai N r = r + 1 := if_pos c1
    have e3 : sc_V (dr_c af L p) (dr_g af L p) (ev_W af L aa p s) ai N r = (ai r).toInt64 := if_pos c1
    refine br_t c1 (pk_lt r N (fun a => ⟨vp_in_nI (by omega) (by omega), nm_r (e' := (ai r).toInt64) (by rw [nI_clamp (by omega)]) (nm_r (nI_1 r) ?_)⟩) (fun a => n (fun z => by have := e1.mp z; omega) _ _ _))
    have := y (e1.mpr a) xbu
    rw [e2, e3] at this
    exact this
  refine br_f c1 (xm_co he hd ?_)
  by_cases c2 : dr_c af L p = 115
  · exact br_t c2 (xm_sp he hd gw hN hr c2 (fun z => y z _) (fun z _ _ => n z _ _ _))
  · exact br_f c2 (xm_sn he hd gw hN hr c1 c2 (fun z xbu => y z xbu) (fun z _ _ _ => n z _ _ _))
end
