/-! the class: numbers, and the whole conversion -/
section
variable {cap xfl xol xil xrm xsp xco xec xat xlt xcu xwu xpu xvu xdc xsu xpo xdl xtl xbu : Int32} {xsv : Int64} {af ao ai ak als ale afl awd apr aws aps avs ali adr atx adg : Nat → Int32} {aa ar : Nat → Int64}
variable {L e p q s t : Nat}
theorem ef_1 (M : Nat) (c D : Nat → Int32) : ef_f M c D 0 1 = ef_x M D 0 (c 0) := rfl
theorem ef_2 (M : Nat) (c D : Nat → Int32) : ef_f M c D 0 2 = ef_x M (ef_x M D 0 (c 0)) 1 (c 1) := rfl
theorem xm_wp {post : SX → Prop} {v : Int64} (he : e < 64) (hd : tb_dir af L ak afl awd apr aws aps avs e p q s t)
    (h : post (cap, xfl, xol, xil, xrm, xsp, xco, xec, xat, xlt, xcu, xwu, xpu, xvu, xdc, xsu, xpo, xdl, nI (nt_pl (dr_c af L p) (dr_m af L p) v), xbu, xsv, af, aa, ao, ai, ar, ak, als, ale, afl, awd, apr, aws, aps, avs, ali, adr, ef_f 128 (nt_pre (dr_c af L p) (dr_m af L p) v) atx 0 (nt_pl (dr_c af L p) (dr_m af L p) v), adg)) : wpX_writePrefix post (cap, xfl, xol, xil, xrm, xsp, xco, xec, xat, xlt, xcu, xwu, xpu, xvu, xdc, xsu, xpo, xdl, 0, xbu, xsv, af, aa, ao, ai, ar, ak, als, ale, afl, awd, apr, aws, aps, avs, ali, adr, atx, adg) (nI e) v := by
  have hm := fl_b _ (dr_mb af L p)
  have hm2 := fl_b2 _ (dr_mb af L p)
  have hc := cv_255 (tb_cc hd) (tb_gz af L p)
  have wc : ∀ {post : SX → Prop} {c : Int32}, ar_ch c → post (cap, xfl, xol, xil, xrm, xsp, xco, xec, xat, xlt, xcu, xwu, xpu, xvu, xdc, xsu, xpo, xdl, nI 1, xbu, xsv, af, aa, ao, ai, ar, ak, als, ale, afl, awd, apr, aws, aps, avs, ali, adr, ef_x 128 atx 0 c, adg) → wpX_writeChar post (cap, xfl, xol, xil, xrm, xsp, xco, xec, xat, xlt, xcu, xwu, xpu, xvu, xdc, xsu, xpo, xdl, 0, xbu, xsv, af, aa, ao, ai, ar, ak, als, ale, afl, awd, apr, aws, aps, avs, ali, adr, atx, adg) c := fun a b => xm_wc (t := 0) (by omega) a b
  unfold wpX_writePrefix
  refine xm_co he hd ?_
  by_cases c : dr_c af L p = 100
  · have hx : ¬ nt_hx (dr_c af L p) (dr_m af L p) v := fun z => by
      have := z.1
      rw [c] at this
      exact absurd this (by decide)
    have sg : ∀ x : Int32, nt_sg (dr_c af L p) (dr_m af L p) v = x → ¬ x = 0 → nt_pl (dr_c af L p) (dr_m af L p) v = 1 ∧ nt_pre (dr_c af L p) (dr_m af L p) v 0 = x := by
      intro x ex hx0
      unfold nt_pl nt_pre
      rw [if_neg hx, if_neg hx, if_neg (by rw [ex]; exact hx0)]
      exact ⟨rfl, ex⟩
    refine br_t c ?_
    by_cases n : v < 0
    · have es : nt_sg (dr_c af L p) (dr_m af L p) v = 45 := by unfold nt_sg; rw [if_pos c, if_pos n]
      obtain ⟨a1, a2⟩ := sg 45 es (by decide)
      rw [a1, ef_1, a2] at h
      exact br_f (Int64.not_le.mpr n) (wc ⟨45, by decide, rfl⟩ h)
    · refine br_t (Int64.not_lt.mp n) (xm_hf (b := dr_m af L p / 2 % 2) he hd hm.2.1 (fun z => br_t rfl (xm_hf (b := dr_m af L p / 4 % 2) he hd hm.2.2 (fun y => br_t rfl ?_) (fun y => br_f (by decide) ?_))) (fun z => br_f (by decide) ?_))
      · have es : nt_sg (dr_c af L p) (dr_m af L p) v = 0 := by unfold nt_sg; rw [if_pos c, if_neg n, if_neg (by omega), if_neg (by omega)]
        have a1 : nt_pl (dr_c af L p) (dr_m af L p) v = 0 := by unfold nt_pl; rw [if_neg hx, if_pos es]
        rw [a1] at h
        exact h
      · have es : nt_sg (dr_c af L p) (dr_m af L p) v = 32 := by unfold nt_sg; rw [if_pos c, if_neg n, if_neg (by omega), if_pos (by omega)]
        obtain ⟨a1, a2⟩ := sg 32 es (by decide)
        rw [a1, ef_1, a2] at h
        exact wc ⟨32, by decide, rfl⟩ h
      · have es : nt_sg (dr_c af L p) (dr_m af L p) v = 43 := by unfold nt_sg; rw [if_pos c, if_neg n, if_pos (by omega)]
        obtain ⟨a1, a2⟩ := sg 43 es (by decide)
        rw [a1, ef_1, a2] at h
        exact wc ⟨43, by decide, rfl⟩ h
  · have es : nt_sg (dr_c af L p) (dr_m af L p) v = 0 := by unfold nt_sg; rw [if_neg c]
    have no : ¬ nt_hx (dr_c af L p) (dr_m af L p) v → post (cap, xfl, xol, xil, xrm, xsp, xco, xec, xat, xlt, xcu, xwu, xpu, xvu, xdc, xsu, xpo, xdl, 0, xbu, xsv, af, aa, ao, ai, ar, ak, als, ale, afl, awd, apr, aws, aps, avs, ali, adr, atx, adg) := fun hx => by
      have a1 : nt_pl (dr_c af L p) (dr_m af L p) v = 0 := by unfold nt_pl; rw [if_neg hx, if_pos es]
      rw [a1] at h
      exact h
    have hbb : cv_b (dr_c af L p) < 2 ^ 31 := by rcases cv_b16 (dr_c af L p) with e | e | e | e <;> omega
    refine br_f c (xm_bo (pk_eq (cv_b (dr_c af L p)) 16 (fun b => xm_hf (b := dr_m af L p / 16 % 2) he hd hm2.2 (fun z => br_t rfl (no (fun y => by have := y.2.1; omega))) (fun z => br_f (by decide) ?_)) (fun b => no (fun y => b y.1))))
    by_cases v0 : v = 0
    · exact br_t v0 (no (fun y => y.2.2 v0))
    · have hx : nt_hx (dr_c af L p) (dr_m af L p) v := ⟨b, by omega, v0⟩
      have a1 : nt_pl (dr_c af L p) (dr_m af L p) v = 2 := if_pos hx
      have a2 : nt_pre (dr_c af L p) (dr_m af L p) v 0 = 48 := by unfold nt_pre; rw [if_pos hx, if_pos rfl]
      have a3 : nt_pre (dr_c af L p) (dr_m af L p) v 1 = dr_c af L p := by unfold nt_pre; rw [if_pos hx, if_neg (by omega)]
      rw [a1, ef_2, a2, a3] at h
      refine br_f v0 (wc ⟨48, by decide, rfl⟩ ?_)
      rw [ar_castI hc.2.2]
      exact xm_wc (t := 1) (by omega) hc.2.2 h
theorem xm_wd {post : SX → Prop} {N nd tl : Nat} (he : e < 64) (hd : tb_dir af L ak afl awd apr aws aps avs e p q s t) (hb : ¬ cv_b (dr_c af L p) = 0) (hn : nd ≤ 22) (ht : tl + nd ≤ 128) (hg : ∀ i, i < nd → adg i = nI (N / cv_b (dr_c af L p) ^ i % cv_b (dr_c af L p)))
    (h : post (cap, xfl, xol, xil, xrm, xsp, xco, xec, xat, xlt, xcu, xwu, xpu, xvu, xdc, xsu, xpo, xdl, nI (tl + nd), xbu, xsv, af, aa, ao, ai, ar, ak, als, ale, afl, awd, apr, aws, aps, avs, ali, adr, ef_f 128 (nt_dg (dr_c af L p) N nd) atx tl nd, adg)) : wpX_writeDigits post (cap, xfl, xol, xil, xrm, xsp, xco, xec, xat, xlt, xcu, xwu, xpu, xvu, xdc, xsu, xpo, xdl, nI tl, xbu, xsv, af, aa, ao, ai, ar, ak, als, ale, afl, awd, apr, aws, aps, avs, ali, adr, atx, adg) (nI e) (nI nd) := by
  have lo : ∀ x3 : Int32, x3 = (if dr_c af L p = 88 then 65 else 97) → ∀ k j, k + j = nd → wX_writeDigits_23 post x3 (k + 1) (nI k - 1) cap xfl xol xil xrm xsp xco xec xat xlt xcu xwu xpu xvu xdc xsu xpo xdl (nI (tl + j)) xbu xsv af aa ao ai ar ak als ale afl awd apr aws aps avs ali adr (ef_f 128 (nt_dg (dr_c af L p) N nd) atx tl j) adg := by
    intro x3 ex k
    induction k with
    | zero =>
      intro j hj
      have e1 : j = nd := by omega
      subst e1
      exact br_t (by decide) h
    | succ k ih =>
      intro j hj
      have em : nI (k + 1) - 1 = nI k := nI_pred k
      have en : nI k + -1 = nI k - 1 := (Int32.sub_eq_add_neg _ _).symm
      have hdg : N / cv_b (dr_c af L p) ^ k % cv_b (dr_c af L p) < 16 := by
        have h : N / cv_b (dr_c af L p) ^ k % cv_b (dr_c af L p) < cv_b (dr_c af L p) := Nat.mod_lt _ (by omega)
        rcases cv_b16 (dr_c af L p) with e | e | e | e <;> omega
      have ec : nt_dg (dr_c af L p) N nd j = nt_dc (dr_c af L p) (N / cv_b (dr_c af L p) ^ k % cv_b (dr_c af L p)) := by
        unfold nt_dg
        rw [show nd - 1 - j = k by omega]
      have next := ih (j + 1) (by omega)
      have ef : ef_f 128 (nt_dg (dr_c af L p) N nd) atx tl (j + 1) = ef_x 128 (ef_f 128 (nt_dg (dr_c af L p) N nd) atx tl j) (tl + j) (nt_dc (dr_c af L p) (N / cv_b (dr_c af L p) ^ k % cv_b (dr_c af L p))) := by
        rw [← ec]; rfl
      rw [ef] at next
      rw [em]
      refine br_f (nI_pos (by omega)) ⟨vp_in_nI (by omega) (by omega), nm_r (e' := nI (N / cv_b (dr_c af L p) ^ k % cv_b (dr_c af L p))) (by rw [nI_clamp (by omega)]; exact hg k (by omega)) ?_⟩
      generalize hD : N / cv_b (dr_c af L p) ^ k % cv_b (dr_c af L p) = D at *
      have hch := nt_dch (dr_c af L p) hdg
      refine pk_le 10 D (fun a => ?_) (fun a => ?_)
      · have e2 : (((x3 + nI D) - 10).toUInt32 % 65536).toInt32 = nt_dc (dr_c af L p) D := by
          unfold nt_dc
          rw [if_neg (by omega), ex]
          by_cases c : dr_c af L p = 88
          · rw [if_pos c, if_pos c]; exact dc_uA D hdg a
          · rw [if_neg c, if_neg c]; exact dc_la D hdg a
        rw [e2]
        exact xm_wc (by omega) hch (nm_r en next)
      · have e2 : ((48 + nI D).toUInt32 % 65536).toInt32 = nt_dc (dr_c af L p) D := by
          unfold nt_dc
          rw [if_pos a]; exact dc_lo D a
        rw [e2]
        exact xm_wc (by omega) hch (nm_r en next)
  unfold wpX_writeDigits
  refine xm_co he hd ?_
  by_cases c : dr_c af L p = 88
  · exact br_t c (nm_e ⟨nd + 1, lo 65 (by rw [if_pos c]) nd 0 (by omega)⟩)
  · exact br_f c (nm_e ⟨nd + 1, lo 97 (by rw [if_neg c]) nd 0 (by omega)⟩)
/-- the zeros and the digits behind the prefix -/
theorem xm_120 {post : SX → Prop} {v : Int64} {P : Int32} {N z1 nd : Nat} (he : e < 64) (hd : tb_dir af L ak afl awd apr aws aps avs e p q s t) (gw : ev_gw af L aa p s) (hW : ev_W af L aa p s ≤ 99) (hb : ¬ cv_b (dr_c af L p) = 0) (hn : nd ≤ 22) (hz : z1 ≤ 99)
    (ht : nt_pl (dr_c af L p) (dr_m af L p) v + nt_z2 (dr_m af L p) (ev_L af L aa p s) P (ev_W af L aa p s) (nt_pl (dr_c af L p) (dr_m af L p) v) z1 nd + nd ≤ 128) (hg : ∀ i, i < nd → adg i = nI (N / cv_b (dr_c af L p) ^ i % cv_b (dr_c af L p)))
    (h : ∀ z, z = nt_z2 (dr_m af L p) (ev_L af L aa p s) P (ev_W af L aa p s) (nt_pl (dr_c af L p) (dr_m af L p) v) z1 nd → post (cap, xfl, xol, xil, xrm, xsp, xco, xec, xat, xlt, xcu, xwu, xpu, xvu, xdc, xsu, xpo, xdl, nI (nt_pl (dr_c af L p) (dr_m af L p) v + z + nd), xbu, xsv, af, aa, ao, ai, ar, ak, als, ale, afl, awd, apr, aws, aps, avs, ali, adr, ef_f 128 (nt_T (dr_c af L p) (dr_m af L p) v N z nd) atx 0 (nt_pl (dr_c af L p) (dr_m af L p) v + z + nd), adg)) : wX_writeNumber_120 post (nI e) v P (nI nd) (nI z1) cap xfl xol xil xrm xsp xco xec xat xlt xcu xwu xpu xvu xdc xsu xpo xdl 0 xbu xsv af aa ao ai ar ak als ale afl awd apr aws aps avs ali adr atx adg := by
  have hm2 := fl_b2 _ (dr_mb af L p)
  have h2 := nt_pl2 (dr_c af L p) (dr_m af L p) v
  have fin : ∀ z, z = nt_z2 (dr_m af L p) (ev_L af L aa p s) P (ev_W af L aa p s) (nt_pl (dr_c af L p) (dr_m af L p) v) z1 nd → wX_writeNumber_181 post (nI e) (nI nd) (nI z) cap xfl xol xil xrm xsp xco xec xat xlt xcu xwu xpu xvu xdc xsu xpo xdl (nI (nt_pl (dr_c af L p) (dr_m af L p) v)) xbu xsv af aa ao ai ar ak als ale afl awd apr aws aps avs ali adr (ef_f 128 (nt_pre (dr_c af L p) (dr_m af L p) v) atx 0 (nt_pl (dr_c af L p) (dr_m af L p) v)) adg := by
    intro z ez
    rw [← ez] at ht
    have h' := h z ez
    rw [nt_split, Nat.zero_add] at h'
    unfold wX_writeNumber_181
    exact xm_wz (by omega) (xm_wd he hd hb hn (by omega) hg h')
  unfold nt_z2 at fin
  unfold wX_writeNumber_120
  refine xm_wp he hd (xm_hf (b := dr_m af L p / 8 % 2) he hd hm2.1 (fun z => br_t rfl ?_) (fun z => br_f (by decide) (xm_il he hd ?_)))
  · exact fin z1 (by rw [if_neg (fun y => by have := y.1; omega)])
  · cases hl : ev_L af L aa p s with
    | true =>
      rw [hl] at fin
      exact br_f (by decide) (fin z1 (by rw [if_neg (fun y => y.2.1 rfl)]))
    | false =>
      rw [hl] at fin
      refine br_t rfl ?_
      by_cases hP : P = -1
      · refine br_t hP (xm_wo he hd gw ?_)
        have ex : nI (ev_W af L aa p s) - nI (nt_pl (dr_c af L p) (dr_m af L p) v) - nI z1 - nI nd = nI (ev_W af L aa p s) - nI (nt_pl (dr_c af L p) (dr_m af L p) v + z1 + nd) := by
          rw [sb_ss, sb_ss, nI_add, nI_add, Nat.add_assoc]
        rcases sb_k (W := ev_W af L aa p s) (t := nt_pl (dr_c af L p) (dr_m af L p) v + z1 + nd) (by omega) (by omega) with k | k
        · refine nm_r (ex.trans k) (pk_le (ev_W af L aa p s - (nt_pl (dr_c af L p) (dr_m af L p) v + z1 + nd)) 0 (fun a => ?_) (fun a => nm_r (nI_add _ _) ?_))
          · exact fin z1 (by rw [if_neg (fun y => by have := y.2.2.2; omega)])
          · refine fin _ ?_
            rw [if_pos ⟨by omega, by decide, hP, by omega⟩]
            omega
        · refine nm_r ex (br_t (Int32.le_of_lt k.1) ?_)
          exact fin z1 (by rw [if_neg (fun y => by have := y.2.2.2; omega)])
      · exact br_f hP (fin z1 (by rw [if_neg (fun y => hP y.2.2.1)]))
theorem xm_66 {post : SX → Prop} {v : Int64} {P : Int32} {N z0 nd : Nat} (he : e < 64) (hd : tb_dir af L ak afl awd apr aws aps avs e p q s t) (gw : ev_gw af L aa p s) (hW : ev_W af L aa p s ≤ 99) (hb : ¬ cv_b (dr_c af L p) = 0) (hn : nd ≤ 22) (hz : nt_z1 (dr_c af L p) (dr_m af L p) z0 v nd ≤ 99) (hz0 : z0 ≤ 99)
    (ht : nt_pl (dr_c af L p) (dr_m af L p) v + nt_z2 (dr_m af L p) (ev_L af L aa p s) P (ev_W af L aa p s) (nt_pl (dr_c af L p) (dr_m af L p) v) (nt_z1 (dr_c af L p) (dr_m af L p) z0 v nd) nd + nd ≤ 128) (hg : ∀ i, i < nd → adg i = nI (N / cv_b (dr_c af L p) ^ i % cv_b (dr_c af L p)))
    (h : ∀ z, z = nt_z2 (dr_m af L p) (ev_L af L aa p s) P (ev_W af L aa p s) (nt_pl (dr_c af L p) (dr_m af L p) v) (nt_z1 (dr_c af L p) (dr_m af L p) z0 v nd) nd → post (cap, xfl, xol, xil, xrm, xsp, xco, xec, xat, xlt, xcu, xwu, xpu, xvu, xdc, xsu, xpo, xdl, nI (nt_pl (dr_c af L p) (dr_m af L p) v + z + nd), xbu, xsv, af, aa, ao, ai, ar, ak, als, ale, afl, awd, apr, aws, aps, avs, ali, adr, ef_f 128 (nt_T (dr_c af L p) (dr_m af L p) v N z nd) atx 0 (nt_pl (dr_c af L p) (dr_m af L p) v + z + nd), adg)) : wX_writeNumber_66 post (nI e) v P (nI nd) (nI z0) cap xfl xol xil xrm xsp xco xec xat xlt xcu xwu xpu xvu xdc xsu xpo xdl 0 xbu xsv af aa ao ai ar ak als ale afl awd apr aws aps avs ali adr atx adg := by
  have hm2 := fl_b2 _ (dr_mb af L p)
  have E : nt_z1 (dr_c af L p) (dr_m af L p) z0 v nd = if dr_c af L p = 111 ∧ dr_m af L p / 16 % 2 = 1 ∧ ¬ (0 < z0 ∨ (v = 0 ∧ 0 < nd)) then 1 else z0 := rfl
  have k90 : ∀ x : Int32, (x = 0 ↔ ¬ (0 < z0 ∨ (v = 0 ∧ 0 < nd))) → wX_writeNumber_90 post (nI e) v P (nI nd) (nI z0) x cap xfl xol xil xrm xsp xco xec xat xlt xcu xwu xpu xvu xdc xsu xpo xdl 0 xbu xsv af aa ao ai ar ak als ale afl awd apr aws aps avs ali adr atx adg := by
    intro x ix
    have same : ¬ (dr_c af L p = 111 ∧ dr_m af L p / 16 % 2 = 1 ∧ ¬ (0 < z0 ∨ (v = 0 ∧ 0 < nd))) → wX_writeNumber_120 post (nI e) v P (nI nd) (nI z0) cap xfl xol xil xrm xsp xco xec xat xlt xcu xwu xpu xvu xdc xsu xpo xdl 0 xbu xsv af aa ao ai ar ak als ale afl awd apr aws aps avs ali adr atx adg := by
      intro q
      rw [if_neg q] at E
      rw [E] at hz ht h
      exact xm_120 he hd gw hW hb hn hz ht hg h
    unfold wX_writeNumber_90
    refine xm_co he hd ?_
    by_cases c : dr_c af L p = 111
    · refine br_t c (xm_hf (b := dr_m af L p / 16 % 2) he hd hm2.2 (fun z => br_t rfl (same (fun y => by have := y.2.1; omega))) (fun z => br_f (by decide) ?_))
      by_cases x0 : x = 0
      · rw [if_pos ⟨c, by omega, ix.mp x0⟩] at E
        rw [E] at hz ht h
        exact br_t x0 (xm_120 (z1 := 1) he hd gw hW hb hn hz ht hg h)
      · exact br_f x0 (same (fun y => x0 (ix.mpr y.2.2)))
    · exact br_f c (same (fun y => c y.1))
  have k1 : (0 < z0 ∨ (v = 0 ∧ 0 < nd)) → wX_writeNumber_85 post (nI e) v P (nI nd) (nI z0) cap xfl xol xil xrm xsp xco xec xat xlt xcu xwu xpu xvu xdc xsu xpo xdl 0 xbu xsv af aa ao ai ar ak als ale afl awd apr aws aps avs ali adr atx adg := fun y => k90 1 ⟨fun z => absurd z (by decide), fun z => absurd y z⟩
  have k0 : ¬ (0 < z0 ∨ (v = 0 ∧ 0 < nd)) → wX_writeNumber_89 post (nI e) v P (nI nd) (nI z0) cap xfl xol xil xrm xsp xco xec xat xlt xcu xwu xpu xvu xdc xsu xpo xdl 0 xbu xsv af aa ao ai ar ak als ale afl awd apr aws aps avs ali adr atx adg := fun y => k90 0 ⟨fun _ => y, fun _ => rfl⟩
  refine pk_lt 0 z0 (fun a => k1 (Or.inl a)) (fun a => ?_)
  by_cases v0 : v = 0
  · exact br_t v0 (pk_le nd 0 (fun b => k0 (fun y => by rcases y with y | y <;> omega)) (fun b => k1 (Or.inr ⟨v0, b⟩)))
  · exact br_f v0 (k0 (fun y => by
      rcases y with y | y
      · omega
      · exact v0 y.1))
theorem xm_wn {post : SX → Prop} {C : Nat} (he : e < 64) (hd : tb_dir af L ak afl awd apr aws aps avs e p q s t) (gw : ev_gw af L aa p s) (hW : ev_W af L aa p s ≤ 99) (hP : pv_ok (ev_P af L aa p s)) (hb : ¬ cv_b (dr_c af L p) = 0)
    (hC : dt_C (cv_b (dr_c af L p)) (nt_N (dr_c af L p) (nt_v (dr_c af L p) (dr_g af L p) (aa (ev_V af L p s).toNatClampNeg))) C) (hC2 : C ≤ 22)
    (h : ∀ (v : Int64) (nd z : Nat) (adg : Nat → Int32), v = nt_v (dr_c af L p) (dr_g af L p) (aa (ev_V af L p s).toNatClampNeg) → nd = nt_nd v (ev_P af L aa p s) C → z = tx_z (dr_c af L p) (dr_m af L p) (ev_P af L aa p s) (ev_L af L aa p s) (ev_W af L aa p s) v nd → post (cap, xfl, xol, xil, xrm, xsp, xco, xec, xat, xlt, xcu, xwu, xpu, xvu, xdc, xsu, xpo, xdl, nI (nt_pl (dr_c af L p) (dr_m af L p) v + z + nd), xbu, xsv, af, aa, ao, ai, ar, ak, als, ale, afl, awd, apr, aws, aps, avs, ali, adr, ef_f 128 (nt_T (dr_c af L p) (dr_m af L p) v (nt_N (dr_c af L p) v) z nd) atx 0 (nt_pl (dr_c af L p) (dr_m af L p) v + z + nd), adg)) : wpX_writeNumber post (cap, xfl, xol, xil, xrm, xsp, xco, xec, xat, xlt, xcu, xwu, xpu, xvu, xdc, xsu, xpo, xdl, 0, xbu, xsv, af, aa, ao, ai, ar, ak, als, ale, afl, awd, apr, aws, aps, avs, ali, adr, atx, adg) (nI e) := by
  refine ⟨vp_in_nI he (by decide), xm_va he hd (xm_fi he hd (xm_po he hd (xm_sd he hd hb hC hC2 ?_)))⟩
  intro adg hg
  generalize hv : nt_v (dr_c af L p) (dr_g af L p) (aa (ev_V af L p s).toNatClampNeg) = v at *
  have k50 : ∀ nd, nd = nt_nd v (ev_P af L aa p s) C → nd ≤ C → wX_writeNumber_50 post (nI e) v (ev_P af L aa p s) (nI nd) cap xfl xol xil xrm xsp xco xec xat xlt xcu xwu xpu xvu xdc xsu xpo xdl 0 xbu xsv af aa ao ai ar ak als ale afl awd apr aws aps avs ali adr atx adg := by
    intro nd en hnd
    have hzb := tx_zb (c := dr_c af L p) (m := dr_m af L p) (lf := ev_L af L aa p s) (W := ev_W af L aa p s) (v := v) (nd := nd) hP hW (by omega)
    have k66 := xm_66 (post := post) (z0 := nt_z0 (ev_P af L aa p s) nd) (N := nt_N (dr_c af L p) v) (P := ev_P af L aa p s) (atx := atx) he hd gw hW hb (show nd ≤ 22 by omega) hzb.2.1 hzb.2.2 (by have := hzb.1; unfold tx_z at this; omega) (fun i hi => hg i (by omega)) (fun z ez => h v nd z adg rfl en ez)
    unfold nt_z0 at k66
    rcases hP with ep | ⟨k, hk, ep⟩
    · rw [ep] at k66 ⊢
      have e0 : (-1 : Int32).toNatClampNeg = 0 := by decide
      rw [e0, Nat.zero_sub] at k66
      refine br_t ?_ k66
      exact Int32.le_trans (by decide) (nI_pos' (n := nd) (by omega))
    · rw [ep] at k66 ⊢
      rw [nI_clamp (by omega)] at k66
      refine pk_le k nd (fun a => ?_) (fun a => ?_)
      · rw [show k - nd = 0 by omega] at k66
        exact k66
      · rw [pk_sub (by omega)]
        exact k66
  by_cases v0 : v = 0
  · refine br_t v0 ?_
    by_cases P0 : ev_P af L aa p s = 0
    · exact br_t P0 (k50 0 (by unfold nt_nd; rw [if_pos ⟨v0, P0⟩]) (by omega))
    · exact br_f P0 (k50 C (by unfold nt_nd; rw [if_neg (fun y => P0 y.2)]) (by omega))
  · exact br_f v0 (k50 C (by unfold nt_nd; rw [if_neg (fun y => v0 y.1)]) (by omega))
end
