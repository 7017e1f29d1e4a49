/-! the class: what render calls -/
theorem ef_xt {M n : Nat} {D : Nat → Int32} {c : Int32} (h : n < M) : ef_x M D n c = upd D n c := if_pos h
theorem ef_xf {M n : Nat} {D : Nat → Int32} {c : Int32} (h : ¬ n < M) : ef_x M D n c = D := if_neg h
section
variable {cap xfl xol xil xrm xsp xco xec xat xlt xcu xwu xpu xvu xdc xsu xpo xdl xtl xbu : Int32} {xsv : Int64} {af ao ai ak als ale afl awd apr aws aps avs ali adr atx adg : Nat → Int32} {aa ar : Nat → Int64}
theorem xm_dc {post : SX → Prop} {n : Nat} {c : Int32} (c' : Int32) (ec : c = c') (hn : n < 2 ^ 30) (hc : ar_ch c') (h : post (cap, xfl, xol, xil, xrm, xsp, xco, xec, xat, xlt, xcu, xwu, xpu, xvu, xdc, xsu, xpo, nI (n + 1), xtl, xbu, xsv, af, aa, ao, ai, ar, ak, als, ale, afl, awd, apr, aws, aps, avs, ali, ef_x 256 adr n c', atx, adg)) : wpX_draftChar post (cap, xfl, xol, xil, xrm, xsp, xco, xec, xat, xlt, xcu, xwu, xpu, xvu, xdc, xsu, xpo, nI n, xtl, xbu, xsv, af, aa, ao, ai, ar, ak, als, ale, afl, awd, apr, aws, aps, avs, ali, adr, atx, adg) c := by
  subst ec
  refine pk_le 256 n (fun a => nm_r (nI_1 n) ?_) (fun a => ⟨vp_in_nI a (by decide), nm_r (e' := upd adr n c) (by rw [nI_clamp (by omega), ar_nar hc]) (nm_r (nI_1 n) ?_)⟩)
  · rw [ef_xf (by omega)] at h; exact h
  · rw [ef_xt a] at h; exact h
theorem xm_wc {post : SX → Prop} {t : Nat} {c : Int32} (ht : t < 128) (hc : ar_ch c) (h : post (cap, xfl, xol, xil, xrm, xsp, xco, xec, xat, xlt, xcu, xwu, xpu, xvu, xdc, xsu, xpo, xdl, nI (t + 1), xbu, xsv, af, aa, ao, ai, ar, ak, als, ale, afl, awd, apr, aws, aps, avs, ali, adr, ef_x 128 atx t c, adg)) : wpX_writeChar post (cap, xfl, xol, xil, xrm, xsp, xco, xec, xat, xlt, xcu, xwu, xpu, xvu, xdc, xsu, xpo, xdl, nI t, xbu, xsv, af, aa, ao, ai, ar, ak, als, ale, afl, awd, apr, aws, aps, avs, ali, adr, atx, adg) c := by
  rw [ef_xt ht] at h
  exact br_f (nI_ge (b := 128) ht (by decide)) ⟨vp_in_nI ht (by decide), nm_r (e' := upd atx t c) (by rw [nI_clamp (by omega), ar_nar hc]) (nm_r (nI_1 t) h)⟩
theorem xm_wz {post : SX → Prop} {t z : Nat} (ht : t + z ≤ 128) (h : post (cap, xfl, xol, xil, xrm, xsp, xco, xec, xat, xlt, xcu, xwu, xpu, xvu, xdc, xsu, xpo, xdl, nI (t + z), xbu, xsv, af, aa, ao, ai, ar, ak, als, ale, afl, awd, apr, aws, aps, avs, ali, adr, ef_f 128 (fun _ => 48) atx t z, adg)) : wpX_writeZeros post (cap, xfl, xol, xil, xrm, xsp, xco, xec, xat, xlt, xcu, xwu, xpu, xvu, xdc, xsu, xpo, xdl, nI t, xbu, xsv, af, aa, ao, ai, ar, ak, als, ale, afl, awd, apr, aws, aps, avs, ali, adr, atx, adg) (nI z) := by
  have lo : ∀ r i, i + r = z → wX_writeZeros_2 post (nI z) (r + 1) (nI i) cap xfl xol xil xrm xsp xco xec xat xlt xcu xwu xpu xvu xdc xsu xpo xdl (nI (t + i)) xbu xsv af aa ao ai ar ak als ale afl awd apr aws aps avs ali adr (ef_f 128 (fun _ => 48) atx t i) adg := by
    intro r
    induction r with
    | zero =>
      intro i hi
      have e : i = z := by omega
      subst e
      exact br_t (nI_le (by omega) (by omega)) h
    | succ r ih =>
      intro i hi
      exact br_f (nI_ge (by omega) (by omega)) (xm_wc (by omega) ⟨48, by decide, rfl⟩ (nm_r (nI_1 i) (ih (i + 1) (by omega))))
  exact ⟨z + 1, lo z 0 (by omega)⟩
theorem xm_ds {post : SX → Prop} {n k : Nat} {x : Int32} (hn : n + k < 2 ^ 30) (hx : x = nI k ∨ (x < 0 ∧ k = 0)) (h : post (cap, xfl, xol, xil, xrm, xsp, xco, xec, xat, xlt, xcu, xwu, xpu, xvu, xdc, xsu, xpo, nI (n + k), xtl, xbu, xsv, af, aa, ao, ai, ar, ak, als, ale, afl, awd, apr, aws, aps, avs, ali, ef_f 256 (fun _ => 32) adr n k, atx, adg)) : wpX_draftSpaces post (cap, xfl, xol, xil, xrm, xsp, xco, xec, xat, xlt, xcu, xwu, xpu, xvu, xdc, xsu, xpo, nI n, xtl, xbu, xsv, af, aa, ao, ai, ar, ak, als, ale, afl, awd, apr, aws, aps, avs, ali, adr, atx, adg) x := by
  rcases hx with rfl | ⟨hx, rfl⟩
  · have lo : ∀ r i, i + r = k → wX_draftSpaces_2 post (nI k) (r + 1) (nI i) cap xfl xol xil xrm xsp xco xec xat xlt xcu xwu xpu xvu xdc xsu xpo (nI (n + i)) xtl xbu xsv af aa ao ai ar ak als ale afl awd apr aws aps avs ali (ef_f 256 (fun _ => 32) adr n i) atx adg := by
      intro r
      induction r with
      | zero =>
        intro i hi
        have e : i = k := by omega
        subst e
        exact br_t (nI_le (by omega) (by omega)) h
      | succ r ih =>
        intro i hi
        exact br_f (nI_ge (by omega) (by omega)) (xm_dc 32 rfl (by omega) ⟨32, by decide, rfl⟩ (nm_r (nI_1 i) (ih (i + 1) (by omega))))
    exact ⟨k + 1, lo k 0 (by omega)⟩
  · exact ⟨1, br_t (Int32.le_of_lt hx) h⟩
theorem sb_k {W t : Nat} (hW : W < 2 ^ 30) (ht : t < 2 ^ 30) : nI W - nI t = nI (W - t) ∨ (nI W - nI t < 0 ∧ W - t = 0) := by
  by_cases h : t ≤ W
  · exact Or.inl (pk_sub h)
  · exact Or.inr ⟨pk_sneg ht (by omega), by omega⟩
/-- the text goes out, and the blanks behind it if they stand there -/
theorem xm_88 {post : SX → Prop} {n tl k : Nat} {x3 : Int32} {lf : Bool} (hn : n + tl + k < 2 ^ 30) (ht : tl ≤ 128) (hc : ∀ j, j < tl → ar_ch (atx j)) (hx : x3 = nI k ∨ (x3 < 0 ∧ k = 0))
    (h : post (cap, xfl, xol, xil, xrm, xsp, xco, xec, xat, xlt, xcu, xwu, xpu, xvu, xdc, xsu, xpo, (if lf = true then nI (n + tl + k) else nI (n + tl)), nI tl, xbu, xsv, af, aa, ao, ai, ar, ak, als, ale, afl, awd, apr, aws, aps, avs, ali, (if lf = true then ef_f 256 (fun _ => 32) (ef_f 256 atx adr n tl) (n + tl) k else ef_f 256 atx adr n tl), atx, adg)) : ∃ m, wX_draftConversion_88 post x3 (yb_b lf) m 0 cap xfl xol xil xrm xsp xco xec xat xlt xcu xwu xpu xvu xdc xsu xpo (nI n) (nI tl) xbu xsv af aa ao ai ar ak als ale afl awd apr aws aps avs ali adr atx adg := by
  have lo : ∀ r i, i + r = tl → wX_draftConversion_88 post x3 (yb_b lf) (r + 1) (nI i) cap xfl xol xil xrm xsp xco xec xat xlt xcu xwu xpu xvu xdc xsu xpo (nI (n + i)) (nI tl) xbu xsv af aa ao ai ar ak als ale afl awd apr aws aps avs ali (ef_f 256 atx adr n i) atx adg := by
    intro r
    induction r with
    | zero =>
      intro i hi
      have e : i = tl := by omega
      subst e
      refine br_t (nI_le (by omega) (by omega)) ?_
      cases lf with
      | false => exact br_t rfl h
      | true => exact br_f (by decide) (xm_ds (by omega) hx h)
    | succ r ih =>
      intro i hi
      exact br_f (nI_ge (by omega) (by omega)) ⟨vp_in_nI (by omega) (by omega), xm_dc (atx i) (by rw [nI_clamp (by omega)]) (by omega) (hc i (by omega)) (nm_r (nI_1 i) (ih (i + 1) (by omega)))⟩
  exact ⟨tl + 1, lo tl 0 (by omega)⟩
end
section
variable {cap xfl xol xil xrm xsp xco xec xat xlt xcu xwu xpu xvu xdc xsu xpo xdl xtl xbu : Int32} {xsv : Int64} {af ao ai ak als ale afl awd apr aws aps avs ali adr atx adg : Nat → Int32} {aa ar : Nat → Int64}
variable {L e p q s t : Nat}
theorem cv_255 {c : Int32} (hc : c = 99 ∨ c = 115 ∨ c = 100 ∨ c = 117 ∨ c = 120 ∨ c = 88 ∨ c = 111) {g : Nat} (hg : g = 0 ∨ g = 1) : (c + nI (256 * g)) &&& 255 = c ∧ (((c + nI (256 * g)) &&& 256) = 0 ↔ g = 0) ∧ ar_ch c := by
  rcases hc with rfl | rfl | rfl | rfl | rfl | rfl | rfl <;> rcases hg with rfl | rfl <;> exact ⟨by decide, by decide, ⟨_, by decide, rfl⟩⟩
theorem tb_cc (hd : tb_dir af L ak afl awd apr aws aps avs e p q s t) : dr_c af L p = 99 ∨ dr_c af L p = 115 ∨ dr_c af L p = 100 ∨ dr_c af L p = 117 ∨ dr_c af L p = 120 ∨ dr_c af L p = 88 ∨ dr_c af L p = 111 := cv_cases (pc_ok (dr_ok hd.2.1).2.2.2).2.1
theorem xm_co {post : Int32 → Prop} (he : e < 64) (hd : tb_dir af L ak afl awd apr aws aps avs e p q s t) (h : post (dr_c af L p)) : wpX_conversionOf post (cap, xfl, xol, xil, xrm, xsp, xco, xec, xat, xlt, xcu, xwu, xpu, xvu, xdc, xsu, xpo, xdl, xtl, xbu, xsv, af, aa, ao, ai, ar, ak, als, ale, afl, awd, apr, aws, aps, avs, ali, adr, atx, adg) (nI e) := by
  refine ⟨vp_in_nI he (by decide), ?_⟩
  rw [nI_clamp (by omega), hd.2.2.2.1, (cv_255 (tb_cc hd) (tb_gz af L p)).1]
  exact h
theorem xm_hf {post : Int32 → Prop} {b : Nat} {fl : Int32} (he : e < 64) (hd : tb_dir af L ak afl awd apr aws aps avs e p q s t) (hb : nI (dr_m af L p) &&& fl = 0 ↔ b = 0) (h0 : b = 0 → post 0) (h1 : ¬ b = 0 → post 1) : wpX_hasFlag post (cap, xfl, xol, xil, xrm, xsp, xco, xec, xat, xlt, xcu, xwu, xpu, xvu, xdc, xsu, xpo, xdl, xtl, xbu, xsv, af, aa, ao, ai, ar, ak, als, ale, afl, awd, apr, aws, aps, avs, ali, adr, atx, adg) (nI e) fl := by
  refine ⟨vp_in_nI he (by decide), wk_if (d := b = 0) ?_ h0 h1⟩
  rw [nI_clamp (by omega), hd.2.2.2.2.1]
  exact propext hb
theorem tb_s8 (hd : tb_dir af L ak afl awd apr aws aps avs e p q s t) : sl_n (dr_v af L p) (sl_n (dr_pu af L p) (sl_n (dr_wu af L p) s)) ≤ 8 ∧ sl_n (dr_pu af L p) (sl_n (dr_wu af L p) s) ≤ 8 ∧ sl_n (dr_wu af L p) s ≤ 8 := by
  obtain ⟨hpc, hr, hq, r1, r2, r3, r4, r5, r6, r7, r8, r9⟩ := hd
  have a1 := sl_nb (dr_v af L p) (sl_n (dr_pu af L p) (sl_n (dr_wu af L p) s))
  have a2 := sl_nb (dr_pu af L p) (sl_n (dr_wu af L p) s)
  omega
theorem xm_va {post : Int64 → Prop} (he : e < 64) (hd : tb_dir af L ak afl awd apr aws aps avs e p q s t) (h : post (aa (ev_V af L p s).toNatClampNeg)) : wpX_argAt post (cap, xfl, xol, xil, xrm, xsp, xco, xec, xat, xlt, xcu, xwu, xpu, xvu, xdc, xsu, xpo, xdl, xtl, xbu, xsv, af, aa, ao, ai, ar, ak, als, ale, afl, awd, apr, aws, aps, avs, ali, adr, atx, adg) (avs (nI e).toNatClampNeg) :=
  xm_aa (ev_V af L p s) (by rw [nI_clamp (by omega)]; exact hd.2.2.2.2.2.2.2.2.2.1) (sl_in (dr_us hd.2.1).2.2 (tb_s8 hd).1) h
theorem xm_wo {post : Int32 → Prop} (he : e < 64) (hd : tb_dir af L ak afl awd apr aws aps avs e p q s t) (gw : ev_gw af L aa p s) (h : post (nI (ev_W af L aa p s))) : wpX_widthOf post (cap, xfl, xol, xil, xrm, xsp, xco, xec, xat, xlt, xcu, xwu, xpu, xvu, xdc, xsu, xpo, xdl, xtl, xbu, xsv, af, aa, ao, ai, ar, ak, als, ale, afl, awd, apr, aws, aps, avs, ali, adr, atx, adg) (nI e) := by
  have ee : (nI e).toNatClampNeg = e := nI_clamp (by omega)
  have ve : vp_in (nI e) 64 := vp_in_nI (by omega) (by omega)
  have hs := tb_s8 hd
  obtain ⟨hpc, hr, hq, r1, r2, r3, r4, r5, r6, r7, r8, r9⟩ := hd
  obtain ⟨u1, u2, u3⟩ := dr_us hr
  have m1 := sl_m1 u1 (s := s) hs.2.2
  refine ⟨ve, wk_if (d := dr_wu af L p = -1) (by rw [ee, r5]; exact propext m1) (fun z => ⟨ve, ?_⟩) (fun z => ⟨ve, xm_aa (sl_s (dr_wu af L p) s) (by rw [ee]; exact r5) (sl_j (sl_okk u1 hs.2.2) (fun y => z (m1.mp y))) ?_⟩)⟩
  · have e1 : ev_W af L aa p s = dr_w af L p := if_pos z
    rw [ee, r3, ← e1]
    exact h
  · have eW : ev_W af L aa p s = (if ev_wv af L aa p s < 0 then - ev_wv af L aa p s else ev_wv af L aa p s).toNatClampNeg := if_neg z
    have hv := gw z
    rw [eW] at h
    rcases ev_rng hv.1 hv.2 with ⟨c, k, k1, k2, ek⟩ | ⟨c, k, k2, ek⟩
    · rw [if_pos c, ek, nI_clamp (by omega), ← ek] at h
      exact br_f (Int32.not_le.mpr c) h
    · rw [if_neg c, ek, nI_clamp (by omega), ← ek] at h
      exact br_t (Int32.not_lt.mp c) h
theorem xm_po {post : Int32 → Prop} (he : e < 64) (hd : tb_dir af L ak afl awd apr aws aps avs e p q s t) (h : post (ev_P af L aa p s)) : wpX_precisionOf post (cap, xfl, xol, xil, xrm, xsp, xco, xec, xat, xlt, xcu, xwu, xpu, xvu, xdc, xsu, xpo, xdl, xtl, xbu, xsv, af, aa, ao, ai, ar, ak, als, ale, afl, awd, apr, aws, aps, avs, ali, adr, atx, adg) (nI e) := by
  have ee : (nI e).toNatClampNeg = e := nI_clamp (by omega)
  have ve : vp_in (nI e) 64 := vp_in_nI (by omega) (by omega)
  have hs := tb_s8 hd
  obtain ⟨hpc, hr, hq, r1, r2, r3, r4, r5, r6, r7, r8, r9⟩ := hd
  obtain ⟨u1, u2, u3⟩ := dr_us hr
  have m1 := sl_m1 u2 (s := sl_n (dr_wu af L p) s) hs.2.1
  refine ⟨ve, wk_if (d := dr_pu af L p = -1) (by rw [ee, r6]; exact propext m1) (fun z => ⟨ve, ?_⟩) (fun z => ⟨ve, xm_aa (sl_s (dr_pu af L p) (sl_n (dr_wu af L p) s)) (by rw [ee]; exact r6) (sl_j (sl_okk u2 hs.2.1) (fun y => z (m1.mp y))) ?_⟩)⟩
  · have e1 : ev_P af L aa p s = dr_p af L p := if_pos z
    rw [ee, r4, ← e1]
    exact h
  · have eP : ev_P af L aa p s = if ev_pv af L aa p s < 0 then -1 else ev_pv af L aa p s := if_neg z
    rw [eP] at h
    by_cases c : ev_pv af L aa p s < 0
    · rw [if_pos c] at h
      exact br_f (Int32.not_le.mpr c) h
    · rw [if_neg c] at h
      exact br_t (Int32.not_lt.mp c) h
theorem xm_il {post : Int32 → Prop} (he : e < 64) (hd : tb_dir af L ak afl awd apr aws aps avs e p q s t) (h : post (yb_b (ev_L af L aa p s))) : wpX_isLeft post (cap, xfl, xol, xil, xrm, xsp, xco, xec, xat, xlt, xcu, xwu, xpu, xvu, xdc, xsu, xpo, xdl, xtl, xbu, xsv, af, aa, ao, ai, ar, ak, als, ale, afl, awd, apr, aws, aps, avs, ali, adr, atx, adg) (nI e) := by
  have ee : (nI e).toNatClampNeg = e := nI_clamp (by omega)
  have ve : vp_in (nI e) 64 := vp_in_nI (by omega) (by omega)
  have hs := tb_s8 hd
  have hm := fl_b _ (dr_mb af L p)
  unfold wpX_isLeft
  refine xm_hf (b := dr_m af L p % 2) he hd hm.1 (fun z => br_t rfl ?_) (fun z => br_f (by decide) ?_)
  · obtain ⟨hpc, hr, hq, r1, r2, r3, r4, r5, r6, r7, r8, r9⟩ := hd
    obtain ⟨u1, u2, u3⟩ := dr_us hr
    have m1 := sl_m1 u1 (s := s) hs.2.2
    refine ⟨ve, wk_if (d := dr_wu af L p = -1) (by rw [ee, r5]; exact propext m1) (fun y => ?_) (fun y => ⟨ve, xm_aa (sl_s (dr_wu af L p) s) (by rw [ee]; exact r5) (sl_j (sl_okk u1 hs.2.2) (fun w => y (m1.mp w))) ?_⟩)⟩
    · have eL : ev_L af L aa p s = false := decide_eq_false (fun w => w.elim (fun a => by omega) (fun a => a.1 y))
      rw [eL] at h
      exact h
    · by_cases c : ev_wv af L aa p s < 0
      · have eL : ev_L af L aa p s = true := decide_eq_true (Or.inr ⟨y, c⟩)
        rw [eL] at h
        exact br_f (Int32.not_le.mpr c) h
      · have eL : ev_L af L aa p s = false := decide_eq_false (fun w => w.elim (fun a => by omega) (fun a => c a.2))
        rw [eL] at h
        exact br_t (Int32.not_lt.mp c) h
  · have eL : ev_L af L aa p s = true := decide_eq_true (Or.inl (by omega))
    rw [eL] at h
    exact h
theorem xm_57 {post : SX → Prop} {n tl : Nat} (he : e < 64) (hd : tb_dir af L ak afl awd apr aws aps avs e p q s t) (gw : ev_gw af L aa p s) (hn : n < 2 ^ 20) (ht : tl ≤ 128) (hW : ev_W af L aa p s ≤ 99) (hc : ∀ j, j < tl → ar_ch (atx j))
    (h : post (cap, xfl, xol, xil, xrm, xsp, xco, xec, xat, xlt, xcu, xwu, xpu, xvu, xdc, xsu, xpo, nI (n + (ev_W af L aa p s - tl) + tl), nI tl, xbu, xsv, af, aa, ao, ai, ar, ak, als, ale, afl, awd, apr, aws, aps, avs, ali, em_o (ev_L af L aa p s) (ev_W af L aa p s) tl atx adr n, atx, adg)) : wX_draftConversion_57 post (nI e) cap xfl xol xil xrm xsp xco xec xat xlt xcu xwu xpu xvu xdc xsu xpo (nI n) (nI tl) xbu xsv af aa ao ai ar ak als ale afl awd apr aws aps avs ali adr atx adg := by
  unfold wX_draftConversion_57
  refine xm_wo he hd gw (nm_e (xm_il he hd ?_))
  have hk := sb_k (W := ev_W af L aa p s) (t := tl) (by omega) (by omega)
  cases hl : ev_L af L aa p s with
  | false =>
    rw [hl] at h
    refine br_t rfl (xm_ds (k := ev_W af L aa p s - tl) (by omega) hk (xm_88 (lf := false) (k := ev_W af L aa p s - tl) (by omega) ht hc hk ?_))
    exact h
  | true =>
    rw [hl] at h
    refine br_f (by decide) (xm_88 (lf := true) (k := ev_W af L aa p s - tl) (by omega) ht hc hk ?_)
    rw [show n + (ev_W af L aa p s - tl) + tl = n + tl + (ev_W af L aa p s - tl) by omega] at h
    exact h
end
