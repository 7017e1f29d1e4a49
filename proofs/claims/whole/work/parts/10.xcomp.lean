/-! the class: what compile calls -/
theorem wk_if {c d A B : Prop} (e : c = d) (f : d → A) (g : ¬ d → B) : (c → A) ∧ (¬ c → B) := by
  subst e
  exact ⟨f, g⟩
section
variable {cap xfl xol xil xrm xsp xco xec xat xlt xcu xwu xpu xvu xdc xsu xpo xdl xtl xbu : Int32} {xsv : Int64} {af ao ai ak als ale afl awd apr aws aps avs ali adr atx adg : Nat → Int32} {aa ar : Nat → Int64}
theorem xm_tfc {post : Int32 → SX → Prop} {L j : Nat} {c : Int32} (hL : L ≤ 64) (hj : j ≤ 64) (h1 : j < L → af j = c → post 1 (cap, nI L, xol, xil, xrm, xsp, xco, xec, xat, xlt, nI (j + 1), xwu, xpu, xvu, xdc, xsu, xpo, xdl, xtl, xbu, xsv, af, aa, ao, ai, ar, ak, als, ale, afl, awd, apr, aws, aps, avs, ali, adr, atx, adg)) (h0 : ¬ (j < L ∧ af j = c) → post 0 (cap, nI L, xol, xil, xrm, xsp, xco, xec, xat, xlt, nI j, xwu, xpu, xvu, xdc, xsu, xpo, xdl, xtl, xbu, xsv, af, aa, ao, ai, ar, ak, als, ale, afl, awd, apr, aws, aps, avs, ali, adr, atx, adg)) : wpX_takeFormatChar post (cap, nI L, xol, xil, xrm, xsp, xco, xec, xat, xlt, nI j, xwu, xpu, xvu, xdc, xsu, xpo, xdl, xtl, xbu, xsv, af, aa, ao, ai, ar, ak, als, ale, afl, awd, apr, aws, aps, avs, ali, adr, atx, adg) c := by
  refine pk_le L j (fun h => h0 (by omega)) (fun h => ?_)
  have e : (nI j).toNatClampNeg = j := nI_clamp (by omega)
  refine ⟨vp_in_nI (by omega) (by omega), ?_⟩
  refine wk_if (d := af j = c) (by rw [e]) (fun hc => nm_r (nI_1 j) (h1 h hc)) (fun hc => h0 (fun z => hc z.2))
theorem xm_rnl {post : Int32 → SX → Prop} {L : Nat} (hL : L ≤ 64) : ∀ n j v, j ≤ L → L - j < n → v ≤ 1000 → post (nI (rn_V af (L - j) j v)) (cap, nI L, xol, xil, xrm, xsp, xco, xec, xat, xlt, nI (rn_E af (L - j) j), xwu, xpu, xvu, xdc, xsu, xpo, xdl, xtl, xbu, xsv, af, aa, ao, ai, ar, ak, als, ale, afl, awd, apr, aws, aps, avs, ali, adr, atx, adg) → wX_readNumber_2 post cap (nI L) xol xil xrm xsp xco xec xat xlt xwu xpu xvu xdc xsu xpo xdl xtl xbu xsv af aa ao ai ar ak als ale afl awd apr aws aps avs ali adr atx adg n (nI v) (nI j) := by
  intro n
  induction n with
  | zero => intro j v hj hn; omega
  | succ n ih =>
    intro j v hj hn hv h
    refine pk_le L j (fun hl => ?_) (fun hl => ?_)
    · rw [show L - j = 0 by omega] at h
      exact h
    · have e : (nI j).toNatClampNeg = j := nI_clamp (by omega)
      have vi : vp_in (nI j) 64 := vp_in_nI (by omega) (by omega)
      refine ⟨vi, ?_⟩
      by_cases d : rn_d (af j)
      · obtain ⟨w, hw, e1, e2⟩ := rn_st hv d
        obtain ⟨m, hm⟩ : ∃ m, L - j = m + 1 := ⟨L - j - 1, by omega⟩
        rw [hm, rn_Vs af d, rn_Es af d, e2, show m = L - (j + 1) by omega] at h
        refine br_f (by rw [e]; exact Int32.not_lt.mpr d.1) ⟨vi, br_f (by rw [e]; exact Int32.not_lt.mpr d.2) ⟨vi, nm_r (e' := nI w) (by rw [e]; exact e1) ?_⟩⟩
        refine pk_le w 1000 (fun hw => nm_r (nI_1 j) ?_) (fun hw => nm_r (nI_1 j) ?_)
        · rw [if_neg (by omega)] at h
          exact ih (j + 1) w (by omega) (by omega) (by omega) h
        · rw [if_pos hw] at h
          exact ih (j + 1) 1000 (by omega) (by omega) (by omega) h
      · rw [rn_V0 af d, rn_E0 af d] at h
        refine wk_if (d := af j < 48) (by rw [e]) (fun _ => h) (fun a => ⟨vi, wk_if (d := 57 < af j) (by rw [e]) (fun _ => h) (fun b => absurd ⟨Int32.not_lt.mp a, Int32.not_lt.mp b⟩ d)⟩)
theorem xm_rn {post : Int32 → SX → Prop} {L j : Nat} (hL : L ≤ 64) (hj : j ≤ L) (h : post (nI (rn_V af (L - j) j 0)) (cap, nI L, xol, xil, xrm, xsp, xco, xec, xat, xlt, nI (rn_E af (L - j) j), xwu, xpu, xvu, xdc, xsu, xpo, xdl, xtl, xbu, xsv, af, aa, ao, ai, ar, ak, als, ale, afl, awd, apr, aws, aps, avs, ali, adr, atx, adg)) : wpX_readNumber post (cap, nI L, xol, xil, xrm, xsp, xco, xec, xat, xlt, nI j, xwu, xpu, xvu, xdc, xsu, xpo, xdl, xtl, xbu, xsv, af, aa, ao, ai, ar, ak, als, ale, afl, awd, apr, aws, aps, avs, ali, adr, atx, adg) :=
  ⟨L - j + 1, xm_rnl hL (L - j + 1) j 0 hj (by omega) (by omega) h⟩
theorem xm_rp {post : Int32 → SX → Prop} {L j : Nat} (hL : L ≤ 64) (hj : j ≤ L) (h : post (ps_v af L j) (cap, nI L, xol, xil, xrm, xsp, xco, xec, xat, xlt, nI (ps_n af L j), xwu, xpu, xvu, xdc, xsu, xpo, xdl, xtl, xbu, xsv, af, aa, ao, ai, ar, ak, als, ale, afl, awd, apr, aws, aps, avs, ali, adr, atx, adg)) : wpX_readPosition post (cap, nI L, xol, xil, xrm, xsp, xco, xec, xat, xlt, nI j, xwu, xpu, xvu, xdc, xsu, xpo, xdl, xtl, xbu, xsv, af, aa, ao, ai, ar, ak, als, ale, afl, awd, apr, aws, aps, avs, ali, adr, atx, adg) := by
  have hb := rn_Eb af (L - j) j
  have hV := rn_Vb af (L - j) j 0 (by omega)
  refine xm_rn hL hj ?_
  refine pk_eq (rn_E af (L - j) j) j (fun e => ?_) (fun e => ?_)
  · have hn : ¬ ps_at af L j := fun z => by have := z.1; omega
    unfold ps_v ps_n at h
    rw [if_neg hn, if_neg hn] at h
    exact h
  · refine xm_tfc hL (by omega) (fun h1 h2 => ?_) (fun h0 => ?_)
    · have hy : ps_at af L j := ⟨by omega, h1, h2⟩
      unfold ps_v ps_n at h
      rw [if_pos hy, if_pos hy] at h
      refine br_f (by decide) ?_
      refine pk_lt (rn_V af (L - j) j 0) 1 (fun a => ?_) (fun a => ?_)
      · rw [if_pos (Or.inl a)] at h; exact h
      · refine pk_le (rn_V af (L - j) j 0) 8 (fun b => ?_) (fun b => ?_)
        · rw [if_neg (fun z => by rcases z with z | z <;> omega)] at h; exact h
        · rw [if_pos (Or.inr b)] at h; exact h
    · have hn : ¬ ps_at af L j := fun z => h0 ⟨z.2.1, z.2.2⟩
      unfold ps_v ps_n at h
      rw [if_neg hn, if_neg hn] at h
      exact br_t rfl h
theorem xm_fo {post : Int32 → Prop} {c : Int32} (c' : Int32) (e : c = c') (h : post (nI (fl_v c'))) : wpX_flagOf post (cap, xfl, xol, xil, xrm, xsp, xco, xec, xat, xlt, xcu, xwu, xpu, xvu, xdc, xsu, xpo, xdl, xtl, xbu, xsv, af, aa, ao, ai, ar, ak, als, ale, afl, awd, apr, aws, aps, avs, ali, adr, atx, adg) c := by
  subst e
  unfold fl_v at h
  by_cases h1 : c = 32
  · subst h1; exact br_t rfl h
  refine br_f h1 ?_
  by_cases h2 : c = 35
  · subst h2; exact br_t rfl h
  refine br_f h2 ?_
  by_cases h3 : c = 43
  · subst h3; exact br_t rfl h
  refine br_f h3 ?_
  by_cases h4 : c = 45
  · subst h4; exact br_t rfl h
  refine br_f h4 ?_
  by_cases h5 : c = 48
  · subst h5; exact br_t rfl h
  refine br_f h5 ?_
  rw [if_neg h4, if_neg h3, if_neg h1, if_neg h5, if_neg h2] at h
  exact h
theorem fl_orI {m : Nat} (h : m < 32) (c : Int32) : nI m ||| nI (fl_v c) = nI (m ||| fl_v c) := by
  have := fl_ob m h
  rcases fl_vc c with e | e | e | e | e | e <;> rw [e]
  · rw [Nat.or_zero, nI_0, Int32.or_zero]
  · exact this.1.1
  · exact this.1.2.1
  · exact this.1.2.2.1
  · exact this.1.2.2.2
  · exact this.2
theorem fl_v16 (c : Int32) : fl_v c ≤ 16 := by
  rcases fl_vc c with e | e | e | e | e | e <;> omega
theorem xm_rfl {post : SX → Prop} {L e : Nat} (hL : L ≤ 64) (he : e < 64) : ∀ n j m, j ≤ L → L - j < n → m < 32 → post (cap, nI L, xol, xil, xrm, xsp, xco, xec, xat, xlt, nI (fl_E af (L - j) j), xwu, xpu, xvu, xdc, xsu, xpo, xdl, xtl, xbu, xsv, af, aa, ao, ai, ar, ak, als, ale, upd afl e (nI (fl_M af (L - j) j m)), awd, apr, aws, aps, avs, ali, adr, atx, adg) → wX_readFlags_0 post (nI e) cap (nI L) xol xil xrm xsp xco xec xat xlt xwu xpu xvu xdc xsu xpo xdl xtl xbu xsv n (nI j) af aa ao ai ar ak als ale (upd afl e (nI m)) awd apr aws aps avs ali adr atx adg := by
  intro n
  induction n with
  | zero => intro j m hj hn; omega
  | succ n ih =>
    intro j m hj hn hm h
    refine pk_le L j (fun hl => ?_) (fun hl => ?_)
    · rw [show L - j = 0 by omega] at h
      exact h
    · have ej : (nI j).toNatClampNeg = j := nI_clamp (by omega)
      have ee : (nI e).toNatClampNeg = e := nI_clamp (by omega)
      have vi : vp_in (nI j) 64 := vp_in_nI (by omega) (by omega)
      have ve : vp_in (nI e) 64 := vp_in_nI (by omega) (by omega)
      refine ⟨vi, xm_fo (af j) (by rw [ej]) ?_⟩
      by_cases z : fl_v (af j) = 0
      · rw [fl_E0 af z, fl_M0 af z] at h
        exact br_t (by rw [z]; rfl) h
      · obtain ⟨k, hk⟩ : ∃ k, L - j = k + 1 := ⟨L - j - 1, by omega⟩
        rw [hk, fl_Es af z, fl_Ms af z, show k = L - (j + 1) by omega] at h
        have hb := fl_v16 (af j)
        exact br_f (nI_ne0 (by omega) (by omega)) ⟨ve, ve, nm_r (e' := upd afl e (nI (m ||| fl_v (af j)))) (by rw [ee, pk_us, fl_orI hm, ar_uu]) (nm_r (nI_1 j) (ih (j + 1) _ (by omega) (by omega) (fl_orb hm _) h))⟩
theorem xm_rf {post : SX → Prop} {L j e : Nat} (hL : L ≤ 64) (he : e < 64) (hj : j ≤ L) (h0 : afl e = 0) (h : post (cap, nI L, xol, xil, xrm, xsp, xco, xec, xat, xlt, nI (fl_E af (L - j) j), xwu, xpu, xvu, xdc, xsu, xpo, xdl, xtl, xbu, xsv, af, aa, ao, ai, ar, ak, als, ale, upd afl e (nI (fl_M af (L - j) j 0)), awd, apr, aws, aps, avs, ali, adr, atx, adg)) : wpX_readFlags post (cap, nI L, xol, xil, xrm, xsp, xco, xec, xat, xlt, nI j, xwu, xpu, xvu, xdc, xsu, xpo, xdl, xtl, xbu, xsv, af, aa, ao, ai, ar, ak, als, ale, afl, awd, apr, aws, aps, avs, ali, adr, atx, adg) (nI e) := by
  have a := xm_rfl (post := post) hL he (L - j + 1) j 0 hj (by omega) (by omega) h
  rw [ar_us (f := afl) (k := e) (x := nI 0) h0] at a
  exact ⟨L - j + 1, a⟩
theorem xm_bo {post : Int32 → Prop} {c : Int32} (h : post (nI (cv_b c))) : wpX_baseOf post (cap, xfl, xol, xil, xrm, xsp, xco, xec, xat, xlt, xcu, xwu, xpu, xvu, xdc, xsu, xpo, xdl, xtl, xbu, xsv, af, aa, ao, ai, ar, ak, als, ale, afl, awd, apr, aws, aps, avs, ali, adr, atx, adg) c := by
  unfold cv_b at h
  by_cases h1 : c = 88
  · subst h1; exact br_t rfl h
  refine br_f h1 ?_
  by_cases h2 : c = 100
  · subst h2; exact br_t rfl h
  refine br_f h2 ?_
  by_cases h3 : c = 111
  · subst h3; exact br_t rfl h
  refine br_f h3 ?_
  by_cases h4 : c = 117
  · subst h4; exact br_t rfl h
  refine br_f h4 ?_
  by_cases h5 : c = 120
  · subst h5; exact br_t rfl h
  refine br_f h5 ?_
  rw [if_neg (fun z => z.elim h2 h4), if_neg (fun z => z.elim h5 h1), if_neg h3] at h
  exact h
theorem xm_rw {post : Int32 → SX → Prop} {L j e : Nat} (hL : L ≤ 64) (he : e < 64) (hj : j ≤ L) (h0 : awd e = 0) (h : post (pw_r af L j) (cap, nI L, xol, xil, xrm, xsp, xco, xec, xat, xlt, nI (pw_n af L j), pw_u af L j, xpu, xvu, xdc, xsu, xpo, xdl, xtl, xbu, xsv, af, aa, ao, ai, ar, ak, als, ale, afl, upd awd e (nI (pw_w af L j)), apr, aws, aps, avs, ali, adr, atx, adg)) : wpX_readWidth post (cap, nI L, xol, xil, xrm, xsp, xco, xec, xat, xlt, nI j, -1, xpu, xvu, xdc, xsu, xpo, xdl, xtl, xbu, xsv, af, aa, ao, ai, ar, ak, als, ale, afl, awd, apr, aws, aps, avs, ali, adr, atx, adg) (nI e) := by
  have ee : (nI e).toNatClampNeg = e := nI_clamp (by omega)
  have ve : vp_in (nI e) 64 := vp_in_nI (by omega) (by omega)
  have hV := rn_Vb af (L - j) j 0 (by omega)
  unfold pw_r pw_n pw_u pw_w at h
  unfold wpX_readWidth
  refine xm_tfc (j := j) hL (by omega) (fun h1 h2 => ?_) (fun hn => ?_)
  · have hs : pw_s af L j := ⟨h1, h2⟩
    rw [if_pos hs, if_pos hs, if_pos hs, if_pos hs, ar_us (f := awd) (k := e) (x := nI 0) h0] at h
    refine br_f (by decide) (xm_rp hL (by omega) ?_)
    by_cases z : ps_v af L (j + 1) < 0
    · rw [if_pos z] at h
      exact br_f (Int32.not_le.mpr z) h
    · rw [if_neg z] at h
      exact br_t (Int32.not_lt.mp z) h
  · have hs : ¬ pw_s af L j := hn
    rw [if_neg hs, if_neg hs, if_neg hs, if_neg hs] at h
    refine br_t rfl (xm_rn hL hj ⟨ve, nm_r (e' := upd awd e (nI (rn_V af (L - j) j 0))) (by rw [ee]) ⟨ve, ?_⟩⟩)
    refine pk_le (rn_V af (L - j) j 0) 99 (fun a => ?_) (fun a => ?_) (by rw [ee, pk_us])
    · rw [if_neg (by omega)] at h; exact h
    · rw [if_pos a] at h; exact h
theorem xm_rpr {post : Int32 → SX → Prop} {L j e : Nat} (hL : L ≤ 64) (he : e < 64) (hj : j ≤ L) (h0 : apr e = -1) (h : post (pp_r af L j) (cap, nI L, xol, xil, xrm, xsp, xco, xec, xat, xlt, nI (pp_n af L j), xwu, pp_u af L j, xvu, xdc, xsu, xpo, xdl, xtl, xbu, xsv, af, aa, ao, ai, ar, ak, als, ale, afl, awd, upd apr e (pp_p af L j), aws, aps, avs, ali, adr, atx, adg)) : wpX_readPrecision post (cap, nI L, xol, xil, xrm, xsp, xco, xec, xat, xlt, nI j, xwu, -1, xvu, xdc, xsu, xpo, xdl, xtl, xbu, xsv, af, aa, ao, ai, ar, ak, als, ale, afl, awd, apr, aws, aps, avs, ali, adr, atx, adg) (nI e) := by
  have ee : (nI e).toNatClampNeg = e := nI_clamp (by omega)
  have ve : vp_in (nI e) 64 := vp_in_nI (by omega) (by omega)
  unfold pp_r pp_n pp_u pp_p at h
  unfold wpX_readPrecision
  refine xm_tfc (j := j) hL (by omega) (fun h1 h2 => ?_) (fun hn => ?_)
  · have hd : pp_d af L j := ⟨h1, h2⟩
    have hV := rn_Vb af (L - (j + 1)) (j + 1) 0 (by omega)
    rw [if_pos hd, if_pos hd, if_pos hd, if_pos hd] at h
    unfold pw_r pw_n pw_u at h
    refine br_f (by decide) (xm_tfc (j := j + 1) hL (by omega) (fun h3 h4 => ?_) (fun hn => ?_))
    · have hs : pw_s af L (j + 1) := ⟨h3, h4⟩
      rw [if_pos hs, if_pos hs, if_pos hs, if_pos hs, ar_us (f := apr) (k := e) (x := -1) h0] at h
      refine br_f (by decide) (xm_rp hL (by omega) ?_)
      by_cases z : ps_v af L (j + 1 + 1) < 0
      · rw [if_pos z] at h
        exact br_f (Int32.not_le.mpr z) h
      · rw [if_neg z] at h
        exact br_t (Int32.not_lt.mp z) h
    · have hs : ¬ pw_s af L (j + 1) := hn
      rw [if_neg hs, if_neg hs, if_neg hs, if_neg hs] at h
      refine br_t rfl (xm_rn hL (by omega) ⟨ve, nm_r (e' := upd apr e (nI (rn_V af (L - (j + 1)) (j + 1) 0))) (by rw [ee]) ⟨ve, ?_⟩⟩)
      refine pk_le (rn_V af (L - (j + 1)) (j + 1) 0) 99 (fun a => ?_) (fun a => ?_) (by rw [ee, pk_us])
      · rw [if_neg (by omega)] at h; exact h
      · rw [if_pos a] at h; exact h
  · have hd : ¬ pp_d af L j := hn
    rw [if_neg hd, if_neg hd, if_neg hd, if_neg hd, ar_us (f := apr) (k := e) (x := -1) h0] at h
    exact br_t rfl h
end
