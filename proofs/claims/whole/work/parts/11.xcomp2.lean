/-! the class: the rest of what compile calls -/
section
variable {cap xfl xol xil xrm xsp xco xec xat xlt xcu xwu xpu xvu xdc xsu xpo xdl xtl xbu : Int32} {xsv : Int64} {af ao ai ak als ale afl awd apr aws aps avs ali adr atx adg : Nat → Int32} {aa ar : Nat → Int64}
theorem xm_rc77 {post : Int32 → SX → Prop} {k g e : Nat} {c : Int32} (he : e < 64) (hg : g = 0 ∨ g = 1) (h : post 0 (cap, xfl, xol, xil, xrm, xsp, xco, xec, xat, xlt, nI (k + 1), xwu, xpu, xvu, xdc, xsu, xpo, xdl, xtl, xbu, xsv, af, aa, ao, ai, ar, upd ak e (c + nI (256 * g)), als, ale, afl, awd, apr, aws, aps, avs, ali, adr, atx, adg)) : wX_readConversion_77 post (nI e) (nI g) c cap xfl xol xil xrm xsp xco xec xat xlt (nI k) xwu xpu xvu xdc xsu xpo xdl xtl xbu xsv af aa ao ai ar ak als ale afl awd apr aws aps avs ali adr atx adg := by
  have ee : (nI e).toNatClampNeg = e := nI_clamp (by omega)
  have ve : vp_in (nI e) 64 := vp_in_nI (by omega) (by omega)
  refine nm_r (nI_1 k) ?_
  rcases hg with rfl | rfl
  · exact br_t rfl ⟨ve, nm_r (e' := upd ak e (c + nI (256 * 0))) (by rw [ee]; rw [show nI (256 * 0) = 0 from rfl, Int32.add_zero]) h⟩
  · exact br_f (by decide) ⟨ve, nm_r (e' := upd ak e (c + nI (256 * 1))) (by rw [ee]; rfl) h⟩
theorem xm_rcT {post : Int32 → SX → Prop} {k g e : Nat} {c : Int32} (he : e < 64) (hg : g = 0 ∨ g = 1) (h2 : ¬ cv_t c ∧ cv_b c = 0 → post (-2) (cap, xfl, xol, xil, xrm, xsp, xco, xec, xat, xlt, nI k, xwu, xpu, xvu, xdc, xsu, xpo, xdl, xtl, xbu, xsv, af, aa, ao, ai, ar, ak, als, ale, afl, awd, apr, aws, aps, avs, ali, adr, atx, adg)) (h11 : cv_t c ∧ g = 1 → post (-11) (cap, xfl, xol, xil, xrm, xsp, xco, xec, xat, xlt, nI k, xwu, xpu, xvu, xdc, xsu, xpo, xdl, xtl, xbu, xsv, af, aa, ao, ai, ar, ak, als, ale, afl, awd, apr, aws, aps, avs, ali, adr, atx, adg))
    (h : (cv_t c ∨ ¬ cv_b c = 0) → ¬ (cv_t c ∧ g = 1) → post 0 (cap, xfl, xol, xil, xrm, xsp, xco, xec, xat, xlt, nI (k + 1), xwu, xpu, xvu, xdc, xsu, xpo, xdl, xtl, xbu, xsv, af, aa, ao, ai, ar, upd ak e (c + nI (256 * g)), als, ale, afl, awd, apr, aws, aps, avs, ali, adr, atx, adg)) :
    (c = 99 → wX_readConversion_42 post (nI e) (nI g) c cap xfl xol xil xrm xsp xco xec xat xlt (nI k) xwu xpu xvu xdc xsu xpo xdl xtl xbu xsv af aa ao ai ar ak als ale afl awd apr aws aps avs ali adr atx adg) ∧ (¬ c = 99 → (c = 115 → wX_readConversion_42 post (nI e) (nI g) c cap xfl xol xil xrm xsp xco xec xat xlt (nI k) xwu xpu xvu xdc xsu xpo xdl xtl xbu xsv af aa ao ai ar ak als ale afl awd apr aws aps avs ali adr atx adg) ∧ (¬ c = 115 → wX_readConversion_47 post (nI e) (nI g) c 0 cap xfl xol xil xrm xsp xco xec xat xlt (nI k) xwu xpu xvu xdc xsu xpo xdl xtl xbu xsv af aa ao ai ar ak als ale afl awd apr aws aps avs ali adr atx adg)) := by
  have ht : cv_t c → wX_readConversion_42 post (nI e) (nI g) c cap xfl xol xil xrm xsp xco xec xat xlt (nI k) xwu xpu xvu xdc xsu xpo xdl xtl xbu xsv af aa ao ai ar ak als ale afl awd apr aws aps avs ali adr atx adg := by
    intro t
    refine br_f (by decide) (br_f (by decide) ?_)
    rcases hg with rfl | rfl
    · exact br_t rfl (xm_rc77 he (Or.inl rfl) (h (Or.inl t) (fun z => absurd z.2 (by decide))))
    · exact br_f (by decide) (h11 ⟨t, rfl⟩)
  refine ⟨fun a => ht (Or.inl a), fun a => ⟨fun b => ht (Or.inr b), fun b => ?_⟩⟩
  have nt : ¬ cv_t c := fun z => z.elim a b
  refine br_t rfl (xm_bo ?_)
  by_cases z : cv_b c = 0
  · exact br_t (by rw [z]; rfl) (h2 ⟨nt, z⟩)
  · have hb : cv_b c < 2 ^ 31 := by rcases cv_b16 c with e | e | e | e <;> omega
    exact br_f (nI_ne0 (by omega) hb) (br_t rfl (xm_rc77 he hg (h (Or.inr z) (fun q => nt q.1))))
theorem xm_rc {post : Int32 → SX → Prop} {L j e : Nat} (hL : L ≤ 64) (he : e < 64) (hj : j ≤ L) (hr : ¬ pc_r af L j = 0 → post (pc_r af L j) (cap, nI L, xol, xil, xrm, xsp, xco, xec, xat, xlt, nI (pc_k af L j), xwu, xpu, xvu, xdc, xsu, xpo, xdl, xtl, xbu, xsv, af, aa, ao, ai, ar, ak, als, ale, afl, awd, apr, aws, aps, avs, ali, adr, atx, adg))
    (h : pc_r af L j = 0 → post 0 (cap, nI L, xol, xil, xrm, xsp, xco, xec, xat, xlt, nI (pc_k af L j + 1), xwu, xpu, xvu, xdc, xsu, xpo, xdl, xtl, xbu, xsv, af, aa, ao, ai, ar, upd ak e (af (pc_k af L j) + nI (256 * (if pc_l af L j then 1 else 0))), als, ale, afl, awd, apr, aws, aps, avs, ali, adr, atx, adg)) : wpX_readConversion post (cap, nI L, xol, xil, xrm, xsp, xco, xec, xat, xlt, nI j, xwu, xpu, xvu, xdc, xsu, xpo, xdl, xtl, xbu, xsv, af, aa, ao, ai, ar, ak, als, ale, afl, awd, apr, aws, aps, avs, ali, adr, atx, adg) (nI e) := by
  have key : ∀ k g : Nat, (g = 0 ∨ g = 1) → pc_k af L j = k → (if pc_l af L j then 1 else 0) = g → (g = 1 ↔ pc_l af L j) →
      ((nI k < nI L → (vp_in (nI k) 64 ∧ (∀ x3 : Int32, x3 = af (nI k).toNatClampNeg → ((x3 = 99 → wX_readConversion_42 post (nI e) (nI g) x3 cap (nI L) xol xil xrm xsp xco xec xat xlt (nI k) xwu xpu xvu xdc xsu xpo xdl xtl xbu xsv af aa ao ai ar ak als ale afl awd apr aws aps avs ali adr atx adg) ∧ (¬ x3 = 99 → (x3 = 115 → wX_readConversion_42 post (nI e) (nI g) x3 cap (nI L) xol xil xrm xsp xco xec xat xlt (nI k) xwu xpu xvu xdc xsu xpo xdl xtl xbu xsv af aa ao ai ar ak als ale afl awd apr aws aps avs ali adr atx adg) ∧ (¬ x3 = 115 → wX_readConversion_47 post (nI e) (nI g) x3 0 cap (nI L) xol xil xrm xsp xco xec xat xlt (nI k) xwu xpu xvu xdc xsu xpo xdl xtl xbu xsv af aa ao ai ar ak als ale afl awd apr aws aps avs ali adr atx adg)))))) ∧ (¬ nI k < nI L → post (-1) (cap, nI L, xol, xil, xrm, xsp, xco, xec, xat, xlt, nI k, xwu, xpu, xvu, xdc, xsu, xpo, xdl, xtl, xbu, xsv, af, aa, ao, ai, ar, ak, als, ale, afl, awd, apr, aws, aps, avs, ali, adr, atx, adg))) := by
    intro k g hg ek eg ig
    have hk := pc_kb af hj
    have er : pc_r af L j = if L ≤ k then -1 else if ¬ cv_t (af k) ∧ cv_b (af k) = 0 then -2 else if cv_t (af k) ∧ pc_l af L j then -11 else 0 := by
      unfold pc_r
      rw [ek]
    rw [ek] at hr h hk
    rw [eg] at h
    refine pk_lt k L (fun hl => ⟨vp_in_nI (by omega) (by omega), nm_r (e' := af k) (by rw [nI_clamp (by omega)]) ?_⟩) (fun hl => ?_)
    · rw [if_neg (by omega)] at er
      refine xm_rcT he hg (fun z => ?_) (fun z => ?_) (fun z1 z2 => ?_)
      · rw [if_pos z] at er
        rw [er] at hr
        exact hr (by decide)
      · have z' : cv_t (af k) ∧ pc_l af L j := ⟨z.1, ig.mp z.2⟩
        rw [if_neg (fun q => q.1 z.1), if_pos z'] at er
        rw [er] at hr
        exact hr (by decide)
      · rw [if_neg (fun q => z1.elim q.1 (fun y => y q.2)), if_neg (fun q => z2 ⟨q.1, ig.mpr q.2⟩)] at er
        exact h er
    · rw [if_pos hl] at er
      rw [er] at hr
      exact hr (by decide)
  unfold wpX_readConversion
  refine xm_tfc (j := j) hL (by omega) (fun h1 h2 => ?_) (fun hn => ?_)
  · have hs : pc_l af L j := ⟨h1, h2⟩
    exact key (j + 1) 1 (Or.inr rfl) (by unfold pc_k; rw [if_pos hs]) (by rw [if_pos hs]) ⟨fun _ => hs, fun _ => rfl⟩
  · have hs : ¬ pc_l af L j := hn
    exact key j 0 (Or.inl rfl) (by unfold pc_k; rw [if_neg hs]) (by rw [if_neg hs]) ⟨fun z => absurd z (by decide), fun z => absurd z hs⟩
theorem xm_ae {post : SX → Prop} {E : Nat} (hE : E < 64) (h : post (cap, xfl, xol, xil, xrm, xsp, xco, nI (E + 1), xat, xlt, xcu, xwu, xpu, xvu, xdc, xsu, xpo, xdl, xtl, xbu, xsv, af, aa, ao, ai, ar, upd ak E 0, upd als E xlt, upd ale E xlt, upd afl E 0, upd awd E 0, upd apr E (-1), upd aws E (-1), upd aps E (-1), upd avs E (-1), ali, adr, atx, adg)) : wpX_addEntry post (cap, xfl, xol, xil, xrm, xsp, xco, nI E, xat, xlt, xcu, xwu, xpu, xvu, xdc, xsu, xpo, xdl, xtl, xbu, xsv, af, aa, ao, ai, ar, ak, als, ale, afl, awd, apr, aws, aps, avs, ali, adr, atx, adg) := by
  have e : (nI E).toNatClampNeg = E := nI_clamp (by omega)
  have v : vp_in (nI E) 64 := vp_in_nI (by omega) (by omega)
  refine br_t (nI_lt (b := 64) hE (by decide)) ?_
  exact ⟨v, nm_r (by rw [e]) ⟨v, nm_r (by rw [e]) ⟨v, nm_r (by rw [e]) ⟨v, nm_r (by rw [e]) ⟨v, nm_r (by rw [e]) ⟨v, nm_r (by rw [e]) ⟨v, nm_r (by rw [e]) ⟨v, nm_r (by rw [e]) ⟨v, nm_r (by rw [e]) (nm_r (nI_1 E) h)⟩⟩⟩⟩⟩⟩⟩⟩⟩
theorem xm_al25 {post : SX → Prop} {E T : Nat} {c : Int32} (hE : E < 64) (hT : T < 64) (hc : ar_ch c) (h : post (cap, xfl, xol, xil, xrm, xsp, xco, nI (E + 1), xat, nI (T + 1), xcu, xwu, xpu, xvu, xdc, xsu, xpo, xdl, xtl, xbu, xsv, af, aa, ao, ai, ar, ak, als, upd ale E (nI (T + 1)), afl, awd, apr, aws, aps, avs, upd ali T c, adr, atx, adg)) : wX_addLiteralChar_25 post c cap xfl xol xil xrm xsp xco (nI (E + 1)) xat (nI T) xcu xwu xpu xvu xdc xsu xpo xdl xtl xbu xsv af aa ao ai ar ak als ale afl awd apr aws aps avs ali adr atx adg := by
  have eE : (nI E).toNatClampNeg = E := nI_clamp (by omega)
  have eT : (nI T).toNatClampNeg = T := nI_clamp (by omega)
  refine br_f (nI_ge (b := 64) hT (by decide)) ⟨vp_in_nI hT (by decide), nm_r (e' := upd ali T c) (by rw [eT, ar_nar hc]) (nm_r (nI_1 T) ⟨?_, nm_r (e' := upd ale E (nI (T + 1))) (by rw [nI_pred, eE]) h⟩)⟩
  rw [nI_pred]
  exact vp_in_nI hE (by decide)
/-- a literal char: a new entry, or one more char of the last one -/
theorem xm_al {post : SX → Prop} {E T : Nat} {c : Int32} (hE : E < 64) (hT : T < 64) (hc : ar_ch c)
    (h1 : (0 < E → ¬ ak (E - 1) = 0) → post (cap, xfl, xol, xil, xrm, xsp, xco, nI (E + 1), xat, nI (T + 1), xcu, xwu, xpu, xvu, xdc, xsu, xpo, xdl, xtl, xbu, xsv, af, aa, ao, ai, ar, upd ak E 0, upd als E (nI T), upd ale E (nI (T + 1)), upd afl E 0, upd awd E 0, upd apr E (-1), upd aws E (-1), upd aps E (-1), upd avs E (-1), upd ali T c, adr, atx, adg))
    (h2 : 0 < E → ak (E - 1) = 0 → post (cap, xfl, xol, xil, xrm, xsp, xco, nI E, xat, nI (T + 1), xcu, xwu, xpu, xvu, xdc, xsu, xpo, xdl, xtl, xbu, xsv, af, aa, ao, ai, ar, ak, als, upd ale (E - 1) (nI (T + 1)), afl, awd, apr, aws, aps, avs, upd ali T c, adr, atx, adg)) : wpX_addLiteralChar post (cap, xfl, xol, xil, xrm, xsp, xco, nI E, xat, nI T, xcu, xwu, xpu, xvu, xdc, xsu, xpo, xdl, xtl, xbu, xsv, af, aa, ao, ai, ar, ak, als, ale, afl, awd, apr, aws, aps, avs, ali, adr, atx, adg) c := by
  have new : (0 < E → ¬ ak (E - 1) = 0) → wX_addLiteralChar_21 post c cap xfl xol xil xrm xsp xco (nI E) xat (nI T) xcu xwu xpu xvu xdc xsu xpo xdl xtl xbu xsv af aa ao ai ar ak als ale afl awd apr aws aps avs ali adr atx adg := by
    intro hn
    unfold wX_addLiteralChar_21
    refine xm_ae hE (xm_al25 hE hT hc ?_)
    rw [ar_uu]
    exact h1 hn
  by_cases h0 : E = 0
  · subst h0
    exact br_t rfl (new (fun z => absurd z (by omega)))
  · obtain ⟨E, rfl⟩ : ∃ x, E = x + 1 := ⟨E - 1, by omega⟩
    have eE : (nI (E + 1) - 1).toNatClampNeg = E := by rw [nI_pred]; exact nI_clamp (by omega)
    refine br_f (nI_ne0 (by omega) (by omega)) ⟨by rw [nI_pred]; exact vp_in_nI (by omega) (by decide), ?_⟩
    rw [Nat.add_sub_cancel] at h1 h2 new
    refine wk_if (d := ak E = 0) (by rw [eE]) (fun z => xm_al25 (by omega) hT hc (h2 (by omega) z)) (fun z => new (fun _ => z))
theorem xm_ts {post : Int32 → SX → Prop} {s b : Nat} {u : Int32} (hu : ∃ k : Nat, k ≤ 8 ∧ u = nI k) (I : us_I s b) (h1 : us_r u s b < 0 → post (us_r u s b) (cap, xfl, xol, xil, xrm, xsp, xco, xec, xat, xlt, xcu, xwu, xpu, xvu, xdc, nI s, nI b, xdl, xtl, xbu, xsv, af, aa, ao, ai, ar, ak, als, ale, afl, awd, apr, aws, aps, avs, ali, adr, atx, adg)) (h2 : ¬ us_r u s b < 0 → post (us_r u s b) (cap, xfl, xol, xil, xrm, xsp, xco, xec, xat, xlt, xcu, xwu, xpu, xvu, xdc, nI (sl_n u s), nI (us_b u b), xdl, xtl, xbu, xsv, af, aa, ao, ai, ar, ak, als, ale, afl, awd, apr, aws, aps, avs, ali, adr, atx, adg)) : wpX_takeSlot post (cap, xfl, xol, xil, xrm, xsp, xco, xec, xat, xlt, xcu, xwu, xpu, xvu, xdc, nI s, nI b, xdl, xtl, xbu, xsv, af, aa, ao, ai, ar, ak, als, ale, afl, awd, apr, aws, aps, avs, ali, adr, atx, adg) u := by
  obtain ⟨k, hk, rfl⟩ := hu
  obtain ⟨I1, I2, I3⟩ := I
  cases k with
  | zero =>
    rw [nI_0, us_r0] at h1 h2
    rw [sl_n0, us_b0] at h2
    refine br_t rfl (pk_eq b 0 (fun hb => ?_) (fun hb => ?_))
    · rw [if_neg (fun z => z hb)] at h1 h2
      refine pk_lt s 8 (fun hs => nm_r (nI_1 s) ?_) (fun hs => ?_)
      · rw [if_neg (by omega)] at h2
        rw [nI_pred]
        exact h2 (nI_pos (by omega))
      · rw [if_pos hs] at h1
        exact h1 (by decide)
    · rw [if_pos hb] at h1
      exact h1 (by decide)
  | succ k =>
    rw [us_rk (by omega)] at h1 h2
    rw [sl_nk (by omega), us_bk (by omega)] at h2
    refine br_f (nI_ne0 (by omega) (by omega)) (pk_le s 0 (fun hs => nm_r (e' := nI (b ||| 2 ^ k)) (by rw [nI_pred]; exact us_t3 b I2 k (by omega)) ?_) (fun hs => ?_))
    · rw [if_neg (by omega)] at h2
      rw [nI_pred]
      exact h2 (nI_pos (by omega))
    · rw [if_pos hs] at h1
      exact h1 (by decide)
end
section
variable {cap xfl xol xil xrm xsp xco xec xat xlt xcu xwu xpu xvu xdc xsu xpo xdl xtl xbu : Int32} {xsv : Int64} {af ao ai ak als ale afl awd apr aws aps avs ali adr atx adg : Nat → Int32} {aa ar : Nat → Int64}
theorem us_e0 {u : Int32} {s b : Nat} (hn : ¬ u = -1) (h : us_r u s b < 0) : us_e u s b = us_r u s b ∧ ¬ us_e u s b = 0 := by
  have e : us_e u s b = us_r u s b := by
    unfold us_e
    rw [if_neg hn, if_pos h]
  refine ⟨e, ?_⟩
  rw [e]
  intro z
  rw [z] at h
  exact absurd h (by decide)
theorem us_e1 {u : Int32} {s b : Nat} (hn : ¬ u = -1) (h : ¬ us_r u s b < 0) : us_e u s b = 0 := by
  unfold us_e
  rw [if_neg hn, if_neg h]
theorem us_nn {u : Int32} (hu : ∃ k : Nat, k ≤ 8 ∧ u = nI k) : ¬ u = -1 := by
  obtain ⟨k, hk, rfl⟩ := hu
  exact us_n1 (by omega)
theorem us_rs {u : Int32} {s b : Nat} (hu : ∃ k : Nat, k ≤ 8 ∧ u = nI k) (I : us_I s b) (h : ¬ us_r u s b < 0) : us_r u s b = sl_s u s ∧ us_I (sl_n u s) (us_b u b) := by
  rcases us_cs hu I with c | c
  · exact absurd c h
  · exact c.2
theorem xm_t82 {post : Int32 → SX → Prop} {s b e : Nat} (he : e < 64) (hv : ∃ k : Nat, k ≤ 8 ∧ xvu = nI k) (I : us_I s b) (hr : ¬ us_e xvu s b = 0 → post (us_e xvu s b) (cap, xfl, xol, xil, xrm, xsp, xco, xec, xat, xlt, xcu, xwu, xpu, xvu, xdc, nI s, nI b, xdl, xtl, xbu, xsv, af, aa, ao, ai, ar, ak, als, ale, afl, awd, apr, aws, aps, avs, ali, adr, atx, adg))
    (h : us_e xvu s b = 0 → post 0 (cap, xfl, xol, xil, xrm, xsp, xco, xec, xat, xlt, xcu, xwu, xpu, xvu, xdc, nI (sl_n xvu s), nI (us_b xvu b), xdl, xtl, xbu, xsv, af, aa, ao, ai, ar, ak, als, ale, afl, awd, apr, aws, aps, upd avs e (sl_s xvu s), ali, adr, atx, adg)) : wX_takeSlots_82 post (nI e) cap xfl xol xil xrm xsp xco xec xat xlt xcu xwu xpu xvu xdc (nI s) (nI b) xdl xtl xbu xsv af aa ao ai ar ak als ale afl awd apr aws aps avs ali adr atx adg := by
  have ee : (nI e).toNatClampNeg = e := nI_clamp (by omega)
  have ve : vp_in (nI e) 64 := vp_in_nI (by omega) (by omega)
  have hn := us_nn hv
  unfold wX_takeSlots_82
  refine xm_ts hv I (fun a => ?_) (fun a => ?_)
  · obtain ⟨e1, e2⟩ := us_e0 hn a
    rw [e1] at hr e2
    exact br_f (Int32.not_le.mpr a) (hr e2)
  · have q := (us_rs hv I a).1
    have e1 := us_e1 hn a
    rw [q] at a ⊢
    exact br_t (Int32.not_lt.mp a) ⟨ve, nm_r (e' := upd avs e (sl_s xvu s)) (by rw [ee]) (h e1)⟩
theorem xm_t52 {post : Int32 → SX → Prop} {s b e : Nat} (he : e < 64) (hp : xpu = -1 ∨ ∃ k : Nat, k ≤ 8 ∧ xpu = nI k) (hv : ∃ k : Nat, k ≤ 8 ∧ xvu = nI k) (I : us_I s b) (h0 : aps e = -1)
    (hr1 : ¬ us_e xpu s b = 0 → post (us_e xpu s b) (cap, xfl, xol, xil, xrm, xsp, xco, xec, xat, xlt, xcu, xwu, xpu, xvu, xdc, nI s, nI b, xdl, xtl, xbu, xsv, af, aa, ao, ai, ar, ak, als, ale, afl, awd, apr, aws, aps, avs, ali, adr, atx, adg))
    (hr2 : us_e xpu s b = 0 → ¬ us_e xvu (sl_n xpu s) (us_b xpu b) = 0 → post (us_e xvu (sl_n xpu s) (us_b xpu b)) (cap, xfl, xol, xil, xrm, xsp, xco, xec, xat, xlt, xcu, xwu, xpu, xvu, xdc, nI (sl_n xpu s), nI (us_b xpu b), xdl, xtl, xbu, xsv, af, aa, ao, ai, ar, ak, als, ale, afl, awd, apr, aws, upd aps e (sl_s xpu s), avs, ali, adr, atx, adg))
    (h : us_e xpu s b = 0 → us_e xvu (sl_n xpu s) (us_b xpu b) = 0 → post 0 (cap, xfl, xol, xil, xrm, xsp, xco, xec, xat, xlt, xcu, xwu, xpu, xvu, xdc, nI (sl_n xvu (sl_n xpu s)), nI (us_b xvu (us_b xpu b)), xdl, xtl, xbu, xsv, af, aa, ao, ai, ar, ak, als, ale, afl, awd, apr, aws, upd aps e (sl_s xpu s), upd avs e (sl_s xvu (sl_n xpu s)), ali, adr, atx, adg)) : wX_takeSlots_52 post (nI e) cap xfl xol xil xrm xsp xco xec xat xlt xcu xwu xpu xvu xdc (nI s) (nI b) xdl xtl xbu xsv af aa ao ai ar ak als ale afl awd apr aws aps avs ali adr atx adg := by
  have ee : (nI e).toNatClampNeg = e := nI_clamp (by omega)
  have ve : vp_in (nI e) 64 := vp_in_nI (by omega) (by omega)
  rcases hp with rfl | hp
  · have z : us_e (-1) s b = 0 := rfl
    have k1 : sl_n (-1) s = s := rfl
    have k2 : us_b (-1) b = b := rfl
    have k3 : upd aps e (sl_s (-1) s) = aps := ar_us h0
    rw [k1, k2, k3] at hr2 h
    exact br_t rfl (xm_t82 he hv I (hr2 z) (h z))
  · have hn := us_nn hp
    refine br_f hn (xm_ts hp I (fun a => ?_) (fun a => ?_))
    · obtain ⟨e1, e2⟩ := us_e0 hn a
      rw [e1] at hr1 e2
      exact br_f (Int32.not_le.mpr a) (hr1 e2)
    · have q := us_rs hp I a
      have e1 := us_e1 hn a
      rw [q.1] at a ⊢
      exact br_t (Int32.not_lt.mp a) ⟨ve, nm_r (e' := upd aps e (sl_s xpu s)) (by rw [ee]) (xm_t82 he hv q.2 (hr2 e1) (h e1))⟩
theorem xm_tss {post : Int32 → SX → Prop} {s b e d : Nat} (he : e < 64) (hd : d ≤ 64) (hw : xwu = -1 ∨ ∃ k : Nat, k ≤ 8 ∧ xwu = nI k) (hp : xpu = -1 ∨ ∃ k : Nat, k ≤ 8 ∧ xpu = nI k) (hv : ∃ k : Nat, k ≤ 8 ∧ xvu = nI k) (I : us_I s b) (h0 : aws e = -1) (h1 : aps e = -1)
    (hr : ¬ tk_r d xwu xpu xvu s b = 0 → ∀ (xdc xsu xpo : Int32) (aws aps avs : Nat → Int32), post (tk_r d xwu xpu xvu s b) (cap, xfl, xol, xil, xrm, xsp, xco, xec, xat, xlt, xcu, xwu, xpu, xvu, xdc, xsu, xpo, xdl, xtl, xbu, xsv, af, aa, ao, ai, ar, ak, als, ale, afl, awd, apr, aws, aps, avs, ali, adr, atx, adg))
    (h : tk_r d xwu xpu xvu s b = 0 → post 0 (cap, xfl, xol, xil, xrm, xsp, xco, xec, xat, xlt, xcu, xwu, xpu, xvu, nI (d + 1), nI (sl_n xvu (sl_n xpu (sl_n xwu s))), nI (us_b xvu (us_b xpu (us_b xwu b))), xdl, xtl, xbu, xsv, af, aa, ao, ai, ar, ak, als, ale, afl, awd, apr, upd aws e (sl_s xwu s), upd aps e (sl_s xpu (sl_n xwu s)), upd avs e (sl_s xvu (sl_n xpu (sl_n xwu s))), ali, adr, atx, adg)) : wpX_takeSlots post (cap, xfl, xol, xil, xrm, xsp, xco, xec, xat, xlt, xcu, xwu, xpu, xvu, nI d, nI s, nI b, xdl, xtl, xbu, xsv, af, aa, ao, ai, ar, ak, als, ale, afl, awd, apr, aws, aps, avs, ali, adr, atx, adg) (nI e) := by
  have ee : (nI e).toNatClampNeg = e := nI_clamp (by omega)
  have ve : vp_in (nI e) 64 := vp_in_nI (by omega) (by omega)
  refine nm_r (nI_1 d) (pk_le (d + 1) 16 (fun hd => ?_) (fun hd => ?_))
  · have t0 : ¬ 16 < d + 1 := by omega
    have T : tk_r d xwu xpu xvu s b = if ¬ us_e xwu s b = 0 then us_e xwu s b else if ¬ us_e xpu (sl_n xwu s) (us_b xwu b) = 0 then us_e xpu (sl_n xwu s) (us_b xwu b) else us_e xvu (sl_n xpu (sl_n xwu s)) (us_b xpu (us_b xwu b)) := by
      unfold tk_r
      rw [if_neg t0]
    have step : ∀ (s' b' : Nat) (aws' : Nat → Int32), us_e xwu s b = 0 → sl_n xwu s = s' → us_b xwu b = b' → us_I s' b' → upd aws e (sl_s xwu s) = aws' → wX_takeSlots_52 post (nI e) cap xfl xol xil xrm xsp xco xec xat xlt xcu xwu xpu xvu (nI (d + 1)) (nI s') (nI b') xdl xtl xbu xsv af aa ao ai ar ak als ale afl awd apr aws' aps avs ali adr atx adg := by
      intro s' b' aws' z e1 e2 I' e3
      rw [if_neg (fun y => y z), e1, e2] at T
      rw [e1, e2, e3] at h
      refine xm_t52 he hp hv I' h1 (fun y => ?_) (fun y1 y2 => ?_) (fun y1 y2 => ?_)
      · rw [if_pos y] at T
        rw [T] at hr
        exact hr y _ _ _ _ _ _
      · rw [if_neg (fun q => q y1)] at T
        rw [T] at hr
        exact hr y2 _ _ _ _ _ _
      · rw [if_neg (fun q => q y1), y2] at T
        exact h T
    rcases hw with rfl | hw
    · exact br_t rfl (step s b aws rfl rfl rfl I (ar_us h0))
    · have hn := us_nn hw
      refine br_f hn (xm_ts hw I (fun a => ?_) (fun a => ?_))
      · obtain ⟨e1, e2⟩ := us_e0 hn a
        rw [if_pos e2, e1] at T
        rw [T] at hr
        rw [e1] at e2
        exact br_f (Int32.not_le.mpr a) (hr e2 _ _ _ _ _ _)
      · have q := us_rs hw I a
        have e1 := us_e1 hn a
        rw [q.1] at a ⊢
        exact br_t (Int32.not_lt.mp a) ⟨ve, nm_r (e' := upd aws e (sl_s xwu s)) (by rw [ee]) (step _ _ _ e1 rfl rfl q.2 rfl)⟩
  · have T : tk_r d xwu xpu xvu s b = -6 := by
      unfold tk_r
      rw [if_pos hd]
    rw [T] at hr
    exact hr (by decide) _ _ _ _ _ _
end
section
variable {cap xfl xol xil xrm xsp xco xec xat xlt xcu xwu xpu xvu xdc xsu xpo xdl xtl xbu : Int32} {xsv : Int64} {af ao ai ak als ale afl awd apr aws aps avs ali adr atx adg : Nat → Int32} {aa ar : Nat → Int64}
/-- a directive: an error, or a new row -/
theorem xm_rd {post : Int32 → SX → Prop} {L p E T d s b : Nat} (hL : L ≤ 64) (hp : p < L) (hE : E < 64) (hd : d ≤ 64) (I : us_I s b)
    (hr1 : ¬ dr_r af L p = 0 → ∀ (xec xat xlt xcu xwu xpu xvu xdc xsu xpo : Int32) (ak als ale afl awd apr aws aps avs ali : Nat → Int32), post (dr_r af L p) (cap, nI L, xol, xil, xrm, xsp, xco, xec, xat, xlt, xcu, xwu, xpu, xvu, xdc, xsu, xpo, xdl, xtl, xbu, xsv, af, aa, ao, ai, ar, ak, als, ale, afl, awd, apr, aws, aps, avs, ali, adr, atx, adg))
    (hr2 : dr_r af L p = 0 → ¬ tk_r d (dr_wu af L p) (dr_pu af L p) (dr_v af L p) s b = 0 → ∀ (xec xat xlt xcu xwu xpu xvu xdc xsu xpo : Int32) (ak als ale afl awd apr aws aps avs ali : Nat → Int32), post (tk_r d (dr_wu af L p) (dr_pu af L p) (dr_v af L p) s b) (cap, nI L, xol, xil, xrm, xsp, xco, xec, xat, xlt, xcu, xwu, xpu, xvu, xdc, xsu, xpo, xdl, xtl, xbu, xsv, af, aa, ao, ai, ar, ak, als, ale, afl, awd, apr, aws, aps, avs, ali, adr, atx, adg))
    (h : dr_r af L p = 0 → tk_r d (dr_wu af L p) (dr_pu af L p) (dr_v af L p) s b = 0 → ∀ (xwu xpu xvu : Int32), post 0 (cap, nI L, xol, xil, xrm, xsp, xco, nI (E + 1), xat, nI T, nI (dr_k af L p + 1), xwu, xpu, xvu, nI (d + 1), nI (sl_n (dr_v af L p) (sl_n (dr_pu af L p) (sl_n (dr_wu af L p) s))), nI (us_b (dr_v af L p) (us_b (dr_pu af L p) (us_b (dr_wu af L p) b))), xdl, xtl, xbu, xsv, af, aa, ao, ai, ar, upd ak E (dr_c af L p + nI (256 * dr_g af L p)), upd als E (nI T), upd ale E (nI T), upd afl E (nI (dr_m af L p)), upd awd E (nI (dr_w af L p)), upd apr E (dr_p af L p), upd aws E (sl_s (dr_wu af L p) s), upd aps E (sl_s (dr_pu af L p) (sl_n (dr_wu af L p) s)), upd avs E (sl_s (dr_v af L p) (sl_n (dr_pu af L p) (sl_n (dr_wu af L p) s))), ali, adr, atx, adg)) :
    wpX_readDirective post (cap, nI L, xol, xil, xrm, xsp, xco, nI E, xat, nI T, nI p, xwu, xpu, xvu, nI d, nI s, nI b, xdl, xtl, xbu, xsv, af, aa, ao, ai, ar, ak, als, ale, afl, awd, apr, aws, aps, avs, ali, adr, atx, adg) := by
  obtain ⟨b1, b2, b3, b4, b5, b6, c1, c2, c3, c4⟩ := dr_b af hp
  have D : dr_r af L p = if dr_v af L p < 0 then dr_v af L p else if ¬ pw_r af L (dr_2 af L p) = 0 then pw_r af L (dr_2 af L p) else if ¬ pp_r af L (dr_3 af L p) = 0 then pp_r af L (dr_3 af L p) else pc_r af L (dr_4 af L p) := rfl
  unfold wpX_readDirective
  refine xm_ae hE (nm_r (nI_pred E) (nm_r (nI_1 p) (xm_rp hL (by omega) ?_)))
  by_cases v0 : dr_v af L p < 0
  · rw [if_pos v0] at D
    rw [D] at hr1
    exact br_f (Int32.not_le.mpr v0) (hr1 (fun z => by rw [z] at v0; exact absurd v0 (by decide)) _ _ _ _ _ _ _ _ _ _ _ _ _ _ _ _ _ _ _ _)
  rw [if_neg v0] at D
  refine br_t (Int32.not_lt.mp v0) (xm_rf hL hE c1 pk_us (xm_rw hL hE c2 pk_us ?_))
  by_cases w0 : ¬ pw_r af L (dr_2 af L p) = 0
  · rw [if_pos w0] at D
    rw [D] at hr1
    exact br_f w0 (br_f w0 (br_f w0 (hr1 w0 _ _ _ _ _ _ _ _ _ _ _ _ _ _ _ _ _ _ _ _)))
  rw [if_neg w0] at D
  refine br_t (Decidable.not_not.mp w0) (xm_rpr hL hE c3 pk_us ?_)
  by_cases q0 : ¬ pp_r af L (dr_3 af L p) = 0
  · rw [if_pos q0] at D
    rw [D] at hr1
    exact br_f q0 (br_f q0 (hr1 q0 _ _ _ _ _ _ _ _ _ _ _ _ _ _ _ _ _ _ _ _))
  rw [if_neg q0] at D
  refine br_t (Decidable.not_not.mp q0) (xm_rc hL hE c4 (fun z => ?_) (fun z => ?_))
  · rw [D] at hr1
    exact br_f z (hr1 z _ _ _ _ _ _ _ _ _ _ _ _ _ _ _ _ _ _ _ _)
  · have R : dr_r af L p = 0 := D.trans z
    obtain ⟨u1, u2, u3⟩ := dr_us R
    refine br_t rfl (xm_tss hE hd u1 u2 u3 I pk_us pk_us (fun y => ?_) (fun y => ?_))
    · intro _ _ _ _ _ _
      exact hr2 R y _ _ _ _ _ _ _ _ _ _ _ _ _ _ _ _ _ _ _ _
    · rw [ar_uu, ar_uu, ar_uu, ar_uu, ar_uu, ar_uu, ar_uu]
      exact h R y _ _ _
/-- the gap check: t is the number of positions from 1 on without a gap -/
theorem xm_ca {post : Int32 → SX → Prop} {s b t : Nat} (hb : b < 256) (ht : t ≤ 8) (ho : ∀ i, i < t → b / 2 ^ i % 2 = 1) (hz : t = 8 ∨ b / 2 ^ t % 2 = 0)
    (h1 : b / 2 ^ t = 0 → post 0 (cap, xfl, xol, xil, xrm, xsp, xco, xec, nI (t + s), xlt, xcu, xwu, xpu, xvu, xdc, nI s, nI b, xdl, xtl, xbu, xsv, af, aa, ao, ai, ar, ak, als, ale, afl, awd, apr, aws, aps, avs, ali, adr, atx, adg)) (h2 : ¬ b / 2 ^ t = 0 → post (-7) (cap, xfl, xol, xil, xrm, xsp, xco, xec, xat, xlt, xcu, xwu, xpu, xvu, xdc, nI s, nI b, xdl, xtl, xbu, xsv, af, aa, ao, ai, ar, ak, als, ale, afl, awd, apr, aws, aps, avs, ali, adr, atx, adg)) : wpX_countArgs post (cap, xfl, xol, xil, xrm, xsp, xco, xec, xat, xlt, xcu, xwu, xpu, xvu, xdc, nI s, nI b, xdl, xtl, xbu, xsv, af, aa, ao, ai, ar, ak, als, ale, afl, awd, apr, aws, aps, avs, ali, adr, atx, adg) := by
  have fin : wX_countArgs_26 post (nI t) cap xfl xol xil xrm xsp xco xec xat xlt xcu xwu xpu xvu xdc (nI s) (nI b) xdl xtl xbu xsv af aa ao ai ar ak als ale afl awd apr aws aps avs ali adr atx adg := by
    have e4 := us_t4 b hb t (by omega)
    have hd : b / 2 ^ t ≤ b := Nat.div_le_self _ _
    refine pk_eq (b / 2 ^ t) 0 (fun z => nm_r (nI_add t s) (h1 z)) (fun z => h2 z) e4
  have lo : ∀ r i, i + r = t → wX_countArgs_2 post cap xfl xol xil xrm xsp xco xec xat xlt xcu xwu xpu xvu xdc (nI s) (nI b) xdl xtl xbu xsv af aa ao ai ar ak als ale afl awd apr aws aps avs ali adr atx adg (r + 1) (nI i) := by
    intro r
    induction r with
    | zero =>
      intro i hi
      have e : i = t := by omega
      subst e
      refine pk_le 8 i (fun _ => fin) (fun h8 => br_f ?_ fin)
      rw [us_t4 b hb i (by omega), us_t5 b hb i (by omega)]
      have z : b / 2 ^ i % 2 = 0 := by
        rcases hz with q | q
        · omega
        · exact q
      rw [z]; decide
    | succ r ih =>
      intro i hi
      refine br_f (nI_ge (b := 8) (by omega) (by decide)) (br_t ?_ (nm_r (nI_1 i) (ih (i + 1) (by omega))))
      rw [us_t4 b hb i (by omega), us_t5 b hb i (by omega), ho i (by omega)]
      rfl
  exact ⟨t + 1, lo t 0 (by omega)⟩
end
