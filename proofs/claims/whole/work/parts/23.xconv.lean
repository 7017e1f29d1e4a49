/-! the class: one conversion -/
def tx_n (c : Int32) (g m : Nat) (P : Int32) (lf : Bool) (W : Nat) (a : Int64) (C : Nat) : Nat := if c = 99 then 1 else if c = 115 then bs_n a (bs_M P) 0 else nt_pl c m (nt_v c g a) + tx_z c m P lf W (nt_v c g a) (nt_nd (nt_v c g a) P C) + nt_nd (nt_v c g a) P C
def tx_T (c : Int32) (g m : Nat) (P : Int32) (lf : Bool) (W : Nat) (a : Int64) (C : Nat) : Nat → Int32 := if c = 99 then (fun _ => (a.toInt32.toUInt32 % 65536).toInt32) else if c = 115 then bs_c a else nt_T c m (nt_v c g a) (nt_N c (nt_v c g a)) (tx_z c m P lf W (nt_v c g a) (nt_nd (nt_v c g a) P C)) (nt_nd (nt_v c g a) P C)
theorem nt_ndb {v : Int64} {P : Int32} {C : Nat} (h : C ≤ 22) : nt_nd v P C ≤ 22 := by
  unfold nt_nd
  by_cases z : v = 0 ∧ P = 0
  · rw [if_pos z]; omega
  · rw [if_neg z]; exact h
theorem tx_nb {c : Int32} {g m : Nat} {P : Int32} {lf : Bool} {W : Nat} {a : Int64} {C : Nat} (hP : pv_ok P) (hW : W ≤ 99) (hC : C ≤ 22) : tx_n c g m P lf W a C ≤ 128 := by
  unfold tx_n
  by_cases c1 : c = 99
  · rw [if_pos c1]; omega
  · rw [if_neg c1]
    by_cases c2 : c = 115
    · rw [if_pos c2]
      have := bs_nb a (bs_M P) 0
      have := bs_Mb hP
      omega
    · rw [if_neg c2]
      have := (tx_zb (c := c) (m := m) (lf := lf) (v := nt_v c g a) (nd := nt_nd (nt_v c g a) P C) hP hW (nt_ndb hC)).1
      omega
theorem tx_Tc {c : Int32} {g m : Nat} {P : Int32} {lf : Bool} {W : Nat} {a : Int64} {C : Nat} (hc : ar_ch c) (hb : cv_t c ∨ ¬ cv_b c = 0) (j : Nat) : ar_ch (tx_T c g m P lf W a C j) := by
  unfold tx_T
  by_cases c1 : c = 99
  · rw [if_pos c1]; exact ar_cast _
  · rw [if_neg c1]
    by_cases c2 : c = 115
    · rw [if_pos c2]; exact ar_cast _
    · rw [if_neg c2]
      exact nt_Tc hc (hb.elim (fun z => absurd z (fun y => y.elim c1 c2)) id) _ _ _ _ _ _
theorem ev_Wb {f : Nat → Int32} {L p s : Nat} {aa : Nat → Int64} (hr : dr_r f L p = 0) (gw : ev_gw f L aa p s) : ev_W f L aa p s ≤ 99 := by
  unfold ev_W
  by_cases z : dr_wu f L p = -1
  · rw [if_pos z]
    rcases pw_ok (dr_ok hr).2.1 with ⟨_, e, _⟩ | ⟨_, _, _, e⟩
    · have e' : dr_w f L p = 0 := e
      omega
    · exact e
  · rw [if_neg z]
    have h := gw z
    rcases ev_rng h.1 h.2 with ⟨c, k, k1, k2, ek⟩ | ⟨c, k, k2, ek⟩
    · rw [if_pos c, ek, nI_clamp (by omega)]; omega
    · rw [if_neg c, ek, nI_clamp (by omega)]; omega
theorem ev_Pb {f : Nat → Int32} {L p s : Nat} {aa : Nat → Int64} (hr : dr_r f L p = 0) (gp : ev_gp f L aa p s) : pv_ok (ev_P f L aa p s) := by
  unfold ev_P
  by_cases z : dr_pu f L p = -1
  · rw [if_pos z]
    rcases pp_ok (dr_ok hr).2.2.1 with ⟨e, _⟩ | ⟨e, _⟩ | ⟨_, k, hk, e⟩
    · exact Or.inl e
    · exact Or.inl e
    · exact Or.inr ⟨k, hk, e⟩
  · rw [if_neg z]
    have h := gp z
    by_cases c : ev_pv f L aa p s < 0
    · rw [if_pos c]; exact Or.inl rfl
    · rw [if_neg c]
      obtain ⟨k, hk, e⟩ := nI_of2 (x := ev_pv f L aa p s) (M := 99) (n := 99) (by decide) c h
      exact Or.inr ⟨k, hk, e⟩
section
variable {cap xfl xol xil xrm xsp xco xec xat xlt xcu xwu xpu xvu xdc xsu xpo xdl xtl xbu : Int32} {xsv : Int64} {af ao ai ak als ale afl awd apr aws aps avs ali adr atx adg : Nat → Int32} {aa ar : Nat → Int64}
variable {L e p q s t : Nat}
theorem xm_cv {post : SX → Prop} {n C : Nat} (he : e < 64) (hn : n < 2 ^ 20) (hd : tb_dir af L ak afl awd apr aws aps avs e p q s t) (gw : ev_gw af L aa p s) (gp : ev_gp af L aa p s) (hC2 : C ≤ 22)
    (hC : ¬ cv_b (dr_c af L p) = 0 → dt_C (cv_b (dr_c af L p)) (nt_N (dr_c af L p) (nt_v (dr_c af L p) (dr_g af L p) (aa (ev_V af L p s).toNatClampNeg))) C)
    (h : ∀ (W tl : Nat) (T : Nat → Int32), W = ev_W af L aa p s → tl = tx_n (dr_c af L p) (dr_g af L p) (dr_m af L p) (ev_P af L aa p s) (ev_L af L aa p s) W (aa (ev_V af L p s).toNatClampNeg) C → T = tx_T (dr_c af L p) (dr_g af L p) (dr_m af L p) (ev_P af L aa p s) (ev_L af L aa p s) W (aa (ev_V af L p s).toNatClampNeg) C → ∀ (xtl : Int32) (atx adg : Nat → Int32), post (cap, xfl, xol, xil, xrm, xsp, xco, xec, xat, xlt, xcu, xwu, xpu, xvu, xdc, xsu, xpo, nI (n + (W - tl) + tl), xtl, xbu, xsv, af, aa, ao, ai, ar, ak, als, ale, afl, awd, apr, aws, aps, avs, ali, em_o (ev_L af L aa p s) W tl T adr n, atx, adg)) : wpX_draftConversion post (cap, xfl, xol, xil, xrm, xsp, xco, xec, xat, xlt, xcu, xwu, xpu, xvu, xdc, xsu, xpo, nI n, xtl, xbu, xsv, af, aa, ao, ai, ar, ak, als, ale, afl, awd, apr, aws, aps, avs, ali, adr, atx, adg) (nI e) := by
  have hr := hd.2.1
  have hW := ev_Wb hr gw
  have hP := ev_Pb hr gp
  have hcc := cv_255 (tb_cc hd) (tb_gz af L p)
  have hok := (pc_ok (dr_ok hr).2.2.2).2.1
  have h' := h _ _ _ rfl rfl rfl
  have fin : ∀ (adg T' : Nat → Int32) (tl : Nat), tl = tx_n (dr_c af L p) (dr_g af L p) (dr_m af L p) (ev_P af L aa p s) (ev_L af L aa p s) (ev_W af L aa p s) (aa (ev_V af L p s).toNatClampNeg) C → (∀ j, j < tl → T' j = tx_T (dr_c af L p) (dr_g af L p) (dr_m af L p) (ev_P af L aa p s) (ev_L af L aa p s) (ev_W af L aa p s) (aa (ev_V af L p s).toNatClampNeg) C j) → wX_draftConversion_57 post (nI e) cap xfl xol xil xrm xsp xco xec xat xlt xcu xwu xpu xvu xdc xsu xpo (nI n) (nI tl) xbu xsv af aa ao ai ar ak als ale afl awd apr aws aps avs ali adr T' adg := by
    intro adg T' tl et eT
    have hb := tx_nb (c := dr_c af L p) (g := dr_g af L p) (m := dr_m af L p) (lf := ev_L af L aa p s) (a := aa (ev_V af L p s).toNatClampNeg) hP hW hC2
    rw [← et] at hb
    refine xm_57 he hd gw hn hb hW (fun j hj => ?_) ?_
    · rw [eT j hj]
      exact tx_Tc hcc.2.2 hok j
    · have := h' (nI tl) T' adg
      rw [← et] at this
      rw [em_cg eT]
      exact this
  unfold wpX_draftConversion
  refine xm_co he hd ?_
  by_cases c1 : dr_c af L p = 99
  · refine br_t c1 ⟨vp_in_nI he (by decide), xm_va he hd (xm_wc (t := 0) (by omega) (ar_cast _) (fin _ _ 1 (by unfold tx_n; rw [if_pos c1]) (fun j hj => ?_)))⟩
    rw [show j = 0 by omega, ef_xt (by omega), pk_us]
    unfold tx_T
    rw [if_pos c1]
  refine br_f c1 ?_
  by_cases c2 : dr_c af L p = 115
  · have e1 : tx_n (dr_c af L p) (dr_g af L p) (dr_m af L p) (ev_P af L aa p s) (ev_L af L aa p s) (ev_W af L aa p s) (aa (ev_V af L p s).toNatClampNeg) C = bs_n (aa (ev_V af L p s).toNatClampNeg) (bs_M (ev_P af L aa p s)) 0 := by unfold tx_n; rw [if_neg c1, if_pos c2]
    refine br_t c2 (xm_wpt he hd hP (fin _ _ _ e1.symm (fun j hj => ?_)))
    have hb := bs_nb (aa (ev_V af L p s).toNatClampNeg) (bs_M (ev_P af L aa p s)) 0
    have hM := bs_Mb hP
    have := ef_at 128 (bs_c (aa (ev_V af L p s).toNatClampNeg)) atx 0 _ (by omega) j hj
    rw [Nat.zero_add] at this
    rw [this]
    unfold tx_T
    rw [if_neg c1, if_pos c2]
  · have hb : ¬ cv_b (dr_c af L p) = 0 := hok.elim (fun z => absurd z (fun y => y.elim c1 c2)) id
    refine br_f c2 (xm_wn he hd gw hW hP hb (hC hb) hC2 (fun v nd z adg ev en ez => fin adg _ _ ?_ (fun j hj => ?_)))
    · unfold tx_n
      rw [if_neg c1, if_neg c2, ← ev, ← en, ← ez]
    · have hzb := (tx_zb (c := dr_c af L p) (m := dr_m af L p) (lf := ev_L af L aa p s) (W := ev_W af L aa p s) (v := v) (nd := nd) hP hW (by rw [en]; exact nt_ndb hC2)).1
      rw [← ez] at hzb
      have := ef_at 128 (nt_T (dr_c af L p) (dr_m af L p) v (nt_N (dr_c af L p) v) z nd) atx 0 _ (by omega) j hj
      rw [Nat.zero_add] at this
      rw [this]
      unfold tx_T
      rw [if_neg c1, if_neg c2, ← ev, ← en, ← ez]
end
