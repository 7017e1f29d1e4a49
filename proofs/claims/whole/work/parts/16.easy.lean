/-! the calls that keep the two in step without a walk of the format -/
theorem i_vc0 (k0 : Int32) : wpX_init (fun u => wpY_init (fun v => i_Rel 1 u v) k0) k0 := by
  have fin : ∀ C : Nat, C ≤ 256 → i_Rel 1 (nI C, 0, 0, 0, 0, 0, 0, 0, 0, 0, 0, 0, 0, 0, 0, 0, 0, 0, 0, 0, 0, (fun _ => 0), (fun _ => 0), (fun _ => 0), (fun _ => 0), (fun _ => 0), (fun _ => 0), (fun _ => 0), (fun _ => 0), (fun _ => 0), (fun _ => 0), (fun _ => 0), (fun _ => 0), (fun _ => 0), (fun _ => 0), (fun _ => 0), (fun _ => 0), (fun _ => 0), (fun _ => 0)) (0, 0, 0, 0, nI C, 0, 0, 0, 0, 0, 0, 0, 0, 0, 0, 0, 0, 0, 0, 0, 0, 0, 0, 0, 0, 0, 0, 0, 0, 0, 0, 0, 0, 0, 0, 0, (fun _ => 0), (fun _ => 0), (fun _ => 0), (fun _ => 0), (fun _ => 0), (fun _ => 0), (fun _ => 0)) := fun C hC =>
    rl_i 1 (C := C) (L := 0) (O := 0) (N := 0) (co := 0) ⟨hC, by omega, by omega, by omega, fun _ => ar_0, fun _ => ar_0, fun _ => ar_0⟩ (Or.inl rfl)
  by_cases h1 : 16 ≤ k0
  · refine br_t h1 ?_
    by_cases h2 : k0 ≤ 256
    · obtain ⟨C, hC, rfl⟩ := nI_of2 (x := k0) (M := 256) (n := 256) (by decide) (Int32.not_lt.mpr (Int32.le_trans (by decide) h1)) h2
      exact br_t h2 (br_t h1 (br_t h2 (fin C hC)))
    · exact br_f h2 (br_t h1 (br_f h2 (fin 256 (by omega))))
  · exact br_f h1 (br_f h1 (fin 16 (by omega)))
theorem i_vc_clearFormat {k : Nat} {u : SX} {v : SY} (I : i_Rel k u v) (hk : k + 4 ≤ 2049) : wpX_clearFormat (fun u' => wpY_clearFormat (fun v' => i_Rel (k + 4) u' v') v) u := by
  refine rl_e (P := fun u v => wpX_clearFormat (fun u' => wpY_clearFormat (fun v' => i_Rel (k + 4) u' v') v) u) I ?_
  intro C L O N co xrm xsp xec xat xlt xcu xwu xpu xvu xdc xsu xpo xdl xtl xbu xsv af ao ai ak als ale afl awd apr aws aps avs ali adr atx adg aa ar ytl yac yec ypos yde ydp ydw ydq ywd ypr yit ym1 ym2 ym3 ym4 ym5 yws yps ylg ycv ycm ycs ycx ycu ysq ysv ycw ycp ycn brv hB hT
  show i_Rel (k + 4) (nI C, nI 0, nI O, nI N, xrm, xsp, 0, xec, xat, xlt, xcu, xwu, xpu, xvu, xdc, xsu, xpo, xdl, xtl, xbu, xsv, af, aa, ao, ai, ar, ak, als, ale, afl, awd, apr, aws, aps, avs, ali, adr, atx, adg) (nI 0, nI N, nI O, ytl, nI C, xrm, xsp, yac, yec, ypos, 0, yde, ydp, ydw, ydq, ywd, ypr, yit, ym1, ym2, ym3, ym4, ym5, yws, yps, ylg, ycv, ycm, ycs, ycx, ycu, ysq, ysv, ycw, ycp, ycn, af, ai, ao, adr, brv, aa, ar)
  exact rl_i (k + 4) ⟨hB.1, by omega, hB.2.2⟩ (Or.inl rfl)
theorem i_vc_putFormatChar {k : Nat} {u : SX} {v : SY} (I : i_Rel k u v) (hk : k + 4 ≤ 2049) (v1 : Int32) : wpX_putFormatChar (fun r u' => wpY_putFormatChar (fun r' v' => r' = r ∧ i_Rel (k + 4) u' v') v (lw_u16 v1)) u (lw_u16 v1) := by
  refine rl_e (P := fun u v => wpX_putFormatChar (fun r u' => wpY_putFormatChar (fun r' v' => r' = r ∧ i_Rel (k + 4) u' v') v (lw_u16 v1)) u (lw_u16 v1)) I ?_
  intro C L O N co xrm xsp xec xat xlt xcu xwu xpu xvu xdc xsu xpo xdl xtl xbu xsv af ao ai ak als ale afl awd apr aws aps avs ali adr atx adg aa ar ytl yac yec ypos yde ydp ydw ydq ywd ypr yit ym1 ym2 ym3 ym4 ym5 yws yps ylg ycv ycm ycs ycx ycu ysq ysv ycw ycp ycn brv hB hT
  obtain ⟨B1, B2, B3, B4, B5, B6, B7⟩ := id hB
  have hc : ar_ch (lw_u16 v1) := ar_cast v1
  have e : (nI L).toNatClampNeg = L := nI_clamp (by omega)
  refine pk_lt L 64 (fun h => ?_) (fun h => ?_)
  · have vi : vp_in (nI L) 64 := vp_in_nI h (by decide)
    refine ⟨vi, nm_r (e' := upd af L (lw_u16 v1)) (by rw [e, ar_nar hc]) (nm_r (nI_1 L) ?_)⟩
    refine br_t (nI_lt (b := 64) h (by decide)) ⟨vi, nm_r (e' := upd af L (lw_u16 v1)) (by rw [e, ar_nar hc]) (nm_r (nI_1 L) ⟨rfl, ?_⟩)⟩
    exact rl_i (k + 4) ⟨B1, by omega, B3, B4, ar_chu B5 hc, B6, B7⟩ (Or.inl rfl)
  · exact br_f (nI_nlt (b := 64) h (by omega)) ⟨rfl, rl_i (k + 4) hB hT⟩
theorem i_vc_argCount {k : Nat} {u : SX} {v : SY} (I : i_Rel k u v) (hk : k + 4 ≤ 2049) : wpX_argCount (fun r => wpY_argCount (fun r' => r' = r ∧ i_Rel (k + 4) u v) v) u := by
  refine rl_e (P := fun u v => wpX_argCount (fun r => wpY_argCount (fun r' => r' = r ∧ i_Rel (k + 4) u v) v) u) I ?_
  intro C L O N co xrm xsp xec xat xlt xcu xwu xpu xvu xdc xsu xpo xdl xtl xbu xsv af ao ai ak als ale afl awd apr aws aps avs ali adr atx adg aa ar ytl yac yec ypos yde ydp ydw ydq ywd ypr yit ym1 ym2 ym3 ym4 ym5 yws yps ylg ycv ycm ycs ycx ycu ysq ysv ycw ycp ycn brv hB hT
  rcases id hT with z | ⟨z, e, _⟩
  · subst z; exact br_t rfl (br_t rfl ⟨rfl, rl_i (k + 4) hB hT⟩)
  · subst z; exact br_f (by decide) (br_f (by decide) ⟨e, rl_i (k + 4) hB hT⟩)
theorem i_vc_setArg {k : Nat} {u : SX} {v : SY} (I : i_Rel k u v) (hk : k + 4 ≤ 2049) (v1 : Int32) (a1 : Int64) : wpX_setArg (fun r u' => wpY_setArg (fun r' v' => r' = r ∧ i_Rel (k + 4) u' v') v v1 a1) u v1 a1 := by
  refine rl_e (P := fun u v => wpX_setArg (fun r u' => wpY_setArg (fun r' v' => r' = r ∧ i_Rel (k + 4) u' v') v v1 a1) u v1 a1) I ?_
  intro C L O N co xrm xsp xec xat xlt xcu xwu xpu xvu xdc xsu xpo xdl xtl xbu xsv af ao ai ak als ale afl awd apr aws aps avs ali adr atx adg aa ar ytl yac yec ypos yde ydp ydw ydq ywd ypr yit ym1 ym2 ym3 ym4 ym5 yws yps ylg ycv ycm ycs ycx ycu ysq ysv ycw ycp ycn brv hB hT
  rcases pk_ix v1 (n := 8) (by decide) with h | h | ⟨j, hj, rfl⟩
  · exact br_t h (br_t h ⟨rfl, rl_i (k + 4) hB hT⟩)
  · have h' : (8 : Int32) ≤ v1 := h
    have h0 : ¬ v1 < 0 := Int32.not_lt.mpr (Int32.le_trans (by decide) h')
    have h7 : ¬ v1 ≤ 7 := by
      intro z
      exact absurd (Int32.le_trans h' z) (by decide)
    exact br_f h0 (br_f (Int32.not_lt.mpr h') (br_f h0 (br_f h7 ⟨rfl, rl_i (k + 4) hB hT⟩)))
  · have vi : vp_in (nI j) 8 := vp_in_nI hj (by decide)
    exact br_f (nI_pos (by omega)) (br_t (nI_lt (b := 8) hj (by decide)) ⟨vi, nm_e (br_f (nI_pos (by omega)) (br_t (nI_le (b := 7) (by omega) (by decide)) ⟨vi, nm_e ⟨rfl, rl_i (k + 4) hB hT⟩⟩))⟩)
theorem i_vc_outLength {k : Nat} {u : SX} {v : SY} (I : i_Rel k u v) (hk : k + 4 ≤ 2049) : wpX_outLength (fun r => wpY_outLength (fun r' => r' = r ∧ i_Rel (k + 4) u v) v) u := by
  refine rl_e (P := fun u v => wpX_outLength (fun r => wpY_outLength (fun r' => r' = r ∧ i_Rel (k + 4) u v) v) u) I ?_
  intro C L O N co xrm xsp xec xat xlt xcu xwu xpu xvu xdc xsu xpo xdl xtl xbu xsv af ao ai ak als ale afl awd apr aws aps avs ali adr atx adg aa ar ytl yac yec ypos yde ydp ydw ydq ywd ypr yit ym1 ym2 ym3 ym4 ym5 yws yps ylg ycv ycm ycs ycx ycu ysq ysv ycw ycp ycn brv hB hT
  exact ⟨rfl, rl_i (k + 4) hB hT⟩
theorem i_vc_outChar {k : Nat} {u : SX} {v : SY} (I : i_Rel k u v) (hk : k + 4 ≤ 2049) (v1 : Int32) : wpX_outChar (fun r => wpY_outChar (fun r' => r' = r ∧ i_Rel (k + 4) u v) v v1) u v1 := by
  refine rl_e (P := fun u v => wpX_outChar (fun r => wpY_outChar (fun r' => r' = r ∧ i_Rel (k + 4) u v) v v1) u v1) I ?_
  intro C L O N co xrm xsp xec xat xlt xcu xwu xpu xvu xdc xsu xpo xdl xtl xbu xsv af ao ai ak als ale afl awd apr aws aps avs ali adr atx adg aa ar ytl yac yec ypos yde ydp ydw ydq ywd ypr yit ym1 ym2 ym3 ym4 ym5 yws yps ylg ycv ycm ycs ycx ycu ysq ysv ycw ycp ycn brv hB hT
  obtain ⟨B1, B2, B3, B4, B5, B6, B7⟩ := id hB
  rcases pk_ix v1 (n := O) (by omega) with h | h | ⟨j, hj, rfl⟩
  · exact br_t h (br_t h ⟨rfl, rl_i (k + 4) hB hT⟩)
  · have h0 : ¬ v1 < 0 := Int32.not_lt.mpr (Int32.le_trans (nI_pos' (n := O) (by omega)) h)
    exact br_f h0 (br_f (Int32.not_lt.mpr h) (br_f h0 (br_t h ⟨rfl, rl_i (k + 4) hB hT⟩)))
  · have vi : vp_in (nI j) 256 := vp_in_nI (by omega) (by decide)
    exact br_f (nI_pos (by omega)) (br_t (nI_lt hj (by omega)) ⟨vi, ar_narw (B6 _), br_f (nI_pos (by omega)) (br_f (nI_ge hj (by omega)) ⟨vi, ar_narw (B6 _), rfl, rl_i (k + 4) hB hT⟩)⟩)
theorem i_vc_clearInput {k : Nat} {u : SX} {v : SY} (I : i_Rel k u v) (hk : k + 4 ≤ 2049) : wpX_clearInput (fun u' => wpY_clearInput (fun v' => i_Rel (k + 4) u' v') v) u := by
  refine rl_e (P := fun u v => wpX_clearInput (fun u' => wpY_clearInput (fun v' => i_Rel (k + 4) u' v') v) u) I ?_
  intro C L O N co xrm xsp xec xat xlt xcu xwu xpu xvu xdc xsu xpo xdl xtl xbu xsv af ao ai ak als ale afl awd apr aws aps avs ali adr atx adg aa ar ytl yac yec ypos yde ydp ydw ydq ywd ypr yit ym1 ym2 ym3 ym4 ym5 yws yps ylg ycv ycm ycs ycx ycu ysq ysv ycw ycp ycn brv hB hT
  show i_Rel (k + 4) (nI C, nI L, nI O, nI 0, xrm, xsp, co, xec, xat, xlt, xcu, xwu, xpu, xvu, xdc, xsu, xpo, xdl, xtl, xbu, xsv, af, aa, ao, ai, ar, ak, als, ale, afl, awd, apr, aws, aps, avs, ali, adr, atx, adg) (nI L, nI 0, nI O, ytl, nI C, xrm, xsp, yac, yec, ypos, co, yde, ydp, ydw, ydq, ywd, ypr, yit, ym1, ym2, ym3, ym4, ym5, yws, yps, ylg, ycv, ycm, ycs, ycx, ycu, ysq, ysv, ycw, ycp, ycn, af, ai, ao, adr, brv, aa, ar)
  exact rl_i (k + 4) ⟨hB.1, hB.2.1, hB.2.2.1, by omega, hB.2.2.2.2⟩ hT
theorem i_vc_putInputChar {k : Nat} {u : SX} {v : SY} (I : i_Rel k u v) (hk : k + 4 ≤ 2049) (v1 : Int32) : wpX_putInputChar (fun r u' => wpY_putInputChar (fun r' v' => r' = r ∧ i_Rel (k + 4) u' v') v (lw_u16 v1)) u (lw_u16 v1) := by
  refine rl_e (P := fun u v => wpX_putInputChar (fun r u' => wpY_putInputChar (fun r' v' => r' = r ∧ i_Rel (k + 4) u' v') v (lw_u16 v1)) u (lw_u16 v1)) I ?_
  intro C L O N co xrm xsp xec xat xlt xcu xwu xpu xvu xdc xsu xpo xdl xtl xbu xsv af ao ai ak als ale afl awd apr aws aps avs ali adr atx adg aa ar ytl yac yec ypos yde ydp ydw ydq ywd ypr yit ym1 ym2 ym3 ym4 ym5 yws yps ylg ycv ycm ycs ycx ycu ysq ysv ycw ycp ycn brv hB hT
  obtain ⟨B1, B2, B3, B4, B5, B6, B7⟩ := id hB
  refine pk_lt N 256 (fun h => ?_) (fun h => ?_)
  · have vi : vp_in (nI N) 256 := vp_in_nI h (by decide)
    refine ⟨vi, nm_e (nm_r (nI_1 N) ?_)⟩
    exact br_t (nI_lt (b := 256) h (by decide)) ⟨vi, nm_e (nm_r (nI_1 N) ⟨rfl, rl_i (k + 4) ⟨B1, B2, B3, by omega, B5, B6, B7⟩ hT⟩)⟩
  · exact br_f (nI_nlt (b := 256) h (by omega)) ⟨rfl, rl_i (k + 4) hB hT⟩
theorem i_vc_scanned {k : Nat} {u : SX} {v : SY} (I : i_Rel k u v) (hk : k + 4 ≤ 2049) (v1 : Int32) : wpX_scanned (fun r => wpY_scanned (fun r' => r' = r ∧ i_Rel (k + 4) u v) v v1) u v1 := by
  refine rl_e (P := fun u v => wpX_scanned (fun r => wpY_scanned (fun r' => r' = r ∧ i_Rel (k + 4) u v) v v1) u v1) I ?_
  intro C L O N co xrm xsp xec xat xlt xcu xwu xpu xvu xdc xsu xpo xdl xtl xbu xsv af ao ai ak als ale afl awd apr aws aps avs ali adr atx adg aa ar ytl yac yec ypos yde ydp ydw ydq ywd ypr yit ym1 ym2 ym3 ym4 ym5 yws yps ylg ycv ycm ycs ycx ycu ysq ysv ycw ycp ycn brv hB hT
  rcases pk_ix v1 (n := 8) (by decide) with h | h | ⟨j, hj, rfl⟩
  · exact br_t h (br_t h ⟨rfl, rl_i (k + 4) hB hT⟩)
  · have h' : (8 : Int32) ≤ v1 := h
    have h0 : ¬ v1 < 0 := Int32.not_lt.mpr (Int32.le_trans (by decide) h')
    exact br_f h0 (br_f (Int32.not_lt.mpr h') (br_f h0 (br_t h' ⟨rfl, rl_i (k + 4) hB hT⟩)))
  · have vi : vp_in (nI j) 8 := vp_in_nI hj (by decide)
    exact br_f (nI_pos (by omega)) (br_t (nI_lt (b := 8) hj (by decide)) ⟨vi, br_f (nI_pos (by omega)) (br_f (nI_ge (b := 8) hj (by decide)) ⟨vi, rfl, rl_i (k + 4) hB hT⟩)⟩)
theorem i_vc_scanMask {k : Nat} {u : SX} {v : SY} (I : i_Rel k u v) (hk : k + 4 ≤ 2049) : wpX_scanMask (fun r => wpY_scanMask (fun r' => r' = r ∧ i_Rel (k + 4) u v) v) u := by
  refine rl_e (P := fun u v => wpX_scanMask (fun r => wpY_scanMask (fun r' => r' = r ∧ i_Rel (k + 4) u v) v) u) I ?_
  intro C L O N co xrm xsp xec xat xlt xcu xwu xpu xvu xdc xsu xpo xdl xtl xbu xsv af ao ai ak als ale afl awd apr aws aps avs ali adr atx adg aa ar ytl yac yec ypos yde ydp ydw ydq ywd ypr yit ym1 ym2 ym3 ym4 ym5 yws yps ylg ycv ycm ycs ycx ycu ysq ysv ycw ycp ycn brv hB hT
  exact ⟨rfl, rl_i (k + 4) hB hT⟩
theorem i_vc_scanEnd {k : Nat} {u : SX} {v : SY} (I : i_Rel k u v) (hk : k + 4 ≤ 2049) : wpX_scanEnd (fun r => wpY_scanEnd (fun r' => r' = r ∧ i_Rel (k + 4) u v) v) u := by
  refine rl_e (P := fun u v => wpX_scanEnd (fun r => wpY_scanEnd (fun r' => r' = r ∧ i_Rel (k + 4) u v) v) u) I ?_
  intro C L O N co xrm xsp xec xat xlt xcu xwu xpu xvu xdc xsu xpo xdl xtl xbu xsv af ao ai ak als ale afl awd apr aws aps avs ali adr atx adg aa ar ytl yac yec ypos yde ydp ydw ydq ywd ypr yit ym1 ym2 ym3 ym4 ym5 yws yps ylg ycv ycm ycs ycx ycu ysq ysv ycw ycp ycn brv hB hT
  exact ⟨rfl, rl_i (k + 4) hB hT⟩
section
variable {cap xfl xol xil xrm xsp xco xec xat xlt xcu xwu xpu xvu xdc xsu xpo xdl xtl xbu : Int32} {xsv : Int64} {af ao ai ak als ale afl awd apr aws aps avs ali adr atx adg : Nat → Int32} {aa ar : Nat → Int64}
theorem xm_cp {post : Int32 → SX → Prop} {O : Nat} (hO : O ≤ 256) (hc : ∀ j, ar_ch (ao j)) (h : post (nI O) (cap, xfl, nI O, nI O, xrm, xsp, xco, xec, xat, xlt, xcu, xwu, xpu, xvu, xdc, xsu, xpo, xdl, xtl, xbu, xsv, af, aa, ao, ef_f 256 ao ai 0 O, ar, ak, als, ale, afl, awd, apr, aws, aps, avs, ali, adr, atx, adg)) : ∀ r i, i + r = O → wX_copyOutputToInput_2 post cap xfl (nI O) xil xrm xsp xco xec xat xlt xcu xwu xpu xvu xdc xsu xpo xdl xtl xbu xsv (r + 1) (nI i) af aa ao (ef_f 256 ao ai 0 i) ar ak als ale afl awd apr aws aps avs ali adr atx adg := by
  intro r
  induction r with
  | zero =>
    intro i hi
    have e : i = O := by omega
    subst e
    exact br_t (nI_le (by omega) (by omega)) h
  | succ r ih =>
    intro i hi
    have e : (nI i).toNatClampNeg = i := nI_clamp (by omega)
    have vi : vp_in (nI i) 256 := vp_in_nI (by omega) (by omega)
    refine br_f (nI_ge (by omega) (by omega)) ⟨vi, vi, nm_r (e' := ef_f 256 ao ai 0 (i + 1)) ?_ (nm_r (nI_1 i) (ih (i + 1) (by omega)))⟩
    rw [e, ar_nar (hc i)]
    show _ = ef_x 256 (ef_f 256 ao ai 0 i) (0 + i) (ao i)
    unfold ef_x
    rw [if_pos (by omega), Nat.zero_add]
end
section
variable {yfl yil yol ytl ycap ymk yen yac yec ypos yco yde ydp ydw ydq ywd ypr yit ym1 ym2 ym3 ym4 ym5 yws yps ylg ycv ycm ycs ycx ycu ysq ysv ycw ycp ycn : Int32} {bf bi bo btm brv : Nat → Int32} {ba brs : Nat → Int64}
theorem ym_cp {post : Int32 → SY → Prop} {O : Nat} (hO : O ≤ 256) (hc : ∀ j, ar_ch (bo j)) (h : post (nI O) (yfl, nI O, nI O, ytl, ycap, ymk, yen, yac, yec, ypos, yco, yde, ydp, ydw, ydq, ywd, ypr, yit, ym1, ym2, ym3, ym4, ym5, yws, yps, ylg, ycv, ycm, ycs, ycx, ycu, ysq, ysv, ycw, ycp, ycn, bf, ef_f 256 bo bi 0 O, bo, btm, brv, ba, brs)) : ∀ r i, i + r = O → wY_copyOutputToInput_2 post yfl yil (nI O) ytl ycap ymk yen yac yec ypos yco yde ydp ydw ydq ywd ypr yit ym1 ym2 ym3 ym4 ym5 yws yps ylg ycv ycm ycs ycx ycu ysq ysv ycw ycp ycn (r + 1) (nI i) bf (ef_f 256 bo bi 0 i) bo btm brv ba brs := by
  intro r
  induction r with
  | zero =>
    intro i hi
    have e : i = O := by omega
    subst e
    exact br_t (nI_le (by omega) (by omega)) h
  | succ r ih =>
    intro i hi
    have e : (nI i).toNatClampNeg = i := nI_clamp (by omega)
    have vi : vp_in (nI i) 256 := vp_in_nI (by omega) (by omega)
    refine br_f (nI_ge (by omega) (by omega)) (br_f (nI_ge (b := 256) (by omega) (by decide)) ⟨vi, vi, nm_r (e' := ef_f 256 bo bi 0 (i + 1)) ?_ (nm_r (nI_1 i) (ih (i + 1) (by omega)))⟩)
    rw [e, ar_nar (hc i)]
    show _ = ef_x 256 (ef_f 256 bo bi 0 i) (0 + i) (bo i)
    unfold ef_x
    rw [if_pos (by omega), Nat.zero_add]
end
theorem i_vc_copyOutputToInput {k : Nat} {u : SX} {v : SY} (I : i_Rel k u v) (hk : k + 4 ≤ 2049) : wpX_copyOutputToInput (fun r u' => wpY_copyOutputToInput (fun r' v' => r' = r ∧ i_Rel (k + 4) u' v') v) u := by
  refine rl_e (P := fun u v => wpX_copyOutputToInput (fun r u' => wpY_copyOutputToInput (fun r' v' => r' = r ∧ i_Rel (k + 4) u' v') v) u) I ?_
  intro C L O N co xrm xsp xec xat xlt xcu xwu xpu xvu xdc xsu xpo xdl xtl xbu xsv af ao ai ak als ale afl awd apr aws aps avs ali adr atx adg aa ar ytl yac yec ypos yde ydp ydw ydq ywd ypr yit ym1 ym2 ym3 ym4 ym5 yws yps ylg ycv ycm ycs ycx ycu ysq ysv ycw ycp ycn brv hB hT
  obtain ⟨B1, B2, B3, B4, B5, B6, B7⟩ := id hB
  refine ⟨O + 1, xm_cp B3 B6 ?_ O 0 (by omega)⟩
  refine ⟨O + 1, ym_cp B3 B6 ?_ O 0 (by omega)⟩
  exact ⟨rfl, rl_i (k + 4) ⟨B1, B2, B3, B3, B5, B6, B7⟩ hT⟩
