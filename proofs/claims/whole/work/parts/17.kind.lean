/-! entryKind: the reference walks the format up to the entry -/
section
variable {yfl yil yol ytl ycap ymk yen yac yec ypos yco yde ydp ydw ydq ywd ypr yit ym1 ym2 ym3 ym4 ym5 yws yps ylg ycv ycm ycs ycx ycu ysq ysv ycw ycp ycn : Int32} {bf bi bo btm brv : Nat → Int32} {ba brs : Nat → Int64}
variable {L T E : Nat} {ak als ale afl awd apr aws aps avs ali : Nat → Int32} {pe se : Nat → Nat}
theorem tb_pl {f : Nat → Int32} (h : tb_tab f L T ak als ale afl awd apr aws aps avs ali E pe se) {e : Nat} (he : e < E) (hk : ak e = 0) : cp_pl ak e = 0 := by
  apply cp_pl0
  intro h0 h1
  have := h.2.2.2 (e - 1) (by omega) h1
  rw [show e - 1 + 1 = e by omega] at this
  exact this hk
theorem ym_ek {post : Int32 → SY → Prop} {i : Nat} (hL : L ≤ 64) (hE : E ≤ 64) (hf : ∀ j, ar_ch (bf j)) (hT : tb_tab bf L T ak als ale afl awd apr aws aps avs ali E pe se) (hi : i < E) (hpost : ∀ (yde ydp ydw ydq ywd ypr yit ym1 ym2 ym3 ym4 ym5 yws yps ylg ycv : Int32), post (ak i) (nI L, yil, yol, ytl, ycap, ymk, yen, yac, yec, ypos, yco, yde, ydp, ydw, ydq, ywd, ypr, yit, ym1, ym2, ym3, ym4, ym5, yws, yps, ylg, ycv, ycm, ycs, ycx, ycu, ysq, ysv, ycw, ycp, ycn, bf, bi, bo, btm, brv, ba, brs)) :
    ∀ r e g, e + r = i → g ≤ pe e → ∀ (yde ydp ydw ydq ywd ypr yit ym1 ym2 ym3 ym4 ym5 yws yps ylg ycv : Int32), ∃ n, wY_entryKind_31 post (nI i) n (nI e - 1) (nI (pe e)) (cp_pl ak e) (nI g) (nI L) yil yol ytl ycap ymk yen yac yec ypos yco yde ydp ydw ydq ywd ypr yit ym1 ym2 ym3 ym4 ym5 yws yps ylg ycv ycm ycs ycx ycu ysq ysv ycw ycp ycn bf bi bo btm brv ba brs := by
  intro r
  induction r with
  | zero =>
    intro e g he hg yde ydp ydw ydq ywd ypr yit ym1 ym2 ym3 ym4 ym5 yws yps ylg ycv
    have e0 : e = i := by omega
    subst e0
    have em : nI e - 1 + 1 = nI e := Int32.sub_add_cancel _ _
    rcases hT.2.2.1 e hi with ⟨⟨k0, _, _, s', n, q, _, _, _, n0, r0, r1, rj⟩, _⟩ | ⟨hpc, hr, hq, hrow⟩
    · have h0 := rj 0 n0
      rw [r0] at h0
      have hlt := h0.1
      have hq := it_q h0
      have hp := hpost yde ydp ydw ydq ywd ypr (ali (s' + 0)) ym1 ym2 ym3 ym4 ym5 yws yps ylg ycv
      rw [k0] at hp
      exact ⟨1, br_f (nI_ge (b := 64) (by omega) (by decide)) (br_f (nI_ge hlt (by omega)) (ym_itl hL h0 (br_t (nI_lt hq.1 (by omega)) (br_f (Int32.not_lt.mpr (ar_pos (it_c hf h0))) (br_t (tb_pl hT hi k0) (nm_r em (br_t rfl hp)))))))⟩
    · have hlt := hpc.1
      have hb := dr_b bf hlt
      have hk : dr_k bf L (pe e) < L := (pc_ok (dr_ok hr).2.2.2).1
      refine ⟨1, br_f (nI_ge (b := 64) (by omega) (by decide)) (br_f (nI_ge hlt (by omega)) (ym_itd hL hpc hf (fun z => absurd hr z) (fun _ => br_t (nI_lt (by omega) (by omega)) (br_t (by decide) (nm_r em (br_t rfl ?_))))))⟩
      have k1 := hrow.1
      rw [k1] at hpost
      rcases tb_gz bf L (pe e) with g0 | g0
      · rw [g0] at hpost ⊢
        exact br_t rfl (hpost _ _ _ _ _ _ _ _ _ _ _ _ _ _ _ _)
      · rw [g0] at hpost ⊢
        exact br_f (by decide) (hpost _ _ _ _ _ _ _ _ _ _ _ _ _ _ _ _)
  | succ r ih =>
    intro e g he hg yde ydp ydw ydq ywd ypr yit ym1 ym2 ym3 ym4 ym5 yws yps ylg ycv
    have em : nI e - 1 + 1 = nI e := Int32.sub_add_cancel _ _
    have em' : nI (e + 1) - 1 = nI e := nI_pred e
    have ne : ¬ nI e = nI i := fun z => by
      have := (nI_eq (by omega) (by omega)).mp z
      omega
    rcases hT.2.2.1 e (by omega) with ⟨⟨k0, _, _, s', n, q, _, _, _, n0, r0, r1, rj⟩, _⟩ | ⟨hpc, hr, hq, hrow⟩
    · have pl1 : cp_pl ak (e + 1) = 1 := cp_pl1 (by omega) (by rw [Nat.add_sub_cancel]; exact k0)
      have inner : ∀ t j g, j + t = n → 1 ≤ j → g ≤ q j → ∀ (yde ydp ydw ydq ywd ypr yit ym1 ym2 ym3 ym4 ym5 yws yps ylg ycv : Int32), ∃ m, wY_entryKind_31 post (nI i) m (nI e) (nI (q j)) 1 (nI g) (nI L) yil yol ytl ycap ymk yen yac yec ypos yco yde ydp ydw ydq ywd ypr yit ym1 ym2 ym3 ym4 ym5 yws yps ylg ycv ycm ycs ycx ycu ysq ysv ycw ycp ycn bf bi bo btm brv ba brs := by
        intro t
        induction t with
        | zero =>
          intro j g hj hj1 hg yde ydp ydw ydq ywd ypr yit ym1 ym2 ym3 ym4 ym5 yws yps ylg ycv
          have := ih (e + 1) g (by omega) (by rw [show j = n by omega, r1] at hg; exact hg) yde ydp ydw ydq ywd ypr yit ym1 ym2 ym3 ym4 ym5 yws yps ylg ycv
          rw [pl1, em', ← r1, show n = j by omega] at this
          exact this
        | succ t iht =>
          intro j g hj hj1 hg yde ydp ydw ydq ywd ypr yit ym1 ym2 ym3 ym4 ym5 yws yps ylg ycv
          have h0 := rj j (by omega)
          have hlt := h0.1
          have hq := it_q h0
          obtain ⟨m, hm⟩ := iht (j + 1) (g + 1) (by omega) (by omega) (by omega) yde ydp ydw ydq ywd ypr (ali (s' + j)) ym1 ym2 ym3 ym4 ym5 yws yps ylg ycv
          exact ⟨m + 1, br_f (nI_ge (b := 64) (by omega) (by decide)) (br_f (nI_ge hlt (by omega)) (ym_itl hL h0 (br_t (nI_lt hq.1 (by omega)) (br_f (Int32.not_lt.mpr (ar_pos (it_c hf h0))) (br_f (by decide) (br_f ne (nm_r (nI_1 g) hm)))))))⟩
      have h0 := rj 0 n0
      have hlt := h0.1
      have hq := it_q h0
      obtain ⟨m, hm⟩ := inner (n - 1) 1 (g + 1) (by omega) (by omega) (by have h1 : q 0 < q 1 := hq.1; rw [r0] at h1; omega) yde ydp ydw ydq ywd ypr (ali (s' + 0)) ym1 ym2 ym3 ym4 ym5 yws yps ylg ycv
      rw [r0] at h0 hlt hq
      exact ⟨m + 1, br_f (nI_ge (b := 64) (by omega) (by decide)) (br_f (nI_ge hlt (by omega)) (ym_itl hL h0 (br_t (nI_lt hq.1 (by omega)) (br_f (Int32.not_lt.mpr (ar_pos (it_c hf h0))) (br_t (tb_pl hT (by omega) k0) (nm_r em (br_f ne (nm_r (nI_1 g) hm))))))))⟩
    · have hlt := hpc.1
      have hb := dr_b bf hlt
      have hk : dr_k bf L (pe e) < L := (pc_ok (dr_ok hr).2.2.2).1
      have kz : ¬ ak e = 0 := by rw [hrow.1]; exact tb_kz (pc_ok (dr_ok hr).2.2.2)
      have pl0 : cp_pl ak (e + 1) = 0 := cp_pl0 (fun _ => by rw [Nat.add_sub_cancel]; exact kz)
      obtain ⟨m, hm⟩ := ih (e + 1) (g + 1) (by omega) (by omega) (nI (dr_k bf L (pe e) + 1)) (dr_v bf L (pe e)) (yu_p (dr_wu bf L (pe e))) (yu_p (dr_pu bf L (pe e))) (yu_w (dr_w bf L (pe e))) (dr_p bf L (pe e)) (-1) (nI (dr_m bf L (pe e) % 2)) (nI (dr_m bf L (pe e) / 2 % 2)) (nI (dr_m bf L (pe e) / 4 % 2)) (nI (dr_m bf L (pe e) / 8 % 2)) (nI (dr_m bf L (pe e) / 16 % 2)) (yu_s (dr_wu bf L (pe e))) (yu_s (dr_pu bf L (pe e))) (nI (dr_g bf L (pe e))) (dr_c bf L (pe e))
      rw [pl0, em', hq] at hm
      exact ⟨m + 1, br_f (nI_ge (b := 64) (by omega) (by decide)) (br_f (nI_ge hlt (by omega)) (ym_itd hL hpc hf (fun z => absurd hr z) (fun _ => br_t (nI_lt (by omega) (by omega)) (br_t (by decide) (nm_r em (br_f ne (nm_r (nI_1 g) hm)))))))⟩
end
theorem i_vc_entryKind {k : Nat} {u : SX} {v : SY} (I : i_Rel k u v) (hk : k + 4 ≤ 2049) (v1 : Int32) : wpX_entryKind (fun r => wpY_entryKind (fun r' v' => r' = r ∧ i_Rel (k + 4) u v') v v1) u v1 := by
  refine rl_e (P := fun u v => wpX_entryKind (fun r => wpY_entryKind (fun r' v' => r' = r ∧ i_Rel (k + 4) u v') v v1) u v1) I ?_
  intro C L O N co xrm xsp xec xat xlt xcu xwu xpu xvu xdc xsu xpo xdl xtl xbu xsv af ao ai ak als ale afl awd apr aws aps avs ali adr atx adg aa ar ytl yac yec ypos yde ydp ydw ydq ywd ypr yit ym1 ym2 ym3 ym4 ym5 yws yps ylg ycv ycm ycs ycx ycu ysq ysv ycw ycp ycn brv hB hT
  have hB' := hB
  have hT' := hT
  obtain ⟨B1, B2, B3, B4, B5, B6, B7⟩ := hB
  rcases hT with z | ⟨z, e, E, T, pe, se, e1, e2, hE, hTT, hp, hT⟩
  · subst z; exact br_t rfl (br_t rfl ⟨rfl, rl_i (k + 4) hB' hT'⟩)
  · subst z; subst e1; subst e2
    rcases pk_ix v1 (n := E) (by omega) with h | h | ⟨j, hj, rfl⟩
    · exact br_f (by decide) (br_t h (br_f (by decide) (br_t h ⟨rfl, rl_i (k + 4) hB' hT'⟩)))
    · have h0 : ¬ v1 < 0 := Int32.not_lt.mpr (Int32.le_trans (nI_pos' (n := E) (by omega)) h)
      exact br_f (by decide) (br_f h0 (br_f (Int32.not_lt.mpr h) (br_f (by decide) (br_f h0 (br_f (Int32.not_lt.mpr h) ⟨rfl, rl_i (k + 4) hB' hT'⟩)))))
    · have hl := nI_lt hj (b := E) (by omega)
      have ej : (nI j).toNatClampNeg = j := nI_clamp (by omega)
      refine br_f (by decide) (br_f (nI_pos (by omega)) (br_t hl ⟨vp_in_nI (by omega) (by omega), ?_⟩))
      refine br_f (by decide) (br_f (nI_pos (by omega)) (br_t hl ?_))
      rw [ej]
      have := ym_ek (ytl := ytl) (ypos := ypos) (ycm := ycm) (ycs := ycs) (ycx := ycx) (ycu := ycu) (ysq := ysq) (ysv := ysv) (ycw := ycw) (ycp := ycp) (ycn := ycn) (brv := brv) (post := fun r' v' => r' = ak j ∧ i_Rel (k + 4) (nI C, nI L, nI O, nI N, xrm, xsp, 1, nI E, xat, xlt, xcu, xwu, xpu, xvu, xdc, xsu, xpo, xdl, xtl, xbu, xsv, af, aa, ao, ai, ar, ak, als, ale, afl, awd, apr, aws, aps, avs, ali, adr, atx, adg) v') B2 hE B5 hT hj (fun _ _ _ _ _ _ _ _ _ _ _ _ _ _ _ _ => ⟨rfl, rl_i (k + 4) hB' hT'⟩) j 0 0 (by omega) (by omega) yde ydp ydw ydq ywd ypr yit ym1 ym2 ym3 ym4 ym5 yws yps ylg ycv
      rw [hT.1, cp_pl0 (E := 0) (fun z => absurd z (by omega)), show nI 0 - 1 = -1 by decide] at this
      exact this
