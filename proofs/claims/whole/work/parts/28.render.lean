/-! render: both walk in step -/
section
variable {cap xfl xol xil xrm xsp xco xec xat xlt xcu xwu xpu xvu xdc xsu xpo xdl xtl xbu : Int32} {xsv : Int64} {af ao ai ak als ale afl awd apr aws aps avs ali adr atx adg : Nat → Int32} {aa ar : Nat → Int64}
theorem xm_79 {post : Int32 → SX → Prop} {n : Nat} (hn : n ≤ 256) (hc : ∀ j, ar_ch (adr j)) (h : post (nI n) (cap, xfl, nI n, xil, xrm, xsp, xco, xec, xat, xlt, xcu, xwu, xpu, xvu, xdc, xsu, xpo, nI n, xtl, xbu, xsv, af, aa, ef_f 256 adr ao 0 n, ai, ar, ak, als, ale, afl, awd, apr, aws, aps, avs, ali, adr, atx, adg)) : ∀ r i, i + r = n → wX_render_79 post cap xfl xol xil xrm xsp xco xec xat xlt xcu xwu xpu xvu xdc xsu xpo (nI n) xtl xbu xsv (r + 1) (nI i) af aa (ef_f 256 adr ao 0 i) ai ar ak als ale afl awd apr aws aps avs ali adr atx adg := by
  intro r
  induction r with
  | zero =>
    intro i hi
    have e : i = n := by omega
    subst e
    exact br_t (nI_le (by omega) (by omega)) h
  | succ r ih =>
    intro i hi
    have e : (nI i).toNatClampNeg = i := nI_clamp (by omega)
    have vi : vp_in (nI i) 256 := vp_in_nI (by omega) (by omega)
    refine br_f (nI_ge (by omega) (by omega)) ⟨vi, vi, nm_r (e' := ef_f 256 adr ao 0 (i + 1)) ?_ (nm_r (nI_1 i) (ih (i + 1) (by omega)))⟩
    rw [e, ar_nar (hc i)]
    show _ = ef_x 256 (ef_f 256 adr ao 0 i) (0 + i) (adr i)
    rw [Nat.zero_add, ef_xt (by omega)]
end
section
variable {yfl yil yol ytl ycap ymk yen yac yec ypos yco yde ydp ydw ydq ywd ypr yit ym1 ym2 ym3 ym4 ym5 yws yps ylg ycv ycm ycs ycx ycu ysq ysv ycw ycp ycn : Int32} {bf bi bo btm brv : Nat → Int32} {ba brs : Nat → Int64}
theorem ym_114 {post : Int32 → SY → Prop} {n : Nat} (hn : n ≤ 256) (hc : ∀ j, ar_ch (btm j)) (h : post (nI n) (yfl, yil, nI n, nI n, ycap, ymk, yen, yac, yec, ypos, yco, yde, ydp, ydw, ydq, ywd, ypr, yit, ym1, ym2, ym3, ym4, ym5, yws, yps, ylg, ycv, ycm, ycs, ycx, ycu, ysq, ysv, ycw, ycp, ycn, bf, bi, ef_f 256 btm bo 0 n, btm, brv, ba, brs)) : ∀ r i, i + r = n → wY_render_114 post yfl yil yol (nI n) ycap ymk yen yac yec ypos yco yde ydp ydw ydq ywd ypr yit ym1 ym2 ym3 ym4 ym5 yws yps ylg ycv ycm ycs ycx ycu ysq ysv ycw ycp ycn (r + 1) (nI i) bf bi (ef_f 256 btm bo 0 i) btm brv ba brs := by
  intro r
  induction r with
  | zero =>
    intro i hi
    have e : i = n := by omega
    subst e
    exact br_t (nI_le (by omega) (by omega)) h
  | succ r ih =>
    intro i hi
    have e : (nI i).toNatClampNeg = i := nI_clamp (by omega)
    have vi : vp_in (nI i) 256 := vp_in_nI (by omega) (by omega)
    refine br_f (nI_ge (by omega) (by omega)) (br_f (nI_ge (b := 256) (by omega) (by decide)) ⟨vi, vi, nm_r (e' := ef_f 256 btm bo 0 (i + 1)) ?_ (nm_r (nI_1 i) (ih (i + 1) (by omega)))⟩)
    rw [e, ar_nar (hc i)]
    show _ = ef_x 256 (ef_f 256 btm bo 0 i) (0 + i) (btm i)
    rw [Nat.zero_add, ef_xt (by omega)]
end
section
variable {C L O N E T : Nat} {xrm xsp xat xlt xcu xwu xpu xvu xdc xsu xpo xbu yac ypos ycm ycs ycx ycu : Int32} {xsv : Int64} {af ao ai ak als ale afl awd apr aws aps avs ali : Nat → Int32} {aa ar : Nat → Int64} {pe se : Nat → Nat}
theorem rd_lit (hL : L ≤ 64) (hf : ∀ j, ar_ch (af j)) (G : (Int32 → SY → Prop) → Prop) {e s' cnt : Nat} {q : Nat → Nat} (he : e < 64) (hs : s' + cnt ≤ 64) (h2 : ale e = nI (s' + cnt)) (rj : ∀ j, j < cnt → it_lit af L (q j) (ali (s' + j)) (q (j + 1))) (sq : Nat) (P : SX → Prop) (n0 : Nat) (hn0 : n0 < 2 ^ 20) (xtl : Int32) (atx adg : Nat → Int32)
    (hP : ∀ (adr : Nat → Int32) (n g : Nat), (∀ j, ar_ch (adr j)) → n ≤ n0 + cnt → g ≤ q cnt → (∀ post : Int32 → SY → Prop, (∃ m, ∀ (yde ydp ydw ydq ywd ypr yit ym1 ym2 ym3 ym4 ym5 yws yps ylg ycv ysv ycw ycp ycn : Int32) (brv : Nat → Int32), wY_render_34 post m (nI (q cnt)) (nI g) (nI L) (nI N) (nI O) (nI n) (nI C) xrm xsp yac (nI E) ypos 1 yde ydp ydw ydq ywd ypr yit ym1 ym2 ym3 ym4 ym5 yws yps ylg ycv ycm ycs ycx ycu (nI sq) ysv ycw ycp ycn af ai ao adr brv aa ar) → G post) → P (nI C, nI L, nI O, nI N, xrm, xsp, 1, nI E, xat, xlt, xcu, xwu, xpu, xvu, xdc, xsu, xpo, nI n, xtl, xbu, xsv, af, aa, ao, ai, ar, ak, als, ale, afl, awd, apr, aws, aps, avs, ali, adr, atx, adg)) :
    ∀ t j (adr : Nat → Int32) (n g : Nat), j + t = cnt → (∀ i, ar_ch (adr i)) → n ≤ n0 + j → g ≤ q j → (∀ post : Int32 → SY → Prop, (∃ m, ∀ (yde ydp ydw ydq ywd ypr yit ym1 ym2 ym3 ym4 ym5 yws yps ylg ycv ysv ycw ycp ycn : Int32) (brv : Nat → Int32), wY_render_34 post m (nI (q j)) (nI g) (nI L) (nI N) (nI O) (nI n) (nI C) xrm xsp yac (nI E) ypos 1 yde ydp ydw ydq ywd ypr yit ym1 ym2 ym3 ym4 ym5 yws yps ylg ycv ycm ycs ycx ycu (nI sq) ysv ycw ycp ycn af ai ao adr brv aa ar) → G post) → wX_draftLiteral_7 P (nI e) (t + 1) (nI (s' + j)) (nI C) (nI L) (nI O) (nI N) xrm xsp 1 (nI E) xat xlt xcu xwu xpu xvu xdc xsu xpo (nI n) xtl xbu xsv af aa ao ai ar ak als ale afl awd apr aws aps avs ali adr atx adg := by
  intro t
  induction t with
  | zero =>
    intro j adr n g hj hc hn hg H
    have e1 : j = cnt := by omega
    subst e1
    exact ⟨vp_in_nI he (by decide), br_t (by rw [nI_clamp (by omega), h2]; exact nI_le (Nat.le_refl _) (by omega)) (hP adr n g hc hn hg H)⟩
  | succ t ih =>
    intro j adr n g hj hc hn hg H
    have hi := rj j (by omega)
    have hlt := hi.1
    have hq := it_q hi
    have hch := it_c hf hi
    refine ⟨vp_in_nI he (by decide), br_f (by rw [nI_clamp (by omega), h2]; exact nI_ge (by omega) (by omega)) ⟨vp_in_nI (by omega) (by omega), xm_dc (ali (s' + j)) (by rw [nI_clamp (by omega)]) (by omega) hch (nm_r (nI_1 (s' + j)) ?_)⟩⟩
    refine ih (j + 1) _ (n + 1) (g + 1) (by omega) (ef_xc 256 hc hch) (by omega) (by omega) ?_
    intro post hm
    obtain ⟨m, hm⟩ := hm
    refine H post ⟨m + 1, ?_⟩
    intro yde ydp ydw ydq ywd ypr yit ym1 ym2 ym3 ym4 ym5 yws yps ylg ycv ysv ycw ycp ycn brv
    exact br_f (nI_ge (b := 64) (by omega) (by decide)) (br_f (nI_ge hlt (by omega)) (ym_itl hL hi (br_t (nI_lt hq.1 (by omega)) (br_f (Int32.not_lt.mpr (ar_pos hch)) (ym_em (ali (s' + j)) (ar_castI hch) (by omega) hch (nm_r (nI_1 g) (hm _ _ _ _ _ _ _ _ _ _ _ _ _ _ _ _ _ _ _ _ _)))))))
theorem rd_lp (k : Nat) (hB1 : C ≤ 256) (hL : L ≤ 64) (hO : O ≤ 256) (hN : N ≤ 256) (hf : ∀ j, ar_ch (af j)) (ho : ∀ j, ar_ch (ao j)) (hE : E ≤ 64) (hT64 : T ≤ 64) (hp : pe E = L) (hT : tb_tab af L T ak als ale afl awd apr aws aps avs ali E pe se) (hRT : rl_T L 1 (nI E) xat yac (nI E) af ak als ale afl awd apr aws aps avs ali) (good : ∀ e, e < E → sg_w aa (aws e) ∧ sg_p aa (aps e)) (G : (Int32 → SY → Prop) → Prop) :
    ∀ r e n g (xtl : Int32) (adr atx adg : Nat → Int32), e + r = E → g ≤ pe e → n ≤ 300 * e → (∀ j, ar_ch (adr j)) →
    (∀ post : Int32 → SY → Prop, (∃ m, ∀ (yde ydp ydw ydq ywd ypr yit ym1 ym2 ym3 ym4 ym5 yws yps ylg ycv ysv ycw ycp ycn : Int32) (brv : Nat → Int32), wY_render_34 post m (nI (pe e)) (nI g) (nI L) (nI N) (nI O) (nI n) (nI C) xrm xsp yac (nI E) ypos 1 yde ydp ydw ydq ywd ypr yit ym1 ym2 ym3 ym4 ym5 yws yps ylg ycv ycm ycs ycx ycu (nI (se e)) ysv ycw ycp ycn af ai ao adr brv aa ar) → G post) →
    wX_render_27 (fun r u' => G (fun r' v' => r' = r ∧ i_Rel k u' v')) (r + 1) (nI e) (nI C) (nI L) (nI O) (nI N) xrm xsp 1 (nI E) xat xlt xcu xwu xpu xvu xdc xsu xpo (nI n) xtl xbu xsv af aa ao ai ar ak als ale afl awd apr aws aps avs ali adr atx adg := by
  intro r
  induction r with
  | zero =>
    intro e n g xtl adr atx adg he hg hn hc H
    have e0 : E = e := by omega
    subst e0
    rw [hp] at hg H
    refine br_t (nI_le (by omega) (by omega)) (pk_le n C (fun a => ?_) (fun a => ?_))
    · refine ⟨n + 1, xm_79 (by omega) hc (H _ ⟨1, ?_⟩) n 0 (by omega)⟩
      intro yde ydp ydw ydq ywd ypr yit ym1 ym2 ym3 ym4 ym5 yws yps ylg ycv ysv ycw ycp ycn brv
      have k98 : wY_render_98 (fun r' v' => r' = nI n ∧ i_Rel k (nI C, nI L, nI n, nI N, xrm, xsp, 1, nI E, xat, xlt, xcu, xwu, xpu, xvu, xdc, xsu, xpo, nI n, xtl, xbu, xsv, af, aa, ef_f 256 adr ao 0 n, ai, ar, ak, als, ale, afl, awd, apr, aws, aps, avs, ali, adr, atx, adg) v') (nI L) (nI N) (nI O) (nI n) (nI C) xrm xsp yac (nI E) ypos 1 yde ydp ydw ydq ywd ypr yit ym1 ym2 ym3 ym4 ym5 yws yps ylg ycv ycm ycs ycx ycu (nI (se E)) ysv ycw ycp ycn af ai ao adr brv aa ar := by
        refine br_t (nI_le a (by omega)) ⟨n + 1, ym_114 (by omega) hc ⟨rfl, ?_⟩ n 0 (by omega)⟩
        exact rl_i k ⟨hB1, hL, by omega, hN, hf, ef_ch 256 0 ho n (fun j _ => hc j), hc⟩ hRT
      exact pk_le 64 g (fun _ => k98) (fun _ => br_t (nI_le (Nat.le_refl _) (by omega)) k98)
    · refine H _ ⟨1, ?_⟩
      intro yde ydp ydw ydq ywd ypr yit ym1 ym2 ym3 ym4 ym5 yws yps ylg ycv ysv ycw ycp ycn brv
      have k98 : wY_render_98 (fun r' v' => r' = (-8) ∧ i_Rel k (nI C, nI L, nI O, nI N, xrm, xsp, 1, nI E, xat, xlt, xcu, xwu, xpu, xvu, xdc, xsu, xpo, nI n, xtl, xbu, xsv, af, aa, ao, ai, ar, ak, als, ale, afl, awd, apr, aws, aps, avs, ali, adr, atx, adg) v') (nI L) (nI N) (nI O) (nI n) (nI C) xrm xsp yac (nI E) ypos 1 yde ydp ydw ydq ywd ypr yit ym1 ym2 ym3 ym4 ym5 yws yps ylg ycv ycm ycs ycx ycu (nI (se E)) ysv ycw ycp ycn af ai ao adr brv aa ar := br_f (nI_ge a (by omega)) ⟨rfl, rl_i k ⟨hB1, hL, hO, hN, hf, ho, hc⟩ hRT⟩
      exact pk_le 64 g (fun _ => k98) (fun _ => br_t (nI_le (Nat.le_refl _) (by omega)) k98)
  | succ r ih =>
    intro e n g xtl adr atx adg he hg hn hc H
    have ve : vp_in (nI e) 64 := vp_in_nI (by omega) (by omega)
    have ee : (nI e).toNatClampNeg = e := nI_clamp (by omega)
    refine br_f (nI_ge (by omega) (by omega)) ⟨ve, ?_⟩
    rcases hT.2.2.1 e (by omega) with ⟨⟨k0, w0, p0, s', cnt, q, h1, h2, h3, n0, r0, r1, rj⟩, es⟩ | hd
    · refine br_t (by rw [ee]; exact k0) ⟨ve, nm_r (e' := nI s') (by rw [ee]; exact h1) ⟨cnt + 1, ?_⟩⟩
      refine rd_lit hL hf G (by omega) (by omega) h2 rj (se e) _ n (by omega) xtl atx adg ?_ cnt 0 adr n g (by omega) hc (by omega) (by rw [r0]; exact hg) (by rw [r0]; exact H)
      intro adr n' g hc' hn' hg' H'
      rw [r1] at hg' H'
      rw [← es] at H'
      exact nm_r (nI_1 e) (ih (e + 1) n' g _ _ _ _ (by omega) hg' (by omega) hc' H')
    · obtain ⟨g1, g2⟩ := tb_good (aa := aa) hd
      have gd := good e (by omega)
      have gw := g1.mp gd.1
      have gp := g2.mp gd.2
      have hd' := hd
      obtain ⟨hpc, hr, hq, hrow⟩ := hd
      have hlt := hpc.1
      have hb := dr_b af hlt
      have hk : dr_k af L (pe e) < L := (pc_ok (dr_ok hr).2.2.2).1
      have kz : ¬ ak e = 0 := by rw [hrow.1]; exact tb_kz (pc_ok (dr_ok hr).2.2.2)
      have et := hrow.2.2.2.2.2.2.2.1
      have e8 := (tb_s8 hd').1
      have hok := (pc_ok (dr_ok hr).2.2.2).2.1
      have hcc := cv_255 (tb_cc hd') (tb_gz af L (pe e))
      have hW := ev_Wb hr gw
      have hP := ev_Pb hr gp
      obtain ⟨j, hj, ej⟩ := sl_in (dr_us hr).2.2 e8
      have ejV : ev_V af L (pe e) (se e) = nI j := ej
      obtain ⟨Cd, hC2, hC⟩ : ∃ Cd, Cd ≤ 22 ∧ (¬ cv_b (dr_c af L (pe e)) = 0 → dt_C (cv_b (dr_c af L (pe e))) (nt_N (dr_c af L (pe e)) (nt_v (dr_c af L (pe e)) (dr_g af L (pe e)) (aa j))) Cd) := by
        by_cases z : cv_b (dr_c af L (pe e)) = 0
        · exact ⟨1, by omega, fun y => absurd z y⟩
        · obtain ⟨Cd, a, b⟩ := dt_ex (b := cv_b (dr_c af L (pe e))) (N := nt_N (dr_c af L (pe e)) (nt_v (dr_c af L (pe e)) (dr_g af L (pe e)) (aa j))) (by rcases cv_b16 (dr_c af L (pe e)) with q | q | q | q <;> omega) (nt_Nb _ _)
          exact ⟨Cd, b, fun _ => a⟩
      have eja : aa (ev_V af L (pe e) (se e)).toNatClampNeg = aa j := by rw [ejV, nI_clamp (by omega)]
      refine br_f (by rw [ee]; exact kz) (xm_cv (C := Cd) (by omega) (by omega) hd' gw gp hC2 (by rw [eja]; exact hC) ?_)
      intro W tl T' eW etl eT xtl' atx' adg'
      rw [eja] at etl eT
      rw [← eW] at hW
      have htl : tl ≤ 128 := by rw [etl]; exact tx_nb hP hW hC2
      refine nm_r (nI_1 e) (ih (e + 1) (n + (W - tl) + tl) (g + 1) _ _ _ _ (by omega) (by omega) (by omega) (em_ch hc (fun j _ => by rw [eT]; exact tx_Tc hcc.2.2 hok j)) ?_)
      intro post hm
      obtain ⟨m, hm⟩ := hm
      rw [hq, et] at hm
      refine H post ⟨m + 1, ?_⟩
      intro yde ydp ydw ydq ywd ypr yit ym1 ym2 ym3 ym4 ym5 yws yps ylg ycv ysv ycw ycp ycn brv
      refine br_f (nI_ge (b := 64) (by omega) (by decide)) (br_f (nI_ge hlt (by omega)) (ym_itd hL hpc hf (fun z => absurd hr z) (fun _ => br_t (nI_lt (by omega) (by omega)) (br_t (by decide) (ym_st hr e8 (fun z => absurd ⟨gw, gp⟩ z) (fun _ _ => ?_))))))
      rw [ejV]
      refine ym_rd (lf := ev_L af L aa (pe e) (se e)) hj (by omega) (by rw [← eW]; exact hW) (tb_gz af L (pe e)) hcc.2.2 hok hP hC2 hC (fun brv => ?_)
      rw [← eW, ← etl, ← eT]
      exact nm_r (nI_1 g) (hm _ _ _ _ _ _ _ _ _ _ _ _ _ _ _ _ _ _ _ _ _)
end
section
variable {yfl yil yol ytl ycap ymk yen yac yec ypos yco yde ydp ydw ydq ywd ypr yit ym1 ym2 ym3 ym4 ym5 yws yps ylg ycv ycm ycs ycx ycu ysq ysv ycw ycp ycn : Int32} {bf bi bo btm brv : Nat → Int32} {ba brs : Nat → Int64}
variable {L T E : Nat} {ak als ale afl awd apr aws aps avs ali : Nat → Int32} {pe se : Nat → Nat}
theorem ym_ck {post : Int32 → SY → Prop} (hL : L ≤ 64) (hE : E ≤ 64) (hf : ∀ j, ar_ch (bf j)) (hT : tb_tab bf L T ak als ale afl awd apr aws aps avs ali E pe se) (hp : pe E = L)
    (h1 : (∀ e, e < E → sg_w ba (aws e) ∧ sg_p ba (aps e)) → ∀ (yde ydp ydw ydq ywd ypr yit ym1 ym2 ym3 ym4 ym5 yws yps ylg ycv : Int32) (ysq ysv ycw ycp ycn : Int32), post 0 (nI L, yil, yol, ytl, ycap, ymk, yen, yac, yec, ypos, yco, yde, ydp, ydw, ydq, ywd, ypr, yit, ym1, ym2, ym3, ym4, ym5, yws, yps, ylg, ycv, ycm, ycs, ycx, ycu, ysq, ysv, ycw, ycp, ycn, bf, bi, bo, btm, brv, ba, brs))
    (h0 : ∀ e0, e0 < E → ¬ (sg_w ba (aws e0) ∧ sg_p ba (aps e0)) → ∀ (yde ydp ydw ydq ywd ypr yit ym1 ym2 ym3 ym4 ym5 yws yps ylg ycv : Int32) (ysq ysv ycw ycp ycn : Int32), post (-5) (nI L, yil, yol, ytl, ycap, ymk, yen, yac, yec, ypos, yco, yde, ydp, ydw, ydq, ywd, ypr, yit, ym1, ym2, ym3, ym4, ym5, yws, yps, ylg, ycv, ycm, ycs, ycx, ycu, ysq, ysv, ycw, ycp, ycn, bf, bi, bo, btm, brv, ba, brs)) : wpY_checkStars post (nI L, yil, yol, ytl, ycap, ymk, yen, yac, yec, ypos, yco, yde, ydp, ydw, ydq, ywd, ypr, yit, ym1, ym2, ym3, ym4, ym5, yws, yps, ylg, ycv, ycm, ycs, ycx, ycu, ysq, ysv, ycw, ycp, ycn, bf, bi, bo, btm, brv, ba, brs) := by
  have k := ym_cs (post := post) hL hE hf hT hp h1 (fun e0 a b _ => h0 e0 a b) E 0 0 (by omega) (by omega) (fun e he => absurd he (by omega)) yde ydp ydw ydq ywd ypr yit ym1 ym2 ym3 ym4 ym5 yws yps ylg ycv ysv ycw ycp ycn
  rw [hT.1, hT.2.1] at k
  exact k
end
theorem i_vc_render {k : Nat} {u : SX} {v : SY} (I : i_Rel k u v) (hk : k + 4 ≤ 2049) : wpX_render (fun r u' => wpY_render (fun r' v' => r' = r ∧ i_Rel (k + 4) u' v') v) u := by
  refine rl_e (P := fun u v => wpX_render (fun r u' => wpY_render (fun r' v' => r' = r ∧ i_Rel (k + 4) u' v') v) u) I ?_
  intro C L O N co xrm xsp xec xat xlt xcu xwu xpu xvu xdc xsu xpo xdl xtl xbu xsv af ao ai ak als ale afl awd apr aws aps avs ali adr atx adg aa ar ytl yac yec ypos yde ydp ydw ydq ywd ypr yit ym1 ym2 ym3 ym4 ym5 yws yps ylg ycv ycm ycs ycx ycu ysq ysv ycw ycp ycn brv hB hT
  have hB' := hB
  have hT' := hT
  obtain ⟨B1, B2, B3, B4, B5, B6, B7⟩ := hB
  rcases hT with z | ⟨z, e, E, T, pe, se, e1, e2, hE, hTT, hp, hT⟩
  · subst z; exact br_t rfl (br_t rfl ⟨rfl, rl_i (k + 4) hB' hT'⟩)
  · subst z; subst e1; subst e2
    refine br_f (by decide) (xm_sg hE (fun e he => tb_slots (hT.2.2.1 e he)) (fun good => br_f (by decide) ?_) (fun e0 he0 hbad hless => br_t rfl (br_f (by decide) ?_)))
    · refine ⟨E + 1, rd_lp (ypos := ypos) (ycm := ycm) (ycs := ycs) (ycx := ycx) (ycu := ycu) (k + 4) B1 B2 B3 B4 B5 B6 hE hTT hp hT hT' good (fun post => wpY_render post (nI L, nI N, nI O, ytl, nI C, xrm, xsp, yac, nI E, ypos, 1, yde, ydp, ydw, ydq, ywd, ypr, yit, ym1, ym2, ym3, ym4, ym5, yws, yps, ylg, ycv, ycm, ycs, ycx, ycu, ysq, ysv, ycw, ycp, ycn, af, ai, ao, adr, brv, aa, ar)) E 0 0 0 xtl adr atx adg (by omega) (by omega) (by omega) B7 ?_⟩
      intro post hm
      obtain ⟨m, hm⟩ := hm
      rw [hT.1, hT.2.1] at hm
      refine br_f (by decide) (ym_ck B2 hE B5 hT hp (fun _ => ?_) (fun e0 a b => absurd (good e0 a) b))
      intro yde ydp ydw ydq ywd ypr yit ym1 ym2 ym3 ym4 ym5 yws yps ylg ycv ysq ysv ycw ycp ycn
      exact br_t rfl ⟨m, hm _ _ _ _ _ _ _ _ _ _ _ _ _ _ _ _ _ _ _ _ _⟩
    · refine ym_ck B2 hE B5 hT hp (fun good => absurd (good e0 he0) hbad) (fun _ _ _ => ?_)
      intro yde ydp ydw ydq ywd ypr yit ym1 ym2 ym3 ym4 ym5 yws yps ylg ycv ysq ysv ycw ycp ycn
      exact br_f (by decide) ⟨rfl, rl_i (k + 4) hB' hT'⟩
