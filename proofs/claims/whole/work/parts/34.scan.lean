/-! scan: both walk in step -/
section
variable {yfl yil yol ytl ycap ymk yen yac yec ypos yco yde ydp ydw ydq ywd ypr yit ym1 ym2 ym3 ym4 ym5 yws yps ylg ycv ycm ycs ycx ycu ysq ysv ycw ycp ycn : Int32} {bf bi bo btm brv : Nat → Int32} {ba brs : Nat → Int64}
theorem ym_sl {post : Int32 → SY → Prop} {N p : Nat} {c : Int32} (c' : Int32) (ec : c = c') (hN : N ≤ 256) (hp : p ≤ N) (hw : sk_w c' → post 1 (yfl, nI N, yol, ytl, ycap, ymk, yen, yac, yec, nI (sc_1 bi N p), yco, yde, ydp, ydw, ydq, ywd, ypr, yit, ym1, ym2, ym3, ym4, ym5, yws, yps, ylg, ycv, ycm, ycs, ycx, ycu, ysq, ysv, ycw, ycp, ycn, bf, bi, bo, btm, brv, ba, brs)) (hm : ¬ sk_w c' → p < N → bi p = c' → post 1 (yfl, nI N, yol, ytl, ycap, ymk, yen, yac, yec, nI (p + 1), yco, yde, ydp, ydw, ydq, ywd, ypr, yit, ym1, ym2, ym3, ym4, ym5, yws, yps, ylg, ycv, ycm, ycs, ycx, ycu, ysq, ysv, ycw, ycp, ycn, bf, bi, bo, btm, brv, ba, brs))
    (h0 : ¬ sk_w c' → ¬ (p < N ∧ bi p = c') → post 0 (yfl, nI N, yol, ytl, ycap, ymk, yen, yac, yec, nI p, yco, yde, ydp, ydw, ydq, ywd, ypr, yit, ym1, ym2, ym3, ym4, ym5, yws, yps, ylg, ycv, ycm, ycs, ycx, ycu, ysq, ysv, ycw, ycp, ycn, bf, bi, bo, btm, brv, ba, brs)) : wpY_scanLit post (yfl, nI N, yol, ytl, ycap, ymk, yen, yac, yec, nI p, yco, yde, ydp, ydw, ydq, ywd, ypr, yit, ym1, ym2, ym3, ym4, ym5, yws, yps, ylg, ycv, ycm, ycs, ycx, ycu, ysq, ysv, ycw, ycp, ycn, bf, bi, bo, btm, brv, ba, brs) c := by
  subst ec
  unfold wpY_scanLit
  refine ym_ws c rfl (fun w => br_f (by decide) (ym_sw hN hp (hw w))) (fun w => br_t rfl (pk_le N p (fun a => h0 w (fun z => by omega)) (fun a => ⟨vp_in_nI (by omega) (by omega), wk_if (d := bi p = c) (by rw [nI_clamp (by omega)]) (fun b => nm_r (nI_1 p) (hm w a b)) (fun b => h0 w (fun z => b z.2))⟩)))
theorem ym_37 {post : Int32 → SY → Prop} (h : ∃ n, wY_scan_62 post n 0 0 0 yfl yil yol ytl ycap ymk yen yac yec ypos yco yde ydp ydw ydq ywd ypr yit ym1 ym2 ym3 ym4 ym5 yws yps ylg ycv ycm ycs ycx ycu ysq ysv ycw ycp ycn bf bi bo btm brv ba (cl_f brs 8)) : ∃ n, wY_scan_37 post yfl yil yol ytl ycap ymk yen yac yec ypos yco yde ydp ydw ydq ywd ypr yit ym1 ym2 ym3 ym4 ym5 yws yps ylg ycv ycm ycs ycx ycu ysq ysv ycw ycp ycn n 0 bf bi bo btm brv ba brs := by
  have lo : ∀ r i, i + r = 8 → wY_scan_37 post yfl yil yol ytl ycap ymk yen yac yec ypos yco yde ydp ydw ydq ywd ypr yit ym1 ym2 ym3 ym4 ym5 yws yps ylg ycv ycm ycs ycx ycu ysq ysv ycw ycp ycn (r + 1) (nI i) bf bi bo btm brv ba (cl_f brs i) := by
    intro r
    induction r with
    | zero =>
      intro i hi
      have e : i = 8 := by omega
      subst e
      exact br_t (by decide) h
    | succ r ih =>
      intro i hi
      exact br_f (nI_ge (b := 8) (by omega) (by decide)) ⟨vp_in_nI (by omega) (by decide), nm_r (e' := cl_f brs (i + 1)) (by rw [nI_clamp (by omega)]; rfl) (nm_r (nI_1 i) (ih (i + 1) (by omega)))⟩
  exact ⟨9, lo 8 0 rfl⟩
end
section
variable {C L O N E T : Nat} {xat xlt xcu xwu xpu xvu xdc xsu xpo xdl xtl ytl ye0 yac ycm ycs ycx ycu : Int32} {af ao ai adr atx adg ak als ale afl awd apr aws aps avs ali : Nat → Int32} {aa : Nat → Int64} {pe se : Nat → Nat}
theorem sm_lit (hL : L ≤ 64) (hN : N ≤ 256) (hf : ∀ j, ar_ch (af j)) (G : (Int32 → SY → Prop) → Prop) {e s' cnt : Nat} {q : Nat → Nat} (he : e < 64) (hs : s' + cnt ≤ 64) (h2 : ale e = nI (s' + cnt)) (rj : ∀ j, j < cnt → it_lit af L (q j) (ali (s' + j)) (q (j + 1))) (sq : Nat) (P : Int32 → SX → Prop) (ct mk xbu : Int32) (xsv : Int64) (rs : Nat → Int64)
    (hP1 : ∀ pos g : Nat, pos ≤ N → g ≤ q cnt → (∀ post : Int32 → SY → Prop, (∃ m, ∀ (yde ydp ydw ydq ywd ypr yit ym1 ym2 ym3 ym4 ym5 yws yps ylg ycv ysv ycw ycp ycn : Int32) (brv : Nat → Int32), wY_scan_62 post m ct (nI (q cnt)) (nI g) (nI L) (nI N) (nI O) ytl (nI C) mk ye0 yac (nI E) (nI pos) 1 yde ydp ydw ydq ywd ypr yit ym1 ym2 ym3 ym4 ym5 yws yps ylg ycv ycm ycs ycx ycu (nI sq) ysv ycw ycp ycn af ai ao adr brv aa rs) → G post) → P 1 (nI C, nI L, nI O, nI N, mk, nI pos, 1, nI E, xat, xlt, xcu, xwu, xpu, xvu, xdc, xsu, xpo, xdl, xtl, xbu, xsv, af, aa, ao, ai, rs, ak, als, ale, afl, awd, apr, aws, aps, avs, ali, adr, atx, adg))
    (hP0 : ∀ pos : Nat, pos ≤ N → (∀ post : Int32 → SY → Prop, (∀ (yde ydp ydw ydq ywd ypr yit ym1 ym2 ym3 ym4 ym5 yws yps ylg ycv ysv ycw ycp ycn : Int32) (brv : Nat → Int32), post ct (nI L, nI N, nI O, ytl, nI C, mk, nI pos, yac, nI E, nI pos, 1, yde, ydp, ydw, ydq, ywd, ypr, yit, ym1, ym2, ym3, ym4, ym5, yws, yps, ylg, ycv, ycm, ycs, ycx, ycu, nI sq, ysv, ycw, ycp, ycn, af, ai, ao, adr, brv, aa, rs)) → G post) → P 0 (nI C, nI L, nI O, nI N, mk, nI pos, 1, nI E, xat, xlt, xcu, xwu, xpu, xvu, xdc, xsu, xpo, xdl, xtl, xbu, xsv, af, aa, ao, ai, rs, ak, als, ale, afl, awd, apr, aws, aps, avs, ali, adr, atx, adg)) :
    ∀ t j (pos g : Nat), j + t = cnt → pos ≤ N → g ≤ q j → (∀ post : Int32 → SY → Prop, (∃ m, ∀ (yde ydp ydw ydq ywd ypr yit ym1 ym2 ym3 ym4 ym5 yws yps ylg ycv ysv ycw ycp ycn : Int32) (brv : Nat → Int32), wY_scan_62 post m ct (nI (q j)) (nI g) (nI L) (nI N) (nI O) ytl (nI C) mk ye0 yac (nI E) (nI pos) 1 yde ydp ydw ydq ywd ypr yit ym1 ym2 ym3 ym4 ym5 yws yps ylg ycv ycm ycs ycx ycu (nI sq) ysv ycw ycp ycn af ai ao adr brv aa rs) → G post) → wX_matchLiteral_7 P (nI e) (t + 1) (nI (s' + j)) (nI C) (nI L) (nI O) (nI N) mk (nI pos) 1 (nI E) xat xlt xcu xwu xpu xvu xdc xsu xpo xdl xtl xbu xsv af aa ao ai rs ak als ale afl awd apr aws aps avs ali adr atx adg := by
  intro t
  induction t with
  | zero =>
    intro j pos g hj hpos hg H
    have e1 : j = cnt := by omega
    subst e1
    exact ⟨vp_in_nI he (by decide), br_t (by rw [nI_clamp (by omega), h2]; exact nI_le (Nat.le_refl _) (by omega)) (hP1 pos g hpos hg H)⟩
  | succ t ih =>
    intro j pos g hj hpos hg H
    have hi := rj j (by omega)
    have hlt := hi.1
    have hq := it_q hi
    have hch := it_c hf hi
    have n64 : ¬ (64 : Int32) ≤ nI g := nI_ge (b := 64) (by omega) (by decide)
    have nL : ¬ nI L ≤ nI (q j) := nI_ge hlt (by omega)
    have hs1 := sc_1b ai hpos
    have es : (nI (s' + j)).toNatClampNeg = s' + j := nI_clamp (by omega)
    have vs : vp_in (nI (s' + j)) 64 := vp_in_nI (by omega) (by omega)
    refine ⟨vp_in_nI he (by decide), br_f (by rw [nI_clamp (by omega), h2]; exact nI_ge (by omega) (by omega)) ⟨vs, xm_ws (ali (s' + j)) (by rw [es]) (fun w => br_f (by decide) (xm_sw hN hpos (nm_r (nI_1 (s' + j)) ?_))) (fun w => br_t rfl ?_)⟩⟩
    · refine ih (j + 1) (sc_1 ai N pos) (g + 1) (by omega) hs1.2 (by omega) ?_
      intro post hm
      obtain ⟨m, hm⟩ := hm
      refine H post ⟨m + 1, ?_⟩
      intro yde ydp ydw ydq ywd ypr yit ym1 ym2 ym3 ym4 ym5 yws yps ylg ycv ysv ycw ycp ycn brv
      exact br_f n64 (br_f nL (ym_itl hL hi (br_t (nI_lt hq.1 (by omega)) (br_f (Int32.not_lt.mpr (ar_pos hch)) (ym_sl (ali (s' + j)) (ar_castI hch) hN hpos (fun _ => br_f (by decide) (nm_r (nI_1 g) (hm _ _ _ _ _ _ _ _ _ _ _ _ _ _ _ _ _ _ _ _ _))) (fun z => absurd w z) (fun z => absurd w z))))))
    · have fail : ¬ (pos < N ∧ ai pos = ali (s' + j)) → P 0 (nI C, nI L, nI O, nI N, mk, nI pos, 1, nI E, xat, xlt, xcu, xwu, xpu, xvu, xdc, xsu, xpo, xdl, xtl, xbu, xsv, af, aa, ao, ai, rs, ak, als, ale, afl, awd, apr, aws, aps, avs, ali, adr, atx, adg) := by
        intro z
        refine hP0 pos hpos (fun post hm => H post ⟨1, ?_⟩)
        intro yde ydp ydw ydq ywd ypr yit ym1 ym2 ym3 ym4 ym5 yws yps ylg ycv ysv ycw ycp ycn brv
        exact br_f n64 (br_f nL (ym_itl hL hi (br_t (nI_lt hq.1 (by omega)) (br_f (Int32.not_lt.mpr (ar_pos hch)) (ym_sl (ali (s' + j)) (ar_castI hch) hN hpos (fun y => absurd y w) (fun _ a b => absurd ⟨a, b⟩ z) (fun _ _ => br_t rfl (hm _ _ _ _ _ _ _ _ _ _ _ _ _ _ _ _ _ _ _ _ _)))))))
      refine pk_le N pos (fun a => fail (fun z => by omega)) (fun a => ⟨vp_in_nI (by omega) (by omega), vs, wk_if (d := ai pos = ali (s' + j)) (by rw [nI_clamp (by omega), es]) (fun b => nm_r (nI_1 pos) (nm_r (nI_1 (s' + j)) ?_)) (fun b => fail (fun z => b z.2))⟩)
      refine ih (j + 1) (pos + 1) (g + 1) (by omega) (by omega) (by omega) ?_
      intro post hm
      obtain ⟨m, hm⟩ := hm
      refine H post ⟨m + 1, ?_⟩
      intro yde ydp ydw ydq ywd ypr yit ym1 ym2 ym3 ym4 ym5 yws yps ylg ycv ysv ycw ycp ycn brv
      exact br_f n64 (br_f nL (ym_itl hL hi (br_t (nI_lt hq.1 (by omega)) (br_f (Int32.not_lt.mpr (ar_pos hch)) (ym_sl (ali (s' + j)) (ar_castI hch) hN hpos (fun y => absurd y w) (fun _ _ _ => br_f (by decide) (nm_r (nI_1 g) (hm _ _ _ _ _ _ _ _ _ _ _ _ _ _ _ _ _ _ _ _ _))) (fun _ z => absurd ⟨a, b⟩ z))))))
theorem sm_lp (k : Nat) (hB : rl_B C L O N af ao adr) (hE : E ≤ 64) (hT64 : T ≤ 64) (hp : pe E = L) (hT : tb_tab af L T ak als ale afl awd apr aws aps avs ali E pe se) (hRT : rl_T L 1 (nI E) xat yac (nI E) af ak als ale afl awd apr aws aps avs ali) (good : ∀ e, e < E → sg_w aa (aws e) ∧ sg_p aa (aps e)) (G : (Int32 → SY → Prop) → Prop) :
    ∀ r e ct g pos (mk xbu : Int32) (xsv : Int64) (rs : Nat → Int64), e + r = E → g ≤ pe e → pos ≤ N →
    (∀ post : Int32 → SY → Prop, (∃ m, ∀ (yde ydp ydw ydq ywd ypr yit ym1 ym2 ym3 ym4 ym5 yws yps ylg ycv ysv ycw ycp ycn : Int32) (brv : Nat → Int32), wY_scan_62 post m (nI ct) (nI (pe e)) (nI g) (nI L) (nI N) (nI O) ytl (nI C) mk ye0 yac (nI E) (nI pos) 1 yde ydp ydw ydq ywd ypr yit ym1 ym2 ym3 ym4 ym5 yws yps ylg ycv ycm ycs ycx ycu (nI (se e)) ysv ycw ycp ycn af ai ao adr brv aa rs) → G post) →
    wX_scan_30 (fun r u' => G (fun r' v' => r' = r ∧ i_Rel k u' v')) (r + 1) (nI ct) 1 (nI e) (nI C) (nI L) (nI O) (nI N) mk (nI pos) 1 (nI E) xat xlt xcu xwu xpu xvu xdc xsu xpo xdl xtl xbu xsv af aa ao ai rs ak als ale afl awd apr aws aps avs ali adr atx adg := by
  have hB' := hB
  obtain ⟨hB1, hL, hO, hN, hf, ho, hc⟩ := hB
  intro r
  induction r with
  | zero =>
    intro e ct g pos mk xbu xsv rs he hg hpos H
    have e0 : E = e := by omega
    subst e0
    rw [hp] at hg H
    refine br_t (nI_le (by omega) (by omega)) (H _ ⟨1, ?_⟩)
    intro yde ydp ydw ydq ywd ypr yit ym1 ym2 ym3 ym4 ym5 yws yps ylg ycv ysv ycw ycp ycn brv
    have fin : (fun r' v' => r' = nI ct ∧ i_Rel k (nI C, nI L, nI O, nI N, mk, nI pos, 1, nI E, xat, xlt, xcu, xwu, xpu, xvu, xdc, xsu, xpo, xdl, xtl, xbu, xsv, af, aa, ao, ai, rs, ak, als, ale, afl, awd, apr, aws, aps, avs, ali, adr, atx, adg) v') (nI ct) (nI L, nI N, nI O, ytl, nI C, mk, nI pos, yac, nI E, nI pos, 1, yde, ydp, ydw, ydq, ywd, ypr, yit, ym1, ym2, ym3, ym4, ym5, yws, yps, ylg, ycv, ycm, ycs, ycx, ycu, nI (se E), ysv, ycw, ycp, ycn, af, ai, ao, adr, brv, aa, rs) := ⟨rfl, rl_i k hB' hRT⟩
    exact pk_le 64 g (fun _ => fin) (fun _ => br_t (nI_le (Nat.le_refl _) (by omega)) fin)
  | succ r ih =>
    intro e ct g pos mk xbu xsv rs he hg hpos H
    have ve : vp_in (nI e) 64 := vp_in_nI (by omega) (by omega)
    have ee : (nI e).toNatClampNeg = e := nI_clamp (by omega)
    -- behind a failure the loop only ends
    have over : ∀ (pos : Nat) (mk xbu : Int32) (xsv : Int64) (rs : Nat → Int64) (ysq : Int32), (∀ post : Int32 → SY → Prop, (∀ (yde ydp ydw ydq ywd ypr yit ym1 ym2 ym3 ym4 ym5 yws yps ylg ycv ysv ycw ycp ycn : Int32) (brv : Nat → Int32), post (nI ct) (nI L, nI N, nI O, ytl, nI C, mk, nI pos, yac, nI E, nI pos, 1, yde, ydp, ydw, ydq, ywd, ypr, yit, ym1, ym2, ym3, ym4, ym5, yws, yps, ylg, ycv, ycm, ycs, ycx, ycu, ysq, ysv, ycw, ycp, ycn, af, ai, ao, adr, brv, aa, rs)) → G post) → wX_scan_30 (fun r u' => G (fun r' v' => r' = r ∧ i_Rel k u' v')) (r + 1) (nI ct) 0 (nI (e + 1)) (nI C) (nI L) (nI O) (nI N) mk (nI pos) 1 (nI E) xat xlt xcu xwu xpu xvu xdc xsu xpo xdl xtl xbu xsv af aa ao ai rs ak als ale afl awd apr aws aps avs ali adr atx adg := by
      intro pos mk xbu xsv rs ysq H'
      have hp : G (fun r' v' => r' = nI ct ∧ i_Rel k (nI C, nI L, nI O, nI N, mk, nI pos, 1, nI E, xat, xlt, xcu, xwu, xpu, xvu, xdc, xsu, xpo, xdl, xtl, xbu, xsv, af, aa, ao, ai, rs, ak, als, ale, afl, awd, apr, aws, aps, avs, ali, adr, atx, adg) v') := by
        refine H' _ ?_
        intro yde ydp ydw ydq ywd ypr yit ym1 ym2 ym3 ym4 ym5 yws yps ylg ycv ysv ycw ycp ycn brv
        exact ⟨rfl, rl_i k hB' hRT⟩
      exact ⟨fun _ => hp, fun _ => br_t rfl hp⟩
    refine br_f (nI_ge (by omega) (by omega)) (br_f (by decide) ⟨ve, ?_⟩)
    rcases hT.2.2.1 e (by omega) with ⟨⟨k0, w0, p0, s', cnt, q, h1, h2, h3, n0, r0, r1, rj⟩, es⟩ | hd
    · refine br_t (by rw [ee]; exact k0) ⟨ve, nm_r (e' := nI s') (by rw [ee]; exact h1) ⟨cnt + 1, ?_⟩⟩
      refine sm_lit hL hN hf G (by omega) (by omega) h2 rj (se e) _ (nI ct) mk xbu xsv rs (fun pos' g' hpos' hg' H' => ?_) (fun pos' hpos' H' => ?_) cnt 0 pos g (by omega) hpos (by rw [r0]; exact hg) (by rw [r0]; exact H)
      · rw [r1] at hg' H'
        rw [← es] at H'
        exact nm_r (nI_1 e) (ih (e + 1) ct g' pos' mk _ _ rs (by omega) hg' hpos' H')
      · exact nm_r (nI_1 e) (over pos' mk _ _ rs _ H')
    · obtain ⟨g1, g2⟩ := tb_good (aa := aa) hd
      have gd := good e (by omega)
      have gw := g1.mp gd.1
      have gp := g2.mp gd.2
      have hd' := hd
      obtain ⟨hpc, hr, hq, hrow⟩ := hd
      have hlt := hpc.1
      have hb := dr_b af hlt
      have hk : dr_k af L (pe e) < L := (pc_ok (dr_ok hr).2.2.2).1
      have kz : ¬ ak e = 0 := by rw [hrow.1]; exact tb_kz (pc_ok (dr_ok hr).2.2.2)
      have et := hrow.2.2.2.2.2.2.2.1
      have e8 := (tb_s8 hd').1
      have hok := (pc_ok (dr_ok hr).2.2.2).2.1
      have hW := ev_Wb hr gw
      obtain ⟨j, hj, ej⟩ := sl_in (dr_us hr).2.2 e8
      have ejV : ev_V af L (pe e) (se e) = nI j := ej
      have n64 : ¬ (64 : Int32) ≤ nI g := nI_ge (b := 64) (by omega) (by decide)
      have nL : ¬ nI L ≤ nI (pe e) := nI_ge hlt (by omega)
      refine br_f (by rw [ee]; exact kz) (xm_scv (by omega) hd' gw hN hpos hj ejV (fun ok xbu xsv => ?_) (fun nok xbu xsv => ?_))
      · refine br_f (by decide) (nm_r (nI_1 ct) (nm_r (nI_1 e) (ih (e + 1) (ct + 1) (g + 1) (sc_E (dr_c af L (pe e)) (ev_W af L aa (pe e) (se e)) ai N pos) _ _ _ _ (by omega) (by omega) (sc_Eb hpos ok) ?_)))
        intro post hm
        obtain ⟨m, hm⟩ := hm
        rw [hq, et] at hm
        refine H post ⟨m + 1, ?_⟩
        intro yde ydp ydw ydq ywd ypr yit ym1 ym2 ym3 ym4 ym5 yws yps ylg ycv ysv ycw ycp ycn brv
        refine br_f n64 (br_f nL (ym_itd hL hpc hf (fun z => absurd hr z) (fun _ => br_t (nI_lt (by omega) (by omega)) (br_t (by decide) (ym_st hr e8 (fun z => absurd ⟨gw, gp⟩ z) (fun _ _ => ?_))))))
        rw [ejV]
        exact ym_sdr hN hpos hj (tb_gz af L (pe e)) hW hok (fun _ => br_f (by decide) (nm_r (nI_1 ct) (nm_r (nI_1 g) (hm _ _ _ _ _ _ _ _ _ _ _ _ _ _ _ _ _ _ _ _ _)))) (fun z => absurd ok z)
      · refine br_t rfl (nm_r (nI_1 e) (over pos mk _ _ rs (nI (sl_n (dr_v af L (pe e)) (sl_n (dr_pu af L (pe e)) (sl_n (dr_wu af L (pe e)) (se e))))) (fun post hm => H post ⟨1, ?_⟩)))
        intro yde ydp ydw ydq ywd ypr yit ym1 ym2 ym3 ym4 ym5 yws yps ylg ycv ysv ycw ycp ycn brv
        refine br_f n64 (br_f nL (ym_itd hL hpc hf (fun z => absurd hr z) (fun _ => br_t (nI_lt (by omega) (by omega)) (br_t (by decide) (ym_st hr e8 (fun z => absurd ⟨gw, gp⟩ z) (fun _ _ => ?_))))))
        rw [ejV]
        exact ym_sdr hN hpos hj (tb_gz af L (pe e)) hW hok (fun z => absurd z nok) (fun _ => br_t rfl (hm _ _ _ _ _ _ _ _ _ _ _ _ _ _ _ _ _ _ _ _ _))
end
