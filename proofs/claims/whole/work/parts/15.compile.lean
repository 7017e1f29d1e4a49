/-! compile: both walk in step -/
theorem ps_neg {f : Nat → Int32} {L j : Nat} (h : ps_v f L j < 0) : ps_v f L j = -3 := by
  rcases ps_vr f L j with e | ⟨k, hk, e⟩
  · exact e
  · rw [e] at h
    exact absurd h (nI_pos (by omega))
theorem pw_neg {f : Nat → Int32} {L j : Nat} (h : ¬ pw_r f L j = 0) : pw_r f L j < 0 := by
  unfold pw_r at h ⊢
  by_cases c : pw_s f L j
  · rw [if_pos c] at h ⊢
    by_cases z : ps_v f L (j + 1) < 0
    · rw [if_pos z]; exact z
    · rw [if_neg z] at h; exact absurd rfl h
  · rw [if_neg c] at h ⊢
    by_cases z : 99 < rn_V f (L - j) j 0
    · rw [if_pos z]; decide
    · rw [if_neg z] at h; exact absurd rfl h
theorem pp_neg {f : Nat → Int32} {L j : Nat} (h : ¬ pp_r f L j = 0) : pp_r f L j < 0 := by
  unfold pp_r at h ⊢
  by_cases c : pp_d f L j
  · rw [if_pos c] at h ⊢; exact pw_neg h
  · rw [if_neg c] at h; exact absurd rfl h
theorem pc_neg {f : Nat → Int32} {L j : Nat} (h : ¬ pc_r f L j = 0) : pc_r f L j < 0 := by
  unfold pc_r at h ⊢
  by_cases a : L ≤ pc_k f L j
  · rw [if_pos a]; decide
  · rw [if_neg a] at h ⊢
    by_cases b : ¬ cv_t (f (pc_k f L j)) ∧ cv_b (f (pc_k f L j)) = 0
    · rw [if_pos b]; decide
    · rw [if_neg b] at h ⊢
      by_cases c : cv_t (f (pc_k f L j)) ∧ pc_l f L j
      · rw [if_pos c]; decide
      · rw [if_neg c] at h; exact absurd rfl h
theorem dr_neg {f : Nat → Int32} {L p : Nat} (h : ¬ dr_r f L p = 0) : dr_r f L p < 0 := by
  unfold dr_r at h ⊢
  by_cases a : dr_v f L p < 0
  · rw [if_pos a]; exact a
  · rw [if_neg a] at h ⊢
    by_cases b : ¬ pw_r f L (dr_2 f L p) = 0
    · rw [if_pos b]; exact pw_neg b
    · rw [if_neg b] at h ⊢
      by_cases c : ¬ pp_r f L (dr_3 f L p) = 0
      · rw [if_pos c]; exact pp_neg c
      · rw [if_neg c] at h ⊢
        exact pc_neg h
/-- the reference's 'the last entry is a literal' -/
def cp_pl (ak : Nat → Int32) (E : Nat) : Int32 := if 0 < E ∧ ak (E - 1) = 0 then 1 else 0
theorem cp_pl1 {ak : Nat → Int32} {E : Nat} (h0 : 0 < E) (h : ak (E - 1) = 0) : cp_pl ak E = 1 := if_pos ⟨h0, h⟩
theorem cp_pl0 {ak : Nat → Int32} {E : Nat} (h : 0 < E → ¬ ak (E - 1) = 0) : cp_pl ak E = 0 := if_neg (fun z => h z.1 z.2)
theorem cp_t (b : Nat) : ∃ t, t ≤ 8 ∧ (∀ i, i < t → b / 2 ^ i % 2 = 1) ∧ (t = 8 ∨ b / 2 ^ t % 2 = 0) := by
  obtain ⟨t, h1, h2⟩ := pk_least (fun t => t = 8 ∨ b / 2 ^ t % 2 = 0) ⟨8, Or.inl rfl⟩
  refine ⟨t, ?_, fun i hi => ?_, h1⟩
  · by_cases h : t ≤ 8
    · exact h
    · exact absurd (Or.inl rfl) (h2 8 (by omega))
  · have := h2 i hi
    have h3 : ¬ b / 2 ^ i % 2 = 0 := fun z => this (Or.inr z)
    omega
section
variable {yfl yil yol ytl ycap ymk yen yac yec ypos yco yde ydp ydw ydq ywd ypr yit ym1 ym2 ym3 ym4 ym5 yws yps ylg ycv ycm ycs ycx ycu ysq ysv ycw ycp ycn : Int32} {bf bi bo btm brv : Nat → Int32} {ba brs : Nat → Int64}
theorem ym_203a {post : Int32 → SY → Prop} {x3 : Int32} {b M : Nat} (hb : b < 256) (hM : M ≤ 8) (ho : ∀ i, i < M → b / 2 ^ i % 2 = 1) (h : wY_compile_245 post x3 yfl yil yol ytl ycap ymk yen yac yec ypos yco yde ydp ydw ydq ywd ypr yit ym1 ym2 ym3 ym4 ym5 yws yps ylg ycv ycm ycs (nI M) (nI b) ysq ysv ycw ycp ycn bf bi bo btm brv ba brs) : ∀ r i, i + r = M → wY_compile_203 post x3 yfl yil yol ytl ycap ymk yen yac yec ypos yco yde ydp ydw ydq ywd ypr yit ym1 ym2 ym3 ym4 ym5 yws yps ylg ycv ycm ycs (nI M) (nI b) ysq ysv ycw ycp ycn bf bi bo btm brv ba brs (r + 1) (nI i) := by
  intro r
  induction r with
  | zero => intro i hi; exact br_t (nI_le (by omega) (by omega)) h
  | succ r ih =>
    intro i hi
    refine br_f (nI_ge (by omega) (by omega)) (br_f (nI_ge (b := 8) (by omega) (by decide)) (br_f ?_ (nm_r (nI_1 i) (ih (i + 1) (by omega)))))
    rw [us_t4 b hb i (by omega), us_t5 b hb i (by omega), ho i (by omega)]
    decide
theorem ym_203b {post : Int32 → SY → Prop} {x3 : Int32} {b M t : Nat} (hb : b < 256) (hM : M ≤ 8) (ht : t < M) (ho : ∀ i, i < t → b / 2 ^ i % 2 = 1) (hz : b / 2 ^ t % 2 = 0) (h : post (-7) (yfl, yil, yol, ytl, ycap, ymk, yen, yac, yec, ypos, 0, yde, ydp, ydw, ydq, ywd, ypr, yit, ym1, ym2, ym3, ym4, ym5, yws, yps, ylg, ycv, ycm, ycs, nI M, nI b, ysq, ysv, ycw, ycp, ycn, bf, bi, bo, btm, brv, ba, brs)) : ∀ r i, i + r = t → wY_compile_203 post x3 yfl yil yol ytl ycap ymk yen yac yec ypos yco yde ydp ydw ydq ywd ypr yit ym1 ym2 ym3 ym4 ym5 yws yps ylg ycv ycm ycs (nI M) (nI b) ysq ysv ycw ycp ycn bf bi bo btm brv ba brs (r + 1) (nI i) := by
  intro r
  induction r with
  | zero =>
    intro i hi
    have e : i = t := by omega
    subst e
    refine br_f (nI_ge (by omega) (by omega)) (br_f (nI_ge (b := 8) (by omega) (by decide)) (br_t ?_ h))
    rw [us_t4 b hb i (by omega), us_t5 b hb i (by omega), hz]
    rfl
  | succ r ih =>
    intro i hi
    refine br_f (nI_ge (by omega) (by omega)) (br_f (nI_ge (b := 8) (by omega) (by decide)) (br_f ?_ (nm_r (nI_1 i) (ih (i + 1) (by omega)))))
    rw [us_t4 b hb i (by omega), us_t5 b hb i (by omega), ho i (by omega)]
    decide
end
section
variable {C L O N : Nat} {xrm xsp xdl xtl xbu ytl ypos yco ysq ysv ycw ycp ycn : Int32} {xsv : Int64} {af ao ai adr atx adg brv : Nat → Int32} {aa ar : Nat → Int64}
theorem cp_lp (k : Nat) (hB : rl_B C L O N af ao adr) (G : (Int32 → SY → Prop) → Prop) : ∀ (n p g E T d s b : Nat) (pe se : Nat → Nat) (xat xwu xpu xvu : Int32) (ak als ale afl awd apr aws aps avs ali : Nat → Int32) (yac yec yde ydp ydw ydq ywd ypr yit ym1 ym2 ym3 ym4 ym5 yws yps ylg ycv : Int32),
    tb_inv af L T ak als ale afl awd apr aws aps avs ali E p d s b pe se → g ≤ p → L - p < n →
    (∀ post : Int32 → SY → Prop, (∃ m, wY_compile_32 post m (nI p) (nI d) (nI E) (cp_pl ak E) (nI g) (nI L) (nI N) (nI O) ytl (nI C) xrm xsp yac yec ypos yco yde ydp ydw ydq ywd ypr yit ym1 ym2 ym3 ym4 ym5 yws yps ylg ycv (us_m s b) (nI s) (nI (us_l b)) (nI b) ysq ysv ycw ycp ycn af ai ao adr brv aa ar) → G post) →
    wX_compile_39 (fun r u' => G (fun r' v' => r' = r ∧ i_Rel k u' v')) n 0 (nI g) (nI C) (nI L) (nI O) (nI N) xrm xsp 0 (nI E) xat (nI T) (nI p) xwu xpu xvu (nI d) (nI s) (nI b) xdl xtl xbu xsv af aa ao ai ar ak als ale afl awd apr aws aps avs ali adr atx adg := by
  intro n
  induction n with
  | zero => intro p g E T d s b pe se xat xwu xpu xvu ak als ale afl awd apr aws aps avs ali yac yec yde ydp ydw ydq ywd ypr yit ym1 ym2 ym3 ym4 ym5 yws yps ylg ycv I hg hn; omega
  | succ n ih =>
    intro p g E T d s b pe se xat xwu xpu xvu ak als ale afl awd apr aws aps avs ali yac yec yde ydp ydw ydq ywd ypr yit ym1 ym2 ym3 ym4 ym5 yws yps ylg ycv I hg hn H
    obtain ⟨B1, hL, B3, B4, hf, B6, B7⟩ := hB
    have hB : rl_B C L O N af ao adr := ⟨B1, hL, B3, B4, hf, B6, B7⟩
    obtain ⟨I1, I2, I3, I4, I5, I6, I7, I8, I9⟩ := id I
    have ex : L ≤ p → wX_compile_159 (fun r u' => G (fun r' v' => r' = r ∧ i_Rel k u' v')) 0 (nI C) (nI L) (nI O) (nI N) xrm xsp 0 (nI E) xat (nI T) (nI p) xwu xpu xvu (nI d) (nI s) (nI b) xdl xtl xbu xsv af aa ao ai ar ak als ale afl awd apr aws aps avs ali adr atx adg := by
      intro hl
      have epL : p = L := by omega
      obtain ⟨t, t1, t2, t3⟩ := cp_t b
      have hz := us_t8 b I4.2.1
      refine br_t rfl (xm_ca I4.2.1 t1 t2 t3 (fun z => br_t rfl (H _ ⟨1, ?_⟩)) (fun z => br_f (by decide) (H _ ⟨1, ?_⟩)))
      · have el := us_t6 b I4.2.1 t (by omega) z (by
          by_cases q : t = 0
          · exact Or.inl q
          · exact Or.inr (t2 (t - 1) (by omega)))
        have fin : ∀ yac : Int32, yac = nI (t + s) → wY_compile_277 (fun r' v' => r' = nI E ∧ i_Rel k (nI C, nI L, nI O, nI N, xrm, xsp, 1, nI E, nI (t + s), nI T, nI p, xwu, xpu, xvu, nI d, nI s, nI b, xdl, xtl, xbu, xsv, af, aa, ao, ai, ar, ak, als, ale, afl, awd, apr, aws, aps, avs, ali, adr, atx, adg) v') (nI E) yac (nI L) (nI N) (nI O) ytl (nI C) xrm xsp yac yec ypos yco yde ydp ydw ydq ywd ypr yit ym1 ym2 ym3 ym4 ym5 yws yps ylg ycv (us_m s b) (nI s) (nI (us_l b)) (nI b) ysq ysv ycw ycp ycn af ai ao adr brv aa ar := by
          intro yac ey
          exact ⟨rfl, rl_i k hB (Or.inr ⟨rfl, ey, E, T, pe, se, rfl, rfl, by omega, by omega, by omega, I1⟩)⟩
        have k192 : wY_compile_192 (fun r' v' => r' = nI E ∧ i_Rel k (nI C, nI L, nI O, nI N, xrm, xsp, 1, nI E, nI (t + s), nI T, nI p, xwu, xpu, xvu, nI d, nI s, nI b, xdl, xtl, xbu, xsv, af, aa, ao, ai, ar, ak, als, ale, afl, awd, apr, aws, aps, avs, ali, adr, atx, adg) v') (nI E) (nI L) (nI N) (nI O) ytl (nI C) xrm xsp yac yec ypos yco yde ydp ydw ydq ywd ypr yit ym1 ym2 ym3 ym4 ym5 yws yps ylg ycv (us_m s b) (nI s) (nI (us_l b)) (nI b) ysq ysv ycw ycp ycn af ai ao adr brv aa ar := by
          by_cases b0 : b = 0
          · have t0 : t = 0 := by rw [← el]; exact hz.2.mpr b0
            by_cases s0 : 0 < s
            · have em := us_ms b0 s0
              exact br_f (by rw [em]; decide) (br_f (by rw [em]; decide) (br_t em (fin _ (by rw [t0, Nat.zero_add]))))
            · have em := us_m0 b0 s0
              exact br_f (by rw [em]; decide) (br_f (by rw [em]; decide) (br_f (by rw [em]; decide) (fin _ (by rw [t0, show s = 0 by omega]; rfl))))
          · have em : us_m s b = 2 := us_mb b0
            have s0 : s = 0 := by rcases I4.1 with q | q <;> omega
            refine br_t em ⟨us_l b + 1, ym_203a I4.2.1 hz.1 (fun i hi => t2 i (by omega)) ?_ (us_l b) 0 (by omega)⟩
            exact br_t em (fin _ (by rw [el, s0, Nat.add_zero]))
        exact pk_le 64 g (fun _ => k192) (fun _ => br_t (nI_le hl (by omega)) k192)
      · have tl := us_t7 b I4.2.1 t (by omega) z
        have b0 : ¬ b = 0 := fun q => z (by rw [q]; exact Nat.zero_div _)
        have em : us_m s b = 2 := us_mb b0
        have tz : b / 2 ^ t % 2 = 0 := by
          rcases t3 with q | q
          · omega
          · exact q
        have k192 : wY_compile_192 (fun r' v' => r' = (-7) ∧ i_Rel k (nI C, nI L, nI O, nI N, xrm, xsp, 0, nI E, xat, nI T, nI p, xwu, xpu, xvu, nI d, nI s, nI b, xdl, xtl, xbu, xsv, af, aa, ao, ai, ar, ak, als, ale, afl, awd, apr, aws, aps, avs, ali, adr, atx, adg) v') (nI E) (nI L) (nI N) (nI O) ytl (nI C) xrm xsp yac yec ypos yco yde ydp ydw ydq ywd ypr yit ym1 ym2 ym3 ym4 ym5 yws yps ylg ycv (us_m s b) (nI s) (nI (us_l b)) (nI b) ysq ysv ycw ycp ycn af ai ao adr brv aa ar :=
          br_t em ⟨t + 1, ym_203b I4.2.1 hz.1 tl t2 tz ⟨rfl, rl_i k hB (Or.inl rfl)⟩ t 0 (by omega)⟩
        exact pk_le 64 g (fun _ => k192) (fun _ => br_t (nI_le hl (by omega)) k192)
    refine pk_le 64 g (fun h64 => ex (by omega)) (fun h64 => pk_le L p ex (fun hl => br_t rfl ?_))
    have vp : (nI p).toNatClampNeg = p := nI_clamp (by omega)
    have ip : vp_in (nI p) 64 := vp_in_nI (by omega) (by omega)
    have e1 : nI p + 1 = nI (p + 1) := nI_1 p
    have e2 : nI p + 2 = nI (p + 2) := nI_add p 2
    have n64 : ¬ (64 : Int32) ≤ nI g := nI_ge (b := 64) (by omega) (by decide)
    have nLp : ¬ nI L ≤ nI p := nI_ge hl (by omega)
    -- a literal item, seen from the reference
    have yl : ∀ (c : Int32) (q : Nat), it_lit af L p c q → ∀ (E' : Nat) (ak' : Nat → Int32), ((0 < E → ¬ ak (E - 1) = 0) ∧ E' = E + 1 ∨ 0 < E ∧ ak (E - 1) = 0 ∧ E' = E) → cp_pl ak' E' = 1 → ∀ post : Int32 → SY → Prop, (∃ m, wY_compile_32 post m (nI q) (nI d) (nI E') (cp_pl ak' E') (nI (g + 1)) (nI L) (nI N) (nI O) ytl (nI C) xrm xsp yac yec ypos yco yde ydp ydw ydq ywd ypr c ym1 ym2 ym3 ym4 ym5 yws yps ylg ycv (us_m s b) (nI s) (nI (us_l b)) (nI b) ysq ysv ycw ycp ycn af ai ao adr brv aa ar) → G post := by
      intro c q hi E' ak' hE hpl post hm
      obtain ⟨m, hm⟩ := hm
      rw [hpl] at hm
      have hq := it_q hi
      refine H post ⟨m + 1, br_f n64 (br_f nLp (ym_itl hL hi (br_t (nI_pos' (by omega)) (br_f (Int32.not_lt.mpr (ar_pos (it_c hf hi))) ?_))))⟩
      rcases hE with ⟨h1, rfl⟩ | ⟨h1, h2, rfl⟩
      · exact br_t (cp_pl0 h1) (nm_r (nI_1 E) (nm_r (nI_1 g) hm))
      · exact br_f (by rw [cp_pl1 h1 h2]; decide) (nm_r (nI_1 g) hm)
    have k148 : it_pc af L p → wX_compile_148 (fun r u' => G (fun r' v' => r' = r ∧ i_Rel k u' v')) (wX_compile_39 (fun r u' => G (fun r' v' => r' = r ∧ i_Rel k u' v')) n) (nI g) (nI C) (nI L) (nI O) (nI N) xrm xsp 0 (nI E) xat (nI T) (nI p) xwu xpu xvu (nI d) (nI s) (nI b) xdl xtl xbu xsv af aa ao ai ar ak als ale afl awd apr aws aps avs ali adr atx adg := by
      intro hpc
      obtain ⟨n, rfl⟩ : ∃ n', n = n' + 1 := ⟨n - 1, by omega⟩
      have hb := dr_b af hl
      refine xm_rd hL hl (by omega) (by omega) I4 (fun z => ?_) (fun z1 z2 => ?_) (fun z1 z2 => ?_)
      · intro xec xat xlt xcu xwu xpu xvu xdc xsu xpo ak als ale afl awd apr aws aps avs ali
        refine nm_r (nI_1 g) ?_
        have hp : G (fun r' v' => r' = dr_r af L p ∧ i_Rel k (nI C, nI L, nI O, nI N, xrm, xsp, 0, xec, xat, xlt, xcu, xwu, xpu, xvu, xdc, xsu, xpo, xdl, xtl, xbu, xsv, af, aa, ao, ai, ar, ak, als, ale, afl, awd, apr, aws, aps, avs, ali, adr, atx, adg) v') := by
          refine H _ ⟨1, br_f n64 (br_f nLp (ym_itd hL hpc hf (fun _ => ?_) (fun q => absurd q z)))⟩
          intro yde ydp ydw ydq ywd ypr yit ym1 ym2 ym3 ym4 ym5 yws yps ylg ycv
          exact br_f (Int32.not_le.mpr (dr_neg z)) ⟨rfl, rl_i k hB (Or.inl rfl)⟩
        exact ⟨fun _ => br_f z (br_f z hp), fun _ => ⟨fun _ => br_f z (br_f z hp), fun _ => br_f z (br_f z (br_f z hp))⟩⟩
      · intro xec xat xlt xcu xwu xpu xvu xdc xsu xpo ak als ale afl awd apr aws aps avs ali
        refine nm_r (nI_1 g) ?_
        obtain ⟨u1, u2, u3⟩ := dr_us z1
        have hk : dr_k af L p < L := (pc_ok (dr_ok z1).2.2.2).1
        have hp : G (fun r' v' => r' = tk_r d (dr_wu af L p) (dr_pu af L p) (dr_v af L p) s b ∧ i_Rel k (nI C, nI L, nI O, nI N, xrm, xsp, 0, xec, xat, xlt, xcu, xwu, xpu, xvu, xdc, xsu, xpo, xdl, xtl, xbu, xsv, af, aa, ao, ai, ar, ak, als, ale, afl, awd, apr, aws, aps, avs, ali, adr, atx, adg) v') := by
          refine H _ ⟨1, br_f n64 (br_f nLp (ym_itd hL hpc hf (fun q => absurd z1 q) (fun _ => ?_)))⟩
          refine br_t (nI_pos' (by omega)) (br_t (by decide) (nm_r (nI_1 E) (nm_r (nI_1 d) (ym_c170 (by omega) u1 u2 u3 I4 (fun _ => ?_) (fun q => absurd q z2)))))
          intro ycm ycs ycx ycu
          exact ⟨rfl, rl_i k hB (Or.inl rfl)⟩
        exact ⟨fun _ => br_f z2 (br_f z2 hp), fun _ => ⟨fun _ => br_f z2 (br_f z2 hp), fun _ => br_f z2 (br_f z2 (br_f z2 hp))⟩⟩
      · intro xwu xpu xvu
        obtain ⟨u1, u2, u3⟩ := dr_us z1
        have hk : dr_k af L p < L := (pc_ok (dr_ok z1).2.2.2).1
        have kz := tb_kz (pc_ok (dr_ok z1).2.2.2)
        refine nm_r (nI_1 g) (ih (dr_k af L p + 1) (g + 1) (E + 1) T (d + 1) _ _ _ _ _ _ _ _ _ _ _ _ _ _ _ _ _ _ yac yec (nI (dr_k af L p + 1)) (dr_v af L p) (yu_p (dr_wu af L p)) (yu_p (dr_pu af L p)) (yu_w (dr_w af L p)) (dr_p af L p) (-1) (nI (dr_m af L p % 2)) (nI (dr_m af L p / 2 % 2)) (nI (dr_m af L p / 4 % 2)) (nI (dr_m af L p / 8 % 2)) (nI (dr_m af L p / 16 % 2)) (yu_s (dr_wu af L p)) (yu_s (dr_pu af L p)) (nI (dr_g af L p)) (dr_c af L p) (tb_newdir I hpc z1 z2) (by omega) (by omega) ?_)
        intro post hm
        obtain ⟨m, hm⟩ := hm
        rw [cp_pl0 (E := E + 1) (fun _ => by rw [Nat.add_sub_cancel, pk_us]; exact kz)] at hm
        refine H post ⟨m + 1, br_f n64 (br_f nLp (ym_itd hL hpc hf (fun q => absurd z1 q) (fun _ => ?_)))⟩
        exact br_t (nI_pos' (by omega)) (br_t (by decide) (nm_r (nI_1 E) (nm_r (nI_1 d) (ym_c170 (by omega) u1 u2 u3 I4 (fun q => absurd z2 q) (fun _ => hm)))))
    refine ⟨ip, ?_⟩
    by_cases c37 : af p = 37
    · refine br_t (by rw [vp]; exact c37) ?_
      by_cases n37 : p + 1 < L ∧ af (p + 1) = 37
      · have hi : it_lit af L p 37 (p + 2) := ⟨hl, Or.inr ⟨c37, n37.1, n37.2, rfl, rfl⟩⟩
        refine br_f (by rw [e1]; exact nI_ge n37.1 (by omega)) ⟨by rw [e1]; exact vp_in_nI (by have := n37.1; omega) (by omega), br_t (by rw [e1, nI_clamp (by omega)]; exact n37.2) (xm_al (by omega) (by omega) ⟨37, by decide, rfl⟩ (fun hn => ?_) (fun h0 hn => ?_))⟩
        · exact nm_r e2 (nm_r (nI_1 g) (ih (p + 2) (g + 1) (E + 1) (T + 1) d s b _ _ _ _ _ _ _ _ _ _ _ _ _ _ _ _ yac yec yde ydp ydw ydq ywd ypr 37 ym1 ym2 ym3 ym4 ym5 yws yps ylg ycv (tb_newlit I hi hn) (by omega) (by omega) (yl 37 (p + 2) hi (E + 1) _ (Or.inl ⟨hn, rfl⟩) (cp_pl1 (by omega) (by rw [Nat.add_sub_cancel, pk_us])))))
        · exact nm_r e2 (nm_r (nI_1 g) (ih (p + 2) (g + 1) E (T + 1) d s b _ _ _ _ _ _ _ _ _ _ _ _ _ _ _ _ yac yec yde ydp ydw ydq ywd ypr 37 ym1 ym2 ym3 ym4 ym5 yws yps ylg ycv (tb_applit hL I hi h0 hn) (by omega) (by omega) (yl 37 (p + 2) hi E _ (Or.inr ⟨h0, hn, rfl⟩) (cp_pl1 h0 hn))))
      · have hpc : it_pc af L p := ⟨hl, c37, n37⟩
        exact pk_le L (p + 1) (fun _ => k148 hpc) (fun h => ⟨by rw [e1]; exact vp_in_nI (by omega) (by omega), br_f (by rw [e1, nI_clamp (by omega)]; exact fun z => n37 ⟨h, z⟩) (k148 hpc)⟩) rfl e1
    · have hi : it_lit af L p (af p) (p + 1) := ⟨hl, Or.inl ⟨c37, rfl, rfl⟩⟩
      refine br_f (by rw [vp]; exact c37) ⟨ip, ?_⟩
      rw [vp]
      refine xm_al (by omega) (by omega) (hf p) (fun hn => ?_) (fun h0 hn => ?_)
      · exact nm_r e1 (nm_r (nI_1 g) (ih (p + 1) (g + 1) (E + 1) (T + 1) d s b _ _ _ _ _ _ _ _ _ _ _ _ _ _ _ _ yac yec yde ydp ydw ydq ywd ypr (af p) ym1 ym2 ym3 ym4 ym5 yws yps ylg ycv (tb_newlit I hi hn) (by omega) (by omega) (yl (af p) (p + 1) hi (E + 1) _ (Or.inl ⟨hn, rfl⟩) (cp_pl1 (by omega) (by rw [Nat.add_sub_cancel, pk_us])))))
      · exact nm_r e1 (nm_r (nI_1 g) (ih (p + 1) (g + 1) E (T + 1) d s b _ _ _ _ _ _ _ _ _ _ _ _ _ _ _ _ yac yec yde ydp ydw ydq ywd ypr (af p) ym1 ym2 ym3 ym4 ym5 yws yps ylg ycv (tb_applit hL I hi h0 hn) (by omega) (by omega) (yl (af p) (p + 1) hi E _ (Or.inr ⟨h0, hn, rfl⟩) (cp_pl1 h0 hn))))
end
theorem i_vc_compile {k : Nat} {u : SX} {v : SY} (I : i_Rel k u v) (hk : k + 4 ≤ 2049) : wpX_compile (fun r u' => wpY_compile (fun r' v' => r' = r ∧ i_Rel (k + 4) u' v') v) u := by
  refine rl_e (P := fun u v => wpX_compile (fun r u' => wpY_compile (fun r' v' => r' = r ∧ i_Rel (k + 4) u' v') v) u) I ?_
  intro C L O N co xrm xsp xec xat xlt xcu xwu xpu xvu xdc xsu xpo xdl xtl xbu xsv af ao ai ak als ale afl awd apr aws aps avs ali adr atx adg aa ar ytl yac yec ypos yde ydp ydw ydq ywd ypr yit ym1 ym2 ym3 ym4 ym5 yws yps ylg ycv ycm ycs ycx ycu ysq ysv ycw ycp ycn brv hB hT
  refine ⟨L + 1, cp_lp (ytl := ytl) (ypos := ypos) (yco := co) (ysq := ysq) (ysv := ysv) (ycw := ycw) (ycp := ycp) (ycn := ycn) (brv := brv) (k + 4) hB (fun post => wpY_compile post (nI L, nI N, nI O, ytl, nI C, xrm, xsp, yac, yec, ypos, co, yde, ydp, ydw, ydq, ywd, ypr, yit, ym1, ym2, ym3, ym4, ym5, yws, yps, ylg, ycv, ycm, ycs, ycx, ycu, ysq, ysv, ycw, ycp, ycn, af, ai, ao, adr, brv, aa, ar)) (L + 1) 0 0 0 0 0 0 0 (fun _ => 0) (fun _ => 0) xat xwu xpu xvu ak als ale afl awd apr aws aps avs ali yac yec yde ydp ydw ydq ywd ypr yit ym1 ym2 ym3 ym4 ym5 yws yps ylg ycv (tb_inv0 af L ak als ale afl awd apr aws aps avs ali) (by omega) (by omega) ?_⟩
  intro post hm
  obtain ⟨m, hm⟩ := hm
  rw [cp_pl0 (E := 0) (fun z => absurd z (by omega))] at hm
  exact ⟨m, hm⟩
