/-! scan, from both starts -/
theorem i_vc_scan {k : Nat} {u : SX} {v : SY} (I : i_Rel k u v) (hk : k + 4 ≤ 2049) : wpX_scan (fun r u' => wpY_scan (fun r' v' => r' = r ∧ i_Rel (k + 4) u' v') v) u := by
  refine rl_e (P := fun u v => wpX_scan (fun r u' => wpY_scan (fun r' v' => r' = r ∧ i_Rel (k + 4) u' v') v) u) I ?_
  intro C L O N co xrm xsp xec xat xlt xcu xwu xpu xvu xdc xsu xpo xdl xtl xbu xsv af ao ai ak als ale afl awd apr aws aps avs ali adr atx adg aa ar ytl yac yec ypos yde ydp ydw ydq ywd ypr yit ym1 ym2 ym3 ym4 ym5 yws yps ylg ycv ycm ycs ycx ycu ysq ysv ycw ycp ycn brv hB hT
  have hB' := hB
  have hT' := hT
  obtain ⟨B1, B2, B3, B4, B5, B6, B7⟩ := hB
  rcases hT with z | ⟨z, e, E, T, pe, se, e1, e2, hE, hTT, hp, hT⟩
  · subst z; exact br_t rfl (br_t rfl ⟨rfl, rl_i (k + 4) hB' hT'⟩)
  · subst z; subst e1; subst e2
    refine br_f (by decide) (xm_sg hE (fun e he => tb_slots (hT.2.2.1 e he)) (fun good => br_f (by decide) (xm_cr ?_)) (fun e0 he0 hbad hless => br_t rfl (br_f (by decide) ?_)))
    · refine ⟨E + 1, sm_lp (ytl := ytl) (ye0 := xsp) (ycm := ycm) (ycs := ycs) (ycx := ycx) (ycu := ycu) (k + 4) hB' hE hTT hp hT hT' good (fun post => wpY_scan post (nI L, nI N, nI O, ytl, nI C, xrm, xsp, yac, nI E, ypos, 1, yde, ydp, ydw, ydq, ywd, ypr, yit, ym1, ym2, ym3, ym4, ym5, yws, yps, ylg, ycv, ycm, ycs, ycx, ycu, ysq, ysv, ycw, ycp, ycn, af, ai, ao, adr, brv, aa, ar)) E 0 0 0 0 0 xbu xsv (cl_f ar 8) (by omega) (by omega) (by omega) ?_⟩
      intro post hm
      obtain ⟨m, hm⟩ := hm
      rw [hT.1, hT.2.1] at hm
      refine br_f (by decide) (ym_ck B2 hE B5 hT hp (fun _ => ?_) (fun e0 a b => absurd (good e0 a) b))
      intro yde ydp ydw ydq ywd ypr yit ym1 ym2 ym3 ym4 ym5 yws yps ylg ycv ysq ysv ycw ycp ycn
      exact br_t rfl (ym_37 ⟨m, hm _ _ _ _ _ _ _ _ _ _ _ _ _ _ _ _ _ _ _ _ _⟩)
    · refine ym_ck B2 hE B5 hT hp (fun good => absurd (good e0 he0) hbad) (fun _ _ _ => ?_)
      intro yde ydp ydw ydq ywd ypr yit ym1 ym2 ym3 ym4 ym5 yws yps ylg ycv ysq ysv ycw ycp ycn
      exact br_f (by decide) ⟨rfl, rl_i (k + 4) hB' hT'⟩
