/-! the reference: one conversion of scan -/
section
variable {yfl yil yol ytl ycap ymk yen yac yec ypos yco yde ydp ydw ydq ywd ypr yit ym1 ym2 ym3 ym4 ym5 yws yps ylg ycv ycm ycs ycx ycu ysq ysv ycw ycp ycn : Int32} {bf bi bo btm brv : Nat → Int32} {ba brs : Nat → Int64}
theorem ym_sdr {post : Int32 → SY → Prop} {N r j g W : Nat} (hN : N ≤ 256) (hr : r ≤ N) (hj : j < 8) (hg : g = 0 ∨ g = 1) (hW : W ≤ 99) (hok : cv_t ycv ∨ ¬ cv_b ycv = 0)
    (h1 : sc_ok ycv W bi N r → post 1 (yfl, nI N, yol, ytl, ycap, ymk ||| ((1 : Int32) <<< (nI j &&& 31)), yen, yac, yec, nI (sc_E ycv W bi N r), yco, yde, ydp, ydw, ydq, ywd, ypr, yit, ym1, ym2, ym3, ym4, ym5, yws, yps, nI g, ycv, ycm, ycs, ycx, ycu, ysq, nI j, nI W, ycp, ycn, bf, bi, bo, btm, brv, ba, vp_updL brs j (sc_V ycv g W bi N r)))
    (h0 : ¬ sc_ok ycv W bi N r → post 0 (yfl, nI N, yol, ytl, ycap, ymk, yen, yac, yec, nI r, yco, yde, ydp, ydw, ydq, ywd, ypr, yit, ym1, ym2, ym3, ym4, ym5, yws, yps, nI g, ycv, ycm, ycs, ycx, ycu, ysq, nI j, nI W, ycp, ycn, bf, bi, bo, btm, brv, ba, brs)) : wpY_scanDir post (yfl, nI N, yol, ytl, ycap, ymk, yen, yac, yec, nI r, yco, yde, ydp, ydw, ydq, ywd, ypr, yit, ym1, ym2, ym3, ym4, ym5, yws, yps, nI g, ycv, ycm, ycs, ycx, ycu, ysq, nI j, nI W, ycp, ycn, bf, bi, bo, btm, brv, ba, brs) := by
  have hs := sc_1b bi hr
  by_cases c1 : ycv = 99
  · have e1 : sc_ok ycv W bi N r ↔ r < N := by unfold sc_ok; rw [if_pos c1]
    have e2 : sc_E ycv W bi N r = r + 1 := if_pos c1
    have e3 : sc_V ycv g W bi N r = (bi r).toInt64 := if_pos c1
    rw [e2, e3] at h1
    exact br_t c1 (pk_lt r N (fun a => ⟨vp_in_nI (by omega) (by omega), nm_r (e' := (bi r).toInt64) (by rw [nI_clamp (by omega)]) (nm_r (nI_1 r) (ym_593 hj (h1 (e1.mpr a))))⟩) (fun a => h0 (fun z => by have := e1.mp z; omega)))
  refine br_f c1 ?_
  by_cases c2 : ycv = 115
  · refine br_t c2 ?_
    unfold sc_ok sc_E sc_V at h1
    unfold sc_ok at h0
    rw [if_neg c1, if_pos c2, if_neg c1, if_pos c2, if_neg c1, if_pos c2] at h1
    rw [if_neg c1, if_pos c2] at h0
    have hS : 1 ≤ sc_S W ∧ sc_S W ≤ 8 := by
      unfold sc_S
      by_cases w : 1 ≤ W ∧ W ≤ 8
      · rw [if_pos w]; exact w
      · rw [if_neg w]; omega
    have hb := st_Eb bi (N - sc_1 bi N r) (sc_S W) (sc_1 bi N r)
    have k96 : ∃ f, wY_scanDir_96 post (nI r) yfl (nI N) yol ytl ycap ymk yen yac yec yco yde ydp ydw ydq ywd ypr yit ym1 ym2 ym3 ym4 ym5 yws yps (nI g) ycv ycm ycs ycx ycu ysq (nI j) (nI W) ycp ycn bf bi bo btm brv ba brs f 0 (nI (sc_S W)) 0 (nI (sc_1 bi N r)) := by
      refine ⟨N - sc_1 bi N r + 1, ym_s96 (M := sc_S W) hN hS.2 (N - sc_1 bi N r + 1) 0 (sc_1 bi N r) 0 hs.2 (by omega) (by omega) ?_⟩
      rw [Nat.sub_zero, Nat.zero_add]
      exact pk_eq (st_E bi (N - sc_1 bi N r) (sc_S W) (sc_1 bi N r) - sc_1 bi N r) 0 (fun a => h0 (by omega)) (fun a => ym_593 hj (h1 (by omega)))
    refine ym_sw hN hr (pk_lt W 1 (fun a => ?_) (fun a => pk_lt 8 W (fun b => ?_) (fun b => ?_)))
    · have eS : sc_S W = 8 := if_neg (fun z => by omega)
      rw [eS] at k96
      exact k96
    · have eS : sc_S W = 8 := if_neg (fun z => by omega)
      rw [eS] at k96
      exact k96
    · have eS : sc_S W = W := if_pos ⟨a, b⟩
      rw [eS] at k96
      exact k96
  · refine br_f c2 ?_
    have hb : ¬ cv_b ycv = 0 := hok.elim (fun z => absurd z (fun y => y.elim c1 c2)) id
    have hb16 : cv_b ycv ≤ 16 := by rcases cv_b16 ycv with e | e | e | e <;> omega
    unfold sc_ok sc_E sc_V at h1
    unfold sc_ok at h0
    rw [if_neg c1, if_neg c2, if_neg c1, if_neg c2, if_neg c1, if_neg c2] at h1
    rw [if_neg c1, if_neg c2] at h0
    have hB : 1 ≤ sc_B W ∧ sc_B W ≤ 1000 := by
      unfold sc_B
      by_cases w : 1 ≤ W
      · rw [if_pos w]; omega
      · rw [if_neg w]; omega
    have k457 : ∀ (kk : Nat) (ng : Int32), sc_k ycv W bi N (sc_1 bi N r) = kk → (ng = 0 ↔ ¬ (sc_sg ycv bi N (sc_1 bi N r) ∧ bi (sc_1 bi N r) = 45)) → ∃ f, wY_scanDir_457 post (nI r) ycv (nI (cv_b ycv)) ng yfl (nI N) yol ytl ycap ymk yen yac yec yco yde ydp ydw ydq ywd ypr yit ym1 ym2 ym3 ym4 ym5 yws yps (nI g) ycv ycm ycs ycx ycu ysq (nI j) (nI W) ycp ycn bf bi bo btm brv ba brs f (nI (sc_B W - kk)) 0 0 0 (nI (sc_1 bi N r + kk)) := by
      intro kk ng ek ing
      have hk := sc_kb ycv W bi hs.2
      unfold sc_v sc_e sc_w at h1
      unfold sc_e at h0
      rw [ek] at h1 h0 hk
      have hE := dg_Eb bi (cv_b ycv) (N - (sc_1 bi N r + kk)) (sc_B W - kk) (sc_1 bi N r + kk)
      refine ⟨N - (sc_1 bi N r + kk) + 1, ym_457 hN hb16 (N - (sc_1 bi N r + kk) + 1) (sc_1 bi N r + kk) (sc_B W - kk) 0 0 (by omega) hk.1 (by omega) (by omega) ?_⟩
      rw [Nat.zero_add]
      refine pk_eq (dg_E bi (cv_b ycv) (N - (sc_1 bi N r + kk)) (sc_B W - kk) (sc_1 bi N r + kk) - (sc_1 bi N r + kk)) 0 (fun a => h0 (by omega)) (fun a => ?_)
      have h1 := h1 (by omega)
      have fin : ∀ v : Int64, (if sc_sg ycv bi N (sc_1 bi N r) ∧ bi (sc_1 bi N r) = 45 then - dg_V bi (cv_b ycv) (N - (sc_1 bi N r + kk)) (sc_B W - kk) (sc_1 bi N r + kk) 0 else dg_V bi (cv_b ycv) (N - (sc_1 bi N r + kk)) (sc_B W - kk) (sc_1 bi N r + kk) 0) = v → wY_scanDir_561 post ycv v yfl (nI N) yol ytl ycap ymk yen yac yec (nI (dg_E bi (cv_b ycv) (N - (sc_1 bi N r + kk)) (sc_B W - kk) (sc_1 bi N r + kk))) yco yde ydp ydw ydq ywd ypr yit ym1 ym2 ym3 ym4 ym5 yws yps (nI g) ycv ycm ycs ycx ycu ysq (nI j) (nI W) ycp ycn bf bi bo btm brv ba brs := by
        intro v ev
        rw [ev] at h1
        unfold nt_v at h1
        rcases hg with g0 | g0
        · rw [g0] at h1 ⊢
          rw [if_neg (by omega)] at h1
          refine br_t rfl ?_
          by_cases c3 : ycv = 100
          · rw [if_pos c3] at h1
            exact br_t c3 (ym_593 hj h1)
          · rw [if_neg c3] at h1
            exact br_f c3 (ym_593 hj h1)
        · rw [g0] at h1 ⊢
          rw [if_pos rfl] at h1
          exact br_f (by decide) (ym_593 hj h1)
      by_cases n0 : sc_sg ycv bi N (sc_1 bi N r) ∧ bi (sc_1 bi N r) = 45
      · exact br_f (fun y => ing.mp y n0) (nm_e (fin _ (by rw [if_pos n0])))
      · exact br_t (ing.mpr n0) (fin _ (by rw [if_neg n0]))
    have p1 : nI (sc_1 bi N r) + 1 = nI (sc_1 bi N r + 1) := nI_1 _
    have p2 : nI (sc_1 bi N r) + 2 = nI (sc_1 bi N r + 2) := nI_add _ 2
    have k255 : wY_scanDir_255 post (nI r) ycv (nI (sc_B W)) (nI (cv_b ycv)) yfl (nI N) yol ytl ycap ymk yen yac yec (nI (sc_1 bi N r)) yco yde ydp ydw ydq ywd ypr yit ym1 ym2 ym3 ym4 ym5 yws yps (nI g) ycv ycm ycs ycx ycu ysq (nI j) (nI W) ycp ycn bf bi bo btm brv ba brs := by
      by_cases c3 : ycv = 100
      · have b10 : cv_b ycv = 10 := by rw [c3]; rfl
        have nx : ¬ sc_hx ycv W bi N (sc_1 bi N r) := fun z => by have := z.1; omega
        have n16 : ¬ nI (cv_b ycv) = 16 := by rw [b10]; decide
        have no : ¬ sc_sg ycv bi N (sc_1 bi N r) → wY_scanDir_344 post (nI r) ycv (nI (sc_B W)) (nI (cv_b ycv)) 0 yfl (nI N) yol ytl ycap ymk yen yac yec (nI (sc_1 bi N r)) yco yde ydp ydw ydq ywd ypr yit ym1 ym2 ym3 ym4 ym5 yws yps (nI g) ycv ycm ycs ycx ycu ysq (nI j) (nI W) ycp ycn bf bi bo btm brv ba brs := by
          intro s0
          exact br_f n16 (k457 0 0 (by unfold sc_k; rw [if_neg s0, if_neg nx]) ⟨fun _ z => s0 z.1, fun _ => rfl⟩)
        refine br_t c3 (br_f (nI_nle (by omega) (by omega)) (pk_le N (sc_1 bi N r) (fun a => no (fun z => by have := z.2.1; omega)) (fun a => ?_)))
        have vi : vp_in (nI (sc_1 bi N r)) 256 := vp_in_nI (by omega) (by omega)
        have e : (nI (sc_1 bi N r)).toNatClampNeg = sc_1 bi N r := nI_clamp (by omega)
        have yes : (bi (sc_1 bi N r) = 43 ∨ bi (sc_1 bi N r) = 45) → wY_scanDir_310 post (nI r) ycv (nI (sc_B W)) (nI (cv_b ycv)) yfl (nI N) yol ytl ycap ymk yen yac yec (nI (sc_1 bi N r)) yco yde ydp ydw ydq ywd ypr yit ym1 ym2 ym3 ym4 ym5 yws yps (nI g) ycv ycm ycs ycx ycu ysq (nI j) (nI W) ycp ycn bf bi bo btm brv ba brs := by
          intro y
          have s1 : sc_sg ycv bi N (sc_1 bi N r) := ⟨c3, a, y⟩
          have k329 : ∀ ng : Int32, (ng = 0 ↔ ¬ (sc_sg ycv bi N (sc_1 bi N r) ∧ bi (sc_1 bi N r) = 45)) → wY_scanDir_329 post (nI r) ycv (nI (sc_B W)) (nI (cv_b ycv)) ng yfl (nI N) yol ytl ycap ymk yen yac yec (nI (sc_1 bi N r)) yco yde ydp ydw ydq ywd ypr yit ym1 ym2 ym3 ym4 ym5 yws yps (nI g) ycv ycm ycs ycx ycu ysq (nI j) (nI W) ycp ycn bf bi bo btm brv ba brs := by
            intro ng ing
            exact nm_r p1 (nm_r (e' := nI (sc_B W - 1)) (sb_p1 hB.1) (br_f n16 (k457 1 ng (by unfold sc_k; rw [if_pos s1]) ing)))
          refine ⟨vi, wk_if (d := bi (sc_1 bi N r) = 45) (by rw [e]) (fun z => k329 1 ⟨fun w => absurd w (by decide), fun w => absurd ⟨s1, z⟩ w⟩) (fun z => k329 0 ⟨fun _ w => z w.2, fun _ => rfl⟩)⟩
        refine ⟨vi, wk_if (d := bi (sc_1 bi N r) = 43) (by rw [e]) (fun z => yes (Or.inl z)) (fun z => ⟨vi, wk_if (d := bi (sc_1 bi N r) = 45) (by rw [e]) (fun w => yes (Or.inr w)) (fun w => no (fun y => y.2.2.elim z w))⟩)⟩
      · have s0 : ¬ sc_sg ycv bi N (sc_1 bi N r) := fun z => c3 z.1
        have plain : ¬ sc_hx ycv W bi N (sc_1 bi N r) → ∃ f, wY_scanDir_457 post (nI r) ycv (nI (cv_b ycv)) 0 yfl (nI N) yol ytl ycap ymk yen yac yec yco yde ydp ydw ydq ywd ypr yit ym1 ym2 ym3 ym4 ym5 yws yps (nI g) ycv ycm ycs ycx ycu ysq (nI j) (nI W) ycp ycn bf bi bo btm brv ba brs f (nI (sc_B W)) 0 0 0 (nI (sc_1 bi N r)) := fun x => k457 0 0 (by unfold sc_k; rw [if_neg s0, if_neg x]) ⟨fun _ z => s0 z.1, fun _ => rfl⟩
        refine br_f c3 (pk_eq (cv_b ycv) 16 (fun a => ?_) (fun a => plain (fun z => a z.1)))
        refine pk_lt (sc_B W) 3 (fun b => plain (fun z => by have := z.2.1; omega)) (fun b => pk_le N (sc_1 bi N r + 2) (fun d => plain (fun z => by have := z.2.2.1; omega)) (fun d => ?_) rfl p2)
        have v0 : vp_in (nI (sc_1 bi N r)) 256 := vp_in_nI (by omega) (by omega)
        have v1 : vp_in (nI (sc_1 bi N r) + 1) 256 := by rw [p1]; exact vp_in_nI (by omega) (by omega)
        have v2 : vp_in (nI (sc_1 bi N r) + 2) 256 := by rw [p2]; exact vp_in_nI (by omega) (by omega)
        have e1 : (nI (sc_1 bi N r) + 1).toNatClampNeg = sc_1 bi N r + 1 := by rw [p1]; exact nI_clamp (by omega)
        have e2 : (nI (sc_1 bi N r) + 2).toNatClampNeg = sc_1 bi N r + 2 := by rw [p2]; exact nI_clamp (by omega)
        refine ⟨v0, wk_if (d := bi (sc_1 bi N r) = 48) (by rw [nI_clamp (by omega)]) (fun y => ⟨v1, ?_⟩) (fun y => plain (fun z => y z.2.2.2.1))⟩
        have k416 : (bi (sc_1 bi N r + 1) = 120 ∨ bi (sc_1 bi N r + 1) = 88) → wY_scanDir_416 post (nI r) ycv (nI (sc_B W)) (nI (cv_b ycv)) 0 yfl (nI N) yol ytl ycap ymk yen yac yec (nI (sc_1 bi N r)) yco yde ydp ydw ydq ywd ypr yit ym1 ym2 ym3 ym4 ym5 yws yps (nI g) ycv ycm ycs ycx ycu ysq (nI j) (nI W) ycp ycn bf bi bo btm brv ba brs := by
          intro w
          have hd := dv_b (bi (sc_1 bi N r + 2))
          refine ⟨v2, ym_dv (base := 16) (bi (sc_1 bi N r + 2)) (by rw [e2]) (by omega) (fun z => ?_) (fun z => ?_)⟩
          · have x : sc_hx ycv W bi N (sc_1 bi N r) := ⟨a, b, d, y, w, z⟩
            exact br_f (nI_pos (by omega)) (nm_r p2 (nm_r (e' := nI (sc_B W - 2)) (sb_p2 (by omega)) (k457 2 0 (by unfold sc_k; rw [if_neg s0, if_pos x]) ⟨fun _ z => s0 z.1, fun _ => rfl⟩)))
          · exact br_t (by decide) (plain (fun x => z x.2.2.2.2.2))
        refine wk_if (d := bi (sc_1 bi N r + 1) = 120) (by rw [e1]) (fun w => k416 (Or.inl w)) (fun w => ⟨v1, wk_if (d := bi (sc_1 bi N r + 1) = 88) (by rw [e1]) (fun w2 => k416 (Or.inr w2)) (fun w2 => plain (fun x => x.2.2.2.2.1.elim w w2))⟩)
    have k223 : wY_scanDir_223 post (nI r) ycv (nI (sc_B W)) yfl (nI N) yol ytl ycap ymk yen yac yec (nI (sc_1 bi N r)) yco yde ydp ydw ydq ywd ypr yit ym1 ym2 ym3 ym4 ym5 yws yps (nI g) ycv ycm ycs ycx ycu ysq (nI j) (nI W) ycp ycn bf bi bo btm brv ba brs := by
      by_cases a1 : ycv = 100
      · have eb : cv_b ycv = 10 := by rw [a1]; rfl
        rw [eb] at k255
        exact br_t a1 k255
      refine br_f a1 ?_
      by_cases a2 : ycv = 117
      · have eb : cv_b ycv = 10 := by rw [a2]; rfl
        rw [eb] at k255
        exact br_t a2 k255
      refine br_f a2 ?_
      by_cases a3 : ycv = 111
      · have eb : cv_b ycv = 8 := by rw [a3]; rfl
        rw [eb] at k255
        exact br_t a3 k255
      · have eb : cv_b ycv = 16 := by
          rcases cv_cases hok with y | y | y | y | y | y | y
          · exact absurd y c1
          · exact absurd y c2
          · exact absurd y a1
          · exact absurd y a2
          · rw [y]; rfl
          · rw [y]; rfl
          · exact absurd y a3
        rw [eb] at k255
        exact br_f a3 k255
    refine ym_sw hN hr (pk_lt W 1 (fun a => ?_) (fun a => ?_))
    · have eB : sc_B W = 1000 := if_neg (by omega)
      rw [eB] at k223
      exact k223
    · have eB : sc_B W = W := if_pos a
      rw [eB] at k223
      exact k223
end
