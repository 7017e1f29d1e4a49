/-! the reference: one conversion -/
section
variable {yfl yil yol ytl ycap ymk yen yac yec ypos yco yde ydp ydw ydq ywd ypr yit ym1 ym2 ym3 ym4 ym5 yws yps ylg ycv ycm ycs ycx ycu ysq ysv ycw ycp ycn : Int32} {bf bi bo btm brv : Nat → Int32} {ba brs : Nat → Int64}
theorem ym_rd {post : SY → Prop} {n W C g m j : Nat} {lf : Bool} (hj : j < 8) (hn : n < 2 ^ 20) (hW : W ≤ 99) (hg : g = 0 ∨ g = 1) (hc : ar_ch ycv) (hok : cv_t ycv ∨ ¬ cv_b ycv = 0) (hP : pv_ok ycp) (hC2 : C ≤ 22)
    (hC : ¬ cv_b ycv = 0 → dt_C (cv_b ycv) (nt_N ycv (nt_v ycv g (ba j))) C)
    (h : ∀ brv, post (yfl, yil, yol, nI (n + (W - tx_n ycv g m ycp lf W (ba j) C) + tx_n ycv g m ycp lf W (ba j) C), ycap, ymk, yen, yac, yec, ypos, yco, yde, ydp, ydw, ydq, ywd, ypr, yit, ym1, nI (m / 2 % 2), nI (m / 4 % 2), nI (m / 8 % 2), nI (m / 16 % 2), yws, yps, nI g, ycv, ycm, ycs, ycx, ycu, ysq, nI j, nI W, ycp, yb_b lf, bf, bi, bo, em_o lf W (tx_n ycv g m ycp lf W (ba j) C) (tx_T ycv g m ycp lf W (ba j) C) btm n, brv, ba, brs)) :
    wpY_renderDir post (yfl, yil, yol, nI n, ycap, ymk, yen, yac, yec, ypos, yco, yde, ydp, ydw, ydq, ywd, ypr, yit, ym1, nI (m / 2 % 2), nI (m / 4 % 2), nI (m / 8 % 2), nI (m / 16 % 2), yws, yps, nI g, ycv, ycm, ycs, ycx, ycu, ysq, nI j, nI W, ycp, yb_b lf, bf, bi, bo, btm, brv, ba, brs) := by
  refine ⟨vp_in_nI hj (by decide), nm_r (e' := ba j) (by rw [nI_clamp (by omega)]) ?_⟩
  by_cases c1 : ycv = 99
  · exact br_t c1 (ym_39 (Or.inl c1) hn hW hP g m C h)
  refine br_f c1 ?_
  by_cases c2 : ycv = 115
  · exact br_t c2 (ym_39 (Or.inr c2) hn hW hP g m C h)
  refine br_f c2 ?_
  have hb : ¬ cv_b ycv = 0 := hok.elim (fun z => absurd z (fun y => y.elim c1 c2)) id
  have hC := hC hb
  unfold tx_n tx_T at h
  rw [if_neg c1, if_neg c2, if_neg c1, if_neg c2] at h
  have m1 : m / 2 % 2 < 2 := Nat.mod_lt _ (by decide)
  have m2 : m / 4 % 2 < 2 := Nat.mod_lt _ (by decide)
  have go : ∀ v : Int64, nt_v ycv g (ba j) = v → ∀ sg : Int32, sg = nt_sg ycv m v → ∃ k, wY_renderDir_331 post ycv (nI W) (yb_b lf) (nt_M ycv v) (lN (cv_b ycv)) sg yfl yil yol (nI n) ycap ymk yen yac yec ypos yco yde ydp ydw ydq ywd ypr yit ym1 (nI (m / 2 % 2)) (nI (m / 4 % 2)) (nI (m / 8 % 2)) (nI (m / 16 % 2)) yws yps (nI g) ycv ycm ycs ycx ycu ysq (nI j) (nI W) ycp (yb_b lf) k 0 (nt_M ycv v) 0 bf bi bo btm brv ba brs := by
    intro v ev sg es
    rw [ev] at h hC
    exact ym_go hn hW hc hb hP rfl rfl es hC hC2 (fun nd z en ez brv => by rw [ez, en]; exact h brv)
  by_cases c3 : ycv = 100
  · refine br_t c3 ?_
    have k223 : ∀ v : Int64, nt_v ycv g (ba j) = v → wY_renderDir_223 post ycv (nI W) (yb_b lf) 10 0 v yfl yil yol (nI n) ycap ymk yen yac yec ypos yco yde ydp ydw ydq ywd ypr yit ym1 (nI (m / 2 % 2)) (nI (m / 4 % 2)) (nI (m / 8 % 2)) (nI (m / 16 % 2)) yws yps (nI g) ycv ycm ycs ycx ycu ysq (nI j) (nI W) ycp (yb_b lf) bf bi bo btm brv ba brs := by
      intro v ev
      have g1 := go v ev
      have eb : cv_b ycv = 10 := by rw [c3]; rfl
      rw [eb] at g1
      unfold nt_M nt_sg at g1
      rw [if_pos c3] at g1
      by_cases n0 : v < 0
      · have nn : ycv = 100 ∧ v < 0 := ⟨c3, n0⟩
        rw [if_pos n0, if_pos nn] at g1
        exact br_f (Int64.not_le.mpr n0) (nm_e (g1 45 rfl))
      · have nn : ¬ (ycv = 100 ∧ v < 0) := fun y => n0 y.2
        rw [if_neg n0, if_neg nn] at g1
        refine br_t (Int64.not_lt.mp n0) (pk_eq (m / 2 % 2) 0 (fun a => ?_) (fun a => ?_))
        · rw [if_neg (by omega)] at g1
          refine pk_eq (m / 4 % 2) 0 (fun b => ?_) (fun b => ?_)
          · rw [if_neg (by omega)] at g1
            exact g1 0 rfl
          · rw [if_pos (by omega)] at g1
            exact g1 32 rfl
        · rw [if_pos (by omega)] at g1
          exact g1 43 rfl
    rcases hg with g0 | g0
    · rw [g0] at k223 ⊢
      exact br_t rfl (k223 _ (by unfold nt_v; rw [if_neg (by omega), if_pos c3]))
    · rw [g0] at k223 ⊢
      exact br_f (by decide) (k223 _ (by unfold nt_v; rw [if_pos rfl]))
  · refine br_f c3 ?_
    have k288 : ∀ v : Int64, nt_v ycv g (ba j) = v → wY_renderDir_288 post ycv (nI W) (yb_b lf) 10 0 v yfl yil yol (nI n) ycap ymk yen yac yec ypos yco yde ydp ydw ydq ywd ypr yit ym1 (nI (m / 2 % 2)) (nI (m / 4 % 2)) (nI (m / 8 % 2)) (nI (m / 16 % 2)) yws yps (nI g) ycv ycm ycs ycx ycu ysq (nI j) (nI W) ycp (yb_b lf) bf bi bo btm brv ba brs := by
      intro v ev
      have g1 := go v ev 0 (by unfold nt_sg; rw [if_neg c3])
      unfold nt_M at g1
      rw [if_neg (fun y => c3 y.1)] at g1
      by_cases a1 : ycv = 120
      · have eb : cv_b ycv = 16 := by rw [a1]; rfl
        rw [eb] at g1
        exact br_t a1 g1
      refine br_f a1 ?_
      by_cases a2 : ycv = 88
      · have eb : cv_b ycv = 16 := by rw [a2]; rfl
        rw [eb] at g1
        exact br_t a2 g1
      refine br_f a2 ?_
      by_cases a3 : ycv = 111
      · have eb : cv_b ycv = 8 := by rw [a3]; rfl
        rw [eb] at g1
        exact br_t a3 g1
      · have eb : cv_b ycv = 10 := by
          rcases cv_cases hok with y | y | y | y | y | y | y
          · exact absurd y c1
          · exact absurd y c2
          · exact absurd y c3
          · rw [y]; rfl
          · exact absurd y a1
          · exact absurd y a2
          · exact absurd y a3
        rw [eb] at g1
        exact br_f a3 g1
    rcases hg with g0 | g0
    · rw [g0] at k288 ⊢
      exact br_t rfl (k288 _ (by unfold nt_v; rw [if_neg (by omega), if_neg c3]))
    · rw [g0] at k288 ⊢
      exact br_f (by decide) (k288 _ (by unfold nt_v; rw [if_pos rfl]))
end
