/-! the reference: digit runs, one directive, one item -/
section
variable {yfl yil yol ytl ycap ymk yen yac yec ypos yco yde ydp ydw ydq ywd ypr yit ym1 ym2 ym3 ym4 ym5 yws yps ylg ycv ycm ycs ycx ycu ysq ysv ycw ycp ycn : Int32} {bf bi bo btm brv : Nat → Int32} {ba brs : Nat → Int64}
theorem ym_id {post : Int32 → Prop} {c : Int32} (c' : Int32) (e : c = c') (h1 : rn_d c' → post 1) (h0 : ¬ rn_d c' → post 0) : wpY_isDigit post c := by
  subst e
  by_cases a : c < 48
  · exact br_t a (h0 (fun z => absurd z.1 (Int32.not_le.mpr a)))
  · refine br_f a ?_
    by_cases b : 57 < c
    · exact br_t b (h0 (fun z => absurd z.2 (Int32.not_le.mpr b)))
    · exact br_f b (h1 ⟨Int32.not_lt.mp a, Int32.not_lt.mp b⟩)
theorem ym_rel {post : Int32 → Prop} {L : Nat} (hL : L ≤ 64) : ∀ n j k, j ≤ L → k ≤ j → L - j < n → post (nI (rn_E bf (L - j) j)) → wY_runEnd_4 post (nI L) yil yol ytl ycap ymk yen yac yec ypos yco yde ydp ydw ydq ywd ypr yit ym1 ym2 ym3 ym4 ym5 yws yps ylg ycv ycm ycs ycx ycu ysq ysv ycw ycp ycn bf bi bo btm brv ba brs n (nI j) (nI k) := by
  intro n
  induction n with
  | zero => intro j k hj hk hn; omega
  | succ n ih =>
    intro j k hj hk hn h
    have h0 : L ≤ j → post (nI j) := fun hl => by
      rw [show L - j = 0 by omega] at h
      exact h
    refine pk_le 64 k (fun hl => h0 (by omega)) (fun hl => pk_le L j h0 (fun hj => ?_))
    have ej : (nI j).toNatClampNeg = j := nI_clamp (by omega)
    refine ⟨vp_in_nI (by omega) (by omega), ym_id (bf j) (by rw [ej]) (fun d => ?_) (fun d => ?_)⟩
    · obtain ⟨m, hm⟩ : ∃ m, L - j = m + 1 := ⟨L - j - 1, by omega⟩
      rw [hm, rn_Es bf d, show m = L - (j + 1) by omega] at h
      exact br_f (by decide) (nm_r (nI_1 j) (nm_r (nI_1 k) (ih (j + 1) (k + 1) (by omega) (by omega) (by omega) h)))
    · rw [rn_E0 bf d] at h
      exact br_t rfl h
theorem ym_re {post : Int32 → Prop} {L j : Nat} (hL : L ≤ 64) (hj : j ≤ L) (h : post (nI (rn_E bf (L - j) j))) : wpY_runEnd post (nI L, yil, yol, ytl, ycap, ymk, yen, yac, yec, ypos, yco, yde, ydp, ydw, ydq, ywd, ypr, yit, ym1, ym2, ym3, ym4, ym5, yws, yps, ylg, ycv, ycm, ycs, ycx, ycu, ysq, ysv, ycw, ycp, ycn, bf, bi, bo, btm, brv, ba, brs) (nI j) :=
  ⟨L - j + 1, ym_rel hL (L - j + 1) j 0 hj (by omega) (by omega) h⟩
theorem ym_rvl {post : Int32 → Prop} {L j : Nat} (hL : L ≤ 64) : ∀ n k v, j + k ≤ L → L - (j + k) < n → v ≤ 1000 → post (nI (rn_V bf (L - (j + k)) (j + k) v)) → wY_runVal_4 post (nI j) (nI L) yil yol ytl ycap ymk yen yac yec ypos yco yde ydp ydw ydq ywd ypr yit ym1 ym2 ym3 ym4 ym5 yws yps ylg ycv ycm ycs ycx ycu ysq ysv ycw ycp ycn bf bi bo btm brv ba brs n (nI v) (nI k) := by
  intro n
  induction n with
  | zero => intro k v hj hn; omega
  | succ n ih =>
    intro k v hj hn hv h
    have h0 : L ≤ j + k → post (nI v) := fun hl => by
      rw [show L - (j + k) = 0 by omega] at h
      exact h
    refine pk_le 64 k (fun hl => h0 (by omega)) (fun hl => pk_le L (j + k) h0 (fun hj => ?_) rfl (nI_add j k))
    have ej : (nI j + nI k).toNatClampNeg = j + k := by rw [nI_add]; exact nI_clamp (by omega)
    have vi : vp_in (nI j + nI k) 64 := by rw [nI_add]; exact vp_in_nI (by omega) (by omega)
    refine ⟨vi, ym_id (bf (j + k)) (by rw [ej]) (fun d => ?_) (fun d => ?_)⟩
    · obtain ⟨w, hw, e1, e2⟩ := rn_st hv d
      obtain ⟨m, hm⟩ : ∃ m, L - (j + k) = m + 1 := ⟨L - (j + k) - 1, by omega⟩
      rw [hm, rn_Vs bf d, e2, show m = L - (j + (k + 1)) by omega, Nat.add_assoc] at h
      refine br_f (by decide) ⟨vi, nm_r (e' := nI w) (by rw [ej]; exact e1) ?_⟩
      refine pk_le w 1000 (fun hw => nm_r (nI_1 k) ?_) (fun hw => nm_r (nI_1 k) ?_)
      · rw [if_neg (by omega)] at h
        exact ih (k + 1) w (by omega) (by omega) (by omega) h
      · rw [if_pos hw] at h
        exact ih (k + 1) 1000 (by omega) (by omega) (by omega) h
    · rw [rn_V0 bf d] at h
      exact br_t rfl h
theorem ym_rv {post : Int32 → Prop} {L j : Nat} (hL : L ≤ 64) (hj : j ≤ L) (h : post (nI (rn_V bf (L - j) j 0))) : wpY_runVal post (nI L, yil, yol, ytl, ycap, ymk, yen, yac, yec, ypos, yco, yde, ydp, ydw, ydq, ywd, ypr, yit, ym1, ym2, ym3, ym4, ym5, yws, yps, ylg, ycv, ycm, ycs, ycx, ycu, ysq, ysv, ycw, ycp, ycn, bf, bi, bo, btm, brv, ba, brs) (nI j) :=
  ⟨L - j + 1, ym_rvl hL (L - j + 1) 0 0 (by omega) (by omega) (by omega) h⟩
theorem ps_w {f : Nat → Int32} {L j : Nat} {A B : Prop} (hL : L ≤ 64) (hj : j ≤ L) (hA : ¬ ps_at f L j → A) (hB : ps_at f L j → B) : (nI (rn_E f (L - j) j) ≤ nI j → A) ∧ (¬ nI (rn_E f (L - j) j) ≤ nI j → ((nI L ≤ nI (rn_E f (L - j) j) → A) ∧ (¬ nI L ≤ nI (rn_E f (L - j) j) → (vp_in (nI (rn_E f (L - j) j)) 64 ∧ ((f (nI (rn_E f (L - j) j)).toNatClampNeg = 36 → B) ∧ (¬ f (nI (rn_E f (L - j) j)).toNatClampNeg = 36 → A)))))) := by
  have hb := rn_Eb f (L - j) j
  refine pk_le (rn_E f (L - j) j) j (fun h => hA (fun z => by have := z.1; omega)) (fun h => pk_le L (rn_E f (L - j) j) (fun h2 => hA (fun z => by have := z.2.1; omega)) (fun h2 => ⟨vp_in_nI (by omega) (by omega), ?_⟩))
  refine wk_if (d := f (rn_E f (L - j) j) = 36) (by rw [nI_clamp (by omega)]) (fun q => hB ⟨h, h2, q⟩) (fun q => hA (fun z => q z.2.2))
theorem ps_b {f : Nat → Int32} {L j : Nat} {A B : Prop} (hA : ps_bad f L j → A) (hB : ¬ ps_bad f L j → B) : (nI (rn_V f (L - j) j 0) < 1 → A) ∧ (¬ nI (rn_V f (L - j) j 0) < 1 → ((nI (rn_V f (L - j) j 0) ≤ 8 → B) ∧ (¬ nI (rn_V f (L - j) j 0) ≤ 8 → A))) := by
  have hV := rn_Vb f (L - j) j 0 (by omega)
  exact pk_lt (rn_V f (L - j) j 0) 1 (fun h => hA (Or.inl h)) (fun h => pk_le (rn_V f (L - j) j 0) 8 (fun h2 => hB (fun z => by rcases z with z | z <;> omega)) (fun h2 => hA (Or.inr h2)))
theorem ps_v1 {f : Nat → Int32} {L j : Nat} (h : ¬ ps_at f L j) : ps_v f L j = 0 ∧ ps_n f L j = j := by
  unfold ps_v ps_n
  rw [if_neg h, if_neg h]
  exact ⟨rfl, rfl⟩
theorem ps_v2 {f : Nat → Int32} {L j : Nat} (h : ps_at f L j) (hb : ps_bad f L j) : ps_v f L j = -3 := by
  unfold ps_v
  rw [if_pos h, if_pos hb]
theorem ps_v3 {f : Nat → Int32} {L j : Nat} (h : ps_at f L j) (hb : ¬ ps_bad f L j) : ps_v f L j = nI (rn_V f (L - j) j 0) ∧ ps_n f L j = rn_E f (L - j) j + 1 := by
  unfold ps_v ps_n
  rw [if_pos h, if_pos h, if_neg hb]
  exact ⟨rfl, rfl⟩
/-- the reference's pair of fields for a star: whether it stands, and its position -/
def yu_s (u : Int32) : Int32 := if u = -1 then 0 else 1
def yu_p (u : Int32) : Int32 := if u = -1 then 0 else u
theorem ym_632 {post : Int32 → SY → Prop} {k g : Nat} {c : Int32} (hc : ar_ch c) (hg : g = 0 ∨ g = 1) (h11 : cv_t c ∧ g = 1 → post (-11) (yfl, yil, yol, ytl, ycap, ymk, yen, yac, yec, ypos, yco, yde, ydp, ydw, ydq, ywd, ypr, yit, ym1, ym2, ym3, ym4, ym5, yws, yps, nI g, ycv, ycm, ycs, ycx, ycu, ysq, ysv, ycw, ycp, ycn, bf, bi, bo, btm, brv, ba, brs)) (h : ¬ (cv_t c ∧ g = 1) → post 0 (yfl, yil, yol, ytl, ycap, ymk, yen, yac, yec, ypos, yco, nI (k + 1), ydp, ydw, ydq, ywd, ypr, yit, ym1, ym2, ym3, ym4, ym5, yws, yps, nI g, c, ycm, ycs, ycx, ycu, ysq, ysv, ycw, ycp, ycn, bf, bi, bo, btm, brv, ba, brs)) : wY_parseAt_632 post (nI k) c yfl yil yol ytl ycap ymk yen yac yec ypos yco yde ydp ydw ydq ywd ypr yit ym1 ym2 ym3 ym4 ym5 yws yps (nI g) ycv ycm ycs ycx ycu ysq ysv ycw ycp ycn bf bi bo btm brv ba brs := by
  rcases hg with rfl | rfl
  · exact br_t rfl ⟨ar_narw hc, ar_fit hc, nm_r (nI_1 k) (h (fun z => absurd z.2 (by decide)))⟩
  · refine br_f (by decide) ⟨fun a => h11 ⟨Or.inl a, rfl⟩, fun a => ⟨fun b => h11 ⟨Or.inr b, rfl⟩, fun b => ?_⟩⟩
    exact ⟨ar_narw hc, ar_fit hc, nm_r (nI_1 k) (h (fun z => z.1.elim a b))⟩
theorem ym_562 {post : Int32 → SY → Prop} {L k g : Nat} (hL : L ≤ 64) (hk : k ≤ 64) (hf : ∀ j, ar_ch (bf j)) (hg : g = 0 ∨ g = 1) (h1 : L ≤ k → post (-1) (nI L, yil, yol, ytl, ycap, ymk, yen, yac, yec, ypos, yco, yde, ydp, ydw, ydq, ywd, ypr, yit, ym1, ym2, ym3, ym4, ym5, yws, yps, nI g, ycv, ycm, ycs, ycx, ycu, ysq, ysv, ycw, ycp, ycn, bf, bi, bo, btm, brv, ba, brs)) (h2 : k < L → ¬ cv_t (bf k) ∧ cv_b (bf k) = 0 → post (-2) (nI L, yil, yol, ytl, ycap, ymk, yen, yac, yec, ypos, yco, yde, ydp, ydw, ydq, ywd, ypr, yit, ym1, ym2, ym3, ym4, ym5, yws, yps, nI g, ycv, ycm, ycs, ycx, ycu, ysq, ysv, ycw, ycp, ycn, bf, bi, bo, btm, brv, ba, brs))
    (h11 : k < L → cv_t (bf k) ∧ g = 1 → post (-11) (nI L, yil, yol, ytl, ycap, ymk, yen, yac, yec, ypos, yco, yde, ydp, ydw, ydq, ywd, ypr, yit, ym1, ym2, ym3, ym4, ym5, yws, yps, nI g, ycv, ycm, ycs, ycx, ycu, ysq, ysv, ycw, ycp, ycn, bf, bi, bo, btm, brv, ba, brs)) (h : k < L → (cv_t (bf k) ∨ ¬ cv_b (bf k) = 0) → ¬ (cv_t (bf k) ∧ g = 1) → post 0 (nI L, yil, yol, ytl, ycap, ymk, yen, yac, yec, ypos, yco, nI (k + 1), ydp, ydw, ydq, ywd, ypr, yit, ym1, ym2, ym3, ym4, ym5, yws, yps, nI g, bf k, ycm, ycs, ycx, ycu, ysq, ysv, ycw, ycp, ycn, bf, bi, bo, btm, brv, ba, brs)) : wY_parseAt_562 post (nI k) (nI L) yil yol ytl ycap ymk yen yac yec ypos yco yde ydp ydw ydq ywd ypr yit ym1 ym2 ym3 ym4 ym5 yws yps (nI g) ycv ycm ycs ycx ycu ysq ysv ycw ycp ycn bf bi bo btm brv ba brs := by
  refine pk_lt k L (fun hl => ⟨vp_in_nI (by omega) (by omega), nm_r (e' := bf k) (by rw [nI_clamp (by omega)]) ?_⟩) h1
  have ok : (cv_t (bf k) ∨ ¬ cv_b (bf k) = 0) → wY_parseAt_632 post (nI k) (bf k) (nI L) yil yol ytl ycap ymk yen yac yec ypos yco yde ydp ydw ydq ywd ypr yit ym1 ym2 ym3 ym4 ym5 yws yps (nI g) ycv ycm ycs ycx ycu ysq ysv ycw ycp ycn bf bi bo btm brv ba brs := fun z => ym_632 (hf k) hg (h11 hl) (h hl z)
  refine ⟨fun a => ok (Or.inr (by rw [a]; decide)), fun a1 => ⟨fun a => ok (Or.inr (by rw [a]; decide)), fun a2 => ⟨fun a => ok (Or.inr (by rw [a]; decide)), fun a3 => ⟨fun a => ok (Or.inr (by rw [a]; decide)), fun a4 => ⟨fun a => ok (Or.inr (by rw [a]; decide)), fun a5 => ⟨fun a => ok (Or.inl (Or.inl a)), fun a6 => ⟨fun a => ok (Or.inl (Or.inr a)), fun a7 => h2 hl ⟨fun z => z.elim a6 a7, ?_⟩⟩⟩⟩⟩⟩⟩⟩
  unfold cv_b
  rw [if_neg (fun z => z.elim a1 a2), if_neg (fun z => z.elim a3 a4), if_neg a5]
theorem ym_535 {post : Int32 → SY → Prop} {L j : Nat} (hL : L ≤ 64) (hj : j ≤ L) (hf : ∀ j, ar_ch (bf j)) (hr : ¬ pc_r bf L j = 0 → ∀ ylg, post (pc_r bf L j) (nI L, yil, yol, ytl, ycap, ymk, yen, yac, yec, ypos, yco, yde, ydp, ydw, ydq, ywd, ypr, yit, ym1, ym2, ym3, ym4, ym5, yws, yps, ylg, ycv, ycm, ycs, ycx, ycu, ysq, ysv, ycw, ycp, ycn, bf, bi, bo, btm, brv, ba, brs))
    (h : pc_r bf L j = 0 → post 0 (nI L, yil, yol, ytl, ycap, ymk, yen, yac, yec, ypos, yco, nI (pc_k bf L j + 1), ydp, ydw, ydq, ywd, ypr, yit, ym1, ym2, ym3, ym4, ym5, yws, yps, nI (if pc_l bf L j then 1 else 0), bf (pc_k bf L j), ycm, ycs, ycx, ycu, ysq, ysv, ycw, ycp, ycn, bf, bi, bo, btm, brv, ba, brs)) : wY_parseAt_535 post (nI j) (nI L) yil yol ytl ycap ymk yen yac yec ypos yco yde ydp ydw ydq ywd ypr yit ym1 ym2 ym3 ym4 ym5 yws yps 0 ycv ycm ycs ycx ycu ysq ysv ycw ycp ycn bf bi bo btm brv ba brs := by
  have key : ∀ k g : Nat, k ≤ 64 → (g = 0 ∨ g = 1) → pc_k bf L j = k → (if pc_l bf L j then 1 else 0) = g → (g = 1 ↔ pc_l bf L j) → wY_parseAt_562 post (nI k) (nI L) yil yol ytl ycap ymk yen yac yec ypos yco yde ydp ydw ydq ywd ypr yit ym1 ym2 ym3 ym4 ym5 yws yps (nI g) ycv ycm ycs ycx ycu ysq ysv ycw ycp ycn bf bi bo btm brv ba brs := by
    intro k g hk hg ek eg ig
    have er : pc_r bf L j = if L ≤ k then -1 else if ¬ cv_t (bf k) ∧ cv_b (bf k) = 0 then -2 else if cv_t (bf k) ∧ pc_l bf L j then -11 else 0 := by
      unfold pc_r
      rw [ek]
    rw [ek, eg] at h
    refine ym_562 hL hk hf hg (fun hl => ?_) (fun hl z => ?_) (fun hl z => ?_) (fun hl z1 z2 => ?_)
    · rw [if_pos hl] at er
      rw [er] at hr
      exact hr (by decide) _
    · rw [if_neg (by omega), if_pos z] at er
      rw [er] at hr
      exact hr (by decide) _
    · have z' : cv_t (bf k) ∧ pc_l bf L j := ⟨z.1, ig.mp z.2⟩
      rw [if_neg (by omega), if_neg (fun q => q.1 z.1), if_pos z'] at er
      rw [er] at hr
      exact hr (by decide) _
    · rw [if_neg (by omega), if_neg (fun q => z1.elim q.1 (fun y => y q.2)), if_neg (fun q => z2 ⟨q.1, ig.mpr q.2⟩)] at er
      exact h er
  have z0 : ¬ pc_l bf L j → wY_parseAt_562 post (nI j) (nI L) yil yol ytl ycap ymk yen yac yec ypos yco yde ydp ydw ydq ywd ypr yit ym1 ym2 ym3 ym4 ym5 yws yps 0 ycv ycm ycs ycx ycu ysq ysv ycw ycp ycn bf bi bo btm brv ba brs := fun hs => key j 0 (by omega) (Or.inl rfl) (by unfold pc_k; rw [if_neg hs]) (by rw [if_neg hs]) ⟨fun z => absurd z (by decide), fun z => absurd z hs⟩
  refine pk_le L j (fun hl => z0 (fun z => by have := z.1; omega)) (fun hl => ⟨vp_in_nI (by omega) (by omega), wk_if (d := bf j = 108) (by rw [nI_clamp (by omega)]) (fun hc => ?_) (fun hc => z0 (fun z => hc z.2))⟩)
  have hs : pc_l bf L j := ⟨hl, hc⟩
  exact nm_r (nI_1 j) (key (j + 1) 1 (by omega) (Or.inr rfl) (by unfold pc_k; rw [if_pos hs]) (by rw [if_pos hs]) ⟨fun _ => hs, fun _ => rfl⟩)
end
