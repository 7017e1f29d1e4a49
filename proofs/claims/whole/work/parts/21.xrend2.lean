/-! the class: the text of a conversion -/
def bs_b (a : Int64) (x : Int32) : Int64 := ((a.toUInt64 >>> ((8 * x).toInt64.toUInt64 &&& Int64.toUInt64 63)).toInt64) &&& 255
def bs_c (a : Int64) (k : Nat) : Int32 := ((bs_b a (nI k)).toInt32.toUInt32 % 65536).toInt32
def bs_n (a : Int64) : Nat → Nat → Nat
  | 0, k => k
  | n + 1, k => if bs_b a (nI k) = 0 then k else bs_n a n (k + 1)
def bs_M (P : Int32) : Nat := if P = -1 then 8 else if P ≤ 8 then P.toNatClampNeg else 8
theorem bs_nb (a : Int64) : ∀ n k, k ≤ bs_n a n k ∧ bs_n a n k ≤ k + n := by
  intro n
  induction n with
  | zero => intro k; unfold bs_n; omega
  | succ n ih =>
    intro k
    unfold bs_n
    by_cases h : bs_b a (nI k) = 0
    · rw [if_pos h]; omega
    · rw [if_neg h]; have := ih (k + 1); omega
/-- a precision: none, or 0 .. 99 -/
abbrev pv_ok (P : Int32) : Prop := P = -1 ∨ ∃ q : Nat, q ≤ 99 ∧ P = nI q
theorem bs_Mb {P : Int32} (hP : pv_ok P) : bs_M P ≤ 8 := by
  unfold bs_M
  by_cases h : P = -1
  · rw [if_pos h]; omega
  · rw [if_neg h]
    by_cases h8 : P ≤ 8
    · rw [if_pos h8]
      rcases hP with z | ⟨q, hq, rfl⟩
      · exact absurd z h
      · rw [nI_clamp (by omega)]
        exact (nI_leI (b := 8) (by omega) (by decide)).mp h8
    · rw [if_neg h8]; omega
theorem sb_ss (x a b : Int32) : x - a - b = x - (a + b) := by grind
def tx_z (c : Int32) (m : Nat) (P : Int32) (lf : Bool) (W : Nat) (v : Int64) (nd : Nat) : Nat := nt_z2 m lf P W (nt_pl c m v) (nt_z1 c m (nt_z0 P nd) v nd) nd
theorem tx_zb {c : Int32} {m : Nat} {P : Int32} {lf : Bool} {W : Nat} {v : Int64} {nd : Nat} (hP : pv_ok P) (hW : W ≤ 99) (hn : nd ≤ 22) : nt_pl c m v + tx_z c m P lf W v nd + nd ≤ 125 ∧ nt_z1 c m (nt_z0 P nd) v nd ≤ 99 ∧ nt_z0 P nd ≤ 99 := by
  have h2 := nt_pl2 c m v
  have z0 : nt_z0 P nd ≤ 99 ∧ (nt_z0 P nd + nd ≤ 99 ∨ nt_z0 P nd = 0) := by
    unfold nt_z0
    rcases hP with rfl | ⟨q, hq, rfl⟩
    · have e : (-1 : Int32).toNatClampNeg = 0 := by decide
      rw [e]; omega
    · rw [nI_clamp (by omega)]; omega
  have z1 : nt_z1 c m (nt_z0 P nd) v nd = 1 ∨ nt_z1 c m (nt_z0 P nd) v nd = nt_z0 P nd := by
    unfold nt_z1
    by_cases h : c = 111 ∧ m / 16 % 2 = 1 ∧ ¬ (0 < nt_z0 P nd ∨ (v = 0 ∧ 0 < nd))
    · rw [if_pos h]; exact Or.inl rfl
    · rw [if_neg h]; exact Or.inr rfl
  have z2 : tx_z c m P lf W v nd = W - nt_pl c m v - nd ∨ tx_z c m P lf W v nd = nt_z1 c m (nt_z0 P nd) v nd := by
    unfold tx_z nt_z2
    by_cases h : m / 8 % 2 = 1 ∧ ¬ lf = true ∧ P = -1 ∧ nt_pl c m v + nt_z1 c m (nt_z0 P nd) v nd + nd < W
    · rw [if_pos h]; exact Or.inl rfl
    · rw [if_neg h]; exact Or.inr rfl
  omega
section
variable {cap xfl xol xil xrm xsp xco xec xat xlt xcu xwu xpu xvu xdc xsu xpo xdl xtl xbu : Int32} {xsv : Int64} {af ao ai ak als ale afl awd apr aws aps avs ali adr atx adg : Nat → Int32} {aa ar : Nat → Int64}
variable {L e p q s t : Nat}
theorem xm_wt {post : SX → Prop} {a : Int64} {M : Nat} (hM : M ≤ 8) (h : post (cap, xfl, xol, xil, xrm, xsp, xco, xec, xat, xlt, xcu, xwu, xpu, xvu, xdc, xsu, xpo, xdl, nI (bs_n a M 0), xbu, xsv, af, aa, ao, ai, ar, ak, als, ale, afl, awd, apr, aws, aps, avs, ali, adr, ef_f 128 (bs_c a) atx 0 (bs_n a M 0), adg)) : ∃ n, wX_writePackedText_43 post a (nI M) n 0 cap xfl xol xil xrm xsp xco xec xat xlt xcu xwu xpu xvu xdc xsu xpo xdl 0 xbu xsv af aa ao ai ar ak als ale afl awd apr aws aps avs ali adr atx adg := by
  have lo : ∀ r k, k + r = M → post (cap, xfl, xol, xil, xrm, xsp, xco, xec, xat, xlt, xcu, xwu, xpu, xvu, xdc, xsu, xpo, xdl, nI (bs_n a r k), xbu, xsv, af, aa, ao, ai, ar, ak, als, ale, afl, awd, apr, aws, aps, avs, ali, adr, ef_f 128 (bs_c a) atx 0 (bs_n a r k), adg) → wX_writePackedText_43 post a (nI M) (r + 1) (nI k) cap xfl xol xil xrm xsp xco xec xat xlt xcu xwu xpu xvu xdc xsu xpo xdl (nI k) xbu xsv af aa ao ai ar ak als ale afl awd apr aws aps avs ali adr (ef_f 128 (bs_c a) atx 0 k) adg := by
    intro r
    induction r with
    | zero =>
      intro k hk h
      exact br_t (nI_le (by omega) (by omega)) h
    | succ r ih =>
      intro k hk h
      refine br_f (nI_ge (by omega) (by omega)) (nm_r (e' := bs_b a (nI k)) rfl ?_)
      unfold bs_n at h
      by_cases z : bs_b a (nI k) = 0
      · rw [if_pos z] at h
        exact br_t z h
      · rw [if_neg z] at h
        refine br_f z (xm_wc (by omega) (ar_cast _) (nm_r (nI_1 k) ?_))
        have := ih (k + 1) (by omega) h
        have e : ef_f 128 (bs_c a) atx 0 (k + 1) = ef_x 128 (ef_f 128 (bs_c a) atx 0 k) k (bs_c a k) := by
          show ef_x 128 (ef_f 128 (bs_c a) atx 0 k) (0 + k) (bs_c a k) = _
          rw [Nat.zero_add]
        rw [e] at this
        exact this
  exact ⟨M + 1, lo M 0 (by omega) h⟩
theorem xm_wpt {post : SX → Prop} (he : e < 64) (hd : tb_dir af L ak afl awd apr aws aps avs e p q s t) (hP : pv_ok (ev_P af L aa p s))
    (h : post (cap, xfl, xol, xil, xrm, xsp, xco, xec, xat, xlt, xcu, xwu, xpu, xvu, xdc, xsu, xpo, xdl, nI (bs_n (aa (ev_V af L p s).toNatClampNeg) (bs_M (ev_P af L aa p s)) 0), xbu, xsv, af, aa, ao, ai, ar, ak, als, ale, afl, awd, apr, aws, aps, avs, ali, adr, ef_f 128 (bs_c (aa (ev_V af L p s).toNatClampNeg)) atx 0 (bs_n (aa (ev_V af L p s).toNatClampNeg) (bs_M (ev_P af L aa p s)) 0), adg)) : wpX_writePackedText post (cap, xfl, xol, xil, xrm, xsp, xco, xec, xat, xlt, xcu, xwu, xpu, xvu, xdc, xsu, xpo, xdl, 0, xbu, xsv, af, aa, ao, ai, ar, ak, als, ale, afl, awd, apr, aws, aps, avs, ali, adr, atx, adg) (nI e) := by
  have hM := bs_Mb hP
  refine ⟨vp_in_nI he (by decide), xm_va he hd (xm_po he hd ?_)⟩
  by_cases z : ev_P af L aa p s = -1
  · have eM : bs_M (ev_P af L aa p s) = 8 := if_pos z
    rw [eM] at h
    exact br_t z (xm_wt (M := 8) (by decide) h)
  refine br_f z ?_
  by_cases z8 : ev_P af L aa p s ≤ 8
  · have eM : bs_M (ev_P af L aa p s) = (ev_P af L aa p s).toNatClampNeg := by unfold bs_M; rw [if_neg z, if_pos z8]
    rcases hP with y | ⟨k, hk, ek⟩
    · exact absurd y z
    · rw [ek, nI_clamp (by omega)] at eM
      rw [ek] at z8 h ⊢
      rw [eM] at h
      exact br_t z8 (xm_wt ((nI_leI (b := 8) (by omega) (by decide)).mp z8) h)
  · have eM : bs_M (ev_P af L aa p s) = 8 := by unfold bs_M; rw [if_neg z, if_neg z8]
    rw [eM] at h
    exact br_f z8 (xm_wt (M := 8) (by decide) h)
theorem xm_fi {post : Int64 → Prop} {a : Int64} (he : e < 64) (hd : tb_dir af L ak afl awd apr aws aps avs e p q s t) (h : post (nt_v (dr_c af L p) (dr_g af L p) a)) : wpX_fitted post (cap, xfl, xol, xil, xrm, xsp, xco, xec, xat, xlt, xcu, xwu, xpu, xvu, xdc, xsu, xpo, xdl, xtl, xbu, xsv, af, aa, ao, ai, ar, ak, als, ale, afl, awd, apr, aws, aps, avs, ali, adr, atx, adg) (nI e) a := by
  unfold nt_v at h
  refine ⟨vp_in_nI he (by decide), wk_if (d := dr_g af L p = 0) (by rw [nI_clamp (by omega), hd.2.2.2.1]; exact propext (cv_255 (tb_cc hd) (tb_gz af L p)).2.1) (fun z => xm_co he hd ?_) (fun z => ?_)⟩
  · rw [if_neg (by omega)] at h
    by_cases c : dr_c af L p = 100
    · rw [if_pos c] at h; exact br_t c h
    · rw [if_neg c] at h; exact br_f c h
  · have g1 : dr_g af L p = 1 := by rcases tb_gz af L p with y | y <;> omega
    rw [if_pos g1] at h
    exact h
theorem lN_nz {n : Nat} (h0 : 0 < n) (h : n < 2 ^ 63) : ¬ lN n = 0 := by
  intro z
  have := (pk_lEQ (b := 0) h (by decide)).mp z
  omega
theorem lN_z {n : Nat} (h : n < 2 ^ 64) : lN n = 0 ↔ n = 0 := by
  constructor
  · intro z
    have e : (lN n).toBitVec.toNat = (0 : Int64).toBitVec.toNat := by rw [z]
    rw [wb_tn h] at e
    exact e
  · intro z; rw [z]; rfl
theorem xm_s48 {post : Int32 → SX → Prop} {N C h : Nat} (hh : 4 ≤ h ∧ h ≤ 8) (hN : N < 2 ^ 64) (hC : dt_C (2 * h) N C) (hC2 : C ≤ 22) (hp : post (nI C) (cap, xfl, xol, xil, xrm, xsp, xco, xec, xat, xlt, xcu, xwu, xpu, xvu, xdc, xsu, xpo, xdl, xtl, xbu, xsv, af, aa, ao, ai, ar, ak, als, ale, afl, awd, apr, aws, aps, avs, ali, adr, atx, ef_f 32 (fun j => nI (N / (2 * h) ^ j % (2 * h))) adg 0 C)) :
    ∀ r i, i + r + 1 = C → wX_splitIntoDigits_48 post (nI h) cap xfl xol xil xrm xsp xco xec xat xlt xcu xwu xpu xvu xdc xsu xpo xdl xtl xbu xsv (r + 1) (lN (N / (2 * h) ^ i)) (nI i) af aa ao ai ar ak als ale afl awd apr aws aps avs ali adr atx (ef_f 32 (fun j => nI (N / (2 * h) ^ j % (2 * h))) adg 0 i) := by
  intro r
  induction r with
  | zero =>
    intro i hi
    have hR : N / (2 * h) ^ i < 2 ^ 64 := Nat.lt_of_le_of_lt (Nat.div_le_self _ _) hN
    have hl : (nI h).toInt64 = lN h := nI_l (by omega)
    have s1 : ((lN (N / (2 * h) ^ i)).toUInt64 >>> ((1 : Int32).toInt64.toUInt64 &&& Int64.toUInt64 63)).toInt64 = lN (N / (2 * h) ^ i / 2) := wb_shr (k := 1) hR (by decide)
    have q1 : lN (N / (2 * h) ^ i / 2) / lN h = lN (N / (2 * h) ^ (i + 1)) := by
      rw [pk_lDiv (by omega) (by omega) (by omega), dt_half, dt_s]
    have d1 := dt_x (R := N / (2 * h) ^ i) (h := h) (by omega)
    have q2 : (lN (N / (2 * h) ^ i) - (lN (N / (2 * h) ^ (i + 1)) * lN h) * 2).toInt32 = nI (N / (2 * h) ^ i % (2 * h)) := by
      rw [← dt_s, ← dt_half, lN_mul, show (2 : Int64) = lN 2 from rfl, lN_mul, lN_sub d1.2, d1.1, lN_i]
    have vi : vp_in (nI i) 32 := vp_in_nI (by omega) (by omega)
    have z : N / (2 * h) ^ (i + 1) = 0 := by rw [show i + 1 = C by omega]; exact hC.2.1
    have ef : ef_f 32 (fun j => nI (N / (2 * h) ^ j % (2 * h))) adg 0 (i + 1) = upd (ef_f 32 (fun j => nI (N / (2 * h) ^ j % (2 * h))) adg 0 i) i (nI (N / (2 * h) ^ i % (2 * h))) := by
      show ef_x 32 _ (0 + i) _ = _
      rw [Nat.zero_add, ef_xt (by omega)]
    refine ⟨by rw [hl]; exact lN_nz (by omega) (by omega), nm_r (e' := lN (N / (2 * h) ^ (i + 1))) (by rw [hl, s1, q1]) ⟨vi, nm_r (e' := ef_f 32 (fun j => nI (N / (2 * h) ^ j % (2 * h))) adg 0 (i + 1)) (by rw [hl, q2, nI_clamp (by omega), ef]) (nm_r (nI_1 i) (br_t (by rw [z]; rfl) ?_))⟩⟩
    rw [show i + 1 = C by omega]
    exact hp
  | succ r ih =>
    intro i hi
    have hR : N / (2 * h) ^ i < 2 ^ 64 := Nat.lt_of_le_of_lt (Nat.div_le_self _ _) hN
    have hR1 : N / (2 * h) ^ (i + 1) < 2 ^ 64 := Nat.lt_of_le_of_lt (Nat.div_le_self _ _) hN
    have hl : (nI h).toInt64 = lN h := nI_l (by omega)
    have s1 : ((lN (N / (2 * h) ^ i)).toUInt64 >>> ((1 : Int32).toInt64.toUInt64 &&& Int64.toUInt64 63)).toInt64 = lN (N / (2 * h) ^ i / 2) := wb_shr (k := 1) hR (by decide)
    have q1 : lN (N / (2 * h) ^ i / 2) / lN h = lN (N / (2 * h) ^ (i + 1)) := by
      rw [pk_lDiv (by omega) (by omega) (by omega), dt_half, dt_s]
    have d1 := dt_x (R := N / (2 * h) ^ i) (h := h) (by omega)
    have q2 : (lN (N / (2 * h) ^ i) - (lN (N / (2 * h) ^ (i + 1)) * lN h) * 2).toInt32 = nI (N / (2 * h) ^ i % (2 * h)) := by
      rw [← dt_s, ← dt_half, lN_mul, show (2 : Int64) = lN 2 from rfl, lN_mul, lN_sub d1.2, d1.1, lN_i]
    have vi : vp_in (nI i) 32 := vp_in_nI (by omega) (by omega)
    have z : ¬ N / (2 * h) ^ (i + 1) = 0 := hC.2.2 (i + 1) (by omega) (by omega)
    have ef : ef_f 32 (fun j => nI (N / (2 * h) ^ j % (2 * h))) adg 0 (i + 1) = upd (ef_f 32 (fun j => nI (N / (2 * h) ^ j % (2 * h))) adg 0 i) i (nI (N / (2 * h) ^ i % (2 * h))) := by
      show ef_x 32 _ (0 + i) _ = _
      rw [Nat.zero_add, ef_xt (by omega)]
    exact ⟨by rw [hl]; exact lN_nz (by omega) (by omega), nm_r (e' := lN (N / (2 * h) ^ (i + 1))) (by rw [hl, s1, q1]) ⟨vi, nm_r (e' := ef_f 32 (fun j => nI (N / (2 * h) ^ j % (2 * h))) adg 0 (i + 1)) (by rw [hl, q2, nI_clamp (by omega), ef]) (nm_r (nI_1 i) (br_f (fun y => z ((lN_z hR1).mp y)) (br_t (nI_lt (b := 32) (by omega) (by decide)) (ih (i + 1) (by omega)))))⟩⟩
theorem cv_h {c : Int32} (hb : ¬ cv_b c = 0) : ∃ h, cv_b c = 2 * h ∧ 4 ≤ h ∧ h ≤ 8 := by
  rcases cv_b16 c with e | e | e | e
  · exact absurd e hb
  · exact ⟨4, by omega, by omega, by omega⟩
  · exact ⟨5, by omega, by omega, by omega⟩
  · exact ⟨8, by omega, by omega, by omega⟩
theorem xm_sd {post : Int32 → SX → Prop} {v : Int64} {C : Nat} (he : e < 64) (hd : tb_dir af L ak afl awd apr aws aps avs e p q s t) (hb : ¬ cv_b (dr_c af L p) = 0) (hC : dt_C (cv_b (dr_c af L p)) (nt_N (dr_c af L p) v) C) (hC2 : C ≤ 22)
    (hp : ∀ adg : Nat → Int32, (∀ i, i < C → adg i = nI (nt_N (dr_c af L p) v / cv_b (dr_c af L p) ^ i % cv_b (dr_c af L p))) → post (nI C) (cap, xfl, xol, xil, xrm, xsp, xco, xec, xat, xlt, xcu, xwu, xpu, xvu, xdc, xsu, xpo, xdl, xtl, xbu, xsv, af, aa, ao, ai, ar, ak, als, ale, afl, awd, apr, aws, aps, avs, ali, adr, atx, adg)) : wpX_splitIntoDigits post (cap, xfl, xol, xil, xrm, xsp, xco, xec, xat, xlt, xcu, xwu, xpu, xvu, xdc, xsu, xpo, xdl, xtl, xbu, xsv, af, aa, ao, ai, ar, ak, als, ale, afl, awd, apr, aws, aps, avs, ali, adr, atx, adg) (nI e) v := by
  obtain ⟨h, eh, hh⟩ := cv_h hb
  have hN := nt_Nb (dr_c af L p) v
  have eM := nt_NM (dr_c af L p) v
  have ed : nI (cv_b (dr_c af L p)) / 2 = nI h := by
    rw [eh, show (2 : Int32) = nI 2 from rfl, pk_div (by omega) (by decide) (by decide)]
    congr 1
    omega
  have go : ∃ n, wX_splitIntoDigits_48 post (nI h) cap xfl xol xil xrm xsp xco xec xat xlt xcu xwu xpu xvu xdc xsu xpo xdl xtl xbu xsv n (nt_M (dr_c af L p) v) 0 af aa ao ai ar ak als ale afl awd apr aws aps avs ali adr atx adg := by
    rw [eh] at hC hp
    have := xm_s48 (post := post) (adg := adg) hh hN hC hC2 (hp _ (fun i hi => ?_)) (C - 1) 0 (by have := hC.1; omega)
    · rw [Nat.pow_zero, Nat.div_one, ← eM] at this
      exact ⟨_, this⟩
    · have := ef_at 32 (fun j => nI (nt_N (dr_c af L p) v / (2 * h) ^ j % (2 * h))) adg 0 C (by omega) i hi
      rw [Nat.zero_add] at this
      exact this
  unfold wpX_splitIntoDigits
  refine xm_co he hd (xm_bo ⟨by decide, nm_r ed (br_f (nI_ne0 (by omega) (by omega)) ?_)⟩)
  unfold nt_M at go
  by_cases c : dr_c af L p = 100
  · refine br_t c ?_
    by_cases n : v < 0
    · rw [if_pos ⟨c, n⟩] at go
      exact br_f (Int64.not_le.mpr n) (nm_e go)
    · rw [if_neg (fun y => n y.2)] at go
      exact br_t (Int64.not_lt.mp n) go
  · rw [if_neg (fun y => c y.1)] at go
    exact br_f c go
end
