/-! The class's Reader: journeys. -/
section
variable {σ X Y : z_S} {L : Int}
theorem z_addJ_sl {a b n lo hi cr sl sl' ho ti : Int} (h : (if 14 < sl then 14 else sl) = (if 14 < sl' then (14 : Int) else sl')) : z_addJ Y a b n lo hi cr sl ho ti = z_addJ Y a b n lo hi cr sl' ho ti := by
  unfold z_addJ
  rw [h]
theorem c_j171s (ht : c_rt σ X) {e : Int} (d : Nat) (x2 x3 x4 x5 x6 x7 x8 x9 t0 : Int) (u : z_V) : z_go (z_ev z_hcC (d + 3)) z_hcC 506 171 [z_R 2, z_R L, z_I x2, z_I x3, z_I x4, z_I x5, z_I x6, z_I x7, z_I x8, z_I x9, u] [z_I t0] z_hdC (z_rs σ e 1) = some (z_U, z_hdC, z_rs σ e 1) := by
  have r4 : z_rs σ e 1 2 4 = 1 := z_rs_4
  rw [z_B506_171]
  simp (disch := omega) only [r4, z_fdC, z_pdC, z_adC, z_sdC, z_lkC, z_ndC, z_gdC, z_mdC, z_cI_some', z_cV_some', z_w_ok, Int.reduceAdd, Int.reduceSub, Int.reduceMul, Int.reduceNeg, Int.reduceEq, Int.reduceLT, Int.reduceLE, Int.reduceNe, reduceIte, true_and, and_true, false_and, and_false, if_true, if_false, ne_eq, not_true_eq_false, not_false_eq_true]
theorem c_j150s (ht : c_rt σ X) {e : Int} (he : 0 ≤ e ∧ e ≤ 60) (d : Nat) (x2 x3 x4 x5 x6 x7 x8 t0 : Int) (u v : z_V) : z_go (z_ev z_hcC (d + 3)) z_hcC 506 150 [z_R 2, z_R L, z_I x2, z_I x3, z_I x4, z_I x5, z_I x6, z_I x7, z_I x8, u, v] [z_I t0] z_hdC (z_rs σ e 1) = some (z_U, z_hdC, z_rs σ e 1) := by
  have s8 := (c_stuck ht he (d + 1)).1
  rw [z_B506_150]
  simp (disch := omega) only [s8, z_fdC, z_pdC, z_adC, z_sdC, z_lkC, z_ndC, z_gdC, z_mdC, z_cI_some', z_cV_some', z_w_ok, Int.reduceAdd, Int.reduceSub, Int.reduceMul, Int.reduceNeg, Int.reduceEq, Int.reduceLT, Int.reduceLE, Int.reduceNe, reduceIte, true_and, and_true, false_and, and_false, if_true, if_false, ne_eq, not_true_eq_false, not_false_eq_true]
  exact c_j171s ht d _ _ _ _ _ _ _ _ _ _
theorem c_j127s (ht : c_rt σ X) {e : Int} (he : 0 ≤ e ∧ e ≤ 60) (d : Nat) (x2 x3 x4 x5 x6 x7 t0 : Int) (u v w : z_V) : z_go (z_ev z_hcC (d + 3)) z_hcC 506 127 [z_R 2, z_R L, z_I x2, z_I x3, z_I x4, z_I x5, z_I x6, z_I x7, u, v, w] [z_I t0] z_hdC (z_rs σ e 1) = some (z_U, z_hdC, z_rs σ e 1) := by
  have s8 := (c_stuck ht he (d + 1)).1
  rw [z_B506_127]
  simp (disch := omega) only [s8, z_fdC, z_pdC, z_adC, z_sdC, z_lkC, z_ndC, z_gdC, z_mdC, z_cI_some', z_cV_some', z_w_ok, Int.reduceAdd, Int.reduceSub, Int.reduceMul, Int.reduceNeg, Int.reduceEq, Int.reduceLT, Int.reduceLE, Int.reduceNe, reduceIte, true_and, and_true, false_and, and_false, if_true, if_false, ne_eq, not_true_eq_false, not_false_eq_true]
  exact c_j150s ht he d _ _ _ _ _ _ _ _ _ _
theorem c_j105s (ht : c_rt σ X) {e : Int} (he : 0 ≤ e ∧ e ≤ 60) (d : Nat) (x2 x3 x4 x5 x6 x7 : Int) (u v w : z_V) : z_go (z_ev z_hcC (d + 3)) z_hcC 506 105 [z_R 2, z_R L, z_I x2, z_I x3, z_I x4, z_I x5, z_I x6, z_I x7, u, v, w] [] z_hdC (z_rs σ e 1) = some (z_U, z_hdC, z_rs σ e 1) := by
  have s8 := (c_stuck ht he (d + 1)).1
  rw [z_B506_105]
  simp (disch := omega) only [s8, z_fdC, z_pdC, z_adC, z_sdC, z_lkC, z_ndC, z_gdC, z_mdC, z_cI_some', z_cV_some', z_w_ok, Int.reduceAdd, Int.reduceSub, Int.reduceMul, Int.reduceNeg, Int.reduceEq, Int.reduceLT, Int.reduceLE, Int.reduceNe, reduceIte, true_and, and_true, false_and, and_false, if_true, if_false, ne_eq, not_true_eq_false, not_false_eq_true]
  exact c_j127s ht he d _ _ _ _ _ _ _ _ _ _
variable {B : Int}
theorem c_j171 (hL : L = 6 ∨ L = 26) (hw : z_wl0 Y B) (hB : B ≤ 999) (hx : c_landx σ L Y) (d : Nat) {a b n lo hi cr sl slc ho ti q : Int} (u : z_V) (hcr : cr = 0 ∨ cr = 1) (hsl : (if 14 < slc then 14 else slc) = (if 14 < sl then (14 : Int) else sl)) (hq : 0 ≤ q ∧ q ≤ 60) :
    c_RI σ Y L (.inr ([2, a, b, n, lo, hi, cr, sl, ho, ti], q)) (z_go (z_ev z_hcC (d + 3)) z_hcC 506 171 [z_R 2, z_R L, z_I a, z_I b, z_I n, z_I lo, z_I hi, z_I cr, z_I slc, z_I ho, u] [z_I ti] z_hdC (z_rs σ q 0)) := by
  have r4 : z_rs σ q 0 2 4 = 0 := z_rs_4
  have hx' : c_landx (z_rs σ q 0) L Y := c_landx_off z_rs_off (by omega) hx
  obtain ⟨σ1, σ2, σ', a1, a2, a3, a4, a5⟩ := c_addJ (a := a) (b := b) (n := n) (lo := lo) (hi := hi) (cr := cr) (sl := slc) (ho := ho) (ti := ti) hL hw (by omega) hx' hcr (d + 1)
  have e2 : σ' 2 2 = q := by rw [z_oat a4 (by omega)]; exact z_rs_2
  have e4 : σ' 2 4 = 0 := by rw [z_oat a4 (by omega)]; exact z_rs_4
  refine ⟨σ', ?_, ⟨fun c i h1 h2 => by rw [z_oat a4 (by omega)]; exact z_rs_at (by omega), by rw [z_oat a4 (by omega)]; exact z_rs_at (by omega)⟩, by show c_landx σ' L (z_addJ Y a b n lo hi cr sl ho ti); rw [← z_addJ_sl hsl]; exact a5, hq⟩
  rw [z_rs_self e2 e4, z_B506_171]
  simp (disch := omega) only [r4, c_LC hL, a1, a2, a3, z_fdC, z_pdC, z_adC, z_sdC, z_lkC, z_ndC, z_gdC, z_mdC, z_cI_some', z_cV_some', z_w_ok, Int.reduceAdd, Int.reduceSub, Int.reduceMul, Int.reduceNeg, Int.reduceEq, Int.reduceLT, Int.reduceLE, Int.reduceNe, reduceIte, true_and, and_true, false_and, and_false, if_true, if_false, ne_eq, not_true_eq_false, not_false_eq_true]
theorem c_j150 (hL : L = 6 ∨ L = 26) (ht : c_rt σ X) (hw : z_wl0 Y B) (hB : B ≤ 999) (hx : c_landx σ L Y) (d : Nat) {a b n lo hi cr sl slc ho q : Int} (u v : z_V) (hcr : cr = 0 ∨ cr = 1) (hsl : (if 14 < slc then 14 else slc) = (if 14 < sl then (14 : Int) else sl)) (hq : 0 ≤ q ∧ q ≤ 60) :
    c_RI σ Y L (z_bd (z_opg (z_txt X) q 64 3) fun ti p7 => .inr ([2, a, b, n, lo, hi, cr, sl, ho, ti], p7)) (z_go (z_ev z_hcC (d + 3)) z_hcC 506 150 [z_R 2, z_R L, z_I a, z_I b, z_I n, z_I lo, z_I hi, z_I cr, z_I slc, u, v] [z_I ho] z_hdC (z_rs σ q 0)) := by
  have k := c_eat ht (b := 0) (by omega : 0 ≤ q ∧ q ≤ 100) (Or.inl rfl) (d + 1) 64
  unfold z_opg z_bd
  by_cases c : z_txt X q = 64
  · have hlt := z_txt_lt (X := X) (p := q) (by omega)
    have e : z_fE X 64 q 0 = (1, q + 1, 0) := if_pos ⟨rfl, c⟩
    rw [e] at k
    rw [if_pos c]
    have h5 := z_fD_R (X := X) (p := q + 1) (by omega) 0 3 (by omega)
    have k5 := c_digit ht (b := 0) (by omega : 0 ≤ q + 1 ∧ q + 1 ≤ 100) (Or.inl rfl) (d + 1) 0 3
    cases g5 : z_dgt (z_txt X) (q + 1) 0 3 with
    | inl e =>
      rw [g5] at h5
      obtain ⟨f1, f2, f3, f4⟩ := h5
      rw [f1, f2] at k5
      refine ⟨?_, f3, f4⟩
      rw [z_B506_150]
      simp (disch := omega) only [k, k5, z_fdC, z_pdC, z_adC, z_sdC, z_lkC, z_ndC, z_gdC, z_mdC, z_cI_some', z_cV_some', z_w_ok, Int.reduceAdd, Int.reduceSub, Int.reduceMul, Int.reduceNeg, Int.reduceEq, Int.reduceLT, Int.reduceLE, Int.reduceNe, reduceIte, true_and, and_true, false_and, and_false, if_true, if_false, ne_eq, not_true_eq_false, not_false_eq_true]
      exact c_j171s ht d _ _ _ _ _ _ _ _ _ _
    | inr x =>
      obtain ⟨ti, p4⟩ := x
      rw [g5] at h5
      obtain ⟨f5, q6, q7⟩ := h5
      rw [f5] at k5
      have := c_j171 hL hw hB hx d (a := a) (b := b) (n := n) (lo := lo) (hi := hi) (ho := ho) (ti := ti) v hcr hsl ⟨q6, q7⟩
      rw [z_B506_150]
      simp (disch := omega) only [k, k5, z_fdC, z_pdC, z_adC, z_sdC, z_lkC, z_ndC, z_gdC, z_mdC, z_cI_some', z_cV_some', z_w_ok, Int.reduceAdd, Int.reduceSub, Int.reduceMul, Int.reduceNeg, Int.reduceEq, Int.reduceLT, Int.reduceLE, Int.reduceNe, reduceIte, true_and, and_true, false_and, and_false, if_true, if_false, ne_eq, not_true_eq_false, not_false_eq_true]
      exact this
  · have e : z_fE X 64 q 0 = (0, q, 0) := if_neg (fun h => c h.2)
    rw [e] at k
    rw [if_neg c]
    have := c_j171 hL hw hB hx d (a := a) (b := b) (n := n) (lo := lo) (hi := hi) (ho := ho) (ti := 0) v hcr hsl hq
    rw [z_B506_150]
    simp (disch := omega) only [k, z_fdC, z_pdC, z_adC, z_sdC, z_lkC, z_ndC, z_gdC, z_mdC, z_cI_some', z_cV_some', z_w_ok, Int.reduceAdd, Int.reduceSub, Int.reduceMul, Int.reduceNeg, Int.reduceEq, Int.reduceLT, Int.reduceLE, Int.reduceNe, reduceIte, true_and, and_true, false_and, and_false, if_true, if_false, ne_eq, not_true_eq_false, not_false_eq_true]
    exact this
theorem c_j127 (hL : L = 6 ∨ L = 26) (ht : c_rt σ X) (hw : z_wl0 Y B) (hB : B ≤ 999) (hx : c_landx σ L Y) (d : Nat) {a b n lo hi cr sl slc q : Int} (u v w : z_V) (hcr : cr = 0 ∨ cr = 1) (hsl : (if 14 < slc then 14 else slc) = (if 14 < sl then (14 : Int) else sl)) (hq : 0 ≤ q ∧ q ≤ 60) :
    c_RI σ Y L (z_bd (z_opn (z_txt X) q 47 999 (-1)) fun ho p6 => z_bd (z_opg (z_txt X) p6 64 3) fun ti p7 => .inr ([2, a, b, n, lo, hi, cr, sl, ho, ti], p7)) (z_go (z_ev z_hcC (d + 3)) z_hcC 506 127 [z_R 2, z_R L, z_I a, z_I b, z_I n, z_I lo, z_I hi, z_I cr, u, v, w] [z_I slc] z_hdC (z_rs σ q 0)) := by
  have k := c_eat ht (b := 0) (by omega : 0 ≤ q ∧ q ≤ 100) (Or.inl rfl) (d + 1) 47
  unfold z_opn
  by_cases c : z_txt X q = 47
  · have hlt := z_txt_lt (X := X) (p := q) (by omega)
    have e : z_fE X 47 q 0 = (1, q + 1, 0) := if_pos ⟨rfl, c⟩
    rw [e] at k
    rw [if_pos c]
    have h5 := z_fN_R (X := X) (p := q + 1) (by omega) 0 999
    have k5 := c_numeral ht (b := 0) (by omega : 0 ≤ q + 1 ∧ q + 1 ≤ 60) (Or.inl rfl) (d + 1) 0 999
    cases g5 : z_nmb (z_txt X) (q + 1) 0 999 with
    | inl e =>
      rw [g5] at h5
      obtain ⟨f1, f2, f3, f4⟩ := h5
      rw [f1, f2] at k5
      refine ⟨?_, f3, f4⟩
      rw [z_B506_127]
      simp (disch := omega) only [k, k5, z_fdC, z_pdC, z_adC, z_sdC, z_lkC, z_ndC, z_gdC, z_mdC, z_cI_some', z_cV_some', z_w_ok, Int.reduceAdd, Int.reduceSub, Int.reduceMul, Int.reduceNeg, Int.reduceEq, Int.reduceLT, Int.reduceLE, Int.reduceNe, reduceIte, true_and, and_true, false_and, and_false, if_true, if_false, ne_eq, not_true_eq_false, not_false_eq_true]
      exact c_j150s ht ⟨f3, f4⟩ d _ _ _ _ _ _ _ _ _ _
    | inr x =>
      obtain ⟨ho, p4⟩ := x
      rw [g5] at h5
      obtain ⟨f5, q6, q7⟩ := h5
      rw [f5] at k5
      have := c_j150 hL ht hw hB hx d (a := a) (b := b) (n := n) (lo := lo) (hi := hi) (ho := ho) v w hcr hsl ⟨q6, q7⟩
      rw [z_B506_127]
      simp (disch := omega) only [k, k5, z_fdC, z_pdC, z_adC, z_sdC, z_lkC, z_ndC, z_gdC, z_mdC, z_cI_some', z_cV_some', z_w_ok, Int.reduceAdd, Int.reduceSub, Int.reduceMul, Int.reduceNeg, Int.reduceEq, Int.reduceLT, Int.reduceLE, Int.reduceNe, reduceIte, true_and, and_true, false_and, and_false, if_true, if_false, ne_eq, not_true_eq_false, not_false_eq_true]
      exact this
  · have e : z_fE X 47 q 0 = (0, q, 0) := if_neg (fun h => c h.2)
    rw [e] at k
    rw [if_neg c]
    have := c_j150 hL ht hw hB hx d (a := a) (b := b) (n := n) (lo := lo) (hi := hi) (ho := -1) v w hcr hsl hq
    rw [z_B506_127]
    simp (disch := omega) only [k, z_fdC, z_pdC, z_adC, z_sdC, z_lkC, z_ndC, z_gdC, z_mdC, z_cI_some', z_cV_some', z_w_ok, Int.reduceAdd, Int.reduceSub, Int.reduceMul, Int.reduceNeg, Int.reduceEq, Int.reduceLT, Int.reduceLE, Int.reduceNe, reduceIte, true_and, and_true, false_and, and_false, if_true, if_false, ne_eq, not_true_eq_false, not_false_eq_true]
    exact this
theorem c_j105 (hL : L = 6 ∨ L = 26) (ht : c_rt σ X) (hw : z_wl0 Y B) (hB : B ≤ 999) (hx : c_landx σ L Y) (d : Nat) {a b n lo hi cr q : Int} (u v w : z_V) (hcr : cr = 0 ∨ cr = 1) (hq : 0 ≤ q ∧ q ≤ 60) :
    c_RI σ Y L (z_pTail (z_txt X) a b n (.inr ((lo, hi, cr), q))) (z_go (z_ev z_hcC (d + 3)) z_hcC 506 105 [z_R 2, z_R L, z_I a, z_I b, z_I n, z_I lo, z_I hi, z_I cr, u, v, w] [] z_hdC (z_rs σ q 0)) := by
  have k := c_eat ht (b := 0) (by omega : 0 ≤ q ∧ q ≤ 100) (Or.inl rfl) (d + 1) 115
  show c_RI σ Y L (z_bd (z_opn (z_txt X) q 115 999 1000) fun sl p5 => _) _
  by_cases c : z_txt X q = 115
  · have hlt := z_txt_lt (X := X) (p := q) (by omega)
    have e : z_fE X 115 q 0 = (1, q + 1, 0) := if_pos ⟨rfl, c⟩
    rw [e] at k
    have eo : z_opn (z_txt X) q 115 999 1000 = z_nmb (z_txt X) (q + 1) 0 999 := if_pos c
    rw [eo]
    have h5 := z_fN_R (X := X) (p := q + 1) (by omega) 0 999
    have k5 := c_numeral ht (b := 0) (by omega : 0 ≤ q + 1 ∧ q + 1 ≤ 60) (Or.inl rfl) (d + 1) 0 999
    cases g5 : z_nmb (z_txt X) (q + 1) 0 999 with
    | inl e =>
      rw [g5] at h5
      obtain ⟨f1, f2, f3, f4⟩ := h5
      rw [f1, f2] at k5
      refine ⟨?_, f3, f4⟩
      rw [z_B506_105]
      simp (disch := omega) only [k, k5, z_fdC, z_pdC, z_adC, z_sdC, z_lkC, z_ndC, z_gdC, z_mdC, z_cI_some', z_cV_some', z_w_ok, Int.reduceAdd, Int.reduceSub, Int.reduceMul, Int.reduceNeg, Int.reduceEq, Int.reduceLT, Int.reduceLE, Int.reduceNe, reduceIte, true_and, and_true, false_and, and_false, if_true, if_false, ne_eq, not_true_eq_false, not_false_eq_true]
      exact c_j127s ht ⟨f3, f4⟩ d _ _ _ _ _ _ _ _ _ _
    | inr x =>
      obtain ⟨sl, p4⟩ := x
      rw [g5] at h5
      obtain ⟨f5, q6, q7⟩ := h5
      rw [f5] at k5
      have := c_j127 hL ht hw hB hx d (a := a) (b := b) (n := n) (lo := lo) (hi := hi) (sl := sl) (slc := sl) u v w hcr rfl ⟨q6, q7⟩
      rw [z_B506_105]
      simp (disch := omega) only [k, k5, z_fdC, z_pdC, z_adC, z_sdC, z_lkC, z_ndC, z_gdC, z_mdC, z_cI_some', z_cV_some', z_w_ok, Int.reduceAdd, Int.reduceSub, Int.reduceMul, Int.reduceNeg, Int.reduceEq, Int.reduceLT, Int.reduceLE, Int.reduceNe, reduceIte, true_and, and_true, false_and, and_false, if_true, if_false, ne_eq, not_true_eq_false, not_false_eq_true]
      exact this
  · have e : z_fE X 115 q 0 = (0, q, 0) := if_neg (fun h => c h.2)
    rw [e] at k
    have eo : z_opn (z_txt X) q 115 999 1000 = .inr (1000, q) := if_neg c
    rw [eo]
    have := c_j127 hL ht hw hB hx d (a := a) (b := b) (n := n) (lo := lo) (hi := hi) (sl := 1000) (slc := 14) u v w hcr (by decide) hq
    rw [z_B506_105]
    simp (disch := omega) only [k, z_fdC, z_pdC, z_adC, z_sdC, z_lkC, z_ndC, z_gdC, z_mdC, z_cI_some', z_cV_some', z_w_ok, Int.reduceAdd, Int.reduceSub, Int.reduceMul, Int.reduceNeg, Int.reduceEq, Int.reduceLT, Int.reduceLE, Int.reduceNe, reduceIte, true_and, and_true, false_and, and_false, if_true, if_false, ne_eq, not_true_eq_false, not_false_eq_true]
    exact this
/-- Reader.readJourney -/
theorem c_readJourney (hL : L = 6 ∨ L = 26) (ht : c_rt σ X) (hw : z_wl0 Y B) (hB : B ≤ 999) (hx : c_landx σ L Y) {p : Int} (hp : 0 ≤ p ∧ p ≤ 60) (d : Nat) :
    c_RI σ Y L (z_pJour (z_txt X) p) (z_ev z_hcC (d + 4) 506 [z_R 2, z_R L] z_hdC (z_rs σ p 0)) := by
  have h1 := z_fC_R (X := X) hp (-1)
  have k1 := c_corner ht (b := 0) (by omega : 0 ≤ p ∧ p ≤ 100) (Or.inl rfl) (d + 1) (-1)
  unfold z_pJour z_bd
  cases g1 : z_cor (z_txt X) p (-1) with
  | inl e =>
    rw [g1] at h1
    obtain ⟨f1, f2, f3, f4⟩ := h1
    rw [f1, f2] at k1
    obtain ⟨s8, s9, s10, s11, s12⟩ := c_stuck ht ⟨f3, f4⟩ (d + 1)
    have s9 := (c_stuck ht ⟨f3, f4⟩ d).2.1
    refine ⟨?_, f3, f4⟩
    simp (disch := omega) only [z_E506, k1, s8, s9, s10, s12, z_fdC, z_pdC, z_adC, z_sdC, z_lkC, z_ndC, z_gdC, z_mdC, z_cI_some', z_cV_some', z_w_ok, Int.reduceAdd, Int.reduceSub, Int.reduceMul, Int.reduceNeg, Int.reduceEq, Int.reduceLT, Int.reduceLE, Int.reduceNe, reduceIte, true_and, and_true, false_and, and_false, if_true, if_false, ne_eq, not_true_eq_false, not_false_eq_true]
    exact c_j105s ht ⟨f3, f4⟩ d _ _ _ _ _ _ _ _ _
  | inr x =>
    obtain ⟨a, p1⟩ := x
    rw [g1] at h1
    obtain ⟨f1, q0, q1⟩ := h1
    rw [f1] at k1
    have h2 := z_fC_R (X := X) ⟨q0, q1⟩ a
    have k2 := c_corner ht (b := 0) (by omega : 0 ≤ p1 ∧ p1 ≤ 100) (Or.inl rfl) (d + 1) a
    dsimp only at k1 ⊢
    cases g2 : z_cor (z_txt X) p1 a with
    | inl e =>
      rw [g2] at h2
      obtain ⟨f1, f2, f3, f4⟩ := h2
      rw [f1, f2] at k2
      obtain ⟨s8, s9, s10, s11, s12⟩ := c_stuck ht ⟨f3, f4⟩ (d + 1)
      have s9 := (c_stuck ht ⟨f3, f4⟩ d).2.1
      refine ⟨?_, f3, f4⟩
      simp (disch := omega) only [z_E506, k1, k2, s8, s9, s12, z_fdC, z_pdC, z_adC, z_sdC, z_lkC, z_ndC, z_gdC, z_mdC, z_cI_some', z_cV_some', z_w_ok, Int.reduceAdd, Int.reduceSub, Int.reduceMul, Int.reduceNeg, Int.reduceEq, Int.reduceLT, Int.reduceLE, Int.reduceNe, reduceIte, true_and, and_true, false_and, and_false, if_true, if_false, ne_eq, not_true_eq_false, not_false_eq_true]
      exact c_j105s ht ⟨f3, f4⟩ d _ _ _ _ _ _ _ _ _
    | inr x =>
      obtain ⟨b, p2⟩ := x
      rw [g2] at h2
      obtain ⟨f2, q2, q3⟩ := h2
      rw [f2] at k2
      have k3 := c_want ht (b := 0) (by omega : 0 ≤ p2 ∧ p2 ≤ 100) (Or.inl rfl) d 42
      dsimp only at k2 ⊢
      by_cases c42 : z_txt X p2 = 42
      · have hlt := z_txt_lt (X := X) (p := p2) (by omega)
        rw [if_pos ⟨rfl, c42⟩] at k3
        rw [if_pos c42]
        have h4 := z_fN_R (X := X) (p := p2 + 1) (by omega) 1 99
        have k4 := c_numeral ht (b := 0) (by omega : 0 ≤ p2 + 1 ∧ p2 + 1 ≤ 60) (Or.inl rfl) (d + 1) 1 99
        cases g4 : z_nmb (z_txt X) (p2 + 1) 1 99 with
        | inl e =>
          rw [g4] at h4
          obtain ⟨f1, f2, f3, f4⟩ := h4
          rw [f1, f2] at k4
          obtain ⟨s8, s9, s10, s11, s12⟩ := c_stuck ht ⟨f3, f4⟩ (d + 1)
          refine ⟨?_, f3, f4⟩
          simp (disch := omega) only [z_E506, k1, k2, k3, k4, s8, z_fdC, z_pdC, z_adC, z_sdC, z_lkC, z_ndC, z_gdC, z_mdC, z_cI_some', z_cV_some', z_w_ok, Int.reduceAdd, Int.reduceSub, Int.reduceMul, Int.reduceNeg, Int.reduceEq, Int.reduceLT, Int.reduceLE, Int.reduceNe, reduceIte, true_and, and_true, false_and, and_false, if_true, if_false, ne_eq, not_true_eq_false, not_false_eq_true]
          exact c_j105s ht ⟨f3, f4⟩ d _ _ _ _ _ _ _ _ _
        | inr x =>
          obtain ⟨n, p3⟩ := x
          rw [g4] at h4
          obtain ⟨f4, q4, q5⟩ := h4
          rw [f4] at k4
          have k5 := c_eat ht (b := 0) (by omega : 0 ≤ p3 ∧ p3 ≤ 100) (Or.inl rfl) (d + 1) 119
          dsimp only at k4 ⊢
          unfold z_pWor
          by_cases cw : z_txt X p3 = 119
          · have hlt3 := z_txt_lt (X := X) (p := p3) (by omega)
            have e : z_fE X 119 p3 0 = (1, p3 + 1, 0) := if_pos ⟨rfl, cw⟩
            rw [e] at k5
            rw [if_pos cw]
            have h6 := z_fD_R (X := X) (p := p3 + 1) (by omega) 0 9 (by omega)
            have k6 := c_digit ht (b := 0) (by omega : 0 ≤ p3 + 1 ∧ p3 + 1 ≤ 100) (Or.inl rfl) (d + 1) 0 9
            cases g6 : z_dgt (z_txt X) (p3 + 1) 0 9 with
            | inl e =>
              rw [g6] at h6
              obtain ⟨f1, f2, f3, f4⟩ := h6
              rw [f1, f2] at k6
              refine ⟨?_, f3, f4⟩
              simp (disch := omega) only [z_E506, k1, k2, k3, k4, k5, k6, z_fdC, z_pdC, z_adC, z_sdC, z_lkC, z_ndC, z_gdC, z_mdC, z_cI_some', z_cV_some', z_w_ok, Int.reduceAdd, Int.reduceSub, Int.reduceMul, Int.reduceNeg, Int.reduceEq, Int.reduceLT, Int.reduceLE, Int.reduceNe, reduceIte, true_and, and_true, false_and, and_false, if_true, if_false, ne_eq, not_true_eq_false, not_false_eq_true]
              exact c_j105s ht ⟨f3, f4⟩ d _ _ _ _ _ _ _ _ _
            | inr x =>
              obtain ⟨t, p4⟩ := x
              rw [g6] at h6
              obtain ⟨f6, q6, q7⟩ := h6
              rw [f6] at k6
              have := c_j105 hL ht hw hB hx d (a := a) (b := b) (n := n) (lo := t) (hi := t) z_U z_U z_U (Or.inl rfl) ⟨q6, q7⟩
              simp (disch := omega) only [z_E506, k1, k2, k3, k4, k5, k6, z_fdC, z_pdC, z_adC, z_sdC, z_lkC, z_ndC, z_gdC, z_mdC, z_cI_some', z_cV_some', z_w_ok, Int.reduceAdd, Int.reduceSub, Int.reduceMul, Int.reduceNeg, Int.reduceEq, Int.reduceLT, Int.reduceLE, Int.reduceNe, reduceIte, true_and, and_true, false_and, and_false, if_true, if_false, ne_eq, not_true_eq_false, not_false_eq_true]
              exact this
          · have e : z_fE X 119 p3 0 = (0, p3, 0) := if_neg (fun h => cw h.2)
            rw [e] at k5
            rw [if_neg cw]
            have k6 := c_eat ht (b := 0) (by omega : 0 ≤ p3 ∧ p3 ≤ 100) (Or.inl rfl) (d + 1) 99
            by_cases cc : z_txt X p3 = 99
            · have hlt3 := z_txt_lt (X := X) (p := p3) (by omega)
              have e : z_fE X 99 p3 0 = (1, p3 + 1, 0) := if_pos ⟨rfl, cc⟩
              rw [e] at k6
              rw [if_pos cc]
              have h7 := z_fD_R (X := X) (p := p3 + 1) (by omega) 0 9 (by omega)
              have k7 := c_digit ht (b := 0) (by omega : 0 ≤ p3 + 1 ∧ p3 + 1 ≤ 100) (Or.inl rfl) (d + 1) 0 9
              cases g7 : z_dgt (z_txt X) (p3 + 1) 0 9 with
              | inl e =>
                rw [g7] at h7
                obtain ⟨f1, f2, f3, f4⟩ := h7
                have hz : (z_fD X 0 9 (p3 + 1) 0).1 = 0 := by
                  unfold z_dgt at g7
                  unfold z_fD
                  split at g7
                  · cases g7
                  · next hn => rw [if_neg (fun h => hn h.2)]
                rw [f1, f2, hz] at k7
                obtain ⟨s8, s9, s10, s11, s12⟩ := c_stuck ht ⟨f3, f4⟩ (d + 1)
                have s9 := (c_stuck ht ⟨f3, f4⟩ d).2.1
                refine ⟨?_, f3, f4⟩
                simp (disch := omega) only [z_E506, k1, k2, k3, k4, k5, k6, k7, s9, s11, z_fdC, z_pdC, z_adC, z_sdC, z_lkC, z_ndC, z_gdC, z_mdC, z_cI_some', z_cV_some', z_w_ok, Int.reduceAdd, Int.reduceSub, Int.reduceMul, Int.reduceNeg, Int.reduceEq, Int.reduceLT, Int.reduceLE, Int.reduceNe, reduceIte, true_and, and_true, false_and, and_false, if_true, if_false, ne_eq, not_true_eq_false, not_false_eq_true]
                exact c_j105s ht ⟨f3, f4⟩ d _ _ _ _ _ _ _ _ _
              | inr x =>
                obtain ⟨t, p4⟩ := x
                rw [g7] at h7
                have gk := z_dgt_ok g7
                obtain ⟨f7, q6, q7⟩ := h7
                rw [f7] at k7
                dsimp only [z_bd] at k7 ⊢
                have k8 := c_want ht (b := 0) (by omega : 0 ≤ p4 ∧ p4 ≤ 100) (Or.inl rfl) d 45
                by_cases c45 : z_txt X p4 = 45
                · have hlt4 := z_txt_lt (X := X) (p := p4) (by omega)
                  rw [if_pos ⟨rfl, c45⟩] at k8
                  rw [if_pos c45]
                  have h9 := z_fD_R (X := X) (p := p4 + 1) (by omega) t (if t + 5 < 9 then t + 5 else 9) (by omega)
                  have k9 := c_digit ht (b := 0) (by omega : 0 ≤ p4 + 1 ∧ p4 + 1 ≤ 100) (Or.inl rfl) (d + 1) t (if t + 5 < 9 then t + 5 else 9)
                  cases g9 : z_dgt (z_txt X) (p4 + 1) t (if t + 5 < 9 then t + 5 else 9) with
                  | inl e =>
                    rw [g9] at h9
                    obtain ⟨f1, f2, f3, f4⟩ := h9
                    rw [f1, f2] at k9
                    refine ⟨?_, f3, f4⟩
                    simp (disch := omega) only [z_E506, k1, k2, k3, k4, k5, k6, k7, k8, k9, z_fdC, z_pdC, z_adC, z_sdC, z_lkC, z_ndC, z_gdC, z_mdC, z_cI_some', z_cV_some', z_w_ok, Int.reduceAdd, Int.reduceSub, Int.reduceMul, Int.reduceNeg, Int.reduceEq, Int.reduceLT, Int.reduceLE, Int.reduceNe, reduceIte, true_and, and_true, false_and, and_false, if_true, if_false, ne_eq, not_true_eq_false, not_false_eq_true]
                    exact c_j105s ht ⟨f3, f4⟩ d _ _ _ _ _ _ _ _ _
                  | inr x =>
                    obtain ⟨t2, p5⟩ := x
                    rw [g9] at h9
                    obtain ⟨f9, q8, q9⟩ := h9
                    rw [f9] at k9
                    have := c_j105 hL ht hw hB hx d (a := a) (b := b) (n := n) (lo := t) (hi := t2) z_U z_U z_U (Or.inr rfl) ⟨q8, q9⟩
                    simp (disch := omega) only [z_E506, k1, k2, k3, k4, k5, k6, k7, k8, k9, z_fdC, z_pdC, z_adC, z_sdC, z_lkC, z_ndC, z_gdC, z_mdC, z_cI_some', z_cV_some', z_w_ok, Int.reduceAdd, Int.reduceSub, Int.reduceMul, Int.reduceNeg, Int.reduceEq, Int.reduceLT, Int.reduceLE, Int.reduceNe, reduceIte, true_and, and_true, false_and, and_false, if_true, if_false, ne_eq, not_true_eq_false, not_false_eq_true]
                    exact this
                · rw [if_neg (fun h => c45 h.2)] at k8
                  rw [if_neg c45]
                  obtain ⟨s8, s9, s10, s11, s12⟩ := c_stuck ht ⟨q6, q7⟩ (d + 1)
                  refine ⟨?_, q6, q7⟩
                  simp (disch := omega) only [z_E506, k1, k2, k3, k4, k5, k6, k7, k8, s11, z_fdC, z_pdC, z_adC, z_sdC, z_lkC, z_ndC, z_gdC, z_mdC, z_cI_some', z_cV_some', z_w_ok, Int.reduceAdd, Int.reduceSub, Int.reduceMul, Int.reduceNeg, Int.reduceEq, Int.reduceLT, Int.reduceLE, Int.reduceNe, reduceIte, true_and, and_true, false_and, and_false, if_true, if_false, ne_eq, not_true_eq_false, not_false_eq_true]
                  exact c_j105s ht ⟨q6, q7⟩ d _ _ _ _ _ _ _ _ _
            · have e : z_fE X 99 p3 0 = (0, p3, 0) := if_neg (fun h => cc h.2)
              rw [e] at k6
              rw [if_neg cc]
              have := c_j105 hL ht hw hB hx d (a := a) (b := b) (n := n) (lo := 0) (hi := 0) z_U z_U z_U (Or.inl rfl) ⟨q4, q5⟩
              simp (disch := omega) only [z_E506, k1, k2, k3, k4, k5, k6, z_fdC, z_pdC, z_adC, z_sdC, z_lkC, z_ndC, z_gdC, z_mdC, z_cI_some', z_cV_some', z_w_ok, Int.reduceAdd, Int.reduceSub, Int.reduceMul, Int.reduceNeg, Int.reduceEq, Int.reduceLT, Int.reduceLE, Int.reduceNe, reduceIte, true_and, and_true, false_and, and_false, if_true, if_false, ne_eq, not_true_eq_false, not_false_eq_true]
              exact this
      · rw [if_neg (fun h => c42 h.2)] at k3
        rw [if_neg c42]
        obtain ⟨s8, s9, s10, s11, s12⟩ := c_stuck ht ⟨q2, q3⟩ (d + 1)
        refine ⟨?_, q2, q3⟩
        simp (disch := omega) only [z_E506, k1, k2, k3, s8, s12, z_fdC, z_pdC, z_adC, z_sdC, z_lkC, z_ndC, z_gdC, z_mdC, z_cI_some', z_cV_some', z_w_ok, Int.reduceAdd, Int.reduceSub, Int.reduceMul, Int.reduceNeg, Int.reduceEq, Int.reduceLT, Int.reduceLE, Int.reduceNe, reduceIte, true_and, and_true, false_and, and_false, if_true, if_false, ne_eq, not_true_eq_false, not_false_eq_true]
        exact c_j105s ht ⟨q2, q3⟩ d _ _ _ _ _ _ _ _ _
end
