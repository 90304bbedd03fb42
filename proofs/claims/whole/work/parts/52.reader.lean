/-! The class's Reader. -/
/-- the reader at place p, stuck if b = 1 -/
def z_rs (σ : z_S) (p b : Int) : z_S := z_upd (z_upd σ 2 2 p) 2 4 b
/-- the reader's signs are X's -/
def c_rt (σ X : z_S) : Prop := σ 2 1 = X 0 5 ∧ σ 2 3 = (if 60 < X 0 5 then 60 else X 0 5) ∧ (∀ i, 0 ≤ i → i < X 0 5 → σ 3 i = X 18 i) ∧ (0 ≤ X 0 5 ∧ X 0 5 ≤ 100) ∧ (∀ i, 0 ≤ i → i < X 0 5 → 0 ≤ X 18 i ∧ X 18 i ≤ 255)
section
variable {σ X : z_S}
theorem z_rs_2 {p b : Int} : z_rs σ p b 2 2 = p := by unfold z_rs; rw [z_upd_ne (by omega), z_upd_same]
theorem z_rs_4 {p b : Int} : z_rs σ p b 2 4 = b := z_upd_same
theorem z_rs_at {p b a i : Int} (h : a ≠ 2 ∨ (i ≠ 2 ∧ i ≠ 4)) : z_rs σ p b a i = σ a i := by unfold z_rs; rw [z_upd_ne (by omega), z_upd_ne (by omega)]
theorem z_rs_u2 {p b v : Int} : z_upd (z_rs σ p b) 2 2 v = z_rs σ v b := by
  funext a i
  unfold z_rs
  simp only [z_upd_at]
  by_cases h : a = 2 ∧ i = 2
  · obtain ⟨rfl, rfl⟩ := h; simp
  · simp [h]
theorem z_rs_u4 {p b v : Int} : z_upd (z_rs σ p b) 2 4 v = z_rs σ p v := by
  funext a i
  unfold z_rs
  simp only [z_upd_at]
  by_cases h : a = 2 ∧ i = 4
  · obtain ⟨rfl, rfl⟩ := h; simp
  · simp [h]
theorem z_rs_self {p b : Int} (h2 : σ 2 2 = p) (h4 : σ 2 4 = b) : z_rs σ p b = σ := by
  funext a i
  unfold z_rs
  simp only [z_upd_at]
  by_cases h : a = 2 ∧ i = 4
  · obtain ⟨rfl, rfl⟩ := h; simp [h4]
  · rw [if_neg h]
    by_cases h' : a = 2 ∧ i = 2
    · obtain ⟨rfl, rfl⟩ := h'; simp [h2]
    · rw [if_neg h']
theorem z_txt_rng (ht : c_rt σ X) {p : Int} (hp : 0 ≤ p) : -1 ≤ z_txt X p ∧ z_txt X p ≤ 255 := by
  unfold z_txt
  split
  · have := ht.2.2.2.2 p hp (by omega); omega
  · omega
theorem c_next' (ht : c_rt σ X) {p b : Int} (hp : 0 ≤ p) (d : Nat) : z_ev z_hcC (d + 1) 507 [z_R 2] z_hdC (z_rs σ p b) = some (z_I (z_txt X p), z_hdC, z_rs σ p b) := by
  obtain ⟨h1, h3, hs, h5, h18⟩ := ht
  have e2 : z_rs σ p b 2 2 = p := z_rs_2
  have e3 : z_rs σ p b 2 3 = (if 60 < X 0 5 then 60 else X 0 5) := by rw [z_rs_at (by omega)]; exact h3
  unfold z_txt
  by_cases c : p < X 0 5 ∧ p < 60
  · have e4 : z_rs σ p b 3 p = X 18 p := by rw [z_rs_at (by omega)]; exact hs p hp c.1
    have hlt : ¬ (if 60 < X 0 5 then 60 else X 0 5) ≤ p := by split <;> omega
    rw [if_pos c]
    simp (disch := omega) only [z_E507, e2, e3, e4, if_neg, hlt, z_fdC, z_pdC, z_adC, z_sdC, z_lkC, z_ndC, z_gdC, z_mdC, z_cI_some', z_cV_some', z_w_ok, Int.reduceAdd, Int.reduceSub, Int.reduceMul, Int.reduceNeg, Int.reduceEq, Int.reduceLT, Int.reduceLE, Int.reduceNe, reduceIte, true_and, and_true, false_and, and_false, if_true, if_false, ne_eq, not_true_eq_false, not_false_eq_true]
  · have hlt : (if 60 < X 0 5 then 60 else X 0 5) ≤ p := by split <;> omega
    rw [if_neg c]
    simp (disch := omega) only [z_E507, e2, e3, hlt, z_fdC, z_pdC, z_adC, z_sdC, z_lkC, z_ndC, z_gdC, z_mdC, z_cI_some', z_cV_some', z_w_ok, Int.reduceAdd, Int.reduceSub, Int.reduceMul, Int.reduceNeg, Int.reduceEq, Int.reduceLT, Int.reduceLE, Int.reduceNe, reduceIte, true_and, and_true, false_and, and_false, if_true, if_false, ne_eq, not_true_eq_false, not_false_eq_true]
def z_fE (X : z_S) (ch p b : Int) : Int × Int × Int := if b = 0 ∧ z_txt X p = ch then (1, p + 1, 0) else (0, p, b)
def z_fC (X : z_S) (but p b : Int) : Int × Int × Int := if b = 0 ∧ 0 ≤ z_txt X p - 97 ∧ z_txt X p - 97 ≤ 7 ∧ z_txt X p - 97 ≠ but then (z_txt X p - 97, p + 1, 0) else (0, p, 1)
def z_fD (X : z_S) (lo hi p b : Int) : Int × Int × Int := if b = 0 ∧ lo ≤ z_txt X p - 48 ∧ z_txt X p - 48 ≤ hi then (z_txt X p - 48, p + 1, 0) else (0, p, 1)
def z_fN (X : z_S) (lo hi p b : Int) : Int × Int × Int := if b = 0 then (if z_nct (z_txt X) p = 0 then (0, p, 1) else if lo ≤ z_nvl (z_txt X) p ∧ z_nvl (z_txt X) p ≤ hi then (z_nvl (z_txt X) p, p + z_nct (z_txt X) p, 0) else (z_nvl (z_txt X) p, p + z_nct (z_txt X) p - 1, 1)) else (0, p, 1)
theorem c_eat (ht : c_rt σ X) {p b : Int} (hp : 0 ≤ p ∧ p ≤ 100) (hb : b = 0 ∨ b = 1) (d : Nat) (ch : Int) : z_ev z_hcC (d + 2) 508 [z_R 2, z_I ch] z_hdC (z_rs σ p b) = some (z_I (z_fE X ch p b).1, z_hdC, z_rs σ (z_fE X ch p b).2.1 (z_fE X ch p b).2.2) := by
  have hn := c_next' ht (b := b) hp.1 d
  have e4 : z_rs σ p b 2 4 = b := z_rs_4
  have e2 : z_rs σ p b 2 2 = p := z_rs_2
  unfold z_fE
  rcases hb with rfl | rfl
  · by_cases c : z_txt X p = ch
    · rw [if_pos ⟨rfl, c⟩]
      simp (disch := omega) only [z_E508, e4, hn, c, e2, z_rs_u2, z_fdC, z_pdC, z_adC, z_sdC, z_lkC, z_ndC, z_gdC, z_mdC, z_cI_some', z_cV_some', z_w_ok, Int.reduceAdd, Int.reduceSub, Int.reduceMul, Int.reduceNeg, Int.reduceEq, Int.reduceLT, Int.reduceLE, Int.reduceNe, reduceIte, true_and, and_true, false_and, and_false, if_true, if_false, ne_eq, not_true_eq_false, not_false_eq_true]
    · rw [if_neg (fun h => c h.2)]
      simp (disch := omega) only [z_E508, e4, hn, c, z_fdC, z_pdC, z_adC, z_sdC, z_lkC, z_ndC, z_gdC, z_mdC, z_cI_some', z_cV_some', z_w_ok, Int.reduceAdd, Int.reduceSub, Int.reduceMul, Int.reduceNeg, Int.reduceEq, Int.reduceLT, Int.reduceLE, Int.reduceNe, reduceIte, true_and, and_true, false_and, and_false, if_true, if_false, ne_eq, not_true_eq_false, not_false_eq_true]
  · rw [if_neg (by omega)]
    simp (disch := omega) only [z_E508, e4, z_fdC, z_pdC, z_adC, z_sdC, z_lkC, z_ndC, z_gdC, z_mdC, z_cI_some', z_cV_some', z_w_ok, Int.reduceAdd, Int.reduceSub, Int.reduceMul, Int.reduceNeg, Int.reduceEq, Int.reduceLT, Int.reduceLE, Int.reduceNe, reduceIte, true_and, and_true, false_and, and_false, if_true, if_false, ne_eq, not_true_eq_false, not_false_eq_true]
theorem c_want (ht : c_rt σ X) {p b : Int} (hp : 0 ≤ p ∧ p ≤ 100) (hb : b = 0 ∨ b = 1) (d : Nat) (ch : Int) : z_ev z_hcC (d + 3) 509 [z_R 2, z_I ch] z_hdC (z_rs σ p b) = some (z_U, z_hdC, if b = 0 ∧ z_txt X p = ch then z_rs σ (p + 1) 0 else z_rs σ p 1) := by
  have hn := c_eat ht hp hb d ch
  unfold z_fE at hn
  by_cases c : b = 0 ∧ z_txt X p = ch
  · rw [if_pos c] at hn ⊢
    simp (disch := omega) only [z_E509, hn, z_fdC, z_pdC, z_adC, z_sdC, z_lkC, z_ndC, z_gdC, z_mdC, z_cI_some', z_cV_some', z_w_ok, Int.reduceAdd, Int.reduceSub, Int.reduceMul, Int.reduceNeg, Int.reduceEq, Int.reduceLT, Int.reduceLE, Int.reduceNe, reduceIte, true_and, and_true, false_and, and_false, if_true, if_false, ne_eq, not_true_eq_false, not_false_eq_true]
  · rw [if_neg c] at hn ⊢
    simp (disch := omega) only [z_E509, hn, z_rs_u4, z_fdC, z_pdC, z_adC, z_sdC, z_lkC, z_ndC, z_gdC, z_mdC, z_cI_some', z_cV_some', z_w_ok, Int.reduceAdd, Int.reduceSub, Int.reduceMul, Int.reduceNeg, Int.reduceEq, Int.reduceLT, Int.reduceLE, Int.reduceNe, reduceIte, true_and, and_true, false_and, and_false, if_true, if_false, ne_eq, not_true_eq_false, not_false_eq_true]
theorem c_corner (ht : c_rt σ X) {p b : Int} (hp : 0 ≤ p ∧ p ≤ 100) (hb : b = 0 ∨ b = 1) (d : Nat) (but : Int) : z_ev z_hcC (d + 2) 510 [z_R 2, z_I but] z_hdC (z_rs σ p b) = some (z_I (z_fC X but p b).1, z_hdC, z_rs σ (z_fC X but p b).2.1 (z_fC X but p b).2.2) := by
  have hn := c_next' ht (b := b) hp.1 d
  have hr := z_txt_rng ht hp.1
  have e4 : z_rs σ p b 2 4 = b := z_rs_4
  have e2 : z_rs σ p b 2 2 = p := z_rs_2
  unfold z_fC
  rcases hb with rfl | rfl
  · by_cases c1 : z_txt X p - 97 < 0
    · rw [if_neg (by omega)]
      simp (disch := omega) only [z_E510, z_B510_30, e4, hn, c1, z_rs_u4, z_B510_30, z_fdC, z_pdC, z_adC, z_sdC, z_lkC, z_ndC, z_gdC, z_mdC, z_cI_some', z_cV_some', z_w_ok, Int.reduceAdd, Int.reduceSub, Int.reduceMul, Int.reduceNeg, Int.reduceEq, Int.reduceLT, Int.reduceLE, Int.reduceNe, reduceIte, true_and, and_true, false_and, and_false, if_true, if_false, ne_eq, not_true_eq_false, not_false_eq_true]
    · by_cases c2 : 7 < z_txt X p - 97
      · rw [if_neg (by omega)]
        simp (disch := omega) only [z_E510, z_B510_30, e4, hn, c1, c2, z_rs_u4, z_B510_30, z_fdC, z_pdC, z_adC, z_sdC, z_lkC, z_ndC, z_gdC, z_mdC, z_cI_some', z_cV_some', z_w_ok, Int.reduceAdd, Int.reduceSub, Int.reduceMul, Int.reduceNeg, Int.reduceEq, Int.reduceLT, Int.reduceLE, Int.reduceNe, reduceIte, true_and, and_true, false_and, and_false, if_true, if_false, ne_eq, not_true_eq_false, not_false_eq_true]
      · by_cases c3 : z_txt X p - 97 = but
        · rw [if_neg (by omega)]
          simp (disch := omega) only [z_E510, z_B510_30, e4, hn, if_neg, c1, c2, if_pos, z_rs_u4, z_B510_30, c3, z_fdC, z_pdC, z_adC, z_sdC, z_lkC, z_ndC, z_gdC, z_mdC, z_cI_some', z_cV_some', z_w_ok, Int.reduceAdd, Int.reduceSub, Int.reduceMul, Int.reduceNeg, Int.reduceEq, Int.reduceLT, Int.reduceLE, Int.reduceNe, reduceIte, true_and, and_true, false_and, and_false, if_true, if_false, ne_eq, not_true_eq_false, not_false_eq_true]
        · rw [if_pos (by omega)]
          simp (disch := omega) only [z_E510, z_B510_30, e4, hn, c1, c2, c3, e2, z_rs_u2, z_fdC, z_pdC, z_adC, z_sdC, z_lkC, z_ndC, z_gdC, z_mdC, z_cI_some', z_cV_some', z_w_ok, Int.reduceAdd, Int.reduceSub, Int.reduceMul, Int.reduceNeg, Int.reduceEq, Int.reduceLT, Int.reduceLE, Int.reduceNe, reduceIte, true_and, and_true, false_and, and_false, if_true, if_false, ne_eq, not_true_eq_false, not_false_eq_true]
  · rw [if_neg (by omega)]
    simp (disch := omega) only [z_E510, z_B510_30, e4, hn, z_rs_u4, z_B510_30, z_fdC, z_pdC, z_adC, z_sdC, z_lkC, z_ndC, z_gdC, z_mdC, z_cI_some', z_cV_some', z_w_ok, Int.reduceAdd, Int.reduceSub, Int.reduceMul, Int.reduceNeg, Int.reduceEq, Int.reduceLT, Int.reduceLE, Int.reduceNe, reduceIte, true_and, and_true, false_and, and_false, if_true, if_false, ne_eq, not_true_eq_false, not_false_eq_true]
theorem c_digit (ht : c_rt σ X) {p b : Int} (hp : 0 ≤ p ∧ p ≤ 100) (hb : b = 0 ∨ b = 1) (d : Nat) (lo hi : Int) : z_ev z_hcC (d + 2) 511 [z_R 2, z_I lo, z_I hi] z_hdC (z_rs σ p b) = some (z_I (z_fD X lo hi p b).1, z_hdC, z_rs σ (z_fD X lo hi p b).2.1 (z_fD X lo hi p b).2.2) := by
  have hn := c_next' ht (b := b) hp.1 d
  have hr := z_txt_rng ht hp.1
  have e4 : z_rs σ p b 2 4 = b := z_rs_4
  have e2 : z_rs σ p b 2 2 = p := z_rs_2
  unfold z_fD
  rcases hb with rfl | rfl
  · by_cases c1 : z_txt X p - 48 < lo
    · rw [if_neg (by omega)]
      simp (disch := omega) only [z_E511, z_B511_25, e4, hn, c1, z_rs_u4, z_B511_25, z_fdC, z_pdC, z_adC, z_sdC, z_lkC, z_ndC, z_gdC, z_mdC, z_cI_some', z_cV_some', z_w_ok, Int.reduceAdd, Int.reduceSub, Int.reduceMul, Int.reduceNeg, Int.reduceEq, Int.reduceLT, Int.reduceLE, Int.reduceNe, reduceIte, true_and, and_true, false_and, and_false, if_true, if_false, ne_eq, not_true_eq_false, not_false_eq_true]
    · by_cases c2 : z_txt X p - 48 ≤ hi
      · rw [if_pos (by omega)]
        simp (disch := omega) only [z_E511, z_B511_25, e4, hn, c1, c2, e2, z_rs_u2, z_fdC, z_pdC, z_adC, z_sdC, z_lkC, z_ndC, z_gdC, z_mdC, z_cI_some', z_cV_some', z_w_ok, Int.reduceAdd, Int.reduceSub, Int.reduceMul, Int.reduceNeg, Int.reduceEq, Int.reduceLT, Int.reduceLE, Int.reduceNe, reduceIte, true_and, and_true, false_and, and_false, if_true, if_false, ne_eq, not_true_eq_false, not_false_eq_true]
      · rw [if_neg (by omega)]
        simp (disch := omega) only [z_E511, z_B511_25, e4, hn, c1, c2, z_rs_u4, z_B511_25, z_fdC, z_pdC, z_adC, z_sdC, z_lkC, z_ndC, z_gdC, z_mdC, z_cI_some', z_cV_some', z_w_ok, Int.reduceAdd, Int.reduceSub, Int.reduceMul, Int.reduceNeg, Int.reduceEq, Int.reduceLT, Int.reduceLE, Int.reduceNe, reduceIte, true_and, and_true, false_and, and_false, if_true, if_false, ne_eq, not_true_eq_false, not_false_eq_true]
  · rw [if_neg (by omega)]
    simp (disch := omega) only [z_E511, z_B511_25, e4, hn, z_rs_u4, z_B511_25, z_fdC, z_pdC, z_adC, z_sdC, z_lkC, z_ndC, z_gdC, z_mdC, z_cI_some', z_cV_some', z_w_ok, Int.reduceAdd, Int.reduceSub, Int.reduceMul, Int.reduceNeg, Int.reduceEq, Int.reduceLT, Int.reduceLE, Int.reduceNe, reduceIte, true_and, and_true, false_and, and_false, if_true, if_false, ne_eq, not_true_eq_false, not_false_eq_true]
theorem z_isd_t {c : Int} : z_isd c = true ↔ 48 ≤ c ∧ c ≤ 57 := by
  unfold z_isd
  rw [Bool.and_eq_true, decide_eq_true_eq, decide_eq_true_eq]
/-- numeral's loop, a step: a digit, or none -/
theorem c_num_d (ht : c_rt σ X) {p lo hi v k : Int} (hp : 0 ≤ p ∧ p ≤ 99) (hk : 0 ≤ k ∧ k < 3) (hv : 0 ≤ v ∧ v ≤ 99) (d : Nat) : z_go (z_ev z_hcC (d + 1)) z_hcC 512 5 [z_R 2, z_I lo, z_I hi, z_I v, z_I k] [] z_hdC (z_rs σ p 0) = if z_isd (z_txt X p) then z_go (z_ev z_hcC (d + 1)) z_hcC 512 5 [z_R 2, z_I lo, z_I hi, z_I (v * 10 + (z_txt X p - 48)), z_I (k + 1)] [] z_hdC (z_rs σ (p + 1) 0) else z_go (z_ev z_hcC (d + 1)) z_hcC 512 65 [z_R 2, z_I lo, z_I hi, z_I v, z_I k] [] z_hdC (z_rs σ p 0) := by
  have hn := c_next' ht (b := 0) hp.1 d
  have hr := z_txt_rng ht hp.1
  have e4 : z_rs σ p 0 2 4 = 0 := z_rs_4
  have e2 : z_rs σ p 0 2 2 = p := z_rs_2
  rw [z_B512_5]
  by_cases c : z_isd (z_txt X p) = true
  · have c' := z_isd_t.mp c
    rw [if_pos c]
    simp (disch := omega) only [e4, hn, if_neg, e2, z_rs_u2, z_fdC, z_pdC, z_adC, z_sdC, z_lkC, z_ndC, z_gdC, z_mdC, z_cI_some', z_cV_some', z_w_ok, Int.reduceAdd, Int.reduceSub, Int.reduceMul, Int.reduceNeg, Int.reduceEq, Int.reduceLT, Int.reduceLE, Int.reduceNe, reduceIte, true_and, and_true, false_and, and_false, if_true, if_false, ne_eq, not_true_eq_false, not_false_eq_true]
    rw [show v * 10 + z_txt X p - 48 = v * 10 + (z_txt X p - 48) by omega]
  · have c' : z_txt X p < 48 ∨ 57 < z_txt X p := by
      have : ¬ (48 ≤ z_txt X p ∧ z_txt X p ≤ 57) := fun h => c (z_isd_t.mpr h)
      omega
    rw [if_neg c]
    by_cases c1 : z_txt X p < 48
    · simp (disch := omega) only [e4, hn, if_neg, if_pos, z_fdC, z_pdC, z_adC, z_sdC, z_lkC, z_ndC, z_gdC, z_mdC, z_cI_some', z_cV_some', z_w_ok, Int.reduceAdd, Int.reduceSub, Int.reduceMul, Int.reduceNeg, Int.reduceEq, Int.reduceLT, Int.reduceLE, Int.reduceNe, reduceIte, true_and, and_true, false_and, and_false, if_true, if_false, ne_eq, not_true_eq_false, not_false_eq_true]
    · simp (disch := omega) only [e4, hn, if_neg, if_pos, z_fdC, z_pdC, z_adC, z_sdC, z_lkC, z_ndC, z_gdC, z_mdC, z_cI_some', z_cV_some', z_w_ok, Int.reduceAdd, Int.reduceSub, Int.reduceMul, Int.reduceNeg, Int.reduceEq, Int.reduceLT, Int.reduceLE, Int.reduceNe, reduceIte, true_and, and_true, false_and, and_false, if_true, if_false, ne_eq, not_true_eq_false, not_false_eq_true]
theorem c_numeral (ht : c_rt σ X) {p b : Int} (hp : 0 ≤ p ∧ p ≤ 60) (hb : b = 0 ∨ b = 1) (d : Nat) (lo hi : Int) : z_ev z_hcC (d + 2) 512 [z_R 2, z_I lo, z_I hi] z_hdC (z_rs σ p b) = some (z_I (z_fN X lo hi p b).1, z_hdC, z_rs σ (z_fN X lo hi p b).2.1 (z_fN X lo hi p b).2.2) := by
  have e4 : z_rs σ p b 2 4 = b := z_rs_4
  rw [z_E512]
  unfold z_fN
  rcases hb with rfl | rfl
  · rw [if_pos rfl]
    -- behind the digits
    have fin : ∀ v k q : Int, 0 < k → 0 ≤ q → q ≤ 70 → z_go (z_ev z_hcC (d + 1)) z_hcC 512 65 [z_R 2, z_I lo, z_I hi, z_I v, z_I k] [] z_hdC (z_rs σ q 0) = (if lo ≤ v ∧ v ≤ hi then some (z_I v, z_hdC, z_rs σ q 0) else some (z_I v, z_hdC, z_rs σ (q - 1) 1)) := fun v k q hk h0 h1 => by
      have e4 : z_rs σ q 0 2 4 = 0 := z_rs_4
      have e2 : z_rs σ q 0 2 2 = q := z_rs_2
      by_cases c1 : v < lo
      · rw [if_neg (by omega), z_B512_65]
        simp (disch := omega) only [e4, e2, if_pos, if_neg, z_B512_95, z_rs_u2, z_rs_u4, z_fdC, z_pdC, z_adC, z_sdC, z_lkC, z_ndC, z_gdC, z_mdC, z_cI_some', z_cV_some', z_w_ok, Int.reduceAdd, Int.reduceSub, Int.reduceMul, Int.reduceNeg, Int.reduceEq, Int.reduceLT, Int.reduceLE, Int.reduceNe, reduceIte, true_and, and_true, false_and, and_false, if_true, if_false, ne_eq, not_true_eq_false, not_false_eq_true]
      · by_cases c2 : v ≤ hi
        · rw [if_pos (by omega), z_B512_65]
          simp (disch := omega) only [e4, e2, if_pos, if_neg, z_fdC, z_pdC, z_adC, z_sdC, z_lkC, z_ndC, z_gdC, z_mdC, z_cI_some', z_cV_some', z_w_ok, Int.reduceAdd, Int.reduceSub, Int.reduceMul, Int.reduceNeg, Int.reduceEq, Int.reduceLT, Int.reduceLE, Int.reduceNe, reduceIte, true_and, and_true, false_and, and_false, if_true, if_false, ne_eq, not_true_eq_false, not_false_eq_true]
        · rw [if_neg (by omega), z_B512_65]
          simp (disch := omega) only [e4, e2, if_pos, if_neg, z_B512_95, z_rs_u2, z_rs_u4, z_fdC, z_pdC, z_adC, z_sdC, z_lkC, z_ndC, z_gdC, z_mdC, z_cI_some', z_cV_some', z_w_ok, Int.reduceAdd, Int.reduceSub, Int.reduceMul, Int.reduceNeg, Int.reduceEq, Int.reduceLT, Int.reduceLE, Int.reduceNe, reduceIte, true_and, and_true, false_and, and_false, if_true, if_false, ne_eq, not_true_eq_false, not_false_eq_true]
    rw [c_num_d ht (by omega) (by omega) (by omega)]
    unfold z_nct z_nvl
    by_cases c0 : z_isd (z_txt X p) = true
    · have c0' := z_isd_t.mp c0
      simp only [c0, if_true]
      rw [c_num_d ht (by omega) (by omega) (by omega)]
      by_cases c1 : z_isd (z_txt X (p + 1)) = true
      · have c1' := z_isd_t.mp c1
        simp only [c1, if_true]
        rw [c_num_d ht (by omega) (by omega) (by omega)]
        rw [show p + 1 + 1 = p + 2 by omega, show (0 : Int) * 10 = 0 from rfl, Int.zero_add]
        by_cases c2 : z_isd (z_txt X (p + 2)) = true
        · simp only [c2, if_true]
          have e4 : z_rs σ (p + 2 + 1) 0 2 4 = 0 := z_rs_4
          rw [z_B512_5]
          simp (disch := omega) only [e4, if_pos, z_fdC, z_pdC, z_adC, z_sdC, z_lkC, z_ndC, z_gdC, z_mdC, z_cI_some', z_cV_some', z_w_ok, Int.reduceAdd, Int.reduceSub, Int.reduceMul, Int.reduceNeg, Int.reduceEq, Int.reduceLT, Int.reduceLE, Int.reduceNe, reduceIte, true_and, and_true, false_and, and_false, if_true, if_false, ne_eq, not_true_eq_false, not_false_eq_true]
          rw [fin _ _ _ (by omega) (by omega) (by omega), show p + 2 + 1 = p + 3 by omega]
          split <;> rfl
        · simp only [c2, if_false, Bool.false_eq_true]
          rw [fin _ _ _ (by omega) (by omega) (by omega)]
          split <;> rfl
      · simp only [c1, if_false, Bool.false_eq_true]
        rw [fin _ _ _ (by omega) (by omega) (by omega), show (0 : Int) * 10 = 0 from rfl, Int.zero_add]
        split <;> rfl
    · simp only [c0, if_false, Bool.false_eq_true, if_true]
      have e4 : z_rs σ p 0 2 4 = 0 := z_rs_4
      rw [z_B512_65]
      simp (disch := omega) only [e4, z_rs_u4, z_fdC, z_pdC, z_adC, z_sdC, z_lkC, z_ndC, z_gdC, z_mdC, z_cI_some', z_cV_some', z_w_ok, Int.reduceAdd, Int.reduceSub, Int.reduceMul, Int.reduceNeg, Int.reduceEq, Int.reduceLT, Int.reduceLE, Int.reduceNe, reduceIte, true_and, and_true, false_and, and_false, if_true, if_false, ne_eq, not_true_eq_false, not_false_eq_true]
  · rw [if_neg (by omega), z_B512_5]
    simp (disch := omega) only [e4, z_B512_65, z_rs_u4, z_fdC, z_pdC, z_adC, z_sdC, z_lkC, z_ndC, z_gdC, z_mdC, z_cI_some', z_cV_some', z_w_ok, Int.reduceAdd, Int.reduceSub, Int.reduceMul, Int.reduceNeg, Int.reduceEq, Int.reduceLT, Int.reduceLE, Int.reduceNe, reduceIte, true_and, and_true, false_and, and_false, if_true, if_false, ne_eq, not_true_eq_false, not_false_eq_true]
end
