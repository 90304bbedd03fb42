/-! The reference's reader. -/
def m_rs (σ : z_S) (p w : Int) : z_S := z_upd (z_upd σ 1 28 p) 1 29 w
/-- the text that the reference reads is X's -/
def m_rt (σ X : z_S) : Prop := σ 1 27 = X 0 5 ∧ (∀ i, 0 ≤ i → i < X 0 5 → σ 19 i = z_b8 (X 18 i)) ∧ (0 ≤ X 0 5 ∧ X 0 5 ≤ 100) ∧ ∀ i, 0 ≤ i → i < X 0 5 → 0 ≤ X 18 i ∧ X 18 i ≤ 255
/-- what a reading comes to -/
def m_rd (σ : z_S) (e : Option z_Res) (r : z_P) : Prop := match r with
  | .inr (v, q) => e = some (z_I v, z_hdM, m_rs σ q (-1))
  | .inl w => ∃ v q, e = some (z_I v, z_hdM, m_rs σ q w)
theorem z_b8_v : ∀ n : Fin 256, z_b8 (n.val : Int) = if (n.val : Int) < 128 then (n.val : Int) else (n.val : Int) - 256 := by decide +kernel
theorem z_b8_of {x : Int} (h : 0 ≤ x ∧ x ≤ 255) : z_b8 x = if x < 128 then x else x - 256 := by
  have := z_b8_v ⟨x.toNat, by omega⟩
  dsimp only at this
  rw [show ((x.toNat : Nat) : Int) = x by omega] at this
  exact this
section
variable {σ X : z_S}
theorem m_rs_28 {p w : Int} : m_rs σ p w 1 28 = p := by unfold m_rs; rw [z_upd_ne (by omega), z_upd_same]
theorem m_rs_29 {p w : Int} : m_rs σ p w 1 29 = w := z_upd_same
theorem m_rs_at {p w a i : Int} (h : a ≠ 1 ∨ (i ≠ 28 ∧ i ≠ 29)) : m_rs σ p w a i = σ a i := by unfold m_rs; rw [z_upd_ne (by omega), z_upd_ne (by omega)]
theorem m_rs_p {q : Int} (h : σ 1 29 = -1) : z_upd σ 1 28 q = m_rs σ q (-1) := by
  funext a i
  unfold m_rs
  simp only [z_upd_at]
  by_cases c : a = 1 ∧ i = 29
  · obtain ⟨rfl, rfl⟩ := c; simp [h]
  · simp [c]
theorem m_rs_w {p w : Int} (h : σ 1 28 = p) : z_upd σ 1 29 w = m_rs σ p w := by
  funext a i
  unfold m_rs
  simp only [z_upd_at]
  by_cases c : a = 1 ∧ i = 28
  · obtain ⟨rfl, rfl⟩ := c; simp [h]
  · simp [c]
theorem m_rs_rs {p w q u : Int} : m_rs (m_rs σ p w) q u = m_rs σ q u := by
  funext a i
  unfold m_rs
  simp only [z_upd_at]
  by_cases c : a = 1 ∧ i = 29
  · simp [c]
  · by_cases c' : a = 1 ∧ i = 28
    · simp [c']
    · simp [c, c']
theorem m_rt_of {σ' : z_S} (ht : m_rt σ X) (o : ∀ a i : Int, a = 19 ∨ (a = 1 ∧ i = 27) → σ' a i = σ a i) : m_rt σ' X := by
  obtain ⟨h1, h2, h3, h4⟩ := ht
  exact ⟨by rw [o _ _ (by omega)]; exact h1, fun i i0 i1 => by rw [o _ _ (by omega)]; exact h2 i i0 i1, h3, h4⟩
theorem m_rt_rs (ht : m_rt σ X) {p w : Int} : m_rt (m_rs σ p w) X := m_rt_of ht fun a i h => m_rs_at (by omega)
theorem m_here (ht : m_rt σ X) {p : Int} (h0 : 0 ≤ p) (hp : σ 1 28 = p) (d : Nat) : ∃ c, z_ev z_hcM (d + 1) 1211 [z_R 1] z_hdM σ = some (z_I c, z_hdM, σ) ∧ ((c = z_txt X p ∧ -1 ≤ c) ∨ (128 ≤ z_txt X p ∧ c < 0)) ∧ (-128 ≤ c ∧ c ≤ 127) := by
  obtain ⟨h1, h2, h3, h4⟩ := ht
  unfold z_txt
  by_cases c1 : X 0 5 ≤ p
  · refine ⟨-1, ?_, Or.inl ⟨by rw [if_neg (by omega)], by omega⟩, by omega⟩
    simp (disch := omega) only [z_E1211, hp, h1, if_pos, z_fdM, z_pdM, z_adM, z_sdM, z_lkM, z_ndM, z_gdM, z_cI_some', z_cV_some', z_w_ok, Int.reduceAdd, Int.reduceSub, Int.reduceMul, Int.reduceNeg, Int.reduceEq, Int.reduceLT, Int.reduceLE, Int.reduceNe, reduceIte, true_and, and_true, false_and, and_false, if_true, if_false, ne_eq, not_true_eq_false, not_false_eq_true]
  · by_cases c2 : 60 ≤ p
    · refine ⟨-1, ?_, Or.inl ⟨by rw [if_neg (by omega)], by omega⟩, by omega⟩
      simp (disch := omega) only [z_E1211, hp, h1, if_pos, if_neg, z_fdM, z_pdM, z_adM, z_sdM, z_lkM, z_ndM, z_gdM, z_cI_some', z_cV_some', z_w_ok, Int.reduceAdd, Int.reduceSub, Int.reduceMul, Int.reduceNeg, Int.reduceEq, Int.reduceLT, Int.reduceLE, Int.reduceNe, reduceIte, true_and, and_true, false_and, and_false, if_true, if_false, ne_eq, not_true_eq_false, not_false_eq_true]
    · have hx := h4 p h0 (by omega)
      have hb := h2 p h0 (by omega)
      rw [z_b8_of hx] at hb
      refine ⟨σ 19 p, ?_, ?_, ?_⟩
      · simp (disch := omega) only [z_E1211, hp, h1, if_neg, z_fdM, z_pdM, z_adM, z_sdM, z_lkM, z_ndM, z_gdM, z_cI_some', z_cV_some', z_w_ok, Int.reduceAdd, Int.reduceSub, Int.reduceMul, Int.reduceNeg, Int.reduceEq, Int.reduceLT, Int.reduceLE, Int.reduceNe, reduceIte, true_and, and_true, false_and, and_false, if_true, if_false, ne_eq, not_true_eq_false, not_false_eq_true]
      · rw [if_pos (by omega)]
        split at hb <;> omega
      · split at hb <;> omega
theorem m_fine (d : Nat) (h : σ 1 29 = -1) : z_ev z_hcM (d + 1) 1213 [z_R 1] z_hdM σ = some (z_I 1, z_hdM, σ) := by
  simp (disch := omega) only [z_E1213, h, z_fdM, z_pdM, z_adM, z_sdM, z_lkM, z_ndM, z_gdM, z_cI_some', z_cV_some', z_w_ok, Int.reduceAdd, Int.reduceSub, Int.reduceMul, Int.reduceNeg, Int.reduceEq, Int.reduceLT, Int.reduceLE, Int.reduceNe, reduceIte, true_and, and_true, false_and, and_false, if_true, if_false, ne_eq, not_true_eq_false, not_false_eq_true]
theorem m_unfine (d : Nat) (h : σ 1 29 ≠ -1) : z_ev z_hcM (d + 1) 1213 [z_R 1] z_hdM σ = some (z_I 0, z_hdM, σ) := by
  simp (disch := omega) only [z_E1213, if_pos, z_fdM, z_pdM, z_adM, z_sdM, z_lkM, z_ndM, z_gdM, z_cI_some', z_cV_some', z_w_ok, Int.reduceAdd, Int.reduceSub, Int.reduceMul, Int.reduceNeg, Int.reduceEq, Int.reduceLT, Int.reduceLE, Int.reduceNe, reduceIte, true_and, and_true, false_and, and_false, if_true, if_false, ne_eq, not_true_eq_false, not_false_eq_true]
theorem m_bad (d : Nat) (h : σ 1 29 = -1) (x : Int) : z_ev z_hcM (d + 2) 1214 [z_R 1, z_I x] z_hdM σ = some (z_U, z_hdM, z_upd σ 1 29 x) := by
  simp (disch := omega) only [z_E1214, m_fine _ h, z_fdM, z_pdM, z_adM, z_sdM, z_lkM, z_ndM, z_gdM, z_cI_some', z_cV_some', z_w_ok, Int.reduceAdd, Int.reduceSub, Int.reduceMul, Int.reduceNeg, Int.reduceEq, Int.reduceLT, Int.reduceLE, Int.reduceNe, reduceIte, true_and, and_true, false_and, and_false, if_true, if_false, ne_eq, not_true_eq_false, not_false_eq_true]
theorem m_passes (ht : m_rt σ X) {p : Int} (h0 : 0 ≤ p ∧ p ≤ 100) (hp : σ 1 28 = p) (hw : σ 1 29 = -1) (d : Nat) {ch : Int} (hc : 0 ≤ ch ∧ ch ≤ 127) : z_ev z_hcM (d + 2) 1212 [z_R 1, z_I ch] z_hdM σ = if z_txt X p = ch then some (z_I 1, z_hdM, m_rs σ (p + 1) (-1)) else some (z_I 0, z_hdM, σ) := by
  obtain ⟨c, e, h1, h2⟩ := m_here ht h0.1 hp d
  by_cases cc : c = ch
  · rw [if_pos (by omega)]
    simp (disch := omega) only [z_E1212, e, cc, hp, m_rs_p hw, z_fdM, z_pdM, z_adM, z_sdM, z_lkM, z_ndM, z_gdM, z_cI_some', z_cV_some', z_w_ok, Int.reduceAdd, Int.reduceSub, Int.reduceMul, Int.reduceNeg, Int.reduceEq, Int.reduceLT, Int.reduceLE, Int.reduceNe, reduceIte, true_and, and_true, false_and, and_false, if_true, if_false, ne_eq, not_true_eq_false, not_false_eq_true]
  · rw [if_neg (by omega)]
    simp (disch := omega) only [z_E1212, e, if_neg, z_fdM, z_pdM, z_adM, z_sdM, z_lkM, z_ndM, z_gdM, z_cI_some', z_cV_some', z_w_ok, Int.reduceAdd, Int.reduceSub, Int.reduceMul, Int.reduceNeg, Int.reduceEq, Int.reduceLT, Int.reduceLE, Int.reduceNe, reduceIte, true_and, and_true, false_and, and_false, if_true, if_false, ne_eq, not_true_eq_false, not_false_eq_true]
theorem m_corner (ht : m_rt σ X) {p : Int} (h0 : 0 ≤ p ∧ p ≤ 100) (hp : σ 1 28 = p) (hw : σ 1 29 = -1) (d : Nat) (but : Int) : m_rd σ (z_ev z_hcM (d + 3) 1215 [z_R 1, z_I but] z_hdM σ) (z_cor (z_txt X) p but) := by
  obtain ⟨c, e, h1, h2⟩ := m_here ht h0.1 hp (d + 1)
  have eb := m_bad d hw p
  rw [m_rs_w hp] at eb
  unfold z_cor
  by_cases c1 : c - 97 < 0
  · rw [if_neg (by omega)]
    refine ⟨0, p, ?_⟩
    simp (disch := omega) only [z_E1215, z_E1202, e, if_pos, hp, eb, z_fdM, z_pdM, z_adM, z_sdM, z_lkM, z_ndM, z_gdM, z_cI_some', z_cV_some', z_w_ok, Int.reduceAdd, Int.reduceSub, Int.reduceMul, Int.reduceNeg, Int.reduceEq, Int.reduceLT, Int.reduceLE, Int.reduceNe, reduceIte, true_and, and_true, false_and, and_false, if_true, if_false, ne_eq, not_true_eq_false, not_false_eq_true]
  · by_cases c2 : 7 < c - 97
    · rw [if_neg (by omega)]
      refine ⟨0, p, ?_⟩
      simp (disch := omega) only [z_E1215, z_E1202, e, if_pos, if_neg, hp, eb, z_fdM, z_pdM, z_adM, z_sdM, z_lkM, z_ndM, z_gdM, z_cI_some', z_cV_some', z_w_ok, Int.reduceAdd, Int.reduceSub, Int.reduceMul, Int.reduceNeg, Int.reduceEq, Int.reduceLT, Int.reduceLE, Int.reduceNe, reduceIte, true_and, and_true, false_and, and_false, if_true, if_false, ne_eq, not_true_eq_false, not_false_eq_true]
    · by_cases c3 : c - 97 = but
      · rw [if_neg (by omega)]
        refine ⟨0, p, ?_⟩
        simp (disch := omega) only [z_E1215, z_E1202, e, if_pos, if_neg, hp, eb, z_fdM, z_pdM, z_adM, z_sdM, z_lkM, z_ndM, z_gdM, z_cI_some', z_cV_some', z_w_ok, Int.reduceAdd, Int.reduceSub, Int.reduceMul, Int.reduceNeg, Int.reduceEq, Int.reduceLT, Int.reduceLE, Int.reduceNe, reduceIte, true_and, and_true, false_and, and_false, if_true, if_false, ne_eq, not_true_eq_false, not_false_eq_true]
      · rw [if_pos (by omega), show z_txt X p = c by omega]
        show _ = _
        simp (disch := omega) only [z_E1215, z_E1202, e, if_pos, if_neg, hp, m_rs_p hw, z_fdM, z_pdM, z_adM, z_sdM, z_lkM, z_ndM, z_gdM, z_cI_some', z_cV_some', z_w_ok, Int.reduceAdd, Int.reduceSub, Int.reduceMul, Int.reduceNeg, Int.reduceEq, Int.reduceLT, Int.reduceLE, Int.reduceNe, reduceIte, true_and, and_true, false_and, and_false, if_true, if_false, ne_eq, not_true_eq_false, not_false_eq_true]
theorem m_digit (ht : m_rt σ X) {p : Int} (h0 : 0 ≤ p ∧ p ≤ 100) (hp : σ 1 28 = p) (hw : σ 1 29 = -1) (d : Nat) {lo hi : Int} (hlo : 0 ≤ lo ∧ hi ≤ 9) : m_rd σ (z_ev z_hcM (d + 3) 1216 [z_R 1, z_I lo, z_I hi] z_hdM σ) (z_dgt (z_txt X) p lo hi) := by
  obtain ⟨c, e, h1, h2⟩ := m_here ht h0.1 hp (d + 1)
  have eb := m_bad d hw p
  rw [m_rs_w hp] at eb
  unfold z_dgt
  by_cases c1 : c - 48 < lo
  · rw [if_neg (by omega)]
    refine ⟨0, p, ?_⟩
    simp (disch := omega) only [z_E1216, z_E1202, e, if_pos, hp, eb, z_fdM, z_pdM, z_adM, z_sdM, z_lkM, z_ndM, z_gdM, z_cI_some', z_cV_some', z_w_ok, Int.reduceAdd, Int.reduceSub, Int.reduceMul, Int.reduceNeg, Int.reduceEq, Int.reduceLT, Int.reduceLE, Int.reduceNe, reduceIte, true_and, and_true, false_and, and_false, if_true, if_false, ne_eq, not_true_eq_false, not_false_eq_true]
  · by_cases c2 : hi < c - 48
    · rw [if_neg (by omega)]
      refine ⟨0, p, ?_⟩
      simp (disch := omega) only [z_E1216, z_E1202, e, if_pos, if_neg, hp, eb, z_fdM, z_pdM, z_adM, z_sdM, z_lkM, z_ndM, z_gdM, z_cI_some', z_cV_some', z_w_ok, Int.reduceAdd, Int.reduceSub, Int.reduceMul, Int.reduceNeg, Int.reduceEq, Int.reduceLT, Int.reduceLE, Int.reduceNe, reduceIte, true_and, and_true, false_and, and_false, if_true, if_false, ne_eq, not_true_eq_false, not_false_eq_true]
    · rw [if_pos (by omega), show z_txt X p = c by omega]
      show _ = _
      simp (disch := omega) only [z_E1216, z_E1202, e, if_pos, if_neg, hp, m_rs_p hw, z_fdM, z_pdM, z_adM, z_sdM, z_lkM, z_ndM, z_gdM, z_cI_some', z_cV_some', z_w_ok, Int.reduceAdd, Int.reduceSub, Int.reduceMul, Int.reduceNeg, Int.reduceEq, Int.reduceLT, Int.reduceLE, Int.reduceNe, reduceIte, true_and, and_true, false_and, and_false, if_true, if_false, ne_eq, not_true_eq_false, not_false_eq_true]
/-- number's loop, a step: a digit, or none -/
theorem m_num_d (ht : m_rt σ X) {p lo hi v k : Int} (h0 : 0 ≤ p ∧ p ≤ 99) (hp : σ 1 28 = p) (hw : σ 1 29 = -1) (hk : 0 < k ∧ k < 3) (hv : 0 ≤ v ∧ v ≤ 99) (d : Nat) : z_go (z_ev z_hcM (d + 3)) z_hcM 1217 11 [z_R 1, z_I lo, z_I hi, z_I v, z_I k] [] z_hdM σ = if z_isd (z_txt X p) then z_go (z_ev z_hcM (d + 3)) z_hcM 1217 11 [z_R 1, z_I lo, z_I hi, z_I (v * 10 + (z_txt X p - 48)), z_I (k + 1)] [] z_hdM (m_rs σ (p + 1) (-1)) else z_go (z_ev z_hcM (d + 3)) z_hcM 1217 57 [z_R 1, z_I lo, z_I hi, z_I v, z_I k] [] z_hdM σ := by
  obtain ⟨c, e, h1, h2⟩ := m_here ht h0.1 hp (d + 2)
  have hd := m_digit ht (p := p) (by omega) hp hw d (lo := 0) (hi := 9) (by omega)
  have ef := m_fine (d + 2) hw
  rw [z_B1217_11]
  by_cases c0 : z_isd (z_txt X p) = true
  · have c' := z_isd_t.mp c0
    rw [if_pos c0]
    unfold z_dgt at hd
    rw [if_pos (by omega)] at hd
    have hd' : _ = _ := hd
    simp (disch := omega) only [z_E1202, ef, e, if_neg, hd', z_fdM, z_pdM, z_adM, z_sdM, z_lkM, z_ndM, z_gdM, z_cI_some', z_cV_some', z_w_ok, Int.reduceAdd, Int.reduceSub, Int.reduceMul, Int.reduceNeg, Int.reduceEq, Int.reduceLT, Int.reduceLE, Int.reduceNe, reduceIte, true_and, and_true, false_and, and_false, if_true, if_false, ne_eq, not_true_eq_false, not_false_eq_true]
    rw [show 10 * v + (z_txt X p - 48) = v * 10 + (z_txt X p - 48) by omega]
  · have c' : z_txt X p < 48 ∨ 57 < z_txt X p := by
      have : ¬ (48 ≤ z_txt X p ∧ z_txt X p ≤ 57) := fun h => c0 (z_isd_t.mpr h)
      omega
    rw [if_neg c0]
    by_cases c1 : c < 48
    · simp (disch := omega) only [z_E1202, ef, e, if_neg, if_pos, z_fdM, z_pdM, z_adM, z_sdM, z_lkM, z_ndM, z_gdM, z_cI_some', z_cV_some', z_w_ok, Int.reduceAdd, Int.reduceSub, Int.reduceMul, Int.reduceNeg, Int.reduceEq, Int.reduceLT, Int.reduceLE, Int.reduceNe, reduceIte, true_and, and_true, false_and, and_false, if_true, if_false, ne_eq, not_true_eq_false, not_false_eq_true]
    · simp (disch := omega) only [z_E1202, ef, e, if_neg, if_pos, z_fdM, z_pdM, z_adM, z_sdM, z_lkM, z_ndM, z_gdM, z_cI_some', z_cV_some', z_w_ok, Int.reduceAdd, Int.reduceSub, Int.reduceMul, Int.reduceNeg, Int.reduceEq, Int.reduceLT, Int.reduceLE, Int.reduceNe, reduceIte, true_and, and_true, false_and, and_false, if_true, if_false, ne_eq, not_true_eq_false, not_false_eq_true]
theorem m_number (ht : m_rt σ X) {p : Int} (h0 : 0 ≤ p ∧ p ≤ 60) (hp : σ 1 28 = p) (hw : σ 1 29 = -1) (d : Nat) (lo hi : Int) : m_rd σ (z_ev z_hcM (d + 4) 1217 [z_R 1, z_I lo, z_I hi] z_hdM σ) (z_nmb (z_txt X) p lo hi) := by
  have hd := m_digit ht (p := p) (by omega) hp hw d (lo := 0) (hi := 9) (by omega)
  rw [z_E1217]
  -- behind the digits
  have fin : ∀ v k q : Int, 0 ≤ q → q ≤ 70 → z_go (z_ev z_hcM (d + 3)) z_hcM 1217 57 [z_R 1, z_I lo, z_I hi, z_I v, z_I k] [] z_hdM (m_rs σ q (-1)) = (if lo ≤ v ∧ v ≤ hi then some (z_I v, z_hdM, m_rs σ q (-1)) else some (z_I v, z_hdM, m_rs σ q (q - 1))) := fun v k q h1 h2 => by
    have ef := m_fine (d + 2) (m_rs_29 (σ := σ) (p := q) (w := -1))
    have eb := m_bad (d + 1) (m_rs_29 (σ := σ) (p := q) (w := -1)) (q - 1)
    rw [m_rs_w m_rs_28, m_rs_rs] at eb
    rw [z_B1217_57]
    by_cases c1 : v < lo
    · rw [if_neg (by omega)]
      simp (disch := omega) only [z_E1202, ef, m_rs_28, if_pos, if_neg, eb, z_fdM, z_pdM, z_adM, z_sdM, z_lkM, z_ndM, z_gdM, z_cI_some', z_cV_some', z_w_ok, Int.reduceAdd, Int.reduceSub, Int.reduceMul, Int.reduceNeg, Int.reduceEq, Int.reduceLT, Int.reduceLE, Int.reduceNe, reduceIte, true_and, and_true, false_and, and_false, if_true, if_false, ne_eq, not_true_eq_false, not_false_eq_true]
    · by_cases c2 : v ≤ hi
      · rw [if_pos (by omega)]
        simp (disch := omega) only [z_E1202, ef, m_rs_28, if_pos, if_neg, eb, z_fdM, z_pdM, z_adM, z_sdM, z_lkM, z_ndM, z_gdM, z_cI_some', z_cV_some', z_w_ok, Int.reduceAdd, Int.reduceSub, Int.reduceMul, Int.reduceNeg, Int.reduceEq, Int.reduceLT, Int.reduceLE, Int.reduceNe, reduceIte, true_and, and_true, false_and, and_false, if_true, if_false, ne_eq, not_true_eq_false, not_false_eq_true]
      · rw [if_neg (by omega)]
        simp (disch := omega) only [z_E1202, ef, m_rs_28, if_pos, if_neg, eb, z_fdM, z_pdM, z_adM, z_sdM, z_lkM, z_ndM, z_gdM, z_cI_some', z_cV_some', z_w_ok, Int.reduceAdd, Int.reduceSub, Int.reduceMul, Int.reduceNeg, Int.reduceEq, Int.reduceLT, Int.reduceLE, Int.reduceNe, reduceIte, true_and, and_true, false_and, and_false, if_true, if_false, ne_eq, not_true_eq_false, not_false_eq_true]
  have out : ∀ v k n : Int, 0 ≤ n → n ≤ 3 → m_rd σ (z_go (z_ev z_hcM (d + 3)) z_hcM 1217 57 [z_R 1, z_I lo, z_I hi, z_I v, z_I k] [] z_hdM (m_rs σ (p + n) (-1))) (if lo ≤ v ∧ v ≤ hi then .inr (v, p + n) else .inl (p + n - 1)) := fun v k n n0 n1 => by
    have := fin v k (p + n) (by omega) (by omega)
    by_cases c : lo ≤ v ∧ v ≤ hi
    · rw [if_pos c] at this ⊢
      exact this
    · rw [if_neg c] at this ⊢
      exact ⟨_, _, this⟩
  unfold z_nmb
  by_cases c0 : z_isd (z_txt X p) = true
  · have c0' := z_isd_t.mp c0
    have t1 := m_rt_rs ht (p := p + 1) (w := -1)
    have t2 := m_rt_rs ht (p := p + 2) (w := -1)
    unfold z_dgt at hd
    rw [if_pos (by omega)] at hd
    have hd' : _ = _ := hd
    rw [z_fdM, hd', z_cI_some', m_num_d t1 (by omega) m_rs_28 m_rs_29 (by omega) (by omega), m_rs_rs]
    unfold z_nct z_nvl
    simp only [c0, if_true]
    by_cases c1 : z_isd (z_txt X (p + 1)) = true
    · have c1' := z_isd_t.mp c1
      simp only [c1, if_true]
      rw [show p + 1 + 1 = p + 2 by omega, m_num_d t2 (by omega) m_rs_28 m_rs_29 (by omega) (by omega), m_rs_rs]
      by_cases c2 : z_isd (z_txt X (p + 2)) = true
      · simp only [c2, if_true]
        rw [z_B1217_11, show p + 2 + 1 = p + 3 by omega]
        rw [if_neg (show ¬ (3 : Int) = 0 by omega)]
        simp (disch := omega) only [if_pos, z_fdM, z_pdM, z_adM, z_sdM, z_lkM, z_ndM, z_gdM, z_cI_some', z_cV_some', z_w_ok, Int.reduceAdd, Int.reduceSub, Int.reduceMul, Int.reduceNeg, Int.reduceEq, Int.reduceLT, Int.reduceLE, Int.reduceNe, reduceIte, true_and, and_true, false_and, and_false, if_true, if_false, ne_eq, not_true_eq_false, not_false_eq_true]
        exact out _ _ 3 (by omega) (by omega)
      · simp only [c2, if_false, Bool.false_eq_true]
        rw [if_neg (show ¬ (2 : Int) = 0 by omega)]
        exact out _ _ 2 (by omega) (by omega)
    · simp only [c1, if_false, Bool.false_eq_true]
      rw [if_neg (show ¬ (1 : Int) = 0 by omega)]
      exact out _ _ 1 (by omega) (by omega)
  · have hn : z_nct (z_txt X) p = 0 := by unfold z_nct; rw [if_neg c0]
    have c' : z_txt X p < 48 ∨ 57 < z_txt X p := by
      have : ¬ (48 ≤ z_txt X p ∧ z_txt X p ≤ 57) := fun h => c0 (z_isd_t.mpr h)
      omega
    rw [if_pos hn]
    unfold z_dgt at hd
    rw [if_neg (by omega)] at hd
    obtain ⟨v, q, e⟩ := hd
    have ef := m_unfine (d + 2) (σ := m_rs σ q p) (by rw [m_rs_29]; omega)
    refine ⟨v, q, ?_⟩
    rw [z_fdM, e, z_cI_some', z_B1217_11]
    simp (disch := omega) only [if_neg, ef, z_B1217_57, z_fdM, z_pdM, z_adM, z_sdM, z_lkM, z_ndM, z_gdM, z_cI_some', z_cV_some', z_w_ok, Int.reduceAdd, Int.reduceSub, Int.reduceMul, Int.reduceNeg, Int.reduceEq, Int.reduceLT, Int.reduceLE, Int.reduceNe, reduceIte, true_and, and_true, false_and, and_false, if_true, if_false, ne_eq, not_true_eq_false, not_false_eq_true]
end
