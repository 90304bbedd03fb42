/-! The reference between calls. -/
def m_inv (σ X : z_S) : Prop := z_wf X ∧ m_land σ X ∧ m_ways σ X ∧ m_t σ (X 7) ∧ σ 40 0 = 0 ∧ σ 1 10 = X 0 4 ∧ (∀ w, 0 ≤ w → w < 10 → σ 18 w = X 17 w) ∧ σ 1 23 = X 0 5 ∧ (∀ i, 0 ≤ i → i < X 0 5 → σ 19 i = z_b8 (X 18 i)) ∧ σ 1 25 = X 0 6 ∧ ∀ i, 0 ≤ i → i < X 0 6 → σ 20 i = X 19 i
/-- the call answers v, leaves world X, and nothing was thrown -/
def m_does (e : Option z_Res) (p : Int × z_S) : Prop := ∃ σ', e = some (z_I p.1, z_hdM, σ') ∧ m_inv σ' p.2 ∧ σ' 1 26 = 0
section
variable {σ σ' X : z_S}
theorem m_inv_off (ho : m_off 26 35 57 σ σ') (ht : m_t σ' (X 7)) (h40 : σ' 40 0 = 0) (h : m_inv σ X) : m_inv σ' X := by
  obtain ⟨a1, a2, a3, a4, a5, a6, a7, a8, a9, b1, b2⟩ := h
  exact ⟨a1, m_land_off ho (by omega) (by omega) a2, m_ways_off ho (by omega) a3, ht, h40, by rw [m_at ho (by omega)]; exact a6, fun w w0 w1 => by rw [m_at ho (by omega)]; exact a7 w w0 w1, by rw [m_at ho (by omega)]; exact a8, fun i i0 i1 => by rw [m_at ho (by omega)]; exact a9 i i0 i1, by rw [m_at ho (by omega)]; exact b1, fun i i0 i1 => by rw [m_at ho (by omega)]; exact b2 i i0 i1⟩
theorem m_inv_same (hs : ∀ a i, (a < 35 ∨ 57 < a ∨ (a = 40 ∧ i = 0)) → (a ≠ 1 ∨ i < 26) → σ' a i = σ a i) (h : m_inv σ X) : m_inv σ' X := m_inv_off (fun a i h1 h2 h3 => hs a i (by omega) h3) (fun k k0 k1 => by rw [hs _ _ (by omega) (by omega)]; exact h.2.2.2.1 k k0 k1) (by rw [hs _ _ (by omega) (by omega)]; exact h.2.2.2.2.1) h
theorem m_inv.wf (h : m_inv σ X) : z_wf X := h.1
theorem m_inv.t20 (h : m_inv σ X) : c_t20 (X 7) := z_tcap_20 h.1.2.2.2.1.2 (fun k k0 k1 => h.1.2.2.2.2.2.2.2.2.2.2.2.1 k k0 k1)
/-- asked afresh: all gathered, and worked -/
theorem m_asked (h : m_inv σ X) (d : Nat) : ∃ σ1 σ2, z_ev z_hcM (d + 5) 1229 [z_R 1] z_hdM σ = some (z_U, z_hdM, σ1) ∧ z_ev z_hcM (d + 5) 1233 [z_R 1] z_hdM σ1 = some (z_U, z_hdM, σ2) ∧ m_inv σ2 X ∧ σ2 1 26 = σ 1 26 ∧
    σ2 42 0 = z_brt (z_Dm X (-1)).op (z_Dm X (-1)).mn (z_Dm X (-1)).gN (X 0 4) (z_side X 0 (-1)) (X 7) ∧ σ2 42 1 = z_brt (z_Dm X (-1)).op (z_Dm X (-1)).mn (z_Dm X (-1)).gN (X 0 4) (z_side X 1 (-1)) (X 7) ∧ σ2 1 54 = z_suf (z_Dm X (-1)).op (z_Dm X (-1)).mn (z_Dm X (-1)).gN (X 0 4) (X 7) := by
  obtain ⟨hw, hl, hy, ht, h40, hle, -⟩ := id h
  obtain ⟨σ1, e1, o1, t1⟩ := m_gatherAll d hw hl hy
  have off1 : m_off 48 36 39 σ σ1 := fun a i h1 h2 h3 => o1 a i h2 (by omega)
  have ht1 : m_t σ1 (X 7) := fun k k0 k1 => by rw [o1 _ _ (by omega) (by omega)]; exact ht k k0 k1
  have h401 : σ1 40 0 = 0 := by rw [o1 _ _ (by omega) (by omega)]; exact h40
  obtain ⟨σ2, e2, o2, -, z2, b0, b1, b5⟩ := m_c_work (d + 1) hw (m_land_off off1 (by omega) (by omega) hl) t1 ht1 h.t20 h401
  have hle1 : σ1 1 10 = X 0 4 := by rw [o1 _ _ (by omega) (by omega)]; exact hle
  rw [hle1] at b0 b1 b5
  refine ⟨σ1, σ2, e1, e2, m_inv_off (fun a i h1 h2 h3 => by rw [o2 a i (by omega) (by omega), o1 a i (by omega) (by omega)]) (fun k k0 k1 => by rw [o2 _ _ (by omega) (by omega)]; exact ht1 k k0 k1) z2 h, by rw [o2 _ _ (by omega) (by omega), o1 _ _ (by omega) (by omega)], b0, b1, b5⟩
theorem m_inv_thr (h : m_inv σ X) : m_inv (z_upd σ 1 26 0) X := m_inv_same (fun a i h1 h2 => z_upd_ne (by omega)) h
theorem M_suf (h : m_inv σ X) (d : Nat) : m_does (z_ev z_hcM (d + 20) 1243 [z_R 1] z_hdM σ) (s_suf X) := by
  obtain ⟨σ1, σ2, e1, e2, i2, k26, -, -, b5⟩ := m_asked (m_inv_thr h) (d + 14)
  refine ⟨σ2, ?_, i2, by rw [k26, z_upd_same]⟩
  unfold s_suf
  simp (disch := omega) only [z_E1243, e1, e2, b5, z_fdM, z_pdM, z_adM, z_sdM, z_lkM, z_ndM, z_gdM, z_cI_some', z_cV_some', z_w_ok, Int.reduceAdd, Int.reduceSub, Int.reduceMul, Int.reduceNeg, Int.reduceEq, Int.reduceLT, Int.reduceLE, Int.reduceNe, reduceIte, true_and, and_true, false_and, and_false, if_true, if_false, ne_eq, not_true_eq_false, not_false_eq_true]
theorem M_take (h : m_inv σ X) (d : Nat) (w : Int) : m_does (z_ev z_hcM (d + 20) 1242 [z_R 1, z_I w] z_hdM σ) (s_take X w) := by
  unfold s_take
  by_cases c : w = 0 ∨ w = 1
  · rw [if_pos c]
    obtain ⟨σ1, σ2, e1, e2, i2, k26, b0, b1, -⟩ := m_asked (m_inv_thr h) (d + 14)
    refine ⟨σ2, ?_, i2, by rw [k26, z_upd_same]⟩
    rcases c with rfl | rfl
    · simp (disch := omega) only [z_E1242, z_E1207, e1, e2, b0, z_fdM, z_pdM, z_adM, z_sdM, z_lkM, z_ndM, z_gdM, z_cI_some', z_cV_some', z_w_ok, Int.reduceAdd, Int.reduceSub, Int.reduceMul, Int.reduceNeg, Int.reduceEq, Int.reduceLT, Int.reduceLE, Int.reduceNe, reduceIte, true_and, and_true, false_and, and_false, if_true, if_false, ne_eq, not_true_eq_false, not_false_eq_true]
    · simp (disch := omega) only [z_E1242, z_E1207, e1, e2, b1, z_fdM, z_pdM, z_adM, z_sdM, z_lkM, z_ndM, z_gdM, z_cI_some', z_cV_some', z_w_ok, Int.reduceAdd, Int.reduceSub, Int.reduceMul, Int.reduceNeg, Int.reduceEq, Int.reduceLT, Int.reduceLE, Int.reduceNe, reduceIte, true_and, and_true, false_and, and_false, if_true, if_false, ne_eq, not_true_eq_false, not_false_eq_true]
  · rw [if_neg c]
    refine ⟨z_upd σ 1 26 0, ?_, m_inv_thr h, z_upd_same⟩
    simp (disch := omega) only [z_E1242, z_E1207, if_neg, if_pos, z_fdM, z_pdM, z_adM, z_sdM, z_lkM, z_ndM, z_gdM, z_cI_some', z_cV_some', z_w_ok, Int.reduceAdd, Int.reduceSub, Int.reduceMul, Int.reduceNeg, Int.reduceEq, Int.reduceLT, Int.reduceLE, Int.reduceNe, reduceIte, true_and, and_true, false_and, and_false, if_true, if_false, ne_eq, not_true_eq_false, not_false_eq_true]
end
