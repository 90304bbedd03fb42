/-! The reference: a new object. -/
def z_cM : List (Int × Int × Int) := [(1, 5, 0), (1, 8, 0), (1, 9, 6), (1, 20, 0), (1, 10, 0), (1, 23, 0), (1, 25, 0), (1, 26, 0), (40, 0, 0), (8, 0, 0), (8, 1, 0), (8, 2, 0), (8, 3, 0), (8, 4, 0), (18, 0, 1), (18, 1, 1), (18, 2, 1), (18, 3, 1), (18, 4, 1), (18, 5, 1), (18, 6, 1), (18, 7, 1), (18, 8, 1), (18, 9, 1)]
theorem z_cM_ok : z_clk z_cM z_rM = true := by decide +kernel
theorem z_sM_at {a i v : Int} (h : (a, i, v) ∈ z_cM) : z_sM a i = v := by
  have ok := z_cM_ok
  unfold z_sM
  cases hr : z_rM with
  | none => rw [hr] at ok; cases ok
  | some r => rw [hr] at ok; exact of_decide_eq_true (List.all_eq_true.mp ok (a, i, v) h)
theorem m_new : m_inv z_sM z_X0 ∧ z_sM 1 26 = 0 := by
  have m : ∀ a i v, (a, i, v) ∈ z_cM → z_sM a i = v := fun a i v => z_sM_at
  refine ⟨⟨z_wf_X0, ⟨⟨m _ _ _ (by decide), m _ _ _ (by decide), m _ _ _ (by decide), m _ _ _ (by decide)⟩, fun r a b => ?_, fun r a b => ?_, fun j a b => ?_⟩, fun j a b => ?_, ?_, m _ _ _ (by decide), m _ _ _ (by decide), fun w a b => ?_, m _ _ _ (by decide), fun i a b => ?_, m _ _ _ (by decide), fun i a b => ?_⟩, m _ _ _ (by decide)⟩
  · have h : z_X0 0 0 = 0 := rfl
    omega
  · have h : z_X0 0 1 = 0 := rfl
    omega
  · have h : z_X0 0 2 = 0 := rfl
    omega
  · have h : z_X0 0 2 = 0 := rfl
    omega
  · exact z_five (m _ _ _ (by decide)) (m _ _ _ (by decide)) (m _ _ _ (by decide)) (m _ _ _ (by decide)) (m _ _ _ (by decide))
  · show z_sM 18 w = 1
    rcases (show w = 0 ∨ w = 1 ∨ w = 2 ∨ w = 3 ∨ w = 4 ∨ w = 5 ∨ w = 6 ∨ w = 7 ∨ w = 8 ∨ w = 9 by omega) with rfl | rfl | rfl | rfl | rfl | rfl | rfl | rfl | rfl | rfl <;> exact m _ _ _ (by decide)
  · have h : z_X0 0 5 = 0 := rfl
    omega
  · have h : z_X0 0 6 = 0 := rfl
    omega
theorem M_thrown_v {σ X : z_S} (h : m_inv σ X) (d : Nat) : z_ev z_hcM (d + 20) 1201 [z_R 1] z_hdM σ = some (z_I (σ 1 26), z_hdM, σ) := by
  simp (disch := omega) only [z_E1201, z_fdM, z_pdM, z_adM, z_sdM, z_lkM, z_ndM, z_gdM, z_cI_some', z_cV_some', z_w_ok, Int.reduceAdd, Int.reduceSub, Int.reduceMul, Int.reduceNeg, Int.reduceEq, Int.reduceLT, Int.reduceLE, Int.reduceNe, reduceIte, true_and, and_true, false_and, and_false, if_true, if_false, ne_eq, not_true_eq_false, not_false_eq_true]
