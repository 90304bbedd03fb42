/-! The reference: a road's slot. -/
section
variable {σ X : z_S}
theorem m_tollOf (d : Nat) (hw : z_wf X) (hl : m_land σ X) (r : Int) : z_ev z_hcM (d + 1) 1208 [z_R 1, z_I r] z_hdM σ = some (z_I (z_slt X r), z_hdM, σ) := by
  have hn := hw.2.1
  obtain ⟨⟨l1, l2, l3, l4⟩, l5, l6, l7⟩ := hl
  have hmono := hw.2.2.2.2.2.2.2.2.2.1
  have hs := z_slot_some (X := X) (r := r) (n := (X 0 1).toNat)
  have go : ∀ (j k : Nat), (k : Int) + j = X 0 1 → (∀ i : Int, 0 ≤ i → i < k → X 6 i ≠ r) → z_go (z_ev z_hcM d) z_hcM 1208 2 [z_R 1, z_I r, z_I k] [] z_hdM σ = some (z_I (z_slt X r), z_hdM, σ) := by
    intro j
    induction j with
    | zero =>
      intro k hk hno
      have e : z_slt X r = -1 := by
        rcases hs with ⟨h, -⟩ | ⟨h1, h2, h3⟩
        · exact h
        · exact absurd h3 (hno _ h1 (by omega))
      rw [z_B1208_2, e]
      simp (disch := omega) only [l2, if_pos, z_fdM, z_pdM, z_adM, z_sdM, z_lkM, z_ndM, z_gdM, z_cI_some', z_cV_some', z_w_ok, Int.reduceAdd, Int.reduceSub, Int.reduceMul, Int.reduceNeg, Int.reduceEq, Int.reduceLT, Int.reduceLE, Int.reduceNe, reduceIte, true_and, and_true, false_and, and_false, if_true, if_false, ne_eq, not_true_eq_false, not_false_eq_true]
    | succ j ih =>
      intro k hk hno
      have e6 := l6 k (by omega) (by omega)
      have e1 : ((k + 1 : Nat) : Int) = (k : Int) + 1 := by omega
      rw [z_B1208_2]
      by_cases c : X 6 k = r
      · have e : z_slt X r = k := by
          show z_slot X (X 0 1).toNat r = k
          rcases hs with ⟨-, h⟩ | ⟨h1, h2, h3⟩
          · exact absurd c (h k (by omega) (by omega))
          · rcases Int.lt_trichotomy (z_slot X (X 0 1).toNat r) k with q | q | q
            · exact absurd h3 (hno _ h1 q)
            · exact q
            · have := hmono k _ (by omega) q (by omega)
              omega
        rw [e]
        simp (disch := omega) only [l2, if_neg, e6, c, z_fdM, z_pdM, z_adM, z_sdM, z_lkM, z_ndM, z_gdM, z_cI_some', z_cV_some', z_w_ok, Int.reduceAdd, Int.reduceSub, Int.reduceMul, Int.reduceNeg, Int.reduceEq, Int.reduceLT, Int.reduceLE, Int.reduceNe, reduceIte, true_and, and_true, false_and, and_false, if_true, if_false, ne_eq, not_true_eq_false, not_false_eq_true]
      · simp (disch := omega) only [l2, if_neg, if_pos, e6, z_fdM, z_pdM, z_adM, z_sdM, z_lkM, z_ndM, z_gdM, z_cI_some', z_cV_some', z_w_ok, Int.reduceAdd, Int.reduceSub, Int.reduceMul, Int.reduceNeg, Int.reduceEq, Int.reduceLT, Int.reduceLE, Int.reduceNe, reduceIte, true_and, and_true, false_and, and_false, if_true, if_false, ne_eq, not_true_eq_false, not_false_eq_true]
        rw [← e1]
        exact ih (k + 1) (by omega) (fun i i0 i1 => by
          by_cases q : i = k
          · rw [q]; exact c
          · exact hno i i0 (by omega))
  rw [z_E1208]
  exact go (X 0 1).toNat 0 (by omega) (fun i i0 i1 => absurd i1 (by omega))
end
