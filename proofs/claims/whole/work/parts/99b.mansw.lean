/-! The reference: answers. -/
theorem z_and_1 : ∀ i : Nat, i < 64 → z_and (i : Int) 1 = ((i % 2 : Nat) : Int) := by decide +kernel
section
variable {σ0 σ σ' σ'' X : z_S} {D : z_D} {nw : Int → Bool} {t T : Int → Int} {l : List Int}
theorem m_was (d : Nat) (hw : z_wf X) (h8 : σ 1 8 = X 0 1) {TT : Nat → Int} {i : Nat} (hi : i < 60) (A : Nat → Int → Int) (ht : ∀ k, 0 ≤ k → k < X 0 1 → σ 8 k = t k) (hA : ∀ e : Nat, e < i → ∀ k, 0 ≤ k → k < X 0 1 → σ 50 (5 * e + k) = A e k) (hs : ∀ e : Nat, e < i → ((∀ k, 0 ≤ k → k < X 0 1 → A e k = t k) ↔ TT (e + 1) = TT (i + 1))) :
    z_ev z_hcM (d + 1) 1269 [z_R 1, z_I i] z_hdM σ = some (z_I (if z_ring TT i = true then 1 else 0), z_hdM, σ) := by
  have hn := hw.2.1
  -- one of those behind
  have inn : ∀ (e : Nat) (n k : Nat) (b : Int), e < i → (k : Int) + n = X 0 1 → (b = 0 ∨ b = 1) → (b = 1 ↔ ∀ j, 0 ≤ j → j < (k : Int) → A e j = t j) →
      z_go (z_ev z_hcM d) z_hcM 1269 14 [z_R 1, z_I i, z_I e, z_I b, z_I k] [] z_hdM σ = if TT (e + 1) = TT (i + 1) then some (z_I 1, z_hdM, σ) else z_go (z_ev z_hcM d) z_hcM 1269 4 [z_R 1, z_I i, z_I ((e : Int) + 2), z_I 0, z_I (X 0 1)] [] z_hdM σ := by
    intro e n
    induction n with
    | zero =>
      intro k b he hk hb hiff
      have hk' : (k : Int) = X 0 1 := by omega
      rw [hk'] at hiff
      have hse := hs e he
      rw [z_B1269_14, hk']
      by_cases c : TT (e + 1) = TT (i + 1)
      · have : b = 1 := hiff.mpr (hse.mpr c)
        subst this
        rw [if_pos c]
        simp (disch := omega) only [h8, if_pos, z_fdM, z_pdM, z_adM, z_sdM, z_lkM, z_ndM, z_gdM, z_cI_some', z_cV_some', z_w_ok, Int.reduceAdd, Int.reduceSub, Int.reduceMul, Int.reduceNeg, Int.reduceEq, Int.reduceLT, Int.reduceLE, Int.reduceNe, reduceIte, true_and, and_true, false_and, and_false, if_true, if_false, ne_eq, not_true_eq_false, not_false_eq_true]
      · have : b = 0 := by
          rcases hb with h | h
          · exact h
          · exact absurd (hse.mp (hiff.mp h)) c
        subst this
        rw [if_neg c]
        simp (disch := omega) only [h8, if_pos, z_fdM, z_pdM, z_adM, z_sdM, z_lkM, z_ndM, z_gdM, z_cI_some', z_cV_some', z_w_ok, Int.reduceAdd, Int.reduceSub, Int.reduceMul, Int.reduceNeg, Int.reduceEq, Int.reduceLT, Int.reduceLE, Int.reduceNe, reduceIte, true_and, and_true, false_and, and_false, if_true, if_false, ne_eq, not_true_eq_false, not_false_eq_true]
    | succ n ih =>
      intro k b he hk hb hiff
      have e8 := ht k (by omega) (by omega)
      have e50 := hA e he k (by omega) (by omega)
      have e1 : ((k + 1 : Nat) : Int) = (k : Int) + 1 := by omega
      rw [z_B1269_14]
      rcases hb with rfl | rfl
      · have hiff' : ((0 : Int) = 1 ↔ ∀ j, 0 ≤ j → j < ((k + 1 : Nat) : Int) → A e j = t j) := ⟨fun h => absurd h (by omega), fun h => hiff.mpr (fun j j0 j1 => h j j0 (by omega))⟩
        have := ih (k + 1) 0 he (by omega) (Or.inl rfl) hiff'
        rw [e1] at this
        rw [← this]
        simp (disch := omega) only [h8, if_neg, z_fdM, z_pdM, z_adM, z_sdM, z_lkM, z_ndM, z_gdM, z_cI_some', z_cV_some', z_w_ok, Int.reduceAdd, Int.reduceSub, Int.reduceMul, Int.reduceNeg, Int.reduceEq, Int.reduceLT, Int.reduceLE, Int.reduceNe, reduceIte, true_and, and_true, false_and, and_false, if_true, if_false, ne_eq, not_true_eq_false, not_false_eq_true]
      · have hall := hiff.mp rfl
        by_cases c : A e k = t k
        · have hiff' : ((1 : Int) = 1 ↔ ∀ j, 0 ≤ j → j < ((k + 1 : Nat) : Int) → A e j = t j) := ⟨fun _ j j0 j1 => by
            by_cases cj : j = k
            · rw [cj]; exact c
            · exact hall j j0 (by omega), fun _ => rfl⟩
          have := ih (k + 1) 1 he (by omega) (Or.inr rfl) hiff'
          rw [e1] at this
          rw [← this]
          simp (disch := omega) only [h8, if_neg, e8, e50, c, z_fdM, z_pdM, z_adM, z_sdM, z_lkM, z_ndM, z_gdM, z_cI_some', z_cV_some', z_w_ok, Int.reduceAdd, Int.reduceSub, Int.reduceMul, Int.reduceNeg, Int.reduceEq, Int.reduceLT, Int.reduceLE, Int.reduceNe, reduceIte, true_and, and_true, false_and, and_false, if_true, if_false, ne_eq, not_true_eq_false, not_false_eq_true]
        · have hiff' : ((0 : Int) = 1 ↔ ∀ j, 0 ≤ j → j < ((k + 1 : Nat) : Int) → A e j = t j) := ⟨fun h => absurd h (by omega), fun h => absurd (h k (by omega) (by omega)) c⟩
          have := ih (k + 1) 0 he (by omega) (Or.inl rfl) hiff'
          rw [e1] at this
          rw [← this]
          simp (disch := omega) only [h8, if_neg, if_pos, e8, e50, z_fdM, z_pdM, z_adM, z_sdM, z_lkM, z_ndM, z_gdM, z_cI_some', z_cV_some', z_w_ok, Int.reduceAdd, Int.reduceSub, Int.reduceMul, Int.reduceNeg, Int.reduceEq, Int.reduceLT, Int.reduceLE, Int.reduceNe, reduceIte, true_and, and_true, false_and, and_false, if_true, if_false, ne_eq, not_true_eq_false, not_false_eq_true]
  have go : ∀ (n e : Nat) (u3 u4 : z_V), e + n = i + 1 ∨ e = i + 1 + n → e % 2 = i % 2 → (∀ j, j < e → j < i → j % 2 = i % 2 → TT (j + 1) ≠ TT (i + 1)) → z_go (z_ev z_hcM d) z_hcM 1269 4 [z_R 1, z_I i, z_I e, u3, u4] [] z_hdM σ = some (z_I (if z_ring TT i = true then 1 else 0), z_hdM, σ) := by
    intro n
    induction n using Nat.strongRecOn with
    | _ n ih =>
      intro e u3 u4 he hm hno
      by_cases c : i ≤ e
      · have hr : ¬ z_ring TT i = true := fun h => by
          obtain ⟨j, j1, j2, j3⟩ := z_ring_t.mp h
          exact hno j (by omega) j1 j2 j3
        rw [z_B1269_4, if_pos (by omega), if_neg hr]
      · have hin := inn e (X 0 1).toNat 0 1 (by omega) (by omega) (Or.inr rfl) ⟨fun _ j j0 j1 => absurd j1 (by omega), fun _ => rfl⟩
        rw [z_B1269_4, if_neg (by omega)]
        refine hin.trans ?_
        by_cases ce : TT (e + 1) = TT (i + 1)
        · rw [if_pos ce, if_pos (z_ring_t.mpr ⟨e, by omega, hm, ce⟩)]
        · rw [if_neg ce]
          have := ih (n - 2) (by omega) (e + 2) (z_I 0) (z_I (X 0 1)) (by omega) (by omega) (fun j j1 j2 j3 => by
            by_cases cj : j < e
            · exact hno j cj j2 j3
            · have : j = e := by omega
              rw [this]; exact ce)
          rw [show ((e + 2 : Nat) : Int) = (e : Int) + 2 by omega] at this
          exact this
  have ha := z_and_1 i (by omega)
  rw [z_E1269, ha]
  exact go (i + 1 - i % 2) (i % 2) _ _ (by omega) (by omega) (fun j j1 j2 j3 => absurd j1 (by omega))
end
