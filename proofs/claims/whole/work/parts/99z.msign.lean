/-! The reference: sign. -/
theorem z_bb (x : BitVec 32) (s : Nat) (h : s ≤ 24) : (x.sshiftRight s).signExtend 8 = ((x >>> s) &&& 255#32).signExtend 8 := by
  have f : ∀ i : Nat, i < 8 → (255#32).getLsbD i = true := by decide
  rw [BitVec.signExtend_eq_setWidth_of_le _ (by omega), BitVec.signExtend_eq_setWidth_of_le _ (by omega)]
  apply BitVec.eq_of_getLsbD_eq
  intro i hi
  rw [BitVec.getLsbD_setWidth, BitVec.getLsbD_setWidth, BitVec.getLsbD_sshiftRight, BitVec.getLsbD_and, BitVec.getLsbD_ushiftRight, f i hi]
  simp [show s + i < 32 by omega, show ¬ 32 ≤ i by omega]
theorem z_b8_8 (n : Int32) : (Int32.ofInt (Int32.ofInt n.toInt).toInt8.toInt32.toInt).toInt8.toInt32.toInt = n.toInt8.toInt32.toInt := by
  rw [Int32.ofInt_toInt, Int32.ofInt_toInt, Int8.toInt8_toInt32]
theorem z_b8_sh (v : Int) {s : Int} (hs : s = 0 ∨ s = 8 ∨ s = 16 ∨ s = 24) : z_b8 (z_b8 (z_shr v s)) = z_b8 (z_and (z_ushr v s) 255) := by
  have g : ∀ (x : Int32) (k : Nat), k ≤ 24 → (⟨⟨x.toBitVec.sshiftRight k⟩⟩ : Int32).toInt8 = (⟨⟨(x.toBitVec >>> k) &&& 255#32⟩⟩ : Int32).toInt8 := fun x k hk => congrArg (fun y => (⟨⟨y⟩⟩ : Int8)) (z_bb x.toBitVec k hk)
  unfold z_b8 z_shr z_and z_ushr
  rw [z_b8_8, Int32.ofInt_toInt, Int32.ofInt_toInt]
  rcases hs with rfl | rfl | rfl | rfl
  · exact congrArg (fun y : Int8 => y.toInt32.toInt) (g (Int32.ofInt v) 0 (by omega))
  · exact congrArg (fun y : Int8 => y.toInt32.toInt) (g (Int32.ofInt v) 8 (by omega))
  · exact congrArg (fun y : Int8 => y.toInt32.toInt) (g (Int32.ofInt v) 16 (by omega))
  · exact congrArg (fun y : Int8 => y.toInt32.toInt) (g (Int32.ofInt v) 24 (by omega))
section
variable {σ X : z_S}
theorem M_sign (h : m_inv σ X) (d : Nat) (v : Int) : m_does (z_ev z_hcM (d + 20) 1209 [z_R 1, z_I v] z_hdM σ) (s_sign X v) := by
  have hi := m_inv_thr h
  have hwf := h.1
  have hlen := hwf.2.2.2.2.2.1
  obtain ⟨j1, j2, j3, j4, j5, j6, j7, j8, j9, k1, k2⟩ := id hi
  unfold s_sign
  by_cases c : 96 < X 0 5
  · rw [if_pos c]
    refine ⟨_, ?_, hi, z_upd_same⟩
    simp (disch := omega) only [z_E1209, j8, if_neg, z_fdM, z_pdM, z_adM, z_sdM, z_lkM, z_ndM, z_gdM, z_cI_some', z_cV_some', z_w_ok, Int.reduceAdd, Int.reduceSub, Int.reduceMul, Int.reduceNeg, Int.reduceEq, Int.reduceLT, Int.reduceLE, Int.reduceNe, reduceIte, true_and, and_true, false_and, and_false, if_true, if_false, ne_eq, not_true_eq_false, not_false_eq_true]
  · rw [if_neg c]
    obtain ⟨σ', e, ho, hl, hs⟩ := z_for (fun (k : Nat) (x : z_S) => z_go (z_ev z_hcM (d + 19)) z_hcM 1209 20 [z_R 1, z_I v, z_I (3 - (k : Int))] [] z_hdM x) (fun x => some (z_I (X 0 5 + 4), z_hdM, x))
      (fun k x => (∀ a i, (a ≠ 1 ∨ i ≠ 23) → a ≠ 19 → x a i = z_upd σ 1 26 0 a i) ∧ x 1 23 = X 0 5 + k ∧ ∀ i, 0 ≤ i → i < X 0 5 + k → x 19 i = z_b8 (z_push X v 18 i)) 4 (s := z_upd σ 1 26 0) ⟨fun _ _ _ _ => rfl, by rw [j8]; omega, fun i i0 i1 => by
        rw [j9 i i0 (by omega)]
        unfold z_push
        rw [if_neg (by omega), if_pos rfl, if_neg (by omega)]⟩
      (fun k x hk ⟨ho, hx, hs⟩ => by
        refine ⟨z_upd (z_upd x 1 23 (X 0 5 + k + 1)) 19 (X 0 5 + k) (z_b8 (z_byte v k)), ?_, fun a i h1 h2 => ?_, ?_, fun i i0 i1 => ?_⟩
        · have hb : z_b8 (z_b8 (z_shr v (8 * (3 - (k : Int))))) = z_b8 (z_byte v k) := by
            unfold z_byte
            rw [show 24 - 8 * (k : Int) = 8 * (3 - (k : Int)) by omega]
            exact z_b8_sh v (by omega)
          rw [z_B1209_20]
          simp (disch := omega) only [if_neg, hx, hb, z_fdM, z_pdM, z_adM, z_sdM, z_lkM, z_ndM, z_gdM, z_cI_some', z_cV_some', z_w_ok, Int.reduceAdd, Int.reduceSub, Int.reduceMul, Int.reduceNeg, Int.reduceEq, Int.reduceLT, Int.reduceLE, Int.reduceNe, reduceIte, true_and, and_true, false_and, and_false, if_true, if_false, ne_eq, not_true_eq_false, not_false_eq_true]
          rw [show 3 - (k : Int) + -1 = 3 - ((k + 1 : Nat) : Int) by omega]
        · rw [z_upd_ne (by omega), z_upd_ne (by omega)]; exact ho a i h1 h2
        · rw [z_upd_ne (by omega), z_upd_same]; omega
        · by_cases hi : i = X 0 5 + k
          · subst hi
            rw [z_upd_same]
            unfold z_push
            rw [if_neg (by omega), if_pos rfl, if_pos (by omega), show X 0 5 + (k : Int) - X 0 5 = k by omega]
          · rw [z_upd_ne (by omega), z_upd_ne (by omega)]
            exact hs i i0 (by omega)) (fun x ⟨_, hx, _⟩ => by
        rw [z_B1209_20]
        simp (disch := omega) only [if_pos, hx, z_fdM, z_pdM, z_adM, z_sdM, z_lkM, z_ndM, z_gdM, z_cI_some', z_cV_some', z_w_ok, Int.reduceAdd, Int.reduceSub, Int.reduceMul, Int.reduceNeg, Int.reduceEq, Int.reduceLT, Int.reduceLE, Int.reduceNe, reduceIte, true_and, and_true, false_and, and_false, if_true, if_false, ne_eq, not_true_eq_false, not_false_eq_true]
        rfl)
    have hp5 : z_push X v 0 5 = X 0 5 + 4 := by unfold z_push; rw [if_pos rfl, if_pos rfl]
    have hp0 : ∀ i, i ≠ 5 → z_push X v 0 i = X 0 i := fun i hi => by unfold z_push; rw [if_pos rfl, if_neg hi]
    have hpa : ∀ a i, a ≠ 0 → a ≠ 18 → z_push X v a i = X a i := fun a i h1 h2 => by unfold z_push; rw [if_neg h1, if_neg h2]
    have he : z_eqd X (z_push X v) := ⟨fun a ha => by funext i; exact hpa a i (by omega) (by omega), fun i h1 h2 => hp0 i (by omega)⟩
    have hw' : z_wf (z_push X v) := z_wf_gen hwf he (by rw [hp0 _ (by omega)]; exact hwf.2.2.2.1) (by rw [hp0 _ (by omega)]; exact hwf.2.2.2.2.1) (by rw [hp5]; omega) (by rw [hp0 _ (by omega)]; exact hwf.2.2.2.2.2.2.1) (fun k k0 k1 => by rw [hpa _ _ (by omega) (by omega), hp0 _ (by omega)]; exact hwf.2.2.2.2.2.2.2.2.2.2.2.1 k k0 k1) (fun k k0 k1 => by rw [hpa _ _ (by omega) (by omega)]; exact hwf.2.2.2.2.2.2.2.2.2.2.2.2.1 k k0 k1) (fun w w0 w1 => by rw [hpa _ _ (by omega) (by omega)]; exact hwf.2.2.2.2.2.2.2.2.2.2.2.2.2.2.1 w w0 w1) (fun i i0 i1 => by
      have h18 := hwf.2.2.2.2.2.2.2.2.2.2.2.2.2.2.2 i i0
      unfold z_push
      rw [if_neg (by omega), if_pos rfl]
      by_cases c : X 0 5 ≤ i ∧ i < X 0 5 + 4
      · rw [if_pos c]; exact z_and255 _
      · rw [if_neg c]
        rw [hp5] at i1
        exact h18 (by omega))
    have e' : z_go (z_ev z_hcM (d + 19)) z_hcM 1209 20 [z_R 1, z_I v, z_I 3] [] z_hdM (z_upd σ 1 26 0) = some (z_I (X 0 5 + 4), z_hdM, σ') := e
    refine ⟨σ', ?_, m_inv_gen (X' := z_push X v) hi he (hp0 _ (by omega)) hw' (fun a i h1 h2 h3 h4 h5 h6 => ho a i (by omega) (by omega)) (fun k k0 k1 => by rw [ho _ _ (by omega) (by omega), hpa _ _ (by omega) (by omega)]; exact j4 k k0 k1) (by rw [ho _ _ (by omega) (by omega)]; exact j5) (by rw [ho _ _ (by omega) (by omega), hp0 _ (by omega)]; exact j6) (fun u u0 u1 => by rw [ho _ _ (by omega) (by omega), hpa _ _ (by omega) (by omega)]; exact j7 u u0 u1) (by rw [hl, hp5]; rfl) (fun i i0 i1 => hs i i0 (by rw [hp5] at i1; exact i1)) (by rw [ho _ _ (by omega) (by omega), hp0 _ (by omega)]; exact k1) (fun i i0 i1 => by rw [hp0 _ (by omega)] at i1; rw [ho _ _ (by omega) (by omega), hpa _ _ (by omega) (by omega)]; exact k2 i i0 i1), by rw [ho _ _ (by omega) (by omega), z_upd_same]⟩
    simp (disch := omega) only [z_E1209, j8, if_pos, z_upd_ne, e', z_fdM, z_pdM, z_adM, z_sdM, z_lkM, z_ndM, z_gdM, z_cI_some', z_cV_some', z_w_ok, Int.reduceAdd, Int.reduceSub, Int.reduceMul, Int.reduceNeg, Int.reduceEq, Int.reduceLT, Int.reduceLE, Int.reduceNe, reduceIte, true_and, and_true, false_and, and_false, if_true, if_false, ne_eq, not_true_eq_false, not_false_eq_true]
end
