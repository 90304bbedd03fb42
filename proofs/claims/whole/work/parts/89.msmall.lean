/-! The reference: toll, lean, weight, end, count, of, row. -/
def m_lost (e : Option z_Res) (X : z_S) : Prop := ∃ σ', e = some (z_I 0, z_hdM, σ') ∧ m_inv σ' X ∧ σ' 1 26 = 1
section
variable {σ X : z_S}
theorem m_inv_lost (h : m_inv σ X) : m_inv (z_upd σ 1 26 1) X := m_inv_same (fun a i h1 h2 => z_upd_ne (by omega)) h
theorem M_toll (h : m_inv σ X) (d : Nat) (r v : Int) : m_does (z_ev z_hcM (d + 20) 1234 [z_R 1, z_I r, z_I v] z_hdM σ) (s_toll X r v) := by
  have hi := m_inv_thr h
  have hwf := h.1
  have k := m_isRoad (d + 17) h.1 hi.2.1 r
  have kt := m_tollOf (d + 18) h.1 hi.2.1 r
  have l3 := hi.2.1.1.2.2.1
  have hcp := h.cp
  unfold s_toll
  by_cases c1 : 0 ≤ r ∧ r < X 0 0
  · rw [if_pos c1] at k
    have hs := z_slt_some hwf r
    have hn := hwf.2.1
    by_cases c2 : 0 ≤ z_slt X r
    · by_cases c3 : 0 ≤ v ∧ v ≤ X 0 3
      · rw [if_pos ⟨c1, c2, c3⟩]
        have hlt : z_slt X r < X 0 1 := by rcases hs with ⟨e, -⟩ | ⟨e1, e2, -⟩ <;> omega
        have ht := hi.2.2.2.1 (z_slt X r) c2 (by omega)
        have hw' : z_wf (z_upd X 7 (z_slt X r) v) := z_wf_gen hwf (z_eqd_a (by omega)) (by rw [z_upd_ne (by omega)]; exact hwf.2.2.2.1) (by rw [z_upd_ne (by omega)]; exact hwf.2.2.2.2.1) (by rw [z_upd_ne (by omega)]; exact hwf.2.2.2.2.2.1) (by rw [z_upd_ne (by omega)]; exact hwf.2.2.2.2.2.2.1) (fun k k0 k1 => by
          rw [z_upd_ne (a := 7) (b := 0) (by omega)]
          by_cases hk : k = z_slt X r
          · subst hk; rw [z_upd_same]; exact c3
          · rw [z_upd_ne (by omega)]; exact hwf.2.2.2.2.2.2.2.2.2.2.2.1 k k0 k1) (fun k k0 k1 => by rw [z_upd_ne (by omega)]; exact hwf.2.2.2.2.2.2.2.2.2.2.2.2.1 k k0 k1) (fun w w0 w1 => by rw [z_upd_ne (by omega)]; exact hwf.2.2.2.2.2.2.2.2.2.2.2.2.2.2.1 w w0 w1) (fun i i0 i1 => by rw [z_upd_ne (by omega)] at i1; rw [z_upd_ne (by omega)]; exact hwf.2.2.2.2.2.2.2.2.2.2.2.2.2.2.2 i i0 i1)
        obtain ⟨j1, j2, j3, j4, j5, j6, j7, j8, j9, j10, j11⟩ := id hi
        refine ⟨z_upd (z_upd σ 1 26 0) 8 (z_slt X r) v, ?_, m_inv_gen (X' := z_upd X 7 (z_slt X r) v) hi (z_eqd_a (by omega)) (z_upd_ne (by omega)) hw' (fun a i h1 _ _ _ _ _ => z_upd_ne (by omega)) (fun k k0 k1 => by
          by_cases hk : k = z_slt X r
          · subst hk; rw [z_upd_same, z_upd_same]
          · rw [z_upd_ne (by omega), z_upd_ne (b := 7) (by omega)]; exact j4 k k0 k1) (by rw [z_upd_ne (by omega)]; exact j5) (by rw [z_upd_ne (by omega), z_upd_ne (b := 0) (by omega)]; exact j6) (fun u u0 u1 => by rw [z_upd_ne (by omega), z_upd_ne (b := 17) (by omega)]; exact j7 u u0 u1) (by rw [z_upd_ne (by omega), z_upd_ne (b := 0) (by omega)]; exact j8) (fun i i0 i1 => by rw [z_upd_ne (by omega)] at i1; rw [z_upd_ne (by omega), z_upd_ne (b := 18) (by omega)]; exact j9 i i0 i1) (by rw [z_upd_ne (by omega), z_upd_ne (b := 0) (by omega)]; exact j10) (fun i i0 i1 => by rw [z_upd_ne (by omega)] at i1; rw [z_upd_ne (by omega), z_upd_ne (b := 19) (by omega)]; exact j11 i i0 i1), by rw [z_upd_ne (by omega), z_upd_same]⟩
        simp (disch := omega) only [z_E1234, z_E1202, k, kt, l3, if_pos, if_neg, ht, z_fdM, z_pdM, z_adM, z_sdM, z_lkM, z_ndM, z_gdM, z_cI_some', z_cV_some', z_w_ok, Int.reduceAdd, Int.reduceSub, Int.reduceMul, Int.reduceNeg, Int.reduceEq, Int.reduceLT, Int.reduceLE, Int.reduceNe, reduceIte, true_and, and_true, false_and, and_false, if_true, if_false, ne_eq, not_true_eq_false, not_false_eq_true]
      · rw [if_neg (fun z => c3 z.2.2)]
        refine ⟨_, ?_, hi, z_upd_same⟩
        by_cases c4 : v < 0
        · simp (disch := omega) only [z_E1234, z_E1202, k, kt, l3, if_pos, if_neg, z_fdM, z_pdM, z_adM, z_sdM, z_lkM, z_ndM, z_gdM, z_cI_some', z_cV_some', z_w_ok, Int.reduceAdd, Int.reduceSub, Int.reduceMul, Int.reduceNeg, Int.reduceEq, Int.reduceLT, Int.reduceLE, Int.reduceNe, reduceIte, true_and, and_true, false_and, and_false, if_true, if_false, ne_eq, not_true_eq_false, not_false_eq_true]
        · simp (disch := omega) only [z_E1234, z_E1202, k, kt, l3, if_pos, if_neg, z_fdM, z_pdM, z_adM, z_sdM, z_lkM, z_ndM, z_gdM, z_cI_some', z_cV_some', z_w_ok, Int.reduceAdd, Int.reduceSub, Int.reduceMul, Int.reduceNeg, Int.reduceEq, Int.reduceLT, Int.reduceLE, Int.reduceNe, reduceIte, true_and, and_true, false_and, and_false, if_true, if_false, ne_eq, not_true_eq_false, not_false_eq_true]
    · rw [if_neg (fun z => c2 z.2.1)]
      have e : z_slt X r = -1 := by rcases hs with ⟨e, -⟩ | ⟨e1, e2, -⟩ <;> omega
      rw [e] at kt
      refine ⟨_, ?_, hi, z_upd_same⟩
      simp (disch := omega) only [z_E1234, k, kt, if_pos, if_neg, z_fdM, z_pdM, z_adM, z_sdM, z_lkM, z_ndM, z_gdM, z_cI_some', z_cV_some', z_w_ok, Int.reduceAdd, Int.reduceSub, Int.reduceMul, Int.reduceNeg, Int.reduceEq, Int.reduceLT, Int.reduceLE, Int.reduceNe, reduceIte, true_and, and_true, false_and, and_false, if_true, if_false, ne_eq, not_true_eq_false, not_false_eq_true]
  · rw [if_neg c1] at k
    rw [if_neg (fun z => c1 z.1)]
    refine ⟨_, ?_, hi, z_upd_same⟩
    simp (disch := omega) only [z_E1234, k, z_fdM, z_pdM, z_adM, z_sdM, z_lkM, z_ndM, z_gdM, z_cI_some', z_cV_some', z_w_ok, Int.reduceAdd, Int.reduceSub, Int.reduceMul, Int.reduceNeg, Int.reduceEq, Int.reduceLT, Int.reduceLE, Int.reduceNe, reduceIte, true_and, and_true, false_and, and_false, if_true, if_false, ne_eq, not_true_eq_false, not_false_eq_true]
theorem M_lean (h : m_inv σ X) (d : Nat) (v : Int) : m_does (z_ev z_hcM (d + 20) 1235 [z_R 1, z_I v] z_hdM σ) (s_lean X v) := by
  have hi := m_inv_thr h
  have hwf := h.1
  unfold s_lean
  by_cases c : v = 0 ∨ v = 1
  · rw [if_pos c]
    have hw' : z_wf (z_upd X 0 4 v) := z_wf_gen hwf (z_eqd_0 (by omega)) (by rw [z_upd_ne (by omega)]; exact hwf.2.2.2.1) (by rw [z_upd_same]; exact c) (by rw [z_upd_ne (by omega)]; exact hwf.2.2.2.2.2.1) (by rw [z_upd_ne (by omega)]; exact hwf.2.2.2.2.2.2.1) (fun k k0 k1 => by rw [z_upd_ne (by omega), z_upd_ne (by omega)]; exact hwf.2.2.2.2.2.2.2.2.2.2.2.1 k k0 k1) (fun k k0 k1 => by rw [z_upd_ne (by omega)]; exact hwf.2.2.2.2.2.2.2.2.2.2.2.2.1 k k0 k1) (fun w w0 w1 => by rw [z_upd_ne (by omega)]; exact hwf.2.2.2.2.2.2.2.2.2.2.2.2.2.2.1 w w0 w1) (fun i i0 i1 => by rw [z_upd_ne (by omega)] at i1; rw [z_upd_ne (by omega)]; exact hwf.2.2.2.2.2.2.2.2.2.2.2.2.2.2.2 i i0 i1)
    obtain ⟨j1, j2, j3, j4, j5, j6, j7, j8, j9, j10, j11⟩ := id hi
    refine ⟨z_upd (z_upd σ 1 26 0) 1 10 v, ?_, m_inv_gen (X' := z_upd X 0 4 v) hi (z_eqd_0 (by omega)) (z_upd_ne (by omega)) hw' (fun a i h1 _ _ _ _ _ => z_upd_ne (by omega)) (fun k k0 k1 => by rw [z_upd_ne (by omega), z_upd_ne (b := 7) (by omega)]; exact j4 k k0 k1) (by rw [z_upd_ne (by omega)]; exact j5) (by rw [z_upd_same, z_upd_same]) (fun u u0 u1 => by rw [z_upd_ne (by omega), z_upd_ne (b := 17) (by omega)]; exact j7 u u0 u1) (by rw [z_upd_ne (by omega), z_upd_ne (b := 0) (by omega)]; exact j8) (fun i i0 i1 => by rw [z_upd_ne (by omega)] at i1; rw [z_upd_ne (by omega), z_upd_ne (b := 18) (by omega)]; exact j9 i i0 i1) (by rw [z_upd_ne (by omega), z_upd_ne (b := 0) (by omega)]; exact j10) (fun i i0 i1 => by rw [z_upd_ne (by omega)] at i1; rw [z_upd_ne (by omega), z_upd_ne (b := 19) (by omega)]; exact j11 i i0 i1), by rw [z_upd_ne (by omega), z_upd_same]⟩
    simp (disch := omega) only [z_E1235, z_E1202, if_pos, if_neg, j6, z_fdM, z_pdM, z_adM, z_sdM, z_lkM, z_ndM, z_gdM, z_cI_some', z_cV_some', z_w_ok, Int.reduceAdd, Int.reduceSub, Int.reduceMul, Int.reduceNeg, Int.reduceEq, Int.reduceLT, Int.reduceLE, Int.reduceNe, reduceIte, true_and, and_true, false_and, and_false, if_true, if_false, ne_eq, not_true_eq_false, not_false_eq_true]
  · rw [if_neg c]
    refine ⟨_, ?_, hi, z_upd_same⟩
    by_cases c4 : v < 0
    · simp (disch := omega) only [z_E1235, z_E1202, if_pos, if_neg, z_fdM, z_pdM, z_adM, z_sdM, z_lkM, z_ndM, z_gdM, z_cI_some', z_cV_some', z_w_ok, Int.reduceAdd, Int.reduceSub, Int.reduceMul, Int.reduceNeg, Int.reduceEq, Int.reduceLT, Int.reduceLE, Int.reduceNe, reduceIte, true_and, and_true, false_and, and_false, if_true, if_false, ne_eq, not_true_eq_false, not_false_eq_true]
    · simp (disch := omega) only [z_E1235, z_E1202, if_pos, if_neg, z_fdM, z_pdM, z_adM, z_sdM, z_lkM, z_ndM, z_gdM, z_cI_some', z_cV_some', z_w_ok, Int.reduceAdd, Int.reduceSub, Int.reduceMul, Int.reduceNeg, Int.reduceEq, Int.reduceLT, Int.reduceLE, Int.reduceNe, reduceIte, true_and, and_true, false_and, and_false, if_true, if_false, ne_eq, not_true_eq_false, not_false_eq_true]
theorem M_weight (h : m_inv σ X) (d : Nat) (w v : Int) : m_does (z_ev z_hcM (d + 20) 1279 [z_R 1, z_I w, z_I v] z_hdM σ) (s_weight X w v) := by
  have hi := m_inv_thr h
  have hwf := h.1
  unfold s_weight
  by_cases c : (0 ≤ w ∧ w < 10) ∧ 0 ≤ v ∧ v ≤ 99
  · rw [if_pos c]
    have hw' : z_wf (z_upd X 17 w v) := z_wf_gen hwf (z_eqd_a (by omega)) (by rw [z_upd_ne (by omega)]; exact hwf.2.2.2.1) (by rw [z_upd_ne (by omega)]; exact hwf.2.2.2.2.1) (by rw [z_upd_ne (by omega)]; exact hwf.2.2.2.2.2.1) (by rw [z_upd_ne (by omega)]; exact hwf.2.2.2.2.2.2.1) (fun k k0 k1 => by rw [z_upd_ne (by omega), z_upd_ne (by omega)]; exact hwf.2.2.2.2.2.2.2.2.2.2.2.1 k k0 k1) (fun k k0 k1 => by rw [z_upd_ne (by omega)]; exact hwf.2.2.2.2.2.2.2.2.2.2.2.2.1 k k0 k1) (fun u w0 w1 => by
      by_cases hu : u = w
      · subst hu; rw [z_upd_same]; exact c.2
      · rw [z_upd_ne (by omega)]; exact hwf.2.2.2.2.2.2.2.2.2.2.2.2.2.2.1 u w0 w1) (fun i i0 i1 => by rw [z_upd_ne (by omega)] at i1; rw [z_upd_ne (by omega)]; exact hwf.2.2.2.2.2.2.2.2.2.2.2.2.2.2.2 i i0 i1)
    obtain ⟨j1, j2, j3, j4, j5, j6, j7, j8, j9, j10, j11⟩ := id hi
    have e18 := j7 w c.1.1 c.1.2
    refine ⟨z_upd (z_upd σ 1 26 0) 18 w v, ?_, m_inv_gen (X' := z_upd X 17 w v) hi (z_eqd_a (by omega)) (z_upd_ne (by omega)) hw' (fun a i h1 h2 _ _ _ _ => z_upd_ne (by omega)) (fun k k0 k1 => by rw [z_upd_ne (by omega), z_upd_ne (b := 7) (by omega)]; exact j4 k k0 k1) (by rw [z_upd_ne (by omega)]; exact j5) (by rw [z_upd_ne (by omega), z_upd_ne (b := 0) (by omega)]; exact j6) (fun u u0 u1 => by
      by_cases hu : u = w
      · subst hu; rw [z_upd_same, z_upd_same]
      · rw [z_upd_ne (by omega), z_upd_ne (b := 17) (by omega)]; exact j7 u u0 u1) (by rw [z_upd_ne (by omega), z_upd_ne (b := 0) (by omega)]; exact j8) (fun i i0 i1 => by rw [z_upd_ne (by omega)] at i1; rw [z_upd_ne (by omega), z_upd_ne (b := 18) (by omega)]; exact j9 i i0 i1) (by rw [z_upd_ne (by omega), z_upd_ne (b := 0) (by omega)]; exact j10) (fun i i0 i1 => by rw [z_upd_ne (by omega)] at i1; rw [z_upd_ne (by omega), z_upd_ne (b := 19) (by omega)]; exact j11 i i0 i1), by rw [z_upd_ne (by omega), z_upd_same]⟩
    simp (disch := omega) only [z_E1279, z_E1202, if_pos, if_neg, e18, z_fdM, z_pdM, z_adM, z_sdM, z_lkM, z_ndM, z_gdM, z_cI_some', z_cV_some', z_w_ok, Int.reduceAdd, Int.reduceSub, Int.reduceMul, Int.reduceNeg, Int.reduceEq, Int.reduceLT, Int.reduceLE, Int.reduceNe, reduceIte, true_and, and_true, false_and, and_false, if_true, if_false, ne_eq, not_true_eq_false, not_false_eq_true]
  · rw [if_neg c]
    refine ⟨_, ?_, hi, z_upd_same⟩
    by_cases c1 : w < 0
    · simp (disch := omega) only [z_E1279, z_E1202, if_pos, if_neg, z_fdM, z_pdM, z_adM, z_sdM, z_lkM, z_ndM, z_gdM, z_cI_some', z_cV_some', z_w_ok, Int.reduceAdd, Int.reduceSub, Int.reduceMul, Int.reduceNeg, Int.reduceEq, Int.reduceLT, Int.reduceLE, Int.reduceNe, reduceIte, true_and, and_true, false_and, and_false, if_true, if_false, ne_eq, not_true_eq_false, not_false_eq_true]
    · by_cases c2 : 10 ≤ w
      · simp (disch := omega) only [z_E1279, z_E1202, if_pos, if_neg, z_fdM, z_pdM, z_adM, z_sdM, z_lkM, z_ndM, z_gdM, z_cI_some', z_cV_some', z_w_ok, Int.reduceAdd, Int.reduceSub, Int.reduceMul, Int.reduceNeg, Int.reduceEq, Int.reduceLT, Int.reduceLE, Int.reduceNe, reduceIte, true_and, and_true, false_and, and_false, if_true, if_false, ne_eq, not_true_eq_false, not_false_eq_true]
      · by_cases c3 : v < 0
        · simp (disch := omega) only [z_E1279, z_E1202, if_pos, if_neg, z_fdM, z_pdM, z_adM, z_sdM, z_lkM, z_ndM, z_gdM, z_cI_some', z_cV_some', z_w_ok, Int.reduceAdd, Int.reduceSub, Int.reduceMul, Int.reduceNeg, Int.reduceEq, Int.reduceLT, Int.reduceLE, Int.reduceNe, reduceIte, true_and, and_true, false_and, and_false, if_true, if_false, ne_eq, not_true_eq_false, not_false_eq_true]
        · simp (disch := omega) only [z_E1279, z_E1202, if_pos, if_neg, z_fdM, z_pdM, z_adM, z_sdM, z_lkM, z_ndM, z_gdM, z_cI_some', z_cV_some', z_w_ok, Int.reduceAdd, Int.reduceSub, Int.reduceMul, Int.reduceNeg, Int.reduceEq, Int.reduceLT, Int.reduceLE, Int.reduceNe, reduceIte, true_and, and_true, false_and, and_false, if_true, if_false, ne_eq, not_true_eq_false, not_false_eq_true]
theorem M_end (h : m_inv σ X) (d : Nat) (n : Int) : m_does (z_ev z_hcM (d + 20) 1210 [z_R 1, z_I n] z_hdM σ) (s_end X n) := by
  have hi := m_inv_thr h
  have hwf := h.1
  have hlen := hwf.2.2.2.2.2.1
  obtain ⟨j1, j2, j3, j4, j5, j6, j7, j8, j9, j10, j11⟩ := id hi
  unfold s_end
  by_cases c : 0 ≤ n ∧ n ≤ X 0 5
  · rw [if_pos c]
    have hw' : z_wf (z_upd X 0 5 n) := z_wf_gen hwf (z_eqd_0 (by omega)) (by rw [z_upd_ne (by omega)]; exact hwf.2.2.2.1) (by rw [z_upd_ne (by omega)]; exact hwf.2.2.2.2.1) (by rw [z_upd_same]; omega) (by rw [z_upd_ne (by omega)]; exact hwf.2.2.2.2.2.2.1) (fun k k0 k1 => by rw [z_upd_ne (by omega), z_upd_ne (by omega)]; exact hwf.2.2.2.2.2.2.2.2.2.2.2.1 k k0 k1) (fun k k0 k1 => by rw [z_upd_ne (by omega)]; exact hwf.2.2.2.2.2.2.2.2.2.2.2.2.1 k k0 k1) (fun w w0 w1 => by rw [z_upd_ne (by omega)]; exact hwf.2.2.2.2.2.2.2.2.2.2.2.2.2.2.1 w w0 w1) (fun i i0 i1 => by rw [z_upd_same] at i1; rw [z_upd_ne (by omega)]; exact hwf.2.2.2.2.2.2.2.2.2.2.2.2.2.2.2 i i0 (by omega))
    refine ⟨z_upd (z_upd σ 1 26 0) 1 23 n, ?_, m_inv_gen (X' := z_upd X 0 5 n) hi (z_eqd_0 (by omega)) (z_upd_ne (by omega)) hw' (fun a i h1 _ _ _ _ _ => z_upd_ne (by omega)) (fun k k0 k1 => by rw [z_upd_ne (by omega), z_upd_ne (b := 7) (by omega)]; exact j4 k k0 k1) (by rw [z_upd_ne (by omega)]; exact j5) (by rw [z_upd_ne (by omega), z_upd_ne (b := 0) (by omega)]; exact j6) (fun u u0 u1 => by rw [z_upd_ne (by omega), z_upd_ne (b := 17) (by omega)]; exact j7 u u0 u1) (by rw [z_upd_same, z_upd_same]) (fun i i0 i1 => by rw [z_upd_same] at i1; rw [z_upd_ne (by omega), z_upd_ne (b := 18) (by omega)]; exact j9 i i0 (by omega)) (by rw [z_upd_ne (by omega), z_upd_ne (b := 0) (by omega)]; exact j10) (fun i i0 i1 => by rw [z_upd_ne (by omega)] at i1; rw [z_upd_ne (by omega), z_upd_ne (b := 19) (by omega)]; exact j11 i i0 i1), by rw [z_upd_ne (by omega), z_upd_same]⟩
    simp (disch := omega) only [z_E1210, z_E1202, if_pos, if_neg, j8, z_fdM, z_pdM, z_adM, z_sdM, z_lkM, z_ndM, z_gdM, z_cI_some', z_cV_some', z_w_ok, Int.reduceAdd, Int.reduceSub, Int.reduceMul, Int.reduceNeg, Int.reduceEq, Int.reduceLT, Int.reduceLE, Int.reduceNe, reduceIte, true_and, and_true, false_and, and_false, if_true, if_false, ne_eq, not_true_eq_false, not_false_eq_true]
  · rw [if_neg c]
    refine ⟨_, ?_, hi, z_upd_same⟩
    by_cases c4 : n < 0
    · simp (disch := omega) only [z_E1210, z_E1202, if_pos, if_neg, j8, z_fdM, z_pdM, z_adM, z_sdM, z_lkM, z_ndM, z_gdM, z_cI_some', z_cV_some', z_w_ok, Int.reduceAdd, Int.reduceSub, Int.reduceMul, Int.reduceNeg, Int.reduceEq, Int.reduceLT, Int.reduceLE, Int.reduceNe, reduceIte, true_and, and_true, false_and, and_false, if_true, if_false, ne_eq, not_true_eq_false, not_false_eq_true]
    · simp (disch := omega) only [z_E1210, z_E1202, if_pos, if_neg, j8, z_fdM, z_pdM, z_adM, z_sdM, z_lkM, z_ndM, z_gdM, z_cI_some', z_cV_some', z_w_ok, Int.reduceAdd, Int.reduceSub, Int.reduceMul, Int.reduceNeg, Int.reduceEq, Int.reduceLT, Int.reduceLE, Int.reduceNe, reduceIte, true_and, and_true, false_and, and_false, if_true, if_false, ne_eq, not_true_eq_false, not_false_eq_true]
theorem M_count (h : m_inv σ X) (d : Nat) (c : Int) : m_does (z_ev z_hcM (d + 20) 1288 [z_R 1, z_I c] z_hdM σ) (s_count X c) := by
  have hi := m_inv_thr h
  obtain ⟨j1, j2, j3, j4, j5, j6, j7, j8, j9, j10, j11⟩ := id hi
  obtain ⟨⟨l1, l2, l3, l4⟩, -⟩ := j2
  unfold s_count
  by_cases c3 : c = 3
  · obtain ⟨σ1, e1, q1⟩ := m_gat0 hi (d + 14)
    have e48 : σ1 1 48 = z_gs X (X 0 2).toNat := q1.gn.2
    refine m_does_on hi z_upd_same ?_ q1
    subst c3
    simp (disch := omega) only [z_E1288, e1, e48, z_fdM, z_pdM, z_adM, z_sdM, z_lkM, z_ndM, z_gdM, z_cI_some', z_cV_some', z_w_ok, Int.reduceAdd, Int.reduceSub, Int.reduceMul, Int.reduceNeg, Int.reduceEq, Int.reduceLT, Int.reduceLE, Int.reduceNe, reduceIte, true_and, and_true, false_and, and_false, if_true, if_false, ne_eq, not_true_eq_false, not_false_eq_true]
  · refine ⟨_, ?_, hi, z_upd_same⟩
    rw [z_E1288]
    by_cases c0 : c = 0
    · subst c0; simp (disch := omega) only [l1, z_fdM, z_pdM, z_adM, z_sdM, z_lkM, z_ndM, z_gdM, z_cI_some', z_cV_some', z_w_ok, Int.reduceAdd, Int.reduceSub, Int.reduceMul, Int.reduceNeg, Int.reduceEq, Int.reduceLT, Int.reduceLE, Int.reduceNe, reduceIte, true_and, and_true, false_and, and_false, if_true, if_false, ne_eq, not_true_eq_false, not_false_eq_true]
    · by_cases c1 : c = 1
      · subst c1; simp (disch := omega) only [l2, z_fdM, z_pdM, z_adM, z_sdM, z_lkM, z_ndM, z_gdM, z_cI_some', z_cV_some', z_w_ok, Int.reduceAdd, Int.reduceSub, Int.reduceMul, Int.reduceNeg, Int.reduceEq, Int.reduceLT, Int.reduceLE, Int.reduceNe, reduceIte, true_and, and_true, false_and, and_false, if_true, if_false, ne_eq, not_true_eq_false, not_false_eq_true]
      · by_cases c2 : c = 2
        · subst c2; simp (disch := omega) only [l4, z_fdM, z_pdM, z_adM, z_sdM, z_lkM, z_ndM, z_gdM, z_cI_some', z_cV_some', z_w_ok, Int.reduceAdd, Int.reduceSub, Int.reduceMul, Int.reduceNeg, Int.reduceEq, Int.reduceLT, Int.reduceLE, Int.reduceNe, reduceIte, true_and, and_true, false_and, and_false, if_true, if_false, ne_eq, not_true_eq_false, not_false_eq_true]
        · by_cases c4 : c = 4
          · subst c4; simp (disch := omega) only [l3, z_fdM, z_pdM, z_adM, z_sdM, z_lkM, z_ndM, z_gdM, z_cI_some', z_cV_some', z_w_ok, Int.reduceAdd, Int.reduceSub, Int.reduceMul, Int.reduceNeg, Int.reduceEq, Int.reduceLT, Int.reduceLE, Int.reduceNe, reduceIte, true_and, and_true, false_and, and_false, if_true, if_false, ne_eq, not_true_eq_false, not_false_eq_true]
          · by_cases c5 : c = 5
            · subst c5; simp (disch := omega) only [j6, z_fdM, z_pdM, z_adM, z_sdM, z_lkM, z_ndM, z_gdM, z_cI_some', z_cV_some', z_w_ok, Int.reduceAdd, Int.reduceSub, Int.reduceMul, Int.reduceNeg, Int.reduceEq, Int.reduceLT, Int.reduceLE, Int.reduceNe, reduceIte, true_and, and_true, false_and, and_false, if_true, if_false, ne_eq, not_true_eq_false, not_false_eq_true]
            · by_cases c6 : c = 6
              · subst c6; simp (disch := omega) only [j10, z_fdM, z_pdM, z_adM, z_sdM, z_lkM, z_ndM, z_gdM, z_cI_some', z_cV_some', z_w_ok, Int.reduceAdd, Int.reduceSub, Int.reduceMul, Int.reduceNeg, Int.reduceEq, Int.reduceLT, Int.reduceLE, Int.reduceNe, reduceIte, true_and, and_true, false_and, and_false, if_true, if_false, ne_eq, not_true_eq_false, not_false_eq_true]
              · by_cases c7 : c = 7
                · subst c7; simp (disch := omega) only [j8, z_fdM, z_pdM, z_adM, z_sdM, z_lkM, z_ndM, z_gdM, z_cI_some', z_cV_some', z_w_ok, Int.reduceAdd, Int.reduceSub, Int.reduceMul, Int.reduceNeg, Int.reduceEq, Int.reduceLT, Int.reduceLE, Int.reduceNe, reduceIte, true_and, and_true, false_and, and_false, if_true, if_false, ne_eq, not_true_eq_false, not_false_eq_true]
                · simp (disch := omega) only [if_neg, z_fdM, z_pdM, z_adM, z_sdM, z_lkM, z_ndM, z_gdM, z_cI_some', z_cV_some', z_w_ok, Int.reduceAdd, Int.reduceSub, Int.reduceMul, Int.reduceNeg, Int.reduceEq, Int.reduceLT, Int.reduceLE, Int.reduceNe, reduceIte, true_and, and_true, false_and, and_false, if_true, if_false, ne_eq, not_true_eq_false, not_false_eq_true]
theorem M_of (h : m_inv σ X) (d : Nat) {r c : Int} (hr : 0 ≤ r ∧ r < X 0 0) (hc : 0 ≤ c ∧ c ≤ 5) : m_does (z_ev z_hcM (d + 20) 1289 [z_R 1, z_I r, z_I c] z_hdM σ) (s_of X r c, X) := by
  have hi := m_inv_thr h
  have hwf := h.1
  have k := m_isRoad (d + 17) h.1 hi.2.1 r
  rw [if_pos hr] at k
  have kt := m_tollOf (d + 18) h.1 hi.2.1 r
  have hn := hwf.2.1
  have hR := hwf.1
  have hs := z_slt_some hwf r
  have es : z_slr X r = z_slt X r := if_pos hr
  obtain ⟨r1, r2, r3, r4, r5⟩ := hi.2.1.2.1 r hr.1 hr.2
  refine ⟨_, ?_, hi, z_upd_same⟩
  unfold s_of
  rw [es]
  by_cases c0 : c = 0
  · subst c0; simp (disch := omega) only [z_E1289, z_E1202, k, if_pos, if_neg, r1, z_fdM, z_pdM, z_adM, z_sdM, z_lkM, z_ndM, z_gdM, z_cI_some', z_cV_some', z_w_ok, Int.reduceAdd, Int.reduceSub, Int.reduceMul, Int.reduceNeg, Int.reduceEq, Int.reduceLT, Int.reduceLE, Int.reduceNe, reduceIte, true_and, and_true, false_and, and_false, if_true, if_false, ne_eq, not_true_eq_false, not_false_eq_true]
  · by_cases c1 : c = 1
    · subst c1; simp (disch := omega) only [z_E1289, z_E1202, k, if_pos, if_neg, r2, z_fdM, z_pdM, z_adM, z_sdM, z_lkM, z_ndM, z_gdM, z_cI_some', z_cV_some', z_w_ok, Int.reduceAdd, Int.reduceSub, Int.reduceMul, Int.reduceNeg, Int.reduceEq, Int.reduceLT, Int.reduceLE, Int.reduceNe, reduceIte, true_and, and_true, false_and, and_false, if_true, if_false, ne_eq, not_true_eq_false, not_false_eq_true]
    · by_cases c2 : c = 2
      · subst c2; simp (disch := omega) only [z_E1289, z_E1202, k, if_pos, if_neg, r3, z_fdM, z_pdM, z_adM, z_sdM, z_lkM, z_ndM, z_gdM, z_cI_some', z_cV_some', z_w_ok, Int.reduceAdd, Int.reduceSub, Int.reduceMul, Int.reduceNeg, Int.reduceEq, Int.reduceLT, Int.reduceLE, Int.reduceNe, reduceIte, true_and, and_true, false_and, and_false, if_true, if_false, ne_eq, not_true_eq_false, not_false_eq_true]
      · by_cases c3 : c = 3
        · subst c3; simp (disch := omega) only [z_E1289, z_E1202, k, if_pos, if_neg, r4, z_fdM, z_pdM, z_adM, z_sdM, z_lkM, z_ndM, z_gdM, z_cI_some', z_cV_some', z_w_ok, Int.reduceAdd, Int.reduceSub, Int.reduceMul, Int.reduceNeg, Int.reduceEq, Int.reduceLT, Int.reduceLE, Int.reduceNe, reduceIte, true_and, and_true, false_and, and_false, if_true, if_false, ne_eq, not_true_eq_false, not_false_eq_true]
        · by_cases c4 : c = 4
          · subst c4; simp (disch := omega) only [z_E1289, z_E1202, k, if_pos, if_neg, r5, z_fdM, z_pdM, z_adM, z_sdM, z_lkM, z_ndM, z_gdM, z_cI_some', z_cV_some', z_w_ok, Int.reduceAdd, Int.reduceSub, Int.reduceMul, Int.reduceNeg, Int.reduceEq, Int.reduceLT, Int.reduceLE, Int.reduceNe, reduceIte, true_and, and_true, false_and, and_false, if_true, if_false, ne_eq, not_true_eq_false, not_false_eq_true]
          · have c5 : c = 5 := by omega
            subst c5
            by_cases cs : z_slt X r < 0
            · have e : z_slt X r = -1 := by rcases hs with ⟨e, -⟩ | ⟨e1, e2, -⟩ <;> omega
              rw [e] at kt
              rw [e]
              simp (disch := omega) only [z_E1289, z_E1202, k, if_pos, if_neg, kt, z_fdM, z_pdM, z_adM, z_sdM, z_lkM, z_ndM, z_gdM, z_cI_some', z_cV_some', z_w_ok, Int.reduceAdd, Int.reduceSub, Int.reduceMul, Int.reduceNeg, Int.reduceEq, Int.reduceLT, Int.reduceLE, Int.reduceNe, reduceIte, true_and, and_true, false_and, and_false, if_true, if_false, ne_eq, not_true_eq_false, not_false_eq_true]
            · have ht := hi.2.2.2.1 (z_slt X r) (by omega) (by rcases hs with ⟨e, -⟩ | ⟨e1, e2, -⟩ <;> omega)
              have hlt : z_slt X r < X 0 1 := by rcases hs with ⟨e, -⟩ | ⟨e1, e2, -⟩ <;> omega
              simp (disch := omega) only [z_E1289, z_E1202, k, if_pos, if_neg, kt, ht, z_fdM, z_pdM, z_adM, z_sdM, z_lkM, z_ndM, z_gdM, z_cI_some', z_cV_some', z_w_ok, Int.reduceAdd, Int.reduceSub, Int.reduceMul, Int.reduceNeg, Int.reduceEq, Int.reduceLT, Int.reduceLE, Int.reduceNe, reduceIte, true_and, and_true, false_and, and_false, if_true, if_false, ne_eq, not_true_eq_false, not_false_eq_true]
theorem M_of_lost (h : m_inv σ X) (d : Nat) {r c : Int} (hn : ¬ ((0 ≤ r ∧ r < X 0 0) ∧ 0 ≤ c ∧ c ≤ 5)) : m_lost (z_ev z_hcM (d + 20) 1289 [z_R 1, z_I r, z_I c] z_hdM σ) X := by
  have hi := m_inv_thr h
  have k := m_isRoad (d + 17) h.1 hi.2.1 r
  refine ⟨_, ?_, m_inv_lost hi, z_upd_same⟩
  by_cases hr : 0 ≤ r ∧ r < X 0 0
  · rw [if_pos hr] at k
    by_cases c1 : c < 0
    · simp (disch := omega) only [z_E1289, z_E1202, z_E1203, k, if_pos, if_neg, z_fdM, z_pdM, z_adM, z_sdM, z_lkM, z_ndM, z_gdM, z_cI_some', z_cV_some', z_w_ok, Int.reduceAdd, Int.reduceSub, Int.reduceMul, Int.reduceNeg, Int.reduceEq, Int.reduceLT, Int.reduceLE, Int.reduceNe, reduceIte, true_and, and_true, false_and, and_false, if_true, if_false, ne_eq, not_true_eq_false, not_false_eq_true]
    · simp (disch := omega) only [z_E1289, z_E1202, z_E1203, k, if_pos, if_neg, z_fdM, z_pdM, z_adM, z_sdM, z_lkM, z_ndM, z_gdM, z_cI_some', z_cV_some', z_w_ok, Int.reduceAdd, Int.reduceSub, Int.reduceMul, Int.reduceNeg, Int.reduceEq, Int.reduceLT, Int.reduceLE, Int.reduceNe, reduceIte, true_and, and_true, false_and, and_false, if_true, if_false, ne_eq, not_true_eq_false, not_false_eq_true]
  · rw [if_neg hr] at k
    rw [z_E1289, z_pdM, z_fdM, k, z_cI_some', if_pos rfl]
    simp (disch := omega) only [z_E1203, z_fdM, z_pdM, z_adM, z_sdM, z_lkM, z_ndM, z_gdM, z_cI_some', z_cV_some', z_w_ok, Int.reduceAdd, Int.reduceSub, Int.reduceMul, Int.reduceNeg, Int.reduceEq, Int.reduceLT, Int.reduceLE, Int.reduceNe, reduceIte, true_and, and_true, false_and, and_false, if_true, if_false, ne_eq, not_true_eq_false, not_false_eq_true]
theorem M_row (h : m_inv σ X) (d : Nat) {i : Int} (hr : 0 ≤ i ∧ i < X 0 6) : m_does (z_ev z_hcM (d + 20) 1290 [z_R 1, z_I i] z_hdM σ) (X 19 i, X) := by
  have hi := m_inv_thr h
  obtain ⟨j1, j2, j3, j4, j5, j6, j7, j8, j9, j10, j11⟩ := id hi
  have h6 := h.1.2.2.2.2.2.2.1
  have e := j11 i hr.1 hr.2
  refine ⟨_, ?_, hi, z_upd_same⟩
  simp (disch := omega) only [z_E1290, z_E1202, j10, if_pos, if_neg, e, z_fdM, z_pdM, z_adM, z_sdM, z_lkM, z_ndM, z_gdM, z_cI_some', z_cV_some', z_w_ok, Int.reduceAdd, Int.reduceSub, Int.reduceMul, Int.reduceNeg, Int.reduceEq, Int.reduceLT, Int.reduceLE, Int.reduceNe, reduceIte, true_and, and_true, false_and, and_false, if_true, if_false, ne_eq, not_true_eq_false, not_false_eq_true]
theorem M_row_lost (h : m_inv σ X) (d : Nat) {i : Int} (hr : ¬ (0 ≤ i ∧ i < X 0 6)) : m_lost (z_ev z_hcM (d + 20) 1290 [z_R 1, z_I i] z_hdM σ) X := by
  have hi := m_inv_thr h
  obtain ⟨j1, j2, j3, j4, j5, j6, j7, j8, j9, j10, j11⟩ := id hi
  have h6 := h.1.2.2.2.2.2.2.1
  refine ⟨_, ?_, m_inv_lost hi, z_upd_same⟩
  by_cases c1 : i < 0
  · simp (disch := omega) only [z_E1290, z_E1202, z_E1203, j10, if_pos, if_neg, z_fdM, z_pdM, z_adM, z_sdM, z_lkM, z_ndM, z_gdM, z_cI_some', z_cV_some', z_w_ok, Int.reduceAdd, Int.reduceSub, Int.reduceMul, Int.reduceNeg, Int.reduceEq, Int.reduceLT, Int.reduceLE, Int.reduceNe, reduceIte, true_and, and_true, false_and, and_false, if_true, if_false, ne_eq, not_true_eq_false, not_false_eq_true]
  · simp (disch := omega) only [z_E1290, z_E1202, z_E1203, j10, if_pos, if_neg, z_fdM, z_pdM, z_adM, z_sdM, z_lkM, z_ndM, z_gdM, z_cI_some', z_cV_some', z_w_ok, Int.reduceAdd, Int.reduceSub, Int.reduceMul, Int.reduceNeg, Int.reduceEq, Int.reduceLT, Int.reduceLE, Int.reduceNe, reduceIte, true_and, and_true, false_and, and_false, if_true, if_false, ne_eq, not_true_eq_false, not_false_eq_true]
theorem M_thrown (d : Nat) : z_ev z_hcM (d + 20) 1201 [z_R 1] z_hdM σ = some (z_I (σ 1 26), z_hdM, σ) := by
  simp (disch := omega) only [z_E1201, z_fdM, z_pdM, z_adM, z_sdM, z_lkM, z_ndM, z_gdM, z_cI_some', z_cV_some', z_w_ok, Int.reduceAdd, Int.reduceSub, Int.reduceMul, Int.reduceNeg, Int.reduceEq, Int.reduceLT, Int.reduceLE, Int.reduceNe, reduceIte, true_and, and_true, false_and, and_false, if_true, if_false, ne_eq, not_true_eq_false, not_false_eq_true]
end
