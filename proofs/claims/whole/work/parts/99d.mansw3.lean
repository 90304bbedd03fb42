/-! The reference: answers told. -/
section
variable {σ0 σ σ' σ'' X : z_S} {D : z_D} {nw : Int → Bool} {t t' T : Int → Int} {l : List Int}
theorem m_ansEnd (h : m_inv σ0 X) (h26 : σ0 1 26 = 0) (d : Nat) {n v c j : Int} {i : Nat} (q : m_ai σ0 σ X i) (v5 v6 : z_V) :
    m_does (z_go (z_ev z_hcM (d + 19)) z_hcM 1270 241 [z_R 1, z_I n, z_I v, z_I c, z_I j, v5, v6] [] z_hdM σ) (v, z_srow X (z_brt (z_Dm X (-1)).op (z_Dm X (-1)).mn (z_Dm X (-1)).gN (X 0 4) (z_side X 0 (-1)) (z_AN X i) :: z_brt (z_Dm X (-1)).op (z_Dm X (-1)).mn (z_Dm X (-1)).gN (X 0 4) (z_side X 1 (-1)) (z_AN X i) :: z_tl (z_all X) (z_AN X i) 5)) := by
  obtain ⟨q1, q49, -⟩ := q
  have hn := h.1.2.1
  obtain ⟨σ1, e1, o1, q2, -, b2, -⟩ := q1.work h (d + 15) (z_tcap_20 h.cp.2 (z_AN_cap h i))
  obtain ⟨σ2, e2, r2, o2⟩ := m_tell1 (σ := z_upd σ1 1 25 0) m_rw0 (by simp) (d + 18) (z_brt (z_Dm X (-1)).op (z_Dm X (-1)).mn (z_Dm X (-1)).gN (X 0 4) (z_side X 0 (-1)) (z_AN X i))
  have o12 : m_ro σ1 σ2 := m_ro_trans m_ro0 o2
  have b0 : z_upd σ1 1 25 0 42 0 = z_brt (z_Dm X (-1)).op (z_Dm X (-1)).mn (z_Dm X (-1)).gN (X 0 4) (z_side X 0 (-1)) (z_AN X i) := by rw [z_upd_ne (by omega)]; exact b2 0 (Or.inl rfl)
  have b1 : σ2 42 1 = z_brt (z_Dm X (-1)).op (z_Dm X (-1)).mn (z_Dm X (-1)).gN (X 0 4) (z_side X 1 (-1)) (z_AN X i) := by rw [o12 _ _ (by omega) (by omega)]; exact b2 1 (Or.inr rfl)
  obtain ⟨σ3, e3, r3, o3⟩ := m_tell1 r2 (by simp) (d + 18) (z_brt (z_Dm X (-1)).op (z_Dm X (-1)).mn (z_Dm X (-1)).gN (X 0 4) (z_side X 1 (-1)) (z_AN X i))
  have o13 : m_ro σ1 σ3 := m_ro_trans o12 o3
  obtain ⟨σ4, e4, r4, o4⟩ := m_tellTolls (w := -1) (m := z_all X) (t := z_AN X i) h.1 (m_land_ro o13 (q2.land h)) r3 (by simp) (d + 17) (Or.inl rfl) (fun k k0 k1 => by rw [o13 _ _ (by omega) (by omega)]; exact q2.2.2.2.1 k k0 k1) (Or.inl ⟨rfl, rfl⟩)
  have o14 : m_ro σ1 σ4 := m_ro_trans o13 o4
  have f4 : ∀ j, 0 ≤ j → j < 5 → σ4 49 j = X 7 j := fun j j0 j1 => by rw [o14 _ _ (by omega) (by omega), o1 _ _ (by omega) (by omega)]; exact q49 j j0 j1
  obtain ⟨σ6, e6, o6, t6⟩ := z_for (fun (k : Nat) (x : z_S) => z_go (z_ev z_hcM (d + 19)) z_hcM 1270 282 [z_R 1, z_I n, z_I v, z_I c, z_I k, v5, v6] [] z_hdM x) (fun x => some (z_I v, z_hdM, x)) (fun k x => (∀ a i, a ≠ 8 → x a i = σ4 a i) ∧ ∀ j : Int, 0 ≤ j → j < k → x 8 j = X 7 j) 5 (s := σ4) ⟨fun _ _ _ => rfl, fun j j0 j1 => absurd j1 (by omega)⟩
    (fun k x hk ⟨ho, hz⟩ => by
      have e9 : x 49 k = X 7 k := by rw [ho _ _ (by omega)]; exact f4 k (by omega) (by omega)
      refine ⟨z_upd x 8 k (X 7 k), ?_, fun a j ha => by rw [z_upd_ne (by omega)]; exact ho a j ha, fun j j0 j1 => ?_⟩
      · rw [z_B1270_282]
        simp (disch := omega) only [if_neg, e9, z_ns, z_fdM, z_pdM, z_adM, z_sdM, z_lkM, z_ndM, z_gdM, z_cI_some', z_cV_some', z_w_ok, Int.reduceAdd, Int.reduceSub, Int.reduceMul, Int.reduceNeg, Int.reduceEq, Int.reduceLT, Int.reduceLE, Int.reduceNe, reduceIte, true_and, and_true, false_and, and_false, if_true, if_false, ne_eq, not_true_eq_false, not_false_eq_true]
      · by_cases cj : j = k
        · rw [cj, z_upd_same]
        · rw [z_upd_ne (by omega)]; exact hz j j0 (by omega)) (fun x _ => by
      rw [z_B1270_282]
      simp (disch := omega) only [if_pos, z_fdM, z_pdM, z_adM, z_sdM, z_lkM, z_ndM, z_gdM, z_cI_some', z_cV_some', z_w_ok, Int.reduceAdd, Int.reduceSub, Int.reduceMul, Int.reduceNeg, Int.reduceEq, Int.reduceLT, Int.reduceLE, Int.reduceNe, reduceIte, true_and, and_true, false_and, and_false, if_true, if_false, ne_eq, not_true_eq_false, not_false_eq_true])
  have hl := z_tl_len (m := z_all X) (t := z_AN X i) 5
  refine m_does_row h h26 ?_ (fun a i h1 h2 h3 h4 => by rw [o6 a i h1, o14 a i h2 (by omega)]; exact q2.1 a i h1 h3 (by omega)) (fun k k0 k1 => t6 k k0 (by omega)) (by rw [o6 _ _ (by omega), o14 _ _ (by omega) (by omega)]; exact q2.2.2.2.2) (l := z_brt (z_Dm X (-1)).op (z_Dm X (-1)).mn (z_Dm X (-1)).gN (X 0 4) (z_side X 0 (-1)) (z_AN X i) :: z_brt (z_Dm X (-1)).op (z_Dm X (-1)).mn (z_Dm X (-1)).gN (X 0 4) (z_side X 1 (-1)) (z_AN X i) :: z_tl (z_all X) (z_AN X i) 5) ⟨by rw [o6 _ _ (by omega)]; exact r4.1, fun i hi' => by rw [o6 _ _ (by omega)]; exact r4.2 i hi'⟩ (by rw [List.length_cons, List.length_cons]; omega)
  have e6' : z_go (z_ev z_hcM (d + 19)) z_hcM 1270 282 [z_R 1, z_I n, z_I v, z_I c, z_I 0, v5, v6] [] z_hdM σ4 = _ := e6
  rw [z_B1270_241]
  simp (disch := omega) only [e1, b0, e2, b1, e3, e4, z_fdM, z_pdM, z_adM, z_sdM, z_lkM, z_ndM, z_gdM, z_cI_some', z_cV_some', z_w_ok, Int.reduceAdd, Int.reduceSub, Int.reduceMul, Int.reduceNeg, Int.reduceEq, Int.reduceLT, Int.reduceLE, Int.reduceNe, reduceIte, true_and, and_true, false_and, and_false, if_true, if_false, ne_eq, not_true_eq_false, not_false_eq_true]
  exact e6'
theorem M_answers (h : m_inv σ X) (d : Nat) (n : Int) : m_does (z_ev z_hcM (d + 20) 1270 [z_R 1, z_I n] z_hdM σ) (s_answers X n) := by
  have hi := m_inv_thr h
  have k0 := m_canSet (d + 17) h.1 hi.2.1 0
  have k1 := m_canSet (d + 17) h.1 hi.2.1 1
  unfold s_answers
  by_cases cn : 1 ≤ n ∧ n ≤ 60
  · by_cases c0 : z_seek X 0 = true
    · by_cases c1 : z_seek X 1 = true
      · rw [if_pos ⟨cn, c0, c1⟩]
        rw [if_pos c0] at k0
        rw [if_pos c1] at k1
        obtain ⟨σ1, e1, q1⟩ := m_gat0 hi (d + 14)
        obtain ⟨σ2, e2, o2, z2⟩ := z_for (fun (k : Nat) (x : z_S) => z_go (z_ev z_hcM (d + 19)) z_hcM 1270 39 [z_R 1, z_I n, z_I k, z_U, z_U, z_U, z_U] [] z_hdM x) (fun x => z_go (z_ev z_hcM (d + 19)) z_hcM 1270 70 [z_R 1, z_I n, z_I (-3), z_I 0, z_I 0, z_U, z_U] [] z_hdM x) (fun k x => (∀ a i, a ≠ 49 → x a i = σ1 a i) ∧ ∀ j : Int, 0 ≤ j → j < k → x 49 j = X 7 j) 5 (s := σ1) ⟨fun _ _ _ => rfl, fun j j0 j1 => absurd j1 (by omega)⟩
          (fun k x hk ⟨ho, hz⟩ => by
            have e8 : x 8 k = X 7 k := by rw [ho _ _ (by omega)]; exact q1.2.2.2.1 k (by omega) (by omega)
            refine ⟨z_upd x 49 k (X 7 k), ?_, fun a j ha => by rw [z_upd_ne (by omega)]; exact ho a j ha, fun j j0 j1 => ?_⟩
            · rw [z_B1270_39]
              simp (disch := omega) only [if_neg, e8, z_ns, z_fdM, z_pdM, z_adM, z_sdM, z_lkM, z_ndM, z_gdM, z_cI_some', z_cV_some', z_w_ok, Int.reduceAdd, Int.reduceSub, Int.reduceMul, Int.reduceNeg, Int.reduceEq, Int.reduceLT, Int.reduceLE, Int.reduceNe, reduceIte, true_and, and_true, false_and, and_false, if_true, if_false, ne_eq, not_true_eq_false, not_false_eq_true]
            · by_cases cj : j = k
              · rw [cj, z_upd_same]
              · rw [z_upd_ne (by omega)]; exact hz j j0 (by omega)) (fun x _ => by
            rw [z_B1270_39]
            simp (disch := omega) only [if_pos, z_fdM, z_pdM, z_adM, z_sdM, z_lkM, z_ndM, z_gdM, z_cI_some', z_cV_some', z_w_ok, Int.reduceAdd, Int.reduceSub, Int.reduceMul, Int.reduceNeg, Int.reduceEq, Int.reduceLT, Int.reduceLE, Int.reduceNe, reduceIte, true_and, and_true, false_and, and_false, if_true, if_false, ne_eq, not_true_eq_false, not_false_eq_true])
        have q2 := q1.keep (σ' := σ2) (t' := X 7) (fun a i _ h2 _ => o2 a i (by omega)) (fun k k0 k1 => by rw [o2 _ _ (by omega)]; exact q1.2.2.2.1 k k0 k1) (by rw [o2 _ _ (by omega)]; exact q1.2.2.2.2)
        obtain ⟨σ3, c', j, v5, v6, e3, q3⟩ := m_ansAll hi d (n := n.toNat) (by omega) n.toNat 0 0 σ2 z_U z_U (by omega) (Or.inl rfl) ⟨q2, fun k k0 k1 => z2 k k0 (by omega), fun e he => absurd he (Nat.not_lt_zero e)⟩
        rw [Int.toNat_of_nonneg (by omega)] at e3
        have hend := m_ansEnd hi z_upd_same d (n := n) (v := (z_AO X n.toNat).1) (c := c') (j := j) q3 v5 v6
        have e2' : z_go (z_ev z_hcM (d + 19)) z_hcM 1270 39 [z_R 1, z_I n, z_I 0, z_U, z_U, z_U, z_U] [] z_hdM σ1 = z_go (z_ev z_hcM (d + 19)) z_hcM 1270 241 [z_R 1, z_I n, z_I (z_AO X n.toNat).1, z_I c', z_I j, v5, v6] [] z_hdM σ3 := e2.trans e3
        rw [← e2'] at hend
        have es : z_ev z_hcM (d + 20) 1270 [z_R 1, z_I n] z_hdM σ = z_go (z_ev z_hcM (d + 19)) z_hcM 1270 39 [z_R 1, z_I n, z_I 0, z_U, z_U, z_U, z_U] [] z_hdM σ1 := by
          simp (disch := omega) only [z_E1270, z_E1202, if_pos, if_neg, k0, k1, e1, z_fdM, z_pdM, z_adM, z_sdM, z_lkM, z_ndM, z_gdM, z_cI_some', z_cV_some', z_w_ok, Int.reduceAdd, Int.reduceSub, Int.reduceMul, Int.reduceNeg, Int.reduceEq, Int.reduceLT, Int.reduceLE, Int.reduceNe, reduceIte, true_and, and_true, false_and, and_false, if_true, if_false, ne_eq, not_true_eq_false, not_false_eq_true]
        rw [es]
        exact hend
      · rw [if_neg (fun z => c1 z.2.2)]
        rw [if_pos c0] at k0
        rw [if_neg c1] at k1
        refine ⟨_, ?_, hi, z_upd_same⟩
        simp (disch := omega) only [z_E1270, z_E1202, if_pos, if_neg, k0, k1, z_fdM, z_pdM, z_adM, z_sdM, z_lkM, z_ndM, z_gdM, z_cI_some', z_cV_some', z_w_ok, Int.reduceAdd, Int.reduceSub, Int.reduceMul, Int.reduceNeg, Int.reduceEq, Int.reduceLT, Int.reduceLE, Int.reduceNe, reduceIte, true_and, and_true, false_and, and_false, if_true, if_false, ne_eq, not_true_eq_false, not_false_eq_true]
    · rw [if_neg (fun z => c0 z.2.1)]
      rw [if_neg c0] at k0
      refine ⟨_, ?_, hi, z_upd_same⟩
      simp (disch := omega) only [z_E1270, z_E1202, if_pos, if_neg, k0, z_fdM, z_pdM, z_adM, z_sdM, z_lkM, z_ndM, z_gdM, z_cI_some', z_cV_some', z_w_ok, Int.reduceAdd, Int.reduceSub, Int.reduceMul, Int.reduceNeg, Int.reduceEq, Int.reduceLT, Int.reduceLE, Int.reduceNe, reduceIte, true_and, and_true, false_and, and_false, if_true, if_false, ne_eq, not_true_eq_false, not_false_eq_true]
  · rw [if_neg (fun z => cn z.1)]
    refine ⟨_, ?_, hi, z_upd_same⟩
    by_cases c1 : n < 1
    · simp (disch := omega) only [z_E1270, z_E1202, if_pos, if_neg, z_fdM, z_pdM, z_adM, z_sdM, z_lkM, z_ndM, z_gdM, z_cI_some', z_cV_some', z_w_ok, Int.reduceAdd, Int.reduceSub, Int.reduceMul, Int.reduceNeg, Int.reduceEq, Int.reduceLT, Int.reduceLE, Int.reduceNe, reduceIte, true_and, and_true, false_and, and_false, if_true, if_false, ne_eq, not_true_eq_false, not_false_eq_true]
    · simp (disch := omega) only [z_E1270, z_E1202, if_pos, if_neg, z_fdM, z_pdM, z_adM, z_sdM, z_lkM, z_ndM, z_gdM, z_cI_some', z_cV_some', z_w_ok, Int.reduceAdd, Int.reduceSub, Int.reduceMul, Int.reduceNeg, Int.reduceEq, Int.reduceLT, Int.reduceLE, Int.reduceNe, reduceIte, true_and, and_true, false_and, and_false, if_true, if_false, ne_eq, not_true_eq_false, not_false_eq_true]
end
