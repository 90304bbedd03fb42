/-! The reference: climb, gap, last. -/
section
variable {σ0 σ σ' σ'' X : z_S} {D : z_D} {nw : Int → Bool} {t T : Int → Int} {l : List Int}
theorem m_land_ro (o : m_ro σ σ') (h : m_land σ X) : m_land σ' X := m_land_off (b := 25) (lo := 20) (hi := 20) (fun a i _ h2 h3 => o a i (by omega) (by omega)) (by omega) (by omega) h
theorem m_mn99 (h : m_inv σ0 X) (q : m_on σ0 σ X D nw t) : ∀ g, 0 ≤ g → g < D.gN → 0 ≤ D.mn g ∧ D.mn g ≤ 99 := fun g g0 g1 => by have := (q.goer h g0 g1).2.2.2.2.2.1; omega
theorem M_climb (h : m_inv σ X) (d : Nat) (w : Int) : m_does (z_ev z_hcM (d + 20) 1266 [z_R 1, z_I w] z_hdM σ) (s_climb X w) := by
  have hi := m_inv_thr h
  have hcp := h.cp
  unfold s_climb
  by_cases c : w = 0 ∨ w = 1
  · rw [if_pos c]
    obtain ⟨σ1, e1, q1⟩ := m_gat0 hi (d + 14)
    have hst := z_cn_stops (z_stops_ex (lean := (X 0 4)) (side := (z_side X w (-1))) q1.gn.1 (m_mn99 hi q1) hcp h.tc)
    obtain ⟨σ2, e2, o2, z2⟩ := z_for (fun (k : Nat) (x : z_S) => z_go (z_ev z_hcM (d + 19)) z_hcM 1266 20 [z_R 1, z_I w, z_I k, z_U] [] z_hdM x) (fun x => z_go (z_ev z_hcM (d + 19)) z_hcM 1266 20 [z_R 1, z_I w, z_I 5, z_U] [] z_hdM x) (fun k x => (∀ a i, a ≠ 49 → x a i = σ1 a i) ∧ ∀ j : Int, 0 ≤ j → j < k → x 49 j = X 7 j) 5 (s := σ1) ⟨fun _ _ _ => rfl, fun j j0 j1 => absurd j1 (by omega)⟩
      (fun k x hk ⟨ho, hz⟩ => by
        have e8 : x 8 k = X 7 k := by rw [ho _ _ (by omega)]; exact q1.2.2.2.1 k (by omega) (by omega)
        refine ⟨z_upd x 49 k (X 7 k), ?_, fun a j ha => by rw [z_upd_ne (by omega)]; exact ho a j ha, fun j j0 j1 => ?_⟩
        · rw [z_B1266_20]
          simp (disch := omega) only [if_neg, e8, z_ns, z_fdM, z_pdM, z_adM, z_sdM, z_lkM, z_ndM, z_gdM, z_cI_some', z_cV_some', z_w_ok, Int.reduceAdd, Int.reduceSub, Int.reduceMul, Int.reduceNeg, Int.reduceEq, Int.reduceLT, Int.reduceLE, Int.reduceNe, reduceIte, true_and, and_true, false_and, and_false, if_true, if_false, ne_eq, not_true_eq_false, not_false_eq_true]
        · by_cases cj : j = k
          · rw [cj, z_upd_same]
          · rw [z_upd_ne (by omega)]; exact hz j j0 (by omega)) (fun x _ => rfl)
    have q2 := q1.keep (σ' := σ2) (t' := X 7) (fun a i _ h2 _ => o2 a i (by omega)) (fun k k0 k1 => by rw [o2 _ _ (by omega)]; exact q1.2.2.2.1 k k0 k1) (by rw [o2 _ _ (by omega)]; exact q1.2.2.2.2)
    obtain ⟨σ3, e3, q3, c3, f3⟩ := q2.climbOf hi h.tc c hst (d + 12)
    obtain ⟨p1, p2, p3⟩ := z_it_ok (D := (z_Dm X (-1))) (lean := (X 0 4)) (share := (z_Dm X (-1)).mn) (side := (z_side X w (-1))) hcp.1 h.tc (z_cn (z_Dm X (-1)) (X 0 4) (z_Dm X (-1)).mn (z_side X w (-1)) (X 0 3) (X 7))
    generalize z_it (z_Dm X (-1)) (X 0 4) (z_Dm X (-1)).mn (z_side X w (-1)) (X 0 3) (X 7) (z_cn (z_Dm X (-1)) (X 0 4) (z_Dm X (-1)).mn (z_side X w (-1)) (X 0 3) (X 7)) = qq at *
    obtain ⟨σ4, e4, r4, o4⟩ := m_tell1 (σ := z_upd σ3 1 25 0) m_rw0 (by simp) (d + 18) (z_brt (z_Dm X (-1)).op (z_Dm X (-1)).mn (z_Dm X (-1)).gN (X 0 4) (z_side X w (-1)) qq.1)
    have o34 : m_ro σ3 σ4 := m_ro_trans m_ro0 o4
    obtain ⟨σ5, e5, r5, o5⟩ := m_tellTolls (m := (z_side X w (-1))) (t := qq.1) h.1 (m_land_ro o34 (q3.land hi)) r4 (by simp) (d + 17) (Or.inl rfl) (fun k k0 k1 => by rw [o34 _ _ (by omega) (by omega)]; exact q3.2.2.2.1 k k0 k1) (Or.inr ⟨c, rfl⟩)
    have o35 : m_ro σ3 σ5 := m_ro_trans o34 o5
    have f5 : ∀ j, 0 ≤ j → j < 5 → σ5 49 j = X 7 j := fun j j0 j1 => by rw [o35 _ _ (by omega) (by omega), f3]; exact z2 j j0 (by omega)
    have c5 : σ5 1 63 = qq.2 := by rw [o35 _ _ (by omega) (by omega)]; exact c3
    obtain ⟨σ6, e6, o6, t6⟩ := z_for (fun (k : Nat) (x : z_S) => z_go (z_ev z_hcM (d + 19)) z_hcM 1266 70 [z_R 1, z_I w, z_I (z_brt (z_Dm X (-1)).op (z_Dm X (-1)).mn (z_Dm X (-1)).gN (X 0 4) (z_side X w (-1)) qq.1), z_I k] [] z_hdM x) (fun x => some (z_I qq.2, z_hdM, x)) (fun k x => (∀ a i, a ≠ 8 → x a i = σ5 a i) ∧ ∀ j : Int, 0 ≤ j → j < k → x 8 j = X 7 j) 5 (s := σ5) ⟨fun _ _ _ => rfl, fun j j0 j1 => absurd j1 (by omega)⟩
      (fun k x hk ⟨ho, hz⟩ => by
        have e9 : x 49 k = X 7 k := by rw [ho _ _ (by omega)]; exact f5 k (by omega) (by omega)
        refine ⟨z_upd x 8 k (X 7 k), ?_, fun a j ha => by rw [z_upd_ne (by omega)]; exact ho a j ha, fun j j0 j1 => ?_⟩
        · rw [z_B1266_70]
          simp (disch := omega) only [if_neg, e9, z_ns, z_fdM, z_pdM, z_adM, z_sdM, z_lkM, z_ndM, z_gdM, z_cI_some', z_cV_some', z_w_ok, Int.reduceAdd, Int.reduceSub, Int.reduceMul, Int.reduceNeg, Int.reduceEq, Int.reduceLT, Int.reduceLE, Int.reduceNe, reduceIte, true_and, and_true, false_and, and_false, if_true, if_false, ne_eq, not_true_eq_false, not_false_eq_true]
        · by_cases cj : j = k
          · rw [cj, z_upd_same]
          · rw [z_upd_ne (by omega)]; exact hz j j0 (by omega)) (fun x ⟨ho, hz⟩ => by
        have c6 : x 1 63 = qq.2 := by rw [ho _ _ (by omega)]; exact c5
        rw [z_B1266_70]
        simp (disch := omega) only [if_pos, c6, z_fdM, z_pdM, z_adM, z_sdM, z_lkM, z_ndM, z_gdM, z_cI_some', z_cV_some', z_w_ok, Int.reduceAdd, Int.reduceSub, Int.reduceMul, Int.reduceNeg, Int.reduceEq, Int.reduceLT, Int.reduceLE, Int.reduceNe, reduceIte, true_and, and_true, false_and, and_false, if_true, if_false, ne_eq, not_true_eq_false, not_false_eq_true])
    have hl := z_tl_len (m := (z_side X w (-1))) (t := qq.1) 5
    have ofr : m_ofr (z_upd σ 1 26 0) σ6 := fun a i h1 h2 h3 h4 => by rw [o6 a i h1, o35 a i h2 (by omega)]; exact q3.1 a i h1 h3 (by omega)
    have r6 : m_rw σ6 (z_brt (z_Dm X (-1)).op (z_Dm X (-1)).mn (z_Dm X (-1)).gN (X 0 4) (z_side X w (-1)) qq.1 :: z_tl (z_side X w (-1)) qq.1 5) := ⟨by rw [o6 _ _ (by omega)]; exact r5.1, fun i hi' => by rw [o6 _ _ (by omega)]; exact r5.2 i hi'⟩
    refine m_does_row hi z_upd_same ?_ ofr (fun k k0 k1 => t6 k k0 (by omega)) (by rw [o6 _ _ (by omega), o35 _ _ (by omega) (by omega)]; exact q3.2.2.2.2) r6 (by rw [List.length_cons]; omega)
    have e6' : z_go (z_ev z_hcM (d + 19)) z_hcM 1266 70 [z_R 1, z_I w, z_I (z_brt (z_Dm X (-1)).op (z_Dm X (-1)).mn (z_Dm X (-1)).gN (X 0 4) (z_side X w (-1)) qq.1), z_I 0] [] z_hdM σ5 = _ := e6
    have e2' : z_go (z_ev z_hcM (d + 19)) z_hcM 1266 20 [z_R 1, z_I w, z_I 0, z_U] [] z_hdM σ1 = some (z_I qq.2, z_hdM, σ6) := by
      refine e2.trans ?_
      rw [z_B1266_20]
      simp (disch := omega) only [if_pos, e3, e4, e5, z_fdM, z_pdM, z_adM, z_sdM, z_lkM, z_ndM, z_gdM, z_cI_some', z_cV_some', z_w_ok, Int.reduceAdd, Int.reduceSub, Int.reduceMul, Int.reduceNeg, Int.reduceEq, Int.reduceLT, Int.reduceLE, Int.reduceNe, reduceIte, true_and, and_true, false_and, and_false, if_true, if_false, ne_eq, not_true_eq_false, not_false_eq_true]
      exact e6'
    rcases c with rfl | rfl <;> simp (disch := omega) only [z_E1266, z_E1207, if_neg, if_pos, e1, e2', z_fdM, z_pdM, z_adM, z_sdM, z_lkM, z_ndM, z_gdM, z_cI_some', z_cV_some', z_w_ok, Int.reduceAdd, Int.reduceSub, Int.reduceMul, Int.reduceNeg, Int.reduceEq, Int.reduceLT, Int.reduceLE, Int.reduceNe, reduceIte, true_and, and_true, false_and, and_false, if_true, if_false, ne_eq, not_true_eq_false, not_false_eq_true]
  · rw [if_neg c]
    refine ⟨_, ?_, hi, z_upd_same⟩
    simp (disch := omega) only [z_E1266, z_E1207, if_neg, if_pos, z_fdM, z_pdM, z_adM, z_sdM, z_lkM, z_ndM, z_gdM, z_cI_some', z_cV_some', z_w_ok, Int.reduceAdd, Int.reduceSub, Int.reduceMul, Int.reduceNeg, Int.reduceEq, Int.reduceLT, Int.reduceLE, Int.reduceNe, reduceIte, true_and, and_true, false_and, and_false, if_true, if_false, ne_eq, not_true_eq_false, not_false_eq_true]
theorem M_gap (h : m_inv σ X) (d : Nat) (w : Int) : m_does (z_ev z_hcM (d + 20) 1267 [z_R 1, z_I w] z_hdM σ) (s_gap X w) := by
  have hi := m_inv_thr h
  have hcp := h.cp
  have k := m_canSet (d + 17) h.1 hi.2.1 w
  unfold s_gap
  by_cases c : z_seek X w = true
  · rw [if_pos c] at k ⊢
    obtain ⟨cw, ctot⟩ := z_seek_t.mp c
    obtain ⟨σ1, e1, q1⟩ := m_gat0 hi (d + 14)
    have l3 := q1.capv hi
    obtain ⟨σ2, e2, o2, q2, f2, -⟩ := q1.best hi (d + 13) (cp := X 0 3) cw h.tc ⟨hcp.1, Int.le_refl _⟩
    have hst := z_cn_stops (z_stops_ex (lean := (X 0 4)) (side := (z_side X w (-1))) q1.gn.1 (m_mn99 hi q1) hcp h.tc)
    have hti : ∀ i, c_t20 (z_ti (z_side X w (-1)) (X 0 3) (X 7) i) := fun i => z_tcap_20 hcp.2 (z_ti_cap (Int.le_refl _) hcp.1 h.tc i)
    have v1 : 0 ≤ z_hv (z_Dm X (-1)) (X 0 4) (z_Dm X (-1)).mn (z_side X w (-1)) (z_side X w (-1)) (X 0 3) (X 7) ∧ z_hv (z_Dm X (-1)) (X 0 4) (z_Dm X (-1)).mn (z_side X w (-1)) (z_side X w (-1)) (X 0 3) (X 7) ≤ 480000000 := q1.brt hi (hti _) (X 0 4) (z_side X w (-1))
    generalize hhv : z_hv (z_Dm X (-1)) (X 0 4) (z_Dm X (-1)).mn (z_side X w (-1)) (z_side X w (-1)) (X 0 3) (X 7) = hv at *
    obtain ⟨σ3, e3, o3, z3⟩ := z_for (fun (k : Nat) (x : z_S) => z_go (z_ev z_hcM (d + 19)) z_hcM 1267 32 [z_R 1, z_I w, z_I hv, z_I k, z_U] [] z_hdM x) (fun x => z_go (z_ev z_hcM (d + 19)) z_hcM 1267 32 [z_R 1, z_I w, z_I hv, z_I 5, z_U] [] z_hdM x) (fun k x => (∀ a i, a ≠ 49 → x a i = σ2 a i) ∧ ∀ j : Int, 0 ≤ j → j < k → x 49 j = X 7 j) 5 (s := σ2) ⟨fun _ _ _ => rfl, fun j j0 j1 => absurd j1 (by omega)⟩
      (fun k x hk ⟨ho, hz⟩ => by
        have e8 : x 8 k = X 7 k := by rw [ho _ _ (by omega)]; exact q2.2.2.2.1 k (by omega) (by omega)
        refine ⟨z_upd x 49 k (X 7 k), ?_, fun a j ha => by rw [z_upd_ne (by omega)]; exact ho a j ha, fun j j0 j1 => ?_⟩
        · rw [z_B1267_32]
          simp (disch := omega) only [if_neg, e8, z_ns, z_fdM, z_pdM, z_adM, z_sdM, z_lkM, z_ndM, z_gdM, z_cI_some', z_cV_some', z_w_ok, Int.reduceAdd, Int.reduceSub, Int.reduceMul, Int.reduceNeg, Int.reduceEq, Int.reduceLT, Int.reduceLE, Int.reduceNe, reduceIte, true_and, and_true, false_and, and_false, if_true, if_false, ne_eq, not_true_eq_false, not_false_eq_true]
        · by_cases cj : j = k
          · rw [cj, z_upd_same]
          · rw [z_upd_ne (by omega)]; exact hz j j0 (by omega)) (fun x _ => rfl)
    have q3 := q2.keep (σ' := σ3) (t' := X 7) (fun a i _ h2 _ => o3 a i (by omega)) (fun k k0 k1 => by rw [o3 _ _ (by omega)]; exact q2.2.2.2.1 k k0 k1) (by rw [o3 _ _ (by omega)]; exact q2.2.2.2.2)
    obtain ⟨σ4, e4, q4, c4, f4⟩ := q3.climbOf hi h.tc cw hst (d + 12)
    obtain ⟨p1, p2, p3⟩ := z_it_ok (D := (z_Dm X (-1))) (lean := (X 0 4)) (share := (z_Dm X (-1)).mn) (side := (z_side X w (-1))) hcp.1 h.tc (z_cn (z_Dm X (-1)) (X 0 4) (z_Dm X (-1)).mn (z_side X w (-1)) (X 0 3) (X 7))
    have v2 := q1.brt hi (z_tcap_20 hcp.2 p1) (X 0 4) (z_side X w (-1))
    generalize z_it (z_Dm X (-1)) (X 0 4) (z_Dm X (-1)).mn (z_side X w (-1)) (X 0 3) (X 7) (z_cn (z_Dm X (-1)) (X 0 4) (z_Dm X (-1)).mn (z_side X w (-1)) (X 0 3) (X 7)) = qq at *
    have f4' : ∀ j, 0 ≤ j → j < 5 → σ4 49 j = X 7 j := fun j j0 j1 => by rw [f4]; exact z3 j j0 (by omega)
    obtain ⟨σ6, e6, o6, t6⟩ := z_for (fun (k : Nat) (x : z_S) => z_go (z_ev z_hcM (d + 19)) z_hcM 1267 64 [z_R 1, z_I w, z_I hv, z_I (z_brt (z_Dm X (-1)).op (z_Dm X (-1)).mn (z_Dm X (-1)).gN (X 0 4) (z_side X w (-1)) qq.1), z_I k] [] z_hdM x) (fun x => some (z_I (hv - z_brt (z_Dm X (-1)).op (z_Dm X (-1)).mn (z_Dm X (-1)).gN (X 0 4) (z_side X w (-1)) qq.1), z_hdM, x)) (fun k x => (∀ a i, a ≠ 8 → x a i = σ4 a i) ∧ ∀ j : Int, 0 ≤ j → j < k → x 8 j = X 7 j) 5 (s := σ4) ⟨fun _ _ _ => rfl, fun j j0 j1 => absurd j1 (by omega)⟩
      (fun k x hk ⟨ho, hz⟩ => by
        have e9 : x 49 k = X 7 k := by rw [ho _ _ (by omega)]; exact f4' k (by omega) (by omega)
        refine ⟨z_upd x 8 k (X 7 k), ?_, fun a j ha => by rw [z_upd_ne (by omega)]; exact ho a j ha, fun j j0 j1 => ?_⟩
        · rw [z_B1267_64]
          simp (disch := omega) only [if_neg, e9, z_ns, z_fdM, z_pdM, z_adM, z_sdM, z_lkM, z_ndM, z_gdM, z_cI_some', z_cV_some', z_w_ok, Int.reduceAdd, Int.reduceSub, Int.reduceMul, Int.reduceNeg, Int.reduceEq, Int.reduceLT, Int.reduceLE, Int.reduceNe, reduceIte, true_and, and_true, false_and, and_false, if_true, if_false, ne_eq, not_true_eq_false, not_false_eq_true]
        · by_cases cj : j = k
          · rw [cj, z_upd_same]
          · rw [z_upd_ne (by omega)]; exact hz j j0 (by omega)) (fun x _ => by
        rw [z_B1267_64]
        simp (disch := omega) only [if_pos, z_fdM, z_pdM, z_adM, z_sdM, z_lkM, z_ndM, z_gdM, z_cI_some', z_cV_some', z_w_ok, Int.reduceAdd, Int.reduceSub, Int.reduceMul, Int.reduceNeg, Int.reduceEq, Int.reduceLT, Int.reduceLE, Int.reduceNe, reduceIte, true_and, and_true, false_and, and_false, if_true, if_false, ne_eq, not_true_eq_false, not_false_eq_true])
    have q6 := q4.keep (σ' := σ6) (t' := X 7) (fun a i h1 _ _ => o6 a i h1) (fun k k0 k1 => t6 k k0 (by omega)) (by rw [o6 _ _ (by omega)]; exact q4.2.2.2.2)
    refine m_does_on hi z_upd_same ?_ q6
    have e6' : z_go (z_ev z_hcM (d + 19)) z_hcM 1267 64 [z_R 1, z_I w, z_I hv, z_I (z_brt (z_Dm X (-1)).op (z_Dm X (-1)).mn (z_Dm X (-1)).gN (X 0 4) (z_side X w (-1)) qq.1), z_I 0] [] z_hdM σ4 = _ := e6
    have e3' : z_go (z_ev z_hcM (d + 19)) z_hcM 1267 32 [z_R 1, z_I w, z_I hv, z_I 0, z_U] [] z_hdM σ2 = some (z_I (hv - z_brt (z_Dm X (-1)).op (z_Dm X (-1)).mn (z_Dm X (-1)).gN (X 0 4) (z_side X w (-1)) qq.1), z_hdM, σ6) := by
      refine e3.trans ?_
      rw [z_B1267_32]
      simp (disch := omega) only [if_pos, e4, z_fdM, z_pdM, z_adM, z_sdM, z_lkM, z_ndM, z_gdM, z_cI_some', z_cV_some', z_w_ok, Int.reduceAdd, Int.reduceSub, Int.reduceMul, Int.reduceNeg, Int.reduceEq, Int.reduceLT, Int.reduceLE, Int.reduceNe, reduceIte, true_and, and_true, false_and, and_false, if_true, if_false, ne_eq, not_true_eq_false, not_false_eq_true]
      exact e6'
    simp (disch := omega) only [z_E1267, k, if_pos, e1, l3, e2, e3', z_fdM, z_pdM, z_adM, z_sdM, z_lkM, z_ndM, z_gdM, z_cI_some', z_cV_some', z_w_ok, Int.reduceAdd, Int.reduceSub, Int.reduceMul, Int.reduceNeg, Int.reduceEq, Int.reduceLT, Int.reduceLE, Int.reduceNe, reduceIte, true_and, and_true, false_and, and_false, if_true, if_false, ne_eq, not_true_eq_false, not_false_eq_true]
  · rw [if_neg c] at k ⊢
    refine ⟨_, ?_, hi, z_upd_same⟩
    simp (disch := omega) only [z_E1267, k, z_fdM, z_pdM, z_adM, z_sdM, z_lkM, z_ndM, z_gdM, z_cI_some', z_cV_some', z_w_ok, Int.reduceAdd, Int.reduceSub, Int.reduceMul, Int.reduceNeg, Int.reduceEq, Int.reduceLT, Int.reduceLE, Int.reduceNe, reduceIte, true_and, and_true, false_and, and_false, if_true, if_false, ne_eq, not_true_eq_false, not_false_eq_true]
theorem z_bt_p2 : ∀ k : Nat, k < 5 → ∀ j : Nat, j < 5 → z_bt ((2 ^ k : Nat) : Int) j = decide (j = k) := by decide
theorem z_pow_32 {k : Int} (h0 : 0 ≤ k) (h1 : k < 5) : 0 ≤ ((2 ^ k.toNat : Nat) : Int) ∧ ((2 ^ k.toNat : Nat) : Int) < 32 := by
  have : 2 ^ k.toNat ≤ 2 ^ 4 := Nat.pow_le_pow_right (by omega) (by omega)
  generalize 2 ^ k.toNat = p at *
  omega
theorem z_slr_pos (hw : z_wf X) {r : Int} (h : 0 ≤ z_slr X r) : (0 ≤ r ∧ r < X 0 0) ∧ z_slr X r = z_slt X r ∧ z_slr X r < X 0 1 ∧ X 6 (z_slr X r) = r ∧ (X 5 r = 0 ∨ X 5 r = 1) ∧ ∀ w, w = X 5 r → z_bt (z_side X w (-1)) (z_slr X r) = true := by
  have hr : 0 ≤ r ∧ r < X 0 0 := by
    unfold z_slr at h
    split at h
    · next c => exact c
    · omega
  have e : z_slr X r = z_slt X r := if_pos hr
  rw [e] at h ⊢
  rcases z_slt_some hw r with ⟨e1, -⟩ | ⟨e1, e2, e3, -⟩
  · omega
  · have ht := hw.2.2.2.2.2.2.2.2.1 _ e1 e2
    have hho := (hw.2.2.2.2.2.2.2.1 r hr.1 hr.2).2.2.2.2.2
    rw [e3] at ht
    refine ⟨hr, rfl, e2, e3, by omega, fun w hw' => ?_⟩
    exact (z_side_bt hw e1).mpr ⟨e2, by rw [e3]; exact hw'.symm, by rw [e3]; omega⟩
theorem M_last (h : m_inv σ X) (d : Nat) (r : Int) : m_does (z_ev z_hcM (d + 20) 1285 [z_R 1, z_I r] z_hdM σ) (s_last X r) := by
  have hi := m_inv_thr h
  have hcp := h.cp
  have kp := m_placeOf (d + 16) h.1 hi.2.1 r
  have hsr := z_slr_rng h.1 r
  have hR := h.1.1
  unfold s_last
  by_cases c : 0 ≤ z_slr X r
  · obtain ⟨hr, es, hlt, e6, hho, hb⟩ := z_slr_pos h.1 c
    have e5 : (z_upd σ 1 26 0) 6 r = X 5 r := (hi.2.1.2.1 r hr.1 hr.2).2.2.2.2
    have k := m_canSet (d + 17) h.1 hi.2.1 (X 5 r)
    by_cases c2 : z_seek X (X 5 r) = true
    · rw [if_pos ⟨c, c2⟩]
      rw [if_pos c2] at k
      obtain ⟨σ1, e1, q1⟩ := m_gat0 hi (d + 14)
      have l3 := q1.capv hi
      have e51 : σ1 6 r = X 5 r := ((q1.land hi).2.1 r hr.1 hr.2).2.2.2.2
      obtain ⟨σ2, e2, o2, q2, f2, -⟩ := q1.best hi (d + 13) (w := X 5 r) (cp := X 0 3) hho h.tc ⟨hcp.1, Int.le_refl _⟩
      have l32 := q2.capv hi
      have e52 : σ2 6 r = X 5 r := ((q2.land hi).2.1 r hr.1 hr.2).2.2.2.2
      have hp := z_pow_32 c (by omega)
      have hsh := z_shl1 c (by omega)
      obtain ⟨σ3, e3, o3, q3, f3, -⟩ := q2.bestF hi (d + 13) (w := X 5 r) (free := ((2 ^ (z_slr X r).toNat : Nat) : Int)) hho h.tc hp (fun k k0 k1 hk => by
        have := z_bt_p2 (z_slr X r).toNat (by omega) k.toNat (by omega)
        rw [Int.toNat_of_nonneg k0, hk] at this
        have e : k.toNat = (z_slr X r).toNat := by simpa using this.symm
        have e' : k = z_slr X r := by omega
        rw [e']
        exact hb _ rfl)
      have hti : ∀ u, z_tcap (X 0 3) u → ∀ i mv, c_t20 (z_ti mv (X 0 3) u i) := fun u hu i mv => z_tcap_20 hcp.2 (z_ti_cap (Int.le_refl _) hcp.1 hu i)
      have v1 : 0 ≤ z_hv (z_Dm X (-1)) (X 0 4) (z_Dm X (-1)).mn (z_side X (X 5 r) (-1)) (z_side X (X 5 r) (-1)) (X 0 3) (X 7) ∧ z_hv (z_Dm X (-1)) (X 0 4) (z_Dm X (-1)).mn (z_side X (X 5 r) (-1)) (z_side X (X 5 r) (-1)) (X 0 3) (X 7) ≤ 480000000 := q1.brt hi (hti _ h.tc _ _) (X 0 4) _
      have v2 : 0 ≤ z_xv (z_Dm X (-1)) (X 0 4) (z_Dm X (-1)).mn (z_side X (X 5 r) (-1)) (X 0 3) (X 7) ((2 ^ (z_slr X r).toNat : Nat) : Int) ∧ z_xv (z_Dm X (-1)) (X 0 4) (z_Dm X (-1)).mn (z_side X (X 5 r) (-1)) (X 0 3) (X 7) ((2 ^ (z_slr X r).toNat : Nat) : Int) ≤ 480000000 := q1.brt hi (hti _ (z_t0_cap hcp.1 h.tc) _ _) (X 0 4) _
      refine m_does_on hi z_upd_same ?_ q3
      simp (disch := omega) only [z_E1285, kp, if_neg, if_pos, e5, k, e1, e51, l3, e2, e52, l32, hsh, e3, z_fdM, z_pdM, z_adM, z_sdM, z_lkM, z_ndM, z_gdM, z_cI_some', z_cV_some', z_w_ok, Int.reduceAdd, Int.reduceSub, Int.reduceMul, Int.reduceNeg, Int.reduceEq, Int.reduceLT, Int.reduceLE, Int.reduceNe, reduceIte, true_and, and_true, false_and, and_false, if_true, if_false, ne_eq, not_true_eq_false, not_false_eq_true]
    · rw [if_neg (fun z => c2 z.2)]
      rw [if_neg c2] at k
      refine ⟨_, ?_, hi, z_upd_same⟩
      simp (disch := omega) only [z_E1285, kp, if_neg, if_pos, e5, k, z_fdM, z_pdM, z_adM, z_sdM, z_lkM, z_ndM, z_gdM, z_cI_some', z_cV_some', z_w_ok, Int.reduceAdd, Int.reduceSub, Int.reduceMul, Int.reduceNeg, Int.reduceEq, Int.reduceLT, Int.reduceLE, Int.reduceNe, reduceIte, true_and, and_true, false_and, and_false, if_true, if_false, ne_eq, not_true_eq_false, not_false_eq_true]
  · rw [if_neg (fun z => c z.1)]
    have e : z_slr X r = -1 := by omega
    rw [e] at kp
    refine ⟨_, ?_, hi, z_upd_same⟩
    rw [z_E1285, z_pdM, z_fdM, kp, z_cI_some', if_pos rfl]
end
