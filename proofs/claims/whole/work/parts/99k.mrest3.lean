/-! The reference: rests told. -/
section
variable {σ0 σ σ' σ'' X : z_S} {D : z_D} {nw : Int → Bool} {t t' T : Int → Int} {l : List Int}
theorem m_land_ofr (o : m_ofr σ0 σ) (h : m_land σ0 X) : m_land σ X := by
  have e : ∀ a i : Int, a ≠ 8 → a ≠ 20 → (a < 35 ∨ 57 < a) → (a ≠ 1 ∨ i < 25) → σ a i = σ0 a i := fun a i h1 h2 h3 h4 => o a i h1 h2 h3 (by omega)
  obtain ⟨⟨l1, l2, l3, l4⟩, l5, l6, l7⟩ := h
  refine ⟨⟨by rw [e _ _ (by omega) (by omega) (by omega) (by omega)]; exact l1, by rw [e _ _ (by omega) (by omega) (by omega) (by omega)]; exact l2, by rw [e _ _ (by omega) (by omega) (by omega) (by omega)]; exact l3, by rw [e _ _ (by omega) (by omega) (by omega) (by omega)]; exact l4⟩, fun r r0 r1 => ?_, fun k k0 k1 => by rw [e _ _ (by omega) (by omega) (by omega) (by omega)]; exact l6 k k0 k1, fun j j0 j1 => ?_⟩
  · rw [e 2 _ (by omega) (by omega) (by omega) (by omega), e 3 _ (by omega) (by omega) (by omega) (by omega), e 4 _ (by omega) (by omega) (by omega) (by omega), e 5 _ (by omega) (by omega) (by omega) (by omega), e 6 _ (by omega) (by omega) (by omega) (by omega)]
    exact l5 r r0 r1
  · rw [e 9 _ (by omega) (by omega) (by omega) (by omega), e 10 _ (by omega) (by omega) (by omega) (by omega), e 11 _ (by omega) (by omega) (by omega) (by omega), e 12 _ (by omega) (by omega) (by omega) (by omega), e 13 _ (by omega) (by omega) (by omega) (by omega), e 14 _ (by omega) (by omega) (by omega) (by omega), e 15 _ (by omega) (by omega) (by omega) (by omega), e 16 _ (by omega) (by omega) (by omega) (by omega), e 17 _ (by omega) (by omega) (by omega) (by omega)]
    exact l7 j j0 j1
theorem z_mxp_congr {p p' A A' : Nat → Int} {q q' : Int} : ∀ {n : Nat}, (∀ j, j < n → (p j = q ↔ p' j = q') ∧ A j = A' j) → z_mxp p A q n = z_mxp p' A' q' n
  | 0, _ => rfl
  | n + 1, h => by
    have ih := z_mxp_congr (p := p) (p' := p') (A := A) (A' := A') (q := q) (q' := q') (n := n) (fun j hj => h j (by omega))
    obtain ⟨h1, h2⟩ := h n (by omega)
    unfold z_mxp
    rw [ih, h2]
    by_cases c : p n = q ∧ z_mxp p' A' q' n < A' n
    · rw [if_pos c, if_pos ⟨h1.mp c.1, c.2⟩]
    · rw [if_neg c, if_neg (fun z => c ⟨h1.mpr z.1, z.2⟩)]
theorem z_RS_iff (h : m_inv σ X) (i : Nat) : z_RS X i = true ↔ (z_rBr X 0 i = z_rMx X 0 (z_rPl X 0 i) (z_tot (z_all X) (X 0 3)) ∧ z_rBr X 1 i = z_rMx X 1 (z_rPl X 1 i) (z_tot (z_all X) (X 0 3))) := by
  have hq := z_QA h.1
  have hti := fun i => z_ti_cap (mv := z_all X) (Int.le_refl (X 0 3)) h.cp.1 h.tc i
  have e0 : z_mxp (z_Pi X (-1) 1) (z_Ri X (-1) (z_Dm X (-1)) (X 0 4) (z_Dm X (-1)).mn 0) (z_Pi X (-1) 1 i) (z_tot (z_or (z_side X 0 (-1)) (z_side X 1 (-1))) (X 0 3)) = z_rMx X 0 (z_rPl X 0 i) (z_tot (z_all X) (X 0 3)) := by
    rw [hq]
    refine z_mxp_congr (fun j _ => ⟨?_, ?_⟩)
    · unfold z_Pi z_rPl
      rw [hq]
      exact (z_num_iff h.1 (Or.inl ⟨rfl, rfl⟩) (hti j) (hti i)).symm
    · unfold z_Ri z_rBr
      rw [hq]
  have e1 : z_mxp (z_Pi X (-1) 0) (z_Ri X (-1) (z_Dm X (-1)) (X 0 4) (z_Dm X (-1)).mn 1) (z_Pi X (-1) 0 i) (z_tot (z_or (z_side X 0 (-1)) (z_side X 1 (-1))) (X 0 3)) = z_rMx X 1 (z_rPl X 1 i) (z_tot (z_all X) (X 0 3)) := by
    rw [hq]
    refine z_mxp_congr (fun j _ => ⟨?_, ?_⟩)
    · unfold z_Pi z_rPl
      rw [hq]
      exact (z_num_iff h.1 (Or.inr ⟨rfl, rfl⟩) (hti j) (hti i)).symm
    · unfold z_Ri z_rBr
      rw [hq]
  have r0 : z_Ri X (-1) (z_Dm X (-1)) (X 0 4) (z_Dm X (-1)).mn 0 i = z_rBr X 0 i := by unfold z_Ri z_rBr; rw [hq]
  have r1 : z_Ri X (-1) (z_Dm X (-1)) (X 0 4) (z_Dm X (-1)).mn 1 i = z_rBr X 1 i := by unfold z_Ri z_rBr; rw [hq]
  unfold z_RS z_rest
  rw [e0, e1, r0, r1, Bool.and_eq_true, decide_eq_true_eq, decide_eq_true_eq]
  exact ⟨fun z => ⟨z.1.symm, z.2.symm⟩, fun z => ⟨z.1.symm, z.2.symm⟩⟩
/-- the row of the f-th set -/
noncomputable def z_rRow (X : z_S) (f : Nat) : List Int := z_tl (z_all X) (z_ti (z_all X) (X 0 3) (X 7) f) 5 ++ [z_rBr X 0 f, z_rBr X 1 f]
theorem z_rRow_len (f : Nat) : (z_rRow X f).length ≤ 24 := by
  have := z_tl_len (m := z_all X) (t := z_ti (z_all X) (X 0 3) (X 7) f) 5
  unfold z_rRow
  rw [List.length_append]
  show _ + 2 ≤ 24
  omega
/-- when i sets were gone through again -/
def m_r2 (σ0 x X : z_S) (i : Nat) : Prop := m_ofr σ0 x ∧ m_t x (z_ti (z_all X) (X 0 3) (X 7) i) ∧ x 40 0 = 0 ∧ m_pls x (z_all X) (X 0 1) ∧ (∀ k, 0 ≤ k → k < 5 → x 44 k = X 7 k) ∧ (∀ j : Nat, j < z_tot (z_all X) (X 0 3) → x 51 j = z_rBr X 0 j ∧ x 52 j = z_rBr X 1 j) ∧ (∀ q : Int, 0 ≤ q → q < (z_tot (z_all X) (X 0 3) : Int) → x 53 q = z_rMx X 0 q (z_tot (z_all X) (X 0 3)) ∧ x 54 q = z_rMx X 1 q (z_tot (z_all X) (X 0 3))) ∧ m_rw x (if z_ct (z_RS X) i ≤ 0 then [] else z_rRow X (z_ff (z_RS X) i))
theorem m_r2s (h : m_inv σ0 X) (d : Nat) {x : z_S} {i : Nat} (hi : i < z_tot (z_all X) (X 0 3)) (hT : (z_tot (z_all X) (X 0 3) : Int) ≤ 2000) (q : m_r2 σ0 x X i) (all : Int) :
    ∃ x', m_r2 σ0 x' X (i + 1) ∧ (i + 1 ≠ z_tot (z_all X) (X 0 3) → z_go (z_ev z_hcM (d + 19)) z_hcM 1273 200 [z_R 1, z_L all, z_U, z_I i, z_I (z_ct (z_RS X) i)] [] z_hdM x = z_go (z_ev z_hcM (d + 19)) z_hcM 1273 200 [z_R 1, z_L all, z_U, z_I ((i : Int) + 1), z_I (z_ct (z_RS X) (i + 1))] [] z_hdM x') ∧
      (i + 1 = z_tot (z_all X) (X 0 3) → z_go (z_ev z_hcM (d + 19)) z_hcM 1273 200 [z_R 1, z_L all, z_U, z_I i, z_I (z_ct (z_RS X) i)] [] z_hdM x = z_cV (z_ev z_hcM (d + 19) 1248 [z_R 1] z_hdM x') (fun h4 s5 => some (z_I (z_ct (z_RS X) (i + 1)), h4, s5))) := by
  obtain ⟨qo, qt, qz, qp, qk, q5, qm, qr⟩ := q
  have hcp := h.cp
  have hti := z_ti_cap (mv := z_all X) (Int.le_refl (X 0 3)) hcp.1 h.tc i
  have hl := m_land_ofr qo h.2.1
  have hct := z_ct_rng (P := z_RS X) (n := i)
  have hn0 : 0 ≤ z_rPl X 0 i ∧ z_rPl X 0 i < _ := z_num_rng h.1 0 hti
  have hn1 : 0 ≤ z_rPl X 1 i ∧ z_rPl X 1 i < _ := z_num_rng h.1 1 hti
  have num0 := m_numOf (d + 18) h.1 hl (w := 0) (Or.inl rfl) qt hti
  have num1 := m_numOf (d + 18) h.1 hl (w := 1) (Or.inr rfl) qt hti
  obtain ⟨b1, b2, b3⟩ := m_200b (d + 19) (x := x) (all := all) (at' := (i : Int)) (n0 := z_rPl X 0 i) (n1 := z_rPl X 1 i) (n := z_ct (z_RS X) i) (by omega) (by omega) (by omega) (by omega) num0 num1 (q5 i hi).1 (q5 i hi).2 (qm _ hn0.1 hn0.2).1 (qm _ hn1.1 hn1.2).2
  have hs : z_ct (z_RS X) (i + 1) = z_ct (z_RS X) i + if z_RS X i = true then 1 else 0 := rfl
  have hf : z_ff (z_RS X) (i + 1) = if 0 < z_ct (z_RS X) i then z_ff (z_RS X) i else i := rfl
  have hiff := z_RS_iff h i
  -- what comes before next
  have pre : ∃ y, z_go (z_ev z_hcM (d + 19)) z_hcM 1273 200 [z_R 1, z_L all, z_U, z_I i, z_I (z_ct (z_RS X) i)] [] z_hdM x = z_go (z_ev z_hcM (d + 19)) z_hcM 1273 275 [z_R 1, z_L all, z_U, z_I i, z_I (z_ct (z_RS X) (i + 1))] [] z_hdM y ∧ m_ro x y ∧ m_rw y (if z_ct (z_RS X) (i + 1) ≤ 0 then [] else z_rRow X (z_ff (z_RS X) (i + 1))) := by
    by_cases c : z_RS X i = true
    · have cc := hiff.mp c
      rw [hs, if_pos c]
      by_cases c0 : z_ct (z_RS X) i = 0
      · rw [c0, if_pos (Int.le_refl 0)] at qr
        obtain ⟨y1, f1, r1, p1⟩ := m_tellTolls (w := -1) (m := z_all X) (t := z_ti (z_all X) (X 0 3) (X 7) i) h.1 hl qr (by simp) (d + 17) (Or.inl rfl) qt (Or.inl ⟨rfl, rfl⟩)
        have hl5 := z_tl_len (m := z_all X) (t := z_ti (z_all X) (X 0 3) (X 7) i) 5
        obtain ⟨y2, f2, r2, p2⟩ := m_tell1 r1 (by rw [List.nil_append]; omega) (d + 18) (z_rBr X 0 i)
        obtain ⟨y3, f3, r3, p3⟩ := m_tell1 r2 (by rw [List.nil_append, List.length_append]; show _ + 1 < 32; omega) (d + 18) (z_rBr X 1 i)
        have hb := b3 y1 y2 y3 cc c0 f1 (by rw [p1 _ _ (by omega) (by omega)]; exact (q5 i hi).1) f2 (by rw [p2 _ _ (by omega) (by omega), p1 _ _ (by omega) (by omega)]; exact (q5 i hi).2) f3
        refine ⟨y3, ?_, m_ro_trans p1 (m_ro_trans p2 p3), ?_⟩
        · rw [hb, c0]; rfl
        · rw [hf, c0, if_neg (show ¬ (0 : Int) < 0 by omega), if_neg (show ¬ (0 : Int) + 1 ≤ 0 by omega)]
          rw [List.nil_append, List.append_assoc] at r3
          exact r3
      · have hb := b2 cc c0
        refine ⟨x, hb, m_ro_refl, ?_⟩
        rw [hf, if_pos (show 0 < z_ct (z_RS X) i by omega), if_neg (show ¬ z_ct (z_RS X) i + 1 ≤ 0 by omega)]
        rw [if_neg (show ¬ z_ct (z_RS X) i ≤ 0 by omega)] at qr
        exact qr
    · have hb := b1 (by
        by_cases e : z_rBr X 0 i = z_rMx X 0 (z_rPl X 0 i) (z_tot (z_all X) (X 0 3))
        · exact Or.inr (fun e2 => c (hiff.mpr ⟨e, e2⟩))
        · exact Or.inl e)
      rw [hs, if_neg c, Int.add_zero]
      refine ⟨x, hb, m_ro_refl, ?_⟩
      by_cases c0 : z_ct (z_RS X) i ≤ 0
      · rw [if_pos c0] at qr ⊢
        exact qr
      · rw [if_neg c0] at qr ⊢
        rw [hf, if_pos (by omega)]
        exact qr
  obtain ⟨y, e1, o1, r1⟩ := pre
  have ly := m_land_ro o1 hl
  have hP := z_pow_n h.1
  have hal := m_all_lt h.1
  obtain ⟨x', e2, o2, t2⟩ := m_next (σ := y) (t := z_ti (z_all X) (X 0 3) (X 7) i) (cp := (X 0 3)) (d + 18) h.1.2.1 hal.2 (fun k k0 k1 => by rw [o1 _ _ (by omega) (by omega)]; exact qt k k0 k1) (z_tcap_20 hcp.2 hti) (m_pls_tr (o1 _ _ (by omega) (by omega)) (fun j => o1 _ _ (by omega) (by omega)) qp) (z_ti_dgc hcp.1 i)
  have hov := z_ov_ti (T := X 7) (mv := z_all X) (cp := (X 0 3)) ⟨hal.1, by omega⟩ hcp.1 hi
  have l3 := ly.1.2.2.1
  have kU : z_kill z_U = z_U := rfl
  have fr : ∀ a j, a ≠ 8 → a ≠ 20 → (a ≠ 1 ∨ j ≠ 25) → x' a j = x a j := fun a j h1 h2 h3 => by rw [o2 a j h1, o1 a j h2 h3]
  refine ⟨x', ⟨fun a j h1 h2 h3 h4 => by rw [fr a j h1 h2 (by omega)]; exact qo a j h1 h2 h3 h4, t2, by rw [fr _ _ (by omega) (by omega) (by omega)]; exact qz, m_pls_tr (fr _ _ (by omega) (by omega) (by omega)) (fun j => fr _ _ (by omega) (by omega) (by omega)) qp, fun k k0 k1 => by rw [fr _ _ (by omega) (by omega) (by omega)]; exact qk k k0 k1, fun j hj => by rw [fr _ _ (by omega) (by omega) (by omega), fr _ _ (by omega) (by omega) (by omega)]; exact q5 j hj, fun q q0 q1 => by rw [fr _ _ (by omega) (by omega) (by omega), fr _ _ (by omega) (by omega) (by omega)]; exact qm q q0 q1, ⟨by rw [o2 _ _ (by omega)]; exact r1.1, fun j hj => by rw [o2 _ _ (by omega)]; exact r1.2 j hj⟩⟩, fun hne => ?_, fun heq => ?_⟩
  · rw [if_neg (fun z => hne (hov.mp z))] at e2
    rw [e1, z_B1273_275]
    simp (disch := omega) only [l3, e2, kU, z_fdM, z_pdM, z_adM, z_sdM, z_lkM, z_ndM, z_gdM, z_cI_some', z_cV_some', z_w_ok, Int.reduceAdd, Int.reduceSub, Int.reduceMul, Int.reduceNeg, Int.reduceEq, Int.reduceLT, Int.reduceLE, Int.reduceNe, reduceIte, true_and, and_true, false_and, and_false, if_true, if_false, ne_eq, not_true_eq_false, not_false_eq_true]
  · rw [if_pos (hov.mpr heq)] at e2
    rw [e1, z_B1273_275]
    simp (disch := omega) only [l3, e2, kU, z_fdM, z_pdM, z_adM, z_sdM, z_lkM, z_ndM, z_gdM, z_cI_some', z_cV_some', z_w_ok, Int.reduceAdd, Int.reduceSub, Int.reduceMul, Int.reduceNeg, Int.reduceEq, Int.reduceLT, Int.reduceLE, Int.reduceNe, reduceIte, true_and, and_true, false_and, and_false, if_true, if_false, ne_eq, not_true_eq_false, not_false_eq_true]
theorem M_rests (h : m_inv σ X) (d : Nat) : m_does (z_ev z_hcM (d + 20) 1273 [z_R 1] z_hdM σ) (s_rests X) := by
  have hi := m_inv_thr h
  have hcp := h.cp
  have hn := h.1.2.1
  have l2 := hi.2.1.1.2.1
  have l3 := hi.2.1.1.2.2.1
  have htot := z_all_tot h.1
  have kU : z_kill z_U = z_U := rfl
  -- how many
  have cnt : z_ev z_hcM (d + 20) 1273 [z_R 1] z_hdM σ = z_go (z_ev z_hcM (d + 19)) z_hcM 1273 9 [z_R 1, z_L (((X 0 3) + 1) ^ (X 0 1).toNat), z_U, z_I (X 0 1), z_U] [] z_hdM (z_upd σ 1 26 0) := by
    have hl := z_forv (S := Unit) (fun k _ => z_go (z_ev z_hcM (d + 19)) z_hcM 1273 9 [z_R 1, z_L (((X 0 3) + 1) ^ k), z_U, z_I k, z_U] [] z_hdM (z_upd σ 1 26 0)) (z_go (z_ev z_hcM (d + 19)) z_hcM 1273 9 [z_R 1, z_L (((X 0 3) + 1) ^ (X 0 1).toNat), z_U, z_I (X 0 1), z_U] [] z_hdM (z_upd σ 1 26 0)) (X 0 1).toNat () (fun k _ hk => ⟨(), by
      have hp := z_pow21 (b := (X 0 3) + 1) (by omega) (by omega) (n := k) (by omega)
      have hm := z_mul_rng hp.1 hp.2 (show 0 ≤ (X 0 3) + 1 by omega) (show (X 0 3) + 1 ≤ 21 by omega)
      rw [Int.pow_succ, z_ns, z_B1273_9]
      generalize ((X 0 3) + 1) ^ k = P at *
      simp (disch := omega) only [if_neg, l2, l3, z_wl_ok, z_fdM, z_pdM, z_adM, z_sdM, z_lkM, z_ndM, z_gdM, z_cI_some', z_cV_some', z_w_ok, Int.reduceAdd, Int.reduceSub, Int.reduceMul, Int.reduceNeg, Int.reduceEq, Int.reduceLT, Int.reduceLE, Int.reduceNe, reduceIte, true_and, and_true, false_and, and_false, if_true, if_false, ne_eq, not_true_eq_false, not_false_eq_true]⟩) (fun _ => by rw [Int.toNat_of_nonneg hn.1])
    rw [← hl, show ((X 0 3) + 1) ^ 0 = 1 from Int.pow_zero _]
    simp (disch := omega) only [z_E1273, z_fdM, z_pdM, z_adM, z_sdM, z_lkM, z_ndM, z_gdM, z_cI_some', z_cV_some', z_w_ok, Int.reduceAdd, Int.reduceSub, Int.reduceMul, Int.reduceNeg, Int.reduceEq, Int.reduceLT, Int.reduceLE, Int.reduceNe, reduceIte, true_and, and_true, false_and, and_false, if_true, if_false, ne_eq, not_true_eq_false, not_false_eq_true]
    rfl
  rw [cnt, z_B1273_9, ← htot]
  unfold s_rests
  rw [← htot]
  by_cases c : 2000 < (z_tot (z_all X) (X 0 3) : Int)
  · rw [if_pos c]
    have hc : z_lcmp (z_tot (z_all X) (X 0 3) : Int) 2000 = 1 := if_pos c
    refine ⟨_, ?_, hi, z_upd_same⟩
    rw [hc]
    simp (disch := omega) only [if_neg, if_pos, l2, z_fdM, z_pdM, z_adM, z_sdM, z_lkM, z_ndM, z_gdM, z_cI_some', z_cV_some', z_w_ok, Int.reduceAdd, Int.reduceSub, Int.reduceMul, Int.reduceNeg, Int.reduceEq, Int.reduceLT, Int.reduceLE, Int.reduceNe, reduceIte, true_and, and_true, false_and, and_false, if_true, if_false, ne_eq, not_true_eq_false, not_false_eq_true]
  · rw [if_neg c]
    have hT : (z_tot (z_all X) (X 0 3) : Int) ≤ 2000 := by omega
    have hc : z_lcmp (z_tot (z_all X) (X 0 3) : Int) 2000 ≤ 0 := by unfold z_lcmp; rw [if_neg c]; split <;> omega
    have htp := z_tot_pos (mv := z_all X) hcp.1
    obtain ⟨σ1, e1, q1⟩ := m_gat0 hi (d + 14)
    obtain ⟨σ2, e2, o2, k2⟩ := m_keep (σ := σ1) (d + 18)
    obtain ⟨σ3, e3, o3, f3⟩ := z_for (fun (k : Nat) (x : z_S) => z_go (z_ev z_hcM (d + 19)) z_hcM 1273 53 [z_R 1, z_L (z_tot (z_all X) (X 0 3)), z_U, z_I k, z_U] [] z_hdM x) (fun x => z_cV (z_ev z_hcM (d + 19) 1272 [z_R 1] z_hdM x) (fun h1 s2 => z_go (z_ev z_hcM (d + 19)) z_hcM 1273 86 [z_R 1, z_L (z_tot (z_all X) (X 0 3)), z_U, z_I 0, z_U] [] h1 s2)) (fun k x => (∀ a j, a ≠ 53 → a ≠ 54 → x a j = σ2 a j) ∧ ∀ j : Int, 0 ≤ j → j < (k : Int) → x 53 j = 0 ∧ x 54 j = 0) (z_tot (z_all X) (X 0 3)) (s := σ2) ⟨fun _ _ _ _ => rfl, fun j j0 j1 => absurd j1 (by omega)⟩
      (fun k x hk ⟨xo, xf⟩ => by
        have hc2 : z_lcmp (k : Int) (z_tot (z_all X) (X 0 3) : Int) = -1 := by unfold z_lcmp; rw [if_neg (by omega), if_pos (by omega)]
        refine ⟨z_upd (z_upd x 53 k 0) 54 k 0, ?_, fun a j h1 h2 => by rw [z_upd_ne (by omega), z_upd_ne (by omega)]; exact xo a j h1 h2, fun j j0 j1 => ?_⟩
        · rw [z_B1273_53, hc2]
          simp (disch := omega) only [if_neg, kU, z_ns, z_fdM, z_pdM, z_adM, z_sdM, z_lkM, z_ndM, z_gdM, z_cI_some', z_cV_some', z_w_ok, Int.reduceAdd, Int.reduceSub, Int.reduceMul, Int.reduceNeg, Int.reduceEq, Int.reduceLT, Int.reduceLE, Int.reduceNe, reduceIte, true_and, and_true, false_and, and_false, if_true, if_false, ne_eq, not_true_eq_false, not_false_eq_true]
        · by_cases cj : j = k
          · rw [cj]
            exact ⟨by rw [z_upd_ne (by omega), z_upd_same], z_upd_same⟩
          · rw [z_upd_ne (by omega), z_upd_ne (by omega), z_upd_ne (by omega), z_upd_ne (by omega)]; exact xf j j0 (by omega)) (fun x _ => by
        have hc2 : z_lcmp (z_tot (z_all X) (X 0 3) : Int) (z_tot (z_all X) (X 0 3) : Int) = 0 := by unfold z_lcmp; rw [if_neg (by omega), if_neg (by omega)]
        rw [z_B1273_53, hc2]
        simp (disch := omega) only [if_pos, kU, z_fdM, z_pdM, z_adM, z_sdM, z_lkM, z_ndM, z_gdM, z_cI_some', z_cV_some', z_w_ok, Int.reduceAdd, Int.reduceSub, Int.reduceMul, Int.reduceNeg, Int.reduceEq, Int.reduceLT, Int.reduceLE, Int.reduceNe, reduceIte, true_and, and_true, false_and, and_false, if_true, if_false, ne_eq, not_true_eq_false, not_false_eq_true])
    have o23 : ∀ a j, a ≠ 44 → a ≠ 53 → a ≠ 54 → σ3 a j = σ1 a j := fun a j h1 h2 h3 => by rw [o3 a j h2 h3, o2 a j h1]
    have q3 := q1.keep (σ' := σ3) (t' := X 7) (fun a j _ h2 _ => o23 a j (by omega) (by omega) (by omega)) (fun k k0 k1 => by rw [o23 _ _ (by omega) (by omega) (by omega)]; exact q1.2.2.2.1 k k0 k1) (by rw [o23 _ _ (by omega) (by omega) (by omega)]; exact q1.2.2.2.2)
    obtain ⟨σ4, e4, o4, t4, p4⟩ := m_layAll (d + 18) h.1 (q3.land hi) (fun k k0 k1 => q3.2.2.2.1 k (by omega) k1)
    have q4 := q3.keep (σ' := σ4) (t' := z_ti (z_all X) (X 0 3) (X 7) 0) (fun a j h1 h2 h3 => o4 a j h1 (by omega) (by omega)) t4 (by rw [o4 _ _ (by omega) (by omega) (by omega)]; exact q3.2.2.2.2)
    obtain ⟨u5, σ5, e5, hu5, q5⟩ := z_dow (z_tot (z_all X) (X 0 3)) (fun (n : Int) (s : z_S) => z_go (z_ev z_hcM (d + 19)) z_hcM 1273 86 [z_R 1, z_L (z_tot (z_all X) (X 0 3)), z_U, z_I n, z_U] [] z_hdM s) (fun _ s => z_cV (z_ev z_hcM (d + 19) 1272 [z_R 1] z_hdM s) (fun h28 s29 => z_pf h28 s29 12 1 25 0 (fun s30 => z_go (z_ev z_hcM (d + 19)) z_hcM 1273 200 [z_R 1, z_L (z_tot (z_all X) (X 0 3)), z_U, z_I 0, z_I 0] [] h28 s30))) (fun i n s => n = (i : Int) ∧ m_r1 (z_upd σ 1 26 0) s X i) htp (u := 0) (s := σ4) ⟨rfl, q4, p4, fun k k0 k1 => by rw [o4 _ _ (by omega) (by omega) (by omega), o3 _ _ (by omega) (by omega), k2 k k0 k1]; exact q1.2.2.2.1 k k0 k1, fun j hj => absurd hj (Nat.not_lt_zero j), fun q q0 q1 => by rw [o4 _ _ (by omega) (by omega) (by omega), o4 _ _ (by omega) (by omega) (by omega)]; exact f3 q q0 q1⟩
      (fun i n s hi' ⟨hn', qs⟩ => by
        obtain ⟨x', a1, a2, a3⟩ := m_r1s hi d hi' hT qs z_U (z_tot (z_all X) (X 0 3))
        subst hn'
        exact ⟨(i : Int) + 1, x', ⟨by omega, a1⟩, a2, a3⟩)
    obtain ⟨r1, r2, r3, r4, r5⟩ := q5
    obtain ⟨σ6, e6, o6, t6, p6⟩ := m_layAll (d + 18) h.1 (r1.land hi) (fun k k0 k1 => by
      have hb := z_all_bt h.1 (k := k.toNat) (by omega)
      rw [Int.toNat_of_nonneg (by omega), decide_eq_false (by omega)] at hb
      rw [r1.2.2.2.1 k (by omega) k1, z_ti_keep hb])
    have fr6 : ∀ a j, a ≠ 8 → a ≠ 43 → (a ≠ 1 ∨ (j ≠ 56 ∧ j ≠ 25)) → z_upd σ6 1 25 0 a j = σ5 a j := fun a j h1 h2 h3 => by rw [z_upd_ne (by omega), o6 a j h1 h2 (by omega)]
    have q7 : m_r2 (z_upd σ 1 26 0) (z_upd σ6 1 25 0) X 0 := ⟨fun a j h1 h2 h3 h4 => by rw [fr6 a j h1 (by omega) (by omega)]; exact r1.1 a j h1 h3 (by omega), fun k k0 k1 => by rw [z_upd_ne (by omega)]; exact t6 k k0 k1, by rw [fr6 _ _ (by omega) (by omega) (by omega)]; exact r1.2.2.2.2, m_pls_tr (z_upd_ne (by omega)) (fun j => z_upd_ne (by omega)) p6, fun k k0 k1 => by rw [fr6 _ _ (by omega) (by omega) (by omega)]; exact r3 k k0 k1, fun j hj => by rw [fr6 _ _ (by omega) (by omega) (by omega), fr6 _ _ (by omega) (by omega) (by omega)]; exact r4 j hj, fun q q0 q1 => by rw [fr6 _ _ (by omega) (by omega) (by omega), fr6 _ _ (by omega) (by omega) (by omega)]; exact r5 q q0 q1, m_rw0⟩
    obtain ⟨u8, σ8, e8, hu8, q8⟩ := z_dow (z_tot (z_all X) (X 0 3)) (fun (n : Int × Int) (s : z_S) => z_go (z_ev z_hcM (d + 19)) z_hcM 1273 200 [z_R 1, z_L (z_tot (z_all X) (X 0 3)), z_U, z_I n.1, z_I n.2] [] z_hdM s) (fun n s => z_cV (z_ev z_hcM (d + 19) 1248 [z_R 1] z_hdM s) (fun h4 s5 => some (z_I n.2, h4, s5))) (fun i n s => n = ((i : Int), z_ct (z_RS X) i) ∧ m_r2 (z_upd σ 1 26 0) s X i) htp (u := (0, 0)) (s := z_upd σ6 1 25 0) ⟨rfl, q7⟩
      (fun i n s hi' ⟨hn', qs⟩ => by
        obtain ⟨x', a1, a2, a3⟩ := m_r2s hi d hi' hT qs (z_tot (z_all X) (X 0 3))
        subst hn'
        exact ⟨(((i + 1 : Nat) : Int), z_ct (z_RS X) (i + 1)), x', ⟨rfl, a1⟩, fun hne => by rw [z_ns]; exact a2 hne, a3⟩)
    obtain ⟨w1, w2, w3, w4, w5, w6, w7, w8⟩ := q8
    obtain ⟨σ9, e9, o9, t9⟩ := m_putBack (σ := σ8) (t := X 7) (d + 18) w5
    have hq := z_QA h.1
    have hRN : z_RN X = z_tot (z_all X) (X 0 3) := by unfold z_RN; rw [hq]
    have hRT : z_RT X = z_ti (z_all X) (X 0 3) (X 7) (z_ff (z_RS X) (z_tot (z_all X) (X 0 3))) := by unfold z_RT; rw [hq, hRN]
    rw [hRN, hRT]
    have hrow : (if z_ct (z_RS X) (z_tot (z_all X) (X 0 3)) ≤ 0 then [] else z_rRow X (z_ff (z_RS X) (z_tot (z_all X) (X 0 3)))).length ≤ 24 := by
      split
      · simp
      · exact z_rRow_len _
    refine m_does_row hi z_upd_same ?_ (fun a j h1 h2 h3 h4 => by rw [o9 a j h1]; exact w1 a j h1 h2 h3 h4) t9 (by rw [o9 _ _ (by omega)]; exact w3) (l := if z_ct (z_RS X) (z_tot (z_all X) (X 0 3)) ≤ 0 then [] else z_rRow X (z_ff (z_RS X) (z_tot (z_all X) (X 0 3)))) ⟨by rw [o9 _ _ (by omega)]; exact w8.1, fun j hj => by rw [o9 _ _ (by omega)]; exact w8.2 j hj⟩ hrow
    have g8 : z_go (z_ev z_hcM (d + 19)) z_hcM 1273 200 [z_R 1, z_L (z_tot (z_all X) (X 0 3)), z_U, z_I 0, z_I 0] [] z_hdM (z_upd σ6 1 25 0) = some (z_I (z_ct (z_RS X) (z_tot (z_all X) (X 0 3))), z_hdM, σ9) := by
      refine e8.trans ?_
      rw [hu8]
      simp (disch := omega) only [e9, z_fdM, z_pdM, z_adM, z_sdM, z_lkM, z_ndM, z_gdM, z_cI_some', z_cV_some', z_w_ok, Int.reduceAdd, Int.reduceSub, Int.reduceMul, Int.reduceNeg, Int.reduceEq, Int.reduceLT, Int.reduceLE, Int.reduceNe, reduceIte, true_and, and_true, false_and, and_false, if_true, if_false, ne_eq, not_true_eq_false, not_false_eq_true]
    have g5 : z_go (z_ev z_hcM (d + 19)) z_hcM 1273 86 [z_R 1, z_L (z_tot (z_all X) (X 0 3)), z_U, z_I 0, z_U] [] z_hdM σ4 = some (z_I (z_ct (z_RS X) (z_tot (z_all X) (X 0 3))), z_hdM, σ9) := by
      refine e5.trans ?_
      simp (disch := omega) only [e6, z_fdM, z_pdM, z_adM, z_sdM, z_lkM, z_ndM, z_gdM, z_cI_some', z_cV_some', z_w_ok, Int.reduceAdd, Int.reduceSub, Int.reduceMul, Int.reduceNeg, Int.reduceEq, Int.reduceLT, Int.reduceLE, Int.reduceNe, reduceIte, true_and, and_true, false_and, and_false, if_true, if_false, ne_eq, not_true_eq_false, not_false_eq_true]
      exact g8
    have g3 : z_go (z_ev z_hcM (d + 19)) z_hcM 1273 53 [z_R 1, z_L (z_tot (z_all X) (X 0 3)), z_U, z_I 0, z_U] [] z_hdM σ2 = some (z_I (z_ct (z_RS X) (z_tot (z_all X) (X 0 3))), z_hdM, σ9) := by
      refine e3.trans ?_
      simp (disch := omega) only [e4, z_fdM, z_pdM, z_adM, z_sdM, z_lkM, z_ndM, z_gdM, z_cI_some', z_cV_some', z_w_ok, Int.reduceAdd, Int.reduceSub, Int.reduceMul, Int.reduceNeg, Int.reduceEq, Int.reduceLT, Int.reduceLE, Int.reduceNe, reduceIte, true_and, and_true, false_and, and_false, if_true, if_false, ne_eq, not_true_eq_false, not_false_eq_true]
      exact g5
    simp (disch := omega) only [if_pos, l2, e1, e2, kU, z_fdM, z_pdM, z_adM, z_sdM, z_lkM, z_ndM, z_gdM, z_cI_some', z_cV_some', z_w_ok, Int.reduceAdd, Int.reduceSub, Int.reduceMul, Int.reduceNeg, Int.reduceEq, Int.reduceLT, Int.reduceLE, Int.reduceNe, reduceIte, true_and, and_true, false_and, and_false, if_true, if_false, ne_eq, not_true_eq_false, not_false_eq_true]
    exact g3
end
