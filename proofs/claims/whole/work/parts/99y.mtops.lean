/-! The reference: tell. -/
section
variable {σ σ' X X' : z_S}
theorem m_land_eq (o : ∀ a i : Int, (a = 1 ∧ (i = 5 ∨ i = 8 ∨ i = 9 ∨ i = 20)) ∨ (2 ≤ a ∧ a ≤ 6 ∧ i < X 0 0) ∨ (a = 7 ∧ i < X 0 1) ∨ (9 ≤ a ∧ a ≤ 17 ∧ i < X 0 2) → σ' a i = σ a i) (h : m_land σ X) : m_land σ' X := by
  obtain ⟨⟨l1, l2, l3, l4⟩, l5, l6, l7⟩ := h
  refine ⟨⟨by rw [o _ _ (by omega)]; exact l1, by rw [o _ _ (by omega)]; exact l2, by rw [o _ _ (by omega)]; exact l3, by rw [o _ _ (by omega)]; exact l4⟩, fun r r0 r1 => ?_, fun k k0 k1 => by rw [o _ _ (by omega)]; exact l6 k k0 k1, fun j j0 j1 => ?_⟩
  · rw [o 2 _ (by omega), o 3 _ (by omega), o 4 _ (by omega), o 5 _ (by omega), o 6 _ (by omega)]
    exact l5 r r0 r1
  · rw [o 9 _ (by omega), o 10 _ (by omega), o 11 _ (by omega), o 12 _ (by omega), o 13 _ (by omega), o 14 _ (by omega), o 15 _ (by omega), o 16 _ (by omega), o 17 _ (by omega)]
    exact l7 j j0 j1
theorem m_ways_eq (e : ∀ a i : Int, 32 ≤ a → a ≤ 34 → σ' a i = σ a i) (h : m_ways σ X) : m_ways σ' X := fun j j0 j1 => by
  obtain ⟨y1, y2, y3⟩ := h j j0 j1
  refine ⟨by rw [e _ _ (by omega) (by omega)]; exact y1, y2, fun i hi => ?_⟩
  obtain ⟨w1, w2⟩ := y3 i hi
  exact ⟨by rw [e _ _ (by omega) (by omega)]; exact w1, fun p hp => by rw [e _ _ (by omega) (by omega)]; exact w2 p hp⟩
theorem m_inv_tell (h : m_inv σ X) (hw : z_wf X') (hl : m_land σ' X') (hy : m_ways σ' X') (ht : m_t σ' (X' 7)) (o : ∀ a i : Int, a = 18 ∨ a = 20 ∨ (a = 40 ∧ i = 0) ∨ (a = 1 ∧ (i = 10 ∨ i = 25)) → σ' a i = σ a i) (h23 : σ' 1 23 = 0) (x : ∀ a i : Int, 17 ≤ a ∨ (a = 0 ∧ (i = 4 ∨ i = 6)) → X' a i = X a i) (x5 : X' 0 5 = 0) : m_inv σ' X' := by
  obtain ⟨a1, a2, a3, a4, a5, a6, a7, a8, a9, b1, b2⟩ := h
  refine ⟨hw, hl, hy, ht, by rw [o _ _ (by omega)]; exact a5, by rw [o _ _ (by omega), x _ _ (by omega)]; exact a6, fun w w0 w1 => by rw [o _ _ (by omega), x _ _ (by omega)]; exact a7 w w0 w1, by rw [h23, x5], fun i i0 i1 => ?_, by rw [o _ _ (by omega), x _ _ (by omega)]; exact b1, fun i i0 i1 => ?_⟩
  · rw [x5] at i1
    omega
  · rw [x _ _ (by omega)] at i1
    rw [o _ _ (by omega), x _ _ (by omega)]
    exact b2 i i0 i1
theorem M_tell (h : m_inv σ X) (d : Nat) : m_does (z_ev z_hcM (d + 20) 1220 [z_R 1] z_hdM σ) (s_tell X) := by
  obtain ⟨hw, hl, hy, ht, h40, h10, h18, h23, h19, h25, h20⟩ := id h
  have hw1 := z_wf_len hw
  have h5 := hw.2.2.2.2.2.1
  have st : z_ev z_hcM (d + 20) 1220 [z_R 1] z_hdM σ = z_go (z_ev z_hcM (d + 13 + 6)) z_hcM 1220 33 [z_R 1, z_U, z_U, z_U, z_U, z_U, z_U, z_U, z_U] [] z_hdM (z_upd (z_upd (z_upd (z_upd (z_upd (z_upd σ 1 26 0) 1 27 (X 0 5)) 1 23 0) 1 28 0) 1 29 (-1)) 1 41 0) := by
    simp (disch := omega) only [z_E1220, z_upd_ne, h23, z_fdM, z_pdM, z_adM, z_sdM, z_lkM, z_ndM, z_gdM, z_cI_some', z_cV_some', z_w_ok, Int.reduceAdd, Int.reduceSub, Int.reduceMul, Int.reduceNeg, Int.reduceEq, Int.reduceLT, Int.reduceLE, Int.reduceNe, reduceIte, true_and, and_true, false_and, and_false, if_true, if_false, ne_eq, not_true_eq_false, not_false_eq_true]
  have z26 : z_upd (z_upd (z_upd (z_upd (z_upd (z_upd σ 1 26 0) 1 27 (X 0 5)) 1 23 0) 1 28 0) 1 29 (-1)) 1 41 0 1 26 = 0 := by simp (disch := omega) only [z_upd_ne, z_upd_same]
  have z27 : z_upd (z_upd (z_upd (z_upd (z_upd (z_upd σ 1 26 0) 1 27 (X 0 5)) 1 23 0) 1 28 0) 1 29 (-1)) 1 41 0 1 27 = X 0 5 := by simp (disch := omega) only [z_upd_ne, z_upd_same]
  have z23 : z_upd (z_upd (z_upd (z_upd (z_upd (z_upd σ 1 26 0) 1 27 (X 0 5)) 1 23 0) 1 28 0) 1 29 (-1)) 1 41 0 1 23 = 0 := by simp (disch := omega) only [z_upd_ne, z_upd_same]
  have z28 : z_upd (z_upd (z_upd (z_upd (z_upd (z_upd σ 1 26 0) 1 27 (X 0 5)) 1 23 0) 1 28 0) 1 29 (-1)) 1 41 0 1 28 = 0 := by simp (disch := omega) only [z_upd_ne, z_upd_same]
  have z29 : z_upd (z_upd (z_upd (z_upd (z_upd (z_upd σ 1 26 0) 1 27 (X 0 5)) 1 23 0) 1 28 0) 1 29 (-1)) 1 41 0 1 29 = -1 := by simp (disch := omega) only [z_upd_ne, z_upd_same]
  have z41 : z_upd (z_upd (z_upd (z_upd (z_upd (z_upd σ 1 26 0) 1 27 (X 0 5)) 1 23 0) 1 28 0) 1 29 (-1)) 1 41 0 1 41 = 0 := z_upd_same
  have za : ∀ a j : Int, (a ≠ 1 ∨ (j ≤ 22 ∨ j = 24 ∨ j = 25)) → z_upd (z_upd (z_upd (z_upd (z_upd (z_upd σ 1 26 0) 1 27 (X 0 5)) 1 23 0) 1 28 0) 1 29 (-1)) 1 41 0 a j = σ a j := fun a j h => by
    rw [z_upd_ne (by omega), z_upd_ne (by omega), z_upd_ne (by omega), z_upd_ne (by omega), z_upd_ne (by omega), z_upd_ne (by omega)]
  rw [st]
  clear st
  generalize z_upd (z_upd (z_upd (z_upd (z_upd (z_upd σ 1 26 0) 1 27 (X 0 5)) 1 23 0) 1 28 0) 1 29 (-1)) 1 41 0 = σ0 at *
  have hrt : m_rt σ0 X := ⟨z27, fun i i0 i1 => by rw [za _ _ (by omega)]; exact h19 i i0 i1, h5, fun i i0 i1 => hw.2.2.2.2.2.2.2.2.2.2.2.2.2.2.2 i i0 i1⟩
  obtain ⟨σ1, e1, f1, p1⟩ := m_text (u1 := z_U) (u2 := z_U) (u3 := z_U) (u4 := z_U) (u5 := z_U) (u6 := z_U) (u7 := z_U) (u8 := z_U) (d + 13) 61 (p := 0) (i := 0) hrt (by omega) (by omega) (by omega) (by omega) z28 z29 z41
  rw [e1]
  clear e1
  have s1 : ∀ a j : Int, (a < 21 ∨ 31 < a) → (a ≠ 1 ∨ (j ≤ 22 ∨ j = 24 ∨ j = 25)) → σ1 a j = σ a j := fun a j h1 h2 => by rw [f1 a j (by omega) (by omega), za a j h2]
  have x1 : ∀ a i : Int, (a ≠ 0 ∨ i ≠ 5) → z_upd X 0 5 0 a i = X a i := fun a i h => z_upd_ne (by omega)
  have x15 : z_upd X 0 5 0 0 5 = 0 := z_upd_same
  have xe : z_eqd X (z_upd X 0 5 0) := z_eqd_0 (by omega)
  have l1 : m_land σ1 (z_upd X 0 5 0) := m_land_eqd xe (x1 _ _ (by omega)) (m_land_eq (fun a i h => s1 a i (by omega) (by omega)) hl)
  have t1 : m_t σ1 (z_upd X 0 5 0 7) := fun k k0 k1 => by rw [s1 _ _ (by omega) (by omega), x1 _ _ (by omega)]; exact ht k k0 k1
  have y1 : m_ways σ1 (z_upd X 0 5 0) := m_ways_eqd xe (m_ways_eq (fun a i h1 h2 => s1 a i (by omega) (by omega)) hy)
  have i1 : m_inv σ1 (z_upd X 0 5 0) := m_inv_tell h hw1 l1 y1 t1 (fun a i h => s1 a i (by omega) (by omega)) (by rw [f1 _ _ (by omega) (by omega)]; exact z23) (fun a i h => x1 a i (by omega)) x15
  have k26 : σ1 1 26 = 0 := by rw [f1 _ _ (by omega) (by omega)]; exact z26
  have k23 : σ1 1 23 = 0 := by rw [f1 _ _ (by omega) (by omega)]; exact z23
  unfold s_tell
  cases g : z_pText (z_txt X) (X 0 5) 61 0 with
  | inl w =>
    have hp := z_pText_pos (T := z_txt X) (by omega) g
    have hu := z_pText_ub (X := X) (by omega) g
    rw [g] at p1
    have p1' : σ1 1 29 = w := p1
    have eu := m_unfine (σ := σ1) (d + 18) (by omega)
    refine ⟨σ1, ?_, i1, k26⟩
    rw [z_B1220_79]
    simp (disch := omega) only [eu, p1', z_fdM, z_pdM, z_adM, z_sdM, z_lkM, z_ndM, z_gdM, z_cI_some', z_cV_some', z_w_ok, Int.reduceAdd, Int.reduceSub, Int.reduceMul, Int.reduceNeg, Int.reduceEq, Int.reduceLT, Int.reduceLE, Int.reduceNe, reduceIte, true_and, and_true, false_and, and_false, if_true, if_false, ne_eq, not_true_eq_false, not_false_eq_true]
  | inr l =>
    have hio := z_pText_ok g
    rw [g] at p1
    obtain ⟨q29, q41, its, q60⟩ := p1
    obtain ⟨c0, c1, c2⟩ := z_appl_c (X := z_upd X 0 5 0) hio
    have rg := z_sC_rng (l := l)
    rw [x1 _ _ (by omega)] at c0 c1 c2
    have w0 := hw.1
    have w1 := hw.2.1
    have w2 := hw.2.2.1
    have ef := m_fine (d + 18) q29
    have cnt := m_count (u5 := z_U) (u6 := z_U) (u7 := z_U) (u8 := z_U) (d + 13) (x1 := 0) (x2 := 0) (x3 := 0) (x4 := 0) its q41 (by omega) (by omega) (by omega) (by omega) (by omega)
    rw [Int.zero_add, Int.zero_add, Int.zero_add] at cnt
    obtain ⟨⟨e5, e8, e9, e20⟩, -⟩ := id l1
    rw [x1 _ _ (by omega)] at e5 e8 e20
    rw [z_B1220_79]
    simp (disch := omega) only [ef, z_fdM, z_pdM, z_adM, z_sdM, z_lkM, z_ndM, z_gdM, z_cI_some', z_cV_some', z_w_ok, Int.reduceAdd, Int.reduceSub, Int.reduceMul, Int.reduceNeg, Int.reduceEq, Int.reduceLT, Int.reduceLE, Int.reduceNe, reduceIte, true_and, and_true, false_and, and_false, if_true, if_false, ne_eq, not_true_eq_false, not_false_eq_true]
    rw [cnt, z_B1220_102]
    by_cases b0 : 14 < z_appl (z_upd X 0 5 0) l 0 0
    · rw [if_pos b0]
      refine ⟨σ1, ?_, i1, k26⟩
      simp (disch := omega) only [e5, if_neg, if_pos, z_fdM, z_pdM, z_adM, z_sdM, z_lkM, z_ndM, z_gdM, z_cI_some', z_cV_some', z_w_ok, Int.reduceAdd, Int.reduceSub, Int.reduceMul, Int.reduceNeg, Int.reduceEq, Int.reduceLT, Int.reduceLE, Int.reduceNe, reduceIte, true_and, and_true, false_and, and_false, if_true, if_false, ne_eq, not_true_eq_false, not_false_eq_true]
    · rw [if_neg b0]
      by_cases b1 : 5 < z_appl (z_upd X 0 5 0) l 0 1
      · rw [if_pos b1]
        refine ⟨σ1, ?_, i1, k26⟩
        simp (disch := omega) only [e5, e8, if_neg, if_pos, z_fdM, z_pdM, z_adM, z_sdM, z_lkM, z_ndM, z_gdM, z_cI_some', z_cV_some', z_w_ok, Int.reduceAdd, Int.reduceSub, Int.reduceMul, Int.reduceNeg, Int.reduceEq, Int.reduceLT, Int.reduceLE, Int.reduceNe, reduceIte, true_and, and_true, false_and, and_false, if_true, if_false, ne_eq, not_true_eq_false, not_false_eq_true]
      · rw [if_neg b1]
        by_cases b2 : 8 < z_appl (z_upd X 0 5 0) l 0 2
        · rw [if_pos b2]
          refine ⟨σ1, ?_, i1, k26⟩
          simp (disch := omega) only [e5, e8, e20, if_neg, if_pos, z_fdM, z_pdM, z_adM, z_sdM, z_lkM, z_ndM, z_gdM, z_cI_some', z_cV_some', z_w_ok, Int.reduceAdd, Int.reduceSub, Int.reduceMul, Int.reduceNeg, Int.reduceEq, Int.reduceLT, Int.reduceLE, Int.reduceNe, reduceIte, true_and, and_true, false_and, and_false, if_true, if_false, ne_eq, not_true_eq_false, not_false_eq_true]
        · rw [if_neg b2]
          have hwl : z_wf (z_appl (z_upd X 0 5 0) l) := z_wf_appl hw1 hio (by omega) (by omega) (by omega)
          obtain ⟨m0, m1, m2⟩ := z_nm_s hio
          obtain ⟨n0, n1, n2⟩ := z_appl_c (X := z_upd X 0 5 0) (z_nm_iok hio)
          rw [x1 _ _ (by omega)] at n0 n1 n2
          have hwn : z_wf (z_appl (z_upd X 0 5 0) (z_lnm l)) := z_wf_appl hw1 (z_nm_iok hio) (by omega) (by omega) (by omega)
          have bey : ∀ k, X 0 1 ≤ k → k < 5 → z_upd X 0 5 0 7 k = 0 := fun k k0 k1 => by rw [x1 _ _ (by omega)]; exact hw.2.2.2.2.2.2.2.2.2.2.2.2.1 k k0 k1
          obtain ⟨σ2, e2, l2, t2, f2, y7⟩ := m_addl (x1 := z_sR l) (x2 := z_sT l) (x3 := z_sJ l) (x4 := X 0 0) (x5 := X 0 1) (x6 := X 0 2) (u8 := z_U) (d + 13) its hio q41 (by omega) (by omega) l1 t1 (by rw [x1 _ _ (by omega)]; omega) (by rw [x1 _ _ (by omega)]; omega) (by rw [x1 _ _ (by omega)]; omega) (by rw [x1 _ _ (by omega)]; omega) (by rw [x1 _ _ (by omega)]; omega) (by rw [x1 _ _ (by omega)]; omega) (fun k k0 k1 => bey k (by rw [x1 _ _ (by omega)] at k0; exact k0) k1)
          rw [x1 _ _ (by omega), x1 _ _ (by omega), x1 _ _ (by omega)] at f2
          have r41 : σ2 1 41 = σ1 1 41 := f2 _ _ (by omega)
          obtain ⟨σ3, e3, o3, o38, y3⟩ := m_findWays hwn l2 (d + 9)
          have sp := z_appl_split (Y := z_upd X 0 5 0) hio
          have se := z_ms_eqd (Y := z_appl (z_upd X 0 5 0) (z_lnm l)) hio
          rw [sp] at se
          have fe := z_fit_congr se (-1) (z_appl (z_upd X 0 5 0) l 0 2).toNat
          have ce : z_appl (z_upd X 0 5 0) (z_lnm l) 0 2 = z_appl (z_upd X 0 5 0) l 0 2 := by omega
          rw [ce, ← fe] at e3 y3
          have s3 : ∀ a i : Int, a ≠ 8 → (a < 32 ∨ 35 < a) → (a ≠ 1 ∨ i < 99) → σ3 a i = σ2 a i := fun a i h1 h2 h3 => m_at o3 ⟨h1, h2, h3⟩
          have i41 : 0 ≤ σ1 1 41 := by omega
          simp (disch := omega) only [e5, e8, e20, if_pos, z_fdM, z_pdM, z_adM, z_sdM, z_lkM, z_ndM, z_gdM, z_cI_some', z_cV_some', z_w_ok, Int.reduceAdd, Int.reduceSub, Int.reduceMul, Int.reduceNeg, Int.reduceEq, Int.reduceLT, Int.reduceLE, Int.reduceNe, reduceIte, true_and, and_true, false_and, and_false, if_true, if_false, ne_eq, not_true_eq_false, not_false_eq_true]
          rw [e2, z_B1220_275]
          have le41 : σ2 1 41 ≤ σ1 1 41 := by omega
          by_cases cf : z_fit (z_appl (z_upd X 0 5 0) l) (-1) (z_appl (z_upd X 0 5 0) l 0 2).toNat = true
          · rw [if_pos cf] at e3 ⊢
            have its3 : m_its σ3 0 l := m_its_congr (fun a j h1 h2 => by rw [s3 a j (by omega) (by omega) (by omega), f2 a j (by omega)]) its
            have k41 : σ3 1 41 = σ1 1 41 := by rw [s3 _ _ (by omega) (by omega) (by omega), r41]
            obtain ⟨σ4, e4, l4, t4, f4⟩ := m_capl (x1 := z_sR l) (x2 := z_sT l) (x3 := z_sJ l) (x4 := X 0 0) (x5 := X 0 1) (x6 := X 0 2) (u8 := z_U) (d + 13) its3 hio (by omega) (by omega) (by omega) (m_land_off o3 (by omega) (by omega) l2) (fun k k0 k1 => by rw [o38, t2 k k0 k1, y7 k k0 k1]) (by omega) (by omega) (fun k k0 k1 => by rw [y7 k (by omega) k1]; exact bey k (by omega) k1)
            rw [sp] at l4 t4
            have s4 : ∀ a i : Int, (18 ≤ a ∧ a < 21) ∨ 35 < a ∨ (a = 1 ∧ 9 < i ∧ i ≠ 20 ∧ i < 99) → σ4 a i = σ1 a i := fun a i h => by rw [f4 a i (by omega) (by omega), s3 a i (by omega) (by omega) (by omega), f2 a i (by omega)]
            refine ⟨σ4, ?_, m_inv_tell i1 hwl l4 (m_ways_eq (fun a i h1 h2 => f4 a i (by omega) (by omega)) (m_ways_eqd se (y3 cf))) t4 (fun a i h => s4 a i (by omega)) (by rw [s4 _ _ (by omega)]; exact k23) (fun a i h => z_appl_keep hio (by omega)) ((z_appl_keep hio (Or.inr ⟨rfl, by omega⟩)).trans x15), by rw [s4 _ _ (by omega)]; exact k26⟩
            simp (disch := omega) only [if_pos le41, e3, z_fdM, z_pdM, z_adM, z_sdM, z_lkM, z_ndM, z_gdM, z_cI_some', z_cV_some', z_w_ok, Int.reduceAdd, Int.reduceSub, Int.reduceMul, Int.reduceNeg, Int.reduceEq, Int.reduceLT, Int.reduceLE, Int.reduceNe, reduceIte, true_and, and_true, false_and, and_false, if_true, if_false, ne_eq, not_true_eq_false, not_false_eq_true]
            rw [e4, k41, q41, Int.zero_add]
          · rw [if_neg cf] at e3 ⊢
            have lx : m_land (z_upd (z_upd (z_upd σ3 1 5 (X 0 0)) 1 8 (X 0 1)) 1 20 (X 0 2)) (z_upd X 0 5 0) := m_land_eq (fun a i h => by
              rw [x1 _ _ (by omega), x1 _ _ (by omega), x1 _ _ (by omega)] at h
              by_cases q5 : a = 1 ∧ i = 5
              · obtain ⟨rfl, rfl⟩ := q5
                rw [z_upd_ne (by omega), z_upd_ne (by omega), z_upd_same, e5]
              · by_cases q8 : a = 1 ∧ i = 8
                · obtain ⟨rfl, rfl⟩ := q8
                  rw [z_upd_ne (by omega), z_upd_same, e8]
                · by_cases q20 : a = 1 ∧ i = 20
                  · obtain ⟨rfl, rfl⟩ := q20
                    rw [z_upd_same, e20]
                  · rw [z_upd_ne (by omega), z_upd_ne (by omega), z_upd_ne (by omega), s3 _ _ (by omega) (by omega) (by omega), f2 a i (by omega)]) l1
            obtain ⟨σ6, e6, o6, o68, y6⟩ := m_findWays hw1 lx (d + 9)
            have hfit := m_ways_fit hw1 y1 (n := (z_upd X 0 5 0 0 2).toNat) (by rw [x1 _ _ (by omega)]; omega)
            rw [hfit, if_pos rfl] at e6
            have s6 : ∀ a i : Int, (18 ≤ a ∧ a < 21) ∨ 35 < a ∨ (a = 1 ∧ 9 < i ∧ i ≠ 20 ∧ i < 99) → σ6 a i = σ1 a i := fun a i h => by rw [m_at o6 (by omega), z_upd_ne (by omega), z_upd_ne (by omega), z_upd_ne (by omega), s3 a i (by omega) (by omega) (by omega), f2 a i (by omega)]
            refine ⟨σ6, ?_, m_inv_tell i1 hw1 (m_land_off o6 (by omega) (by omega) lx) (y6 hfit) (fun k k0 k1 => by rw [o68, z_upd_ne (by omega), z_upd_ne (by omega), z_upd_ne (by omega), o38]; exact t2 k k0 k1) (fun a i h => s6 a i (by omega)) (by rw [s6 _ _ (by omega)]; exact k23) (fun a i _ => rfl) x15, by rw [s6 _ _ (by omega)]; exact k26⟩
            simp (disch := omega) only [if_pos le41, e3, z_fdM, z_pdM, z_adM, z_sdM, z_lkM, z_ndM, z_gdM, z_cI_some', z_cV_some', z_w_ok, Int.reduceAdd, Int.reduceSub, Int.reduceMul, Int.reduceNeg, Int.reduceEq, Int.reduceLT, Int.reduceLE, Int.reduceNe, reduceIte, true_and, and_true, false_and, and_false, if_true, if_false, ne_eq, not_true_eq_false, not_false_eq_true]
            simp (disch := omega) only [e6, z_fdM, z_pdM, z_adM, z_sdM, z_lkM, z_ndM, z_gdM, z_cI_some', z_cV_some', z_w_ok, Int.reduceAdd, Int.reduceSub, Int.reduceMul, Int.reduceNeg, Int.reduceEq, Int.reduceLT, Int.reduceLE, Int.reduceNe, reduceIte, true_and, and_true, false_and, and_false, if_true, if_false, ne_eq, not_true_eq_false, not_false_eq_true]
end
