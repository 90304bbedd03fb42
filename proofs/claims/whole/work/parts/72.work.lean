/-! The reference: what the houses take. -/
section
variable {σ X : z_S} {t : Int → Int} {op : Int → z_Opt} {mn gj : Int → Int} {gN : Int} {nw : Int → Bool}
theorem m_c_work (d : Nat) (hw : z_wf X) (hl : m_land σ X) (hT : m_tab σ X op mn gN gj nw) (ht : m_t σ t) (ht20 : c_t20 t) (h40 : σ 40 0 = 0) :
    ∃ σ', z_ev z_hcM (d + 4) 1233 [z_R 1] z_hdM σ = some (z_U, z_hdM, σ') ∧ (∀ a i, (a < 40 ∨ 42 < a) → (a ≠ 1 ∨ i ≠ 54) → σ' a i = σ a i) ∧ m_ask σ' X t ∧ σ' 40 0 = 0 ∧
      σ' 42 0 = z_brt op mn gN (σ 1 10) (z_side X 0 (-1)) t ∧ σ' 42 1 = z_brt op mn gN (σ 1 10) (z_side X 1 (-1)) t ∧ σ' 1 54 = z_suf op mn gN (σ 1 10) t := by
  have hP := z_pow_n hw
  have hs0 := z_side_rng hw 0 (-1)
  have hs1 := z_side_rng hw 1 (-1)
  have hgN := hT.2.1
  obtain ⟨σ1, e1, o1, a1, b1⟩ := m_c_ask (d + 1) hw hl ht ht20 h40
  have hmn : ∀ g, 0 ≤ g → g < gN → 1 ≤ mn g ∧ mn g ≤ 99 := fun g g0 g1 => by
    obtain ⟨-, -, -, -, h5, h6⟩ := hT.2.2 g g0 g1
    rw [h6]
    exact (hw.2.2.2.2.2.2.2.2.2.2.2.2.2.1 _ h5.1 h5.2).2.2.2.1
  have hmn' : ∀ g, 0 ≤ g → g < gN → 0 ≤ mn g ∧ mn g ≤ 100000 := fun g g0 g1 => by have := hmn g g0 g1; omega
  have hz : ∀ s, 0 ≤ s → s < 32 → z_and 0 s = 0 := fun s h0 h1 => by have := z_and_le (x := 0) (y := s) (by omega) (by omega) h0 (by omega); omega
  have go : ∀ (j k : Nat) (u v : z_V) (σ2 : z_S) (lean : Int), (k : Int) + j = gN → m_land σ2 X → m_tab σ2 X op mn gN gj nw → m_ask σ2 X t → σ2 1 10 = lean →
      σ2 42 0 = z_sm k (fun g => mn g * z_pay t (z_and (z_ch (op g) t lean) (z_side X 0 (-1)))) → σ2 42 1 = z_sm k (fun g => mn g * z_pay t (z_and (z_ch (op g) t lean) (z_side X 1 (-1)))) → σ2 1 54 = z_sm k (fun g => mn g * z_pn (op g) t lean) →
      ∃ σ', z_go (z_ev z_hcM (d + 3)) z_hcM 1233 25 [z_R 1, z_I k, u, v] [] z_hdM σ2 = some (z_U, z_hdM, σ') ∧ (∀ a i, a ≠ 42 → (a ≠ 1 ∨ i ≠ 54) → σ' a i = σ2 a i) ∧
        σ' 42 0 = z_brt op mn gN lean (z_side X 0 (-1)) t ∧ σ' 42 1 = z_brt op mn gN lean (z_side X 1 (-1)) t ∧ σ' 1 54 = z_suf op mn gN lean t := by
    intro j
    induction j with
    | zero =>
      intro k u v σ2 lean hk hl2 hT2 ha2 hle h0 h1 h5
      have e48 := hT2.1
      refine ⟨σ2, ?_, fun _ _ _ _ => rfl, ?_, ?_, ?_⟩
      · rw [z_B1233_25]
        simp (disch := omega) only [if_pos, e48, z_fdM, z_pdM, z_adM, z_sdM, z_lkM, z_ndM, z_gdM, z_cI_some', z_cV_some', z_w_ok, Int.reduceAdd, Int.reduceSub, Int.reduceMul, Int.reduceNeg, Int.reduceEq, Int.reduceLT, Int.reduceLE, Int.reduceNe, reduceIte, true_and, and_true, false_and, and_false, if_true, if_false, ne_eq, not_true_eq_false, not_false_eq_true]
      · unfold z_brt; rw [show gN.toNat = k by omega]; exact h0
      · unfold z_brt; rw [show gN.toNat = k by omega]; exact h1
      · unfold z_suf; rw [show gN.toNat = k by omega]; exact h5
    | succ j ih =>
      intro k u v σ2 lean hk hl2 hT2 ha2 hle h0 h1 h5
      have e48 := hT2.1
      obtain ⟨ho, hm2, hgr, h36, hgj, hm⟩ := hT2.2.2 k (by omega) (by omega)
      have hmk := hmn k (by omega) (by omega)
      have hc := m_choose (σ := σ2) (g := (k : Int)) (d + 1) (by omega) hw hl2 hgr ho hm2 ha2 ht20
      rw [hle] at hc
      have e11 : σ2 11 (gj k) = mn k := by rw [hm]; exact (hl2.2.2.2 _ hgj.1 hgj.2).2.2.1
      have nj := hw.2.2.1
      have s0 : z_sm (k + 1) (fun g => mn g * z_pay t (z_and (z_ch (op g) t lean) (z_side X 0 (-1)))) = z_sm k (fun g => mn g * z_pay t (z_and (z_ch (op g) t lean) (z_side X 0 (-1)))) + mn k * z_pay t (z_and (z_ch (op k) t lean) (z_side X 0 (-1))) := rfl
      have s1 : z_sm (k + 1) (fun g => mn g * z_pay t (z_and (z_ch (op g) t lean) (z_side X 1 (-1)))) = z_sm k (fun g => mn g * z_pay t (z_and (z_ch (op g) t lean) (z_side X 1 (-1)))) + mn k * z_pay t (z_and (z_ch (op k) t lean) (z_side X 1 (-1))) := rfl
      have s5 : z_sm (k + 1) (fun g => mn g * z_pn (op g) t lean) = z_sm k (fun g => mn g * z_pn (op g) t lean) + mn k * z_pn (op k) t lean := rfl
      have ec : ((k + 1 : Nat) : Int) = (k : Int) + 1 := by omega
      cases hn : nw k with
      | true =>
        rw [hn, if_pos rfl] at hc
        rw [hn] at hgr
        rcases hgr with ⟨h, -⟩ | ⟨-, -, hno⟩
        · cases h
        · obtain ⟨n1, n2⟩ := m_nw_ch (t := t) (lean := lean) ho hno
          obtain ⟨σ', g1, g2, g3⟩ := ih (k + 1) (z_I (-1)) v σ2 lean (by omega) hl2 hT2 ha2 hle (by rw [s0, n1, hz _ hs0.1 hs0.2.1, z_pay_0, Int.mul_zero, Int.add_zero]; exact h0) (by rw [s1, n1, hz _ hs1.1 hs1.2.1, z_pay_0, Int.mul_zero, Int.add_zero]; exact h1) (by rw [s5, n2, Int.mul_zero, Int.add_zero]; exact h5)
          refine ⟨σ', ?_, g2, g3⟩
          rw [z_B1233_25]
          simp (disch := omega) only [if_neg, e48, hc, z_fdM, z_pdM, z_adM, z_sdM, z_lkM, z_ndM, z_gdM, z_cI_some', z_cV_some', z_w_ok, Int.reduceAdd, Int.reduceSub, Int.reduceMul, Int.reduceNeg, Int.reduceEq, Int.reduceLT, Int.reduceLE, Int.reduceNe, reduceIte, true_and, and_true, false_and, and_false, if_true, if_false, ne_eq, not_true_eq_false, not_false_eq_true]
          rw [← ec]
          exact g1
      | false =>
        rw [hn, if_neg (by simp)] at hc
        rw [hn] at hgr
        have hch := z_ch_rng (t := t) (lean := lean) ho hm2
        obtain ⟨c0, c1, c2, q, hq, q0, q1, -⟩ := hch
        have A0 := z_and_le (x := z_ch (op k) t lean) (y := z_side X 0 (-1)) c0 (by omega) hs0.1 (by omega)
        have A1 := z_and_le (x := z_ch (op k) t lean) (y := z_side X 1 (-1)) c0 (by omega) hs1.1 (by omega)
        have k0 := ha2.1 _ A0.1 (by omega)
        have k1 := ha2.1 _ A1.1 (by omega)
        have kc := ha2.1 _ c0 c2
        have e39 : σ2 39 (32 * (k : Int) + z_ch (op k) t lean) = q.1 := by
          rcases hgr with ⟨-, -, h, -⟩ | ⟨h, -⟩
          · exact (h _ q c0 c1 hq).2
          · cases h
        have epn : z_pn (op k) t lean = q.1 + z_pay t (z_ch (op k) t lean) := by unfold z_pn; rw [hq]
        have pc := c_t20_pay ht20 (z_ch (op k) t lean)
        have p0 := c_t20_pay ht20 (z_and (z_ch (op k) t lean) (z_side X 0 (-1)))
        have p1 := c_t20_pay ht20 (z_and (z_ch (op k) t lean) (z_side X 1 (-1)))
        have m0 := z_mul_rng (a := mn k) (b := 99) (by omega) (by omega) p0.1 p0.2
        have m1 := z_mul_rng (a := mn k) (b := 99) (by omega) (by omega) p1.1 p1.2
        have m5 := z_mul_rng (a := mn k) (b := 99) (c := q.1 + z_pay t (z_ch (op k) t lean)) (d := 2100) (by omega) (by omega) (by omega) (by omega)
        have r0 := (z_brt_rng (op := op) (lean := lean) (side := z_side X 0 (-1)) hgN hmn' ht20 (k := k) (by omega))
        have r1 := (z_brt_rng (op := op) (lean := lean) (side := z_side X 1 (-1)) hgN hmn' ht20 (k := k) (by omega))
        have r5 := z_sm_rng (n := k) (f := fun g => mn g * z_pn (op g) t lean) (b := 207900) (fun g g0 g1 => by
          have h1 := hmn g g0 (by omega)
          have h2 := z_pn_rng (t := t) (lean := lean) (hT2.2.2 g g0 (by omega)).1 ht20
          exact z_mul_rng (b := 99) (by omega) h1.2 h2.1 h2.2)
        have off : m_off 54 42 42 σ2 (z_upd (z_upd (z_upd σ2 42 0 (z_sm (k + 1) (fun g => mn g * z_pay t (z_and (z_ch (op g) t lean) (z_side X 0 (-1)))))) 42 1 (z_sm (k + 1) (fun g => mn g * z_pay t (z_and (z_ch (op g) t lean) (z_side X 1 (-1)))))) 1 54 (z_sm (k + 1) (fun g => mn g * z_pn (op g) t lean))) := m_off_trans (m_off_upd (by omega)) (m_off_trans (m_off_upd (by omega)) (m_off_upd (by omega)))
        obtain ⟨σ', g1, g2, g3⟩ := ih (k + 1) (z_I (z_ch (op k) t lean)) (z_I (mn k)) _ lean (by omega) (m_land_off off (by omega) (by omega) hl2) (m_tab_off off (by omega) (by omega) hT2) (m_ask_off off (by omega) ha2) (by rw [m_at off (by omega)]; exact hle) (by rw [z_upd_ne (by omega), z_upd_ne (by omega), z_upd_same]) (by rw [z_upd_ne (by omega), z_upd_same]) z_upd_same
        refine ⟨σ', ?_, fun a i h h' => by rw [g2 a i h h', z_upd_ne (by omega), z_upd_ne (by omega), z_upd_ne (by omega)], g3⟩
        rw [s0, s1, s5, epn] at g1
        rw [z_B1233_25]
        simp (disch := omega) only [if_neg, if_pos, e48, hc, h36, e11, k0, k1, kc, e39, ha2.2.1, ha2.2.2, h0, h1, h5, z_upd_at, z_fdM, z_pdM, z_adM, z_sdM, z_lkM, z_ndM, z_gdM, z_cI_some', z_cV_some', z_w_ok, Int.reduceAdd, Int.reduceSub, Int.reduceMul, Int.reduceNeg, Int.reduceEq, Int.reduceLT, Int.reduceLE, Int.reduceNe, reduceIte, true_and, and_true, false_and, and_false, if_true, if_false, ne_eq, not_true_eq_false, not_false_eq_true]
        rw [← ec]
        exact g1
  have o2 : m_off 54 40 42 σ (z_upd (z_upd (z_upd σ1 42 0 0) 42 1 0) 1 54 0) := m_off_trans (m_off_le (m_of_z o1) (by omega) (by omega) (Int.le_refl _)) (m_off_trans (m_off_upd (by omega)) (m_off_trans (m_off_upd (by omega)) (m_off_upd (by omega))))
  have o3 : m_off 54 42 42 σ1 (z_upd (z_upd (z_upd σ1 42 0 0) 42 1 0) 1 54 0) := m_off_trans (m_off_upd (by omega)) (m_off_trans (m_off_upd (by omega)) (m_off_upd (by omega)))
  obtain ⟨σ', g1, g2, g3⟩ := go gN.toNat 0 z_U z_U _ (σ 1 10) (by omega) (m_land_off o2 (by omega) (by omega) hl) (m_tab_off o2 (by omega) (by omega) hT) (m_ask_off o3 (by omega) a1) (m_at o2 (by omega)) (by rw [z_upd_ne (by omega), z_upd_ne (by omega), z_upd_same]; rfl) (by rw [z_upd_ne (by omega), z_upd_same]; rfl) (by rw [z_upd_same]; rfl)
  refine ⟨σ', ?_, fun a i h h' => by rw [g2 a i (by omega) h', z_upd_ne (by omega), z_upd_ne (by omega), z_upd_ne (by omega), o1 a i (by omega)], ?_, by rw [g2 _ _ (by omega) (by omega), z_upd_ne (by omega), z_upd_ne (by omega), z_upd_ne (by omega)]; exact b1, g3⟩
  · rw [z_E1233]
    simp (disch := omega) only [e1, z_fdM, z_pdM, z_adM, z_sdM, z_lkM, z_ndM, z_gdM, z_cI_some', z_cV_some', z_w_ok, Int.reduceAdd, Int.reduceSub, Int.reduceMul, Int.reduceNeg, Int.reduceEq, Int.reduceLT, Int.reduceLE, Int.reduceNe, reduceIte, true_and, and_true, false_and, and_false, if_true, if_false, ne_eq, not_true_eq_false, not_false_eq_true]
    exact g1
  · obtain ⟨x1, x2, x3⟩ := a1
    exact ⟨fun m m0 m1 => by rw [g2 _ _ (by omega) (by omega), z_upd_ne (by omega), z_upd_ne (by omega), z_upd_ne (by omega)]; exact x1 m m0 m1, by rw [g2 _ _ (by omega) (by omega), z_upd_ne (by omega), z_upd_ne (by omega), z_upd_ne (by omega)]; exact x2, by rw [g2 _ _ (by omega) (by omega), z_upd_ne (by omega), z_upd_ne (by omega), z_upd_ne (by omega)]; exact x3⟩
end
