/-! The reference: the best set. -/
section
variable {σ X : z_S} {op : Int → z_Opt} {mn gj : Int → Int} {gN : Int} {nw : Int → Bool}
theorem z_ov_ti {mv cp : Int} {T : Int → Int} (hmv : 0 ≤ mv ∧ mv < 32) (hc : 0 ≤ cp) {i : Nat} (hi : i < z_tot mv cp) : z_ov mv cp (z_ti mv cp T i) 5 = true ↔ i + 1 = z_tot mv cp := by
  rw [z_ov_pl hc (z_ti_dgc hc i) (Nat.le_refl 5), z_pl_ti hmv hc hi, ← z_tot_cnt hmv hc]
  omega
theorem m_bestOf (d : Nat) {h free cp mv : Int} {t T : Int → Int} (hw : z_wf X) (hl : m_land σ X) (hT : m_tab σ X op mn gN gj nw) (ht : m_t σ t) (htc : z_tcap (X 0 3) T) (h40 : σ 40 0 = 0) (hh : h = 0 ∨ h = 1) (hf : 0 ≤ free ∧ free < 32) (hcp : 0 ≤ cp ∧ cp ≤ X 0 3)
    (hmv : 0 ≤ mv ∧ mv < ((2 ^ (X 0 1).toNat : Nat) : Int)) (hmb : ∀ k : Nat, (k : Int) < X 0 1 → z_bt mv k = (decide (X 5 (X 6 k) = h) && !z_bt free k)) (hT0 : ∀ k : Int, 0 ≤ k → k < 5 → (if k < X 0 1 ∧ X 5 (X 6 k) = h then 0 else t k) = z_ti mv cp T 0 k) :
    ∃ σ', z_ev z_hcM (d + 6) 1253 [z_R 1, z_I h, z_I free, z_I cp] z_hdM σ = some (z_I (z_brt op mn gN (σ 1 10) (z_side X h (-1)) (z_ti mv cp T (z_am (fun i => z_brt op mn gN (σ 1 10) (z_side X h (-1)) (z_ti mv cp T i)) (z_tot mv cp)))), z_hdM, σ') ∧ m_off 54 40 45 σ σ' ∧ m_t σ' t ∧ σ' 40 0 = 0 ∧
      (∀ k, 0 ≤ k → k < 5 → σ' 45 k = z_ti mv cp T (z_am (fun i => z_brt op mn gN (σ 1 10) (z_side X h (-1)) (z_ti mv cp T i)) (z_tot mv cp)) k) ∧
      σ' 1 59 = z_suf op mn gN (σ 1 10) (z_ti mv cp T (z_am (fun i => z_brt op mn gN (σ 1 10) (z_side X h (-1)) (z_ti mv cp T i)) (z_tot mv cp))) := by
  have hP := z_pow_n hw
  have hn := hw.2.1
  have hcap := hw.2.2.2.1
  have hmv32 : 0 ≤ mv ∧ mv < 32 := by omega
  have hgN := hT.2.1
  have hmn' : ∀ g, 0 ≤ g → g < gN → 0 ≤ mn g ∧ mn g ≤ 100000 := fun g g0 g1 => by
    obtain ⟨-, -, -, -, h5, h6⟩ := hT.2.2 g g0 g1
    rw [h6]
    have := (hw.2.2.2.2.2.2.2.2.2.2.2.2.2.1 _ h5.1 h5.2).2.2.2.1
    omega
  have htot := z_tot_pos (mv := mv) hcp.1
  have hti : ∀ i, c_t20 (z_ti mv cp T i) := fun i => z_tcap_20 hcap.2 (z_ti_cap hcp.2 hcap.1 htc i)
  generalize hF : (fun i => z_brt op mn gN (σ 1 10) (z_side X h (-1)) (z_ti mv cp T i)) = F
  have hFi : ∀ i, F i = z_brt op mn gN (σ 1 10) (z_side X h (-1)) (z_ti mv cp T i) := fun i => by rw [← hF]
  have hF0 : ∀ i, 0 ≤ F i ∧ F i ≤ 480000000 := fun i => by
    rw [hFi]
    exact z_brt_rng (k := gN.toNat) hgN hmn' (hti i) (by omega)
  have hFe : ∀ i, z_brt op mn gN (σ 1 10) (z_side X h (-1)) (z_ti mv cp T i) = F i := fun i => (hFi i).symm
  rw [hFe]
  -- the copying of the best
  have cpy : ∀ (j k : Nat) (x4 : Int) (σ2 : z_S), k + j = 5 → ∃ σ3, z_go (z_ev z_hcM (d + 5)) z_hcM 1253 50 [z_R 1, z_I h, z_I free, z_I cp, z_I x4, z_I k] [] z_hdM σ2 = z_go (z_ev z_hcM (d + 5)) z_hcM 1253 50 [z_R 1, z_I h, z_I free, z_I cp, z_I x4, z_I 5] [] z_hdM σ3 ∧ (∀ a i : Int, (a ≠ 45 ∨ i < (k : Int)) → σ3 a i = σ2 a i) ∧ ∀ i, (k : Int) ≤ i → i < 5 → σ3 45 i = σ2 8 i := by
    intro j
    induction j with
    | zero =>
      intro k x4 σ2 hk
      refine ⟨σ2, ?_, fun _ _ _ => rfl, fun i i0 i1 => absurd i1 (by omega)⟩
      rw [show (k : Int) = 5 by omega]
    | succ j ih =>
      intro k x4 σ2 hk
      obtain ⟨σ3, g1, g2, g3⟩ := ih (k + 1) x4 (z_upd σ2 45 k (σ2 8 k)) (by omega)
      have e1 : ((k + 1 : Nat) : Int) = (k : Int) + 1 := by omega
      rw [e1] at g1
      refine ⟨σ3, ?_, fun a i h => by rw [g2 a i (by omega), z_upd_ne (by omega)], fun i i0 i1 => ?_⟩
      · rw [z_B1253_50, if_neg (by omega)]
        simp (disch := omega) only [if_neg, z_fdM, z_pdM, z_adM, z_sdM, z_lkM, z_ndM, z_gdM, z_cI_some', z_cV_some', z_w_ok, Int.reduceAdd, Int.reduceSub, Int.reduceMul, Int.reduceNeg, Int.reduceEq, Int.reduceLT, Int.reduceLE, Int.reduceNe, reduceIte, true_and, and_true, false_and, and_false, if_true, if_false, ne_eq, not_true_eq_false, not_false_eq_true]
        exact g1
      · by_cases c : i = k
        · rw [g2 _ _ (by omega), c, z_upd_same]
        · rw [g3 i (by omega) i1, z_upd_ne (by omega)]
  -- a round
  have body : ∀ (i : Nat) (best : Int) (u : z_V) (σ2 : z_S), i < z_tot mv cp → m_off 54 40 45 σ σ2 → m_t σ2 (z_ti mv cp T i) → σ2 40 0 = 0 → m_pls σ2 mv (X 0 1) → (∀ k, 0 ≤ k → k < 5 → σ2 44 k = t k) →
      ((i = 0 ∧ best = -1) ∨ (0 < i ∧ best = F (z_am F i) ∧ (∀ k, 0 ≤ k → k < 5 → σ2 45 k = z_ti mv cp T (z_am F i) k) ∧ σ2 1 59 = z_suf op mn gN (σ 1 10) (z_ti mv cp T (z_am F i)))) →
      ∃ (u' : z_V) (σ6 : z_S), (i + 1 = z_tot mv cp → z_go (z_ev z_hcM (d + 5)) z_hcM 1253 13 [z_R 1, z_I h, z_I free, z_I cp, z_I best, u] [] z_hdM σ2 = z_cV (z_ev z_hcM (d + 5) 1248 [z_R 1] z_hdM σ6) (fun h9 s10 => some (z_I (F (z_am F (i + 1))), h9, s10))) ∧
        (i + 1 ≠ z_tot mv cp → z_go (z_ev z_hcM (d + 5)) z_hcM 1253 13 [z_R 1, z_I h, z_I free, z_I cp, z_I best, u] [] z_hdM σ2 = z_go (z_ev z_hcM (d + 5)) z_hcM 1253 13 [z_R 1, z_I h, z_I free, z_I cp, z_I (F (z_am F (i + 1))), u'] [] z_hdM σ6) ∧
        m_off 54 40 45 σ σ6 ∧ m_t σ6 (z_ti mv cp T (i + 1)) ∧ σ6 40 0 = 0 ∧ m_pls σ6 mv (X 0 1) ∧ (∀ k, 0 ≤ k → k < 5 → σ6 44 k = t k) ∧
        (∀ k, 0 ≤ k → k < 5 → σ6 45 k = z_ti mv cp T (z_am F (i + 1)) k) ∧ σ6 1 59 = z_suf op mn gN (σ 1 10) (z_ti mv cp T (z_am F (i + 1))) := by
    intro i best u σ2 hi o2 t2 z2 p2 k2 hb
    obtain ⟨σ3, e3, o3, a3, z3, b0, b1, b5⟩ := m_c_work (d + 1) hw (m_land_off o2 (by omega) (by omega) hl) (m_tab_off o2 (by omega) (by omega) hT) t2 (hti i) z2
    rw [show σ2 1 10 = σ 1 10 from m_at o2 (by omega)] at b0 b1 b5
    have e42 : σ3 42 h = F i := by
      rw [hFi]
      rcases hh with rfl | rfl
      · exact b0
      · exact b1
    have t3 : m_t σ3 (z_ti mv cp T i) := fun k k0 k1 => by rw [o3 _ _ (by omega) (by omega)]; exact t2 k k0 k1
    have p3 : m_pls σ3 mv (X 0 1) := ⟨by rw [o3 _ _ (by omega) (by omega)]; exact p2.1, fun k hk hb => by rw [o3 _ _ (by omega) (by omega)]; exact p2.2 k hk hb⟩
    have off3 : m_off 54 40 45 σ σ3 := m_off_trans o2 (fun a i h1 h2 h3 => o3 a i (by omega) (by omega))
    have hov := z_ov_ti (T := T) hmv32 hcp.1 hi
    have hF := hF0 i
    by_cases c : best < F i
    · have ham : z_am F (i + 1) = i := by
        rcases hb with ⟨h0, -⟩ | ⟨h0, hb, -⟩
        · subst h0
          show (if F (z_am F 0) < F 0 then 0 else z_am F 0) = 0
          split <;> rfl
        · exact z_am_new (by rw [← hb]; exact c)
      obtain ⟨σ5, g1, g2, g3⟩ := cpy 5 0 (F i) (z_upd σ3 1 59 (σ3 1 54)) (by omega)
      have off5 : m_off 54 40 45 σ σ5 := m_off_trans off3 (m_off_trans (m_off_upd (a := 1) (i := 59) (v := σ3 1 54) (by omega)) (fun a i h1 h2 h3 => g2 a i (by omega)))
      have p5 : m_pls σ5 mv (X 0 1) := ⟨by rw [g2 _ _ (by omega), z_upd_ne (by omega)]; exact p3.1, fun k hk hb => by rw [g2 _ _ (by omega), z_upd_ne (by omega)]; exact p3.2 k hk hb⟩
      obtain ⟨σ6, n1, n2, n3⟩ := m_next (σ := σ5) (t := z_ti mv cp T i) (cp := cp) (d + 4) hn hmv.2 (fun k k0 k1 => by rw [g2 _ _ (by omega), z_upd_ne (by omega)]; exact t3 k k0 k1) (hti i) p5 (z_ti_dgc hcp.1 i)
      have hv : z_go (z_ev z_hcM (d + 5)) z_hcM 1253 13 [z_R 1, z_I h, z_I free, z_I cp, z_I best, u] [] z_hdM σ2 = z_go (z_ev z_hcM (d + 5)) z_hcM 1253 50 [z_R 1, z_I h, z_I free, z_I cp, z_I (F i), z_I 5] [] z_hdM σ5 := by
        rw [← g1, z_B1253_13]
        simp (disch := omega) only [if_pos, e3, e42, z_fdM, z_pdM, z_adM, z_sdM, z_lkM, z_ndM, z_gdM, z_cI_some', z_cV_some', z_w_ok, Int.reduceAdd, Int.reduceSub, Int.reduceMul, Int.reduceNeg, Int.reduceEq, Int.reduceLT, Int.reduceLE, Int.reduceNe, reduceIte, true_and, and_true, false_and, and_false, if_true, if_false, ne_eq, not_true_eq_false, not_false_eq_true]
        rfl
      rw [ham]
      refine ⟨z_I 5, σ6, fun hl => ?_, fun hl => ?_, m_off_trans off5 (fun a i h1 h2 h3 => n2 a i h1), n3, by rw [n2 _ _ (by omega), g2 _ _ (by omega), z_upd_ne (by omega)]; exact z3, ⟨by rw [n2 _ _ (by omega)]; exact p5.1, fun k hk hb => by rw [n2 _ _ (by omega)]; exact p5.2 k hk hb⟩, fun k k0 k1 => by rw [n2 _ _ (by omega), g2 _ _ (by omega), z_upd_ne (by omega), o3 _ _ (by omega) (by omega)]; exact k2 k k0 k1, fun k k0 k1 => by rw [n2 _ _ (by omega), g3 k (by omega) k1, z_upd_ne (by omega)]; exact t3 k k0 k1, by rw [n2 _ _ (by omega), g2 _ _ (by omega), z_upd_same]; exact b5⟩
      · rw [if_pos (hov.mpr hl)] at n1
        rw [hv, z_B1253_50]
        simp (disch := omega) only [if_pos, n1, z_fdM, z_pdM, z_adM, z_sdM, z_lkM, z_ndM, z_gdM, z_cI_some', z_cV_some', z_w_ok, Int.reduceAdd, Int.reduceSub, Int.reduceMul, Int.reduceNeg, Int.reduceEq, Int.reduceLT, Int.reduceLE, Int.reduceNe, reduceIte, true_and, and_true, false_and, and_false, if_true, if_false, ne_eq, not_true_eq_false, not_false_eq_true]
      · rw [if_neg (fun e => hl (hov.mp e))] at n1
        rw [hv, z_B1253_50]
        simp (disch := omega) only [if_pos, n1, z_fdM, z_pdM, z_adM, z_sdM, z_lkM, z_ndM, z_gdM, z_cI_some', z_cV_some', z_w_ok, Int.reduceAdd, Int.reduceSub, Int.reduceMul, Int.reduceNeg, Int.reduceEq, Int.reduceLT, Int.reduceLE, Int.reduceNe, reduceIte, true_and, and_true, false_and, and_false, if_true, if_false, ne_eq, not_true_eq_false, not_false_eq_true]
    · have h0 : 0 < i ∧ best = F (z_am F i) ∧ (∀ k, 0 ≤ k → k < 5 → σ2 45 k = z_ti mv cp T (z_am F i) k) ∧ σ2 1 59 = z_suf op mn gN (σ 1 10) (z_ti mv cp T (z_am F i)) := by
        rcases hb with ⟨-, h0⟩ | h0
        · omega
        · exact h0
      obtain ⟨h0, hbe, h45, h59⟩ := h0
      have ham : z_am F (i + 1) = z_am F i := z_am_keep (by omega)
      obtain ⟨σ6, n1, n2, n3⟩ := m_next (σ := σ3) (t := z_ti mv cp T i) (cp := cp) (d + 4) hn hmv.2 t3 (hti i) p3 (z_ti_dgc hcp.1 i)
      rw [ham, ← hbe]
      refine ⟨u, σ6, fun hl => ?_, fun hl => ?_, m_off_trans off3 (fun a i h1 h2 h3 => n2 a i h1), n3, by rw [n2 _ _ (by omega)]; exact z3, ⟨by rw [n2 _ _ (by omega)]; exact p3.1, fun k hk hb => by rw [n2 _ _ (by omega)]; exact p3.2 k hk hb⟩, fun k k0 k1 => by rw [n2 _ _ (by omega), o3 _ _ (by omega) (by omega)]; exact k2 k k0 k1, fun k k0 k1 => by rw [n2 _ _ (by omega), o3 _ _ (by omega) (by omega)]; exact h45 k k0 k1, by rw [n2 _ _ (by omega), o3 _ _ (by omega) (by omega)]; exact h59⟩
      · rw [if_pos (hov.mpr hl)] at n1
        rw [z_B1253_13]
        simp (disch := omega) only [if_pos, if_neg, e3, e42, n1, z_fdM, z_pdM, z_adM, z_sdM, z_lkM, z_ndM, z_gdM, z_cI_some', z_cV_some', z_w_ok, Int.reduceAdd, Int.reduceSub, Int.reduceMul, Int.reduceNeg, Int.reduceEq, Int.reduceLT, Int.reduceLE, Int.reduceNe, reduceIte, true_and, and_true, false_and, and_false, if_true, if_false, ne_eq, not_true_eq_false, not_false_eq_true]
      · rw [if_neg (fun e => hl (hov.mp e))] at n1
        rw [z_B1253_13]
        simp (disch := omega) only [if_pos, if_neg, e3, e42, n1, z_fdM, z_pdM, z_adM, z_sdM, z_lkM, z_ndM, z_gdM, z_cI_some', z_cV_some', z_w_ok, Int.reduceAdd, Int.reduceSub, Int.reduceMul, Int.reduceNeg, Int.reduceEq, Int.reduceLT, Int.reduceLE, Int.reduceNe, reduceIte, true_and, and_true, false_and, and_false, if_true, if_false, ne_eq, not_true_eq_false, not_false_eq_true]
  -- what stands in every round
  have go : ∀ (j i : Nat) (best : Int) (u : z_V) (σ2 : z_S), i + j + 1 = z_tot mv cp → m_off 54 40 45 σ σ2 → m_t σ2 (z_ti mv cp T i) → σ2 40 0 = 0 → m_pls σ2 mv (X 0 1) → (∀ k, 0 ≤ k → k < 5 → σ2 44 k = t k) →
      ((i = 0 ∧ best = -1) ∨ (0 < i ∧ best = F (z_am F i) ∧ (∀ k, 0 ≤ k → k < 5 → σ2 45 k = z_ti mv cp T (z_am F i) k) ∧ σ2 1 59 = z_suf op mn gN (σ 1 10) (z_ti mv cp T (z_am F i)))) →
      ∃ σ', z_go (z_ev z_hcM (d + 5)) z_hcM 1253 13 [z_R 1, z_I h, z_I free, z_I cp, z_I best, u] [] z_hdM σ2 = some (z_I (F (z_am F (z_tot mv cp))), z_hdM, σ') ∧ m_off 54 40 45 σ σ' ∧ m_t σ' t ∧ σ' 40 0 = 0 ∧
        (∀ k, 0 ≤ k → k < 5 → σ' 45 k = z_ti mv cp T (z_am F (z_tot mv cp)) k) ∧ σ' 1 59 = z_suf op mn gN (σ 1 10) (z_ti mv cp T (z_am F (z_tot mv cp))) := by
    intro j
    induction j with
    | zero =>
      intro i best u σ2 hi o2 t2 z2 p2 k2 hb
      obtain ⟨u', σ6, g1, -, g3, g4, g5, g6, g7, g8, g9⟩ := body i best u σ2 (by omega) o2 t2 z2 p2 k2 hb
      have hi' : i + 1 = z_tot mv cp := by omega
      rw [hi'] at g1 g8 g9
      obtain ⟨σ7, q1, q2, q3⟩ := m_putBack (σ := σ6) (d + 4) g7
      refine ⟨σ7, ?_, m_off_trans g3 (fun a i h1 h2 h3 => q2 a i h1), q3, by rw [q2 _ _ (by omega)]; exact g5, fun k k0 k1 => by rw [q2 _ _ (by omega)]; exact g8 k k0 k1, by rw [q2 _ _ (by omega)]; exact g9⟩
      rw [g1 rfl, q1]
      rfl
    | succ j ih =>
      intro i best u σ2 hi o2 t2 z2 p2 k2 hb
      obtain ⟨u', σ6, -, g2, g3, g4, g5, g6, g7, g8, g9⟩ := body i best u σ2 (by omega) o2 t2 z2 p2 k2 hb
      rw [g2 (by omega)]
      exact ih (i + 1) _ u' σ6 (by omega) g3 g4 g5 g6 g7 (Or.inr ⟨by omega, rfl, g8, g9⟩)
  obtain ⟨σ1, e1, o1, k1⟩ := m_keep (σ := σ) (d + 4)
  have off1 : m_off 54 40 45 σ σ1 := fun a i _ h2 _ => o1 a i (by omega)
  obtain ⟨σ2, e2, o2, t2, p2⟩ := m_lay (σ := σ1) (t := t) (d + 4) hw (m_land_off off1 (by omega) (by omega) hl) (fun k k0 k1 => by rw [o1 _ _ (by omega)]; exact ht k k0 k1) hf hmb
  have off2 : m_off 54 40 45 σ σ2 := m_off_trans off1 (fun a i h1 h2 h3 => o2 a i h1 (by omega) (by omega))
  obtain ⟨σ', g1, g2⟩ := go (z_tot mv cp - 1) 0 (-1) z_U σ2 (by omega) off2 (fun k k0 k1 => by rw [t2 k k0 k1]; exact hT0 k k0 k1) (by rw [o2 _ _ (by omega) (by omega) (by omega), o1 _ _ (by omega)]; exact h40) p2 (fun k k0 k1' => by rw [o2 _ _ (by omega) (by omega) (by omega), k1 k k0 k1']; exact ht k k0 k1') (Or.inl ⟨rfl, rfl⟩)
  refine ⟨σ', ?_, g2⟩
  rw [z_E1253]
  simp (disch := omega) only [e1, e2, z_fdM, z_pdM, z_adM, z_sdM, z_lkM, z_ndM, z_gdM, z_cI_some', z_cV_some', z_w_ok, Int.reduceAdd, Int.reduceSub, Int.reduceMul, Int.reduceNeg, Int.reduceEq, Int.reduceLT, Int.reduceLE, Int.reduceNe, reduceIte, true_and, and_true, false_and, and_false, if_true, if_false, ne_eq, not_true_eq_false, not_false_eq_true]
  exact g1
end
