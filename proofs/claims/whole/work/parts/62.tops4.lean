/-! The class's own methods: one road, climbs, times, two houses, what is spared. -/
/-- where a line bends: among the first n + 2 tolls -/
def z_bnl (F : Nat → Int) : Nat → List Int
  | 0 => []
  | n + 1 => if F (n + 2) - F (n + 1) ≠ F (n + 1) - F n then z_bnl F n ++ [((n + 1 : Nat) : Int)] else z_bnl F n
theorem z_bnl_len {F : Nat → Int} : ∀ n, (z_bnl F n).length ≤ n
  | 0 => Nat.le_refl 0
  | n + 1 => by
    have := z_bnl_len (F := F) n
    unfold z_bnl
    split
    · rw [List.length_append, List.length_singleton]; omega
    · omega
/-- how many rounds a climb has -/
noncomputable def z_cn (D : z_D) (lean : Int) (share : Int → Int) (side cap : Int) (t : Int → Int) : Nat := @dite _ (∃ n, z_stops D lean share side cap t n) (Classical.propDecidable _) (fun h => Classical.choose h) (fun _ => 0)
theorem z_cn_stops {D : z_D} {lean : Int} {share : Int → Int} {side cap : Int} {t : Int → Int} (h : ∃ n, z_stops D lean share side cap t n) : z_stops D lean share side cap t (z_cn D lean share side cap t) := by
  unfold z_cn
  rw [dif_pos h]
  exact Classical.choose_spec h
/-- what a slot's house gets by its tolls -/
noncomputable def z_LF (X : z_S) (k : Int) : Nat → Int := z_Ln (z_Dm X (-1)) (X 0 4) (z_Dm X (-1)).mn (z_side X (X 5 (X 6 k)) (-1)) (X 7) k
noncomputable def s_line (X : z_S) (r : Int) : Int × z_S := if z_slr X r < 0 then (-1, X) else (z_gr (z_LF X (z_slr X r)) (X 0 3 + 1).toNat, z_srow X ((List.range (X 0 3 + 1).toNat).map (z_LF X (z_slr X r))))
noncomputable def s_bends (X : z_S) (r : Int) : Int × z_S := if z_slr X r < 0 then (-1, X) else (((z_bnl (z_LF X (z_slr X r)) (X 0 3 - 1).toNat).length : Int), z_srow X (z_bnl (z_LF X (z_slr X r)) (X 0 3 - 1).toNat))
noncomputable def s_climb (X : z_S) (w : Int) : Int × z_S := if w = 0 ∨ w = 1 then ((z_it (z_Dm X (-1)) (X 0 4) (z_Dm X (-1)).mn (z_side X w (-1)) (X 0 3) (X 7) (z_cn (z_Dm X (-1)) (X 0 4) (z_Dm X (-1)).mn (z_side X w (-1)) (X 0 3) (X 7))).2, z_srow X (z_brt (z_Dm X (-1)).op (z_Dm X (-1)).mn (z_Dm X (-1)).gN (X 0 4) (z_side X w (-1)) (z_it (z_Dm X (-1)) (X 0 4) (z_Dm X (-1)).mn (z_side X w (-1)) (X 0 3) (X 7) (z_cn (z_Dm X (-1)) (X 0 4) (z_Dm X (-1)).mn (z_side X w (-1)) (X 0 3) (X 7))).1 :: z_tl (z_side X w (-1)) (z_it (z_Dm X (-1)) (X 0 4) (z_Dm X (-1)).mn (z_side X w (-1)) (X 0 3) (X 7) (z_cn (z_Dm X (-1)) (X 0 4) (z_Dm X (-1)).mn (z_side X w (-1)) (X 0 3) (X 7))).1 5)) else (-1, X)
noncomputable def s_gap (X : z_S) (w : Int) : Int × z_S := (if z_seek X w = true then z_hv (z_Dm X (-1)) (X 0 4) (z_Dm X (-1)).mn (z_side X w (-1)) (z_side X w (-1)) (X 0 3) (X 7) - z_brt (z_Dm X (-1)).op (z_Dm X (-1)).mn (z_Dm X (-1)).gN (X 0 4) (z_side X w (-1)) (z_it (z_Dm X (-1)) (X 0 4) (z_Dm X (-1)).mn (z_side X w (-1)) (X 0 3) (X 7) (z_cn (z_Dm X (-1)) (X 0 4) (z_Dm X (-1)).mn (z_side X w (-1)) (X 0 3) (X 7))).1 else -1, X)
/-- the goers of a time -/
noncomputable def z_tsh (X : z_S) (u : Int) (g : Int) : Int := if X 16 ((z_Dm X (-1)).gj g) = u then (z_Dm X (-1)).mn g else 0
noncomputable def s_times (X : z_S) (w : Int) : Int × z_S := if z_seek X w = true then (z_sm 4 (fun u => z_hv (z_Dm X (-1)) (X 0 4) (z_tsh X u) (z_side X w (-1)) (z_side X w (-1)) (X 0 3) (X 7)), z_srow X ((List.range 4).map (fun (u : Nat) => z_hv (z_Dm X (-1)) (X 0 4) (z_tsh X u) (z_side X w (-1)) (z_side X w (-1)) (X 0 3) (X 7)))) else (-1, X)
noncomputable def z_AO (X : z_S) (n : Nat) : Int × Nat := z_ao (fun i => z_pk (z_an (z_Dm X (-1)) (X 0 4) (z_Dm X (-1)).mn (fun w => (z_side X w (-1))) (X 0 3) (X 7) i) 5) n 0 0
/-- all slots -/
def z_all (X : z_S) : Int := ((2 ^ (X 0 1).toNat - 1 : Nat) : Int)
noncomputable def s_answers (X : z_S) (n : Int) : Int × z_S := if (1 ≤ n ∧ n ≤ 60) ∧ z_seek X 0 = true ∧ z_seek X 1 = true then ((z_AO X n.toNat).1, z_srow X (z_brt (z_Dm X (-1)).op (z_Dm X (-1)).mn (z_Dm X (-1)).gN (X 0 4) (z_side X 0 (-1)) (z_an (z_Dm X (-1)) (X 0 4) (z_Dm X (-1)).mn (fun w => (z_side X w (-1))) (X 0 3) (X 7) (z_AO X n.toNat).2) :: z_brt (z_Dm X (-1)).op (z_Dm X (-1)).mn (z_Dm X (-1)).gN (X 0 4) (z_side X 1 (-1)) (z_an (z_Dm X (-1)) (X 0 4) (z_Dm X (-1)).mn (fun w => (z_side X w (-1))) (X 0 3) (X 7) (z_AO X n.toNat).2) :: z_tl (z_all X) (z_an (z_Dm X (-1)) (X 0 4) (z_Dm X (-1)).mn (fun w => (z_side X w (-1))) (X 0 3) (X 7) (z_AO X n.toNat).2) 5)) else (-1, X)
noncomputable def s_spare (X : z_S) (w k : Int) : Int × z_S := if z_seek X w = true ∧ 0 ≤ k ∧ k ≤ z_pc (z_side X w (-1)) then
  ((z_lst (fun m => decide (z_dm m (z_side X w (-1)) = 0) && decide (z_pc m = k)) (fun m => z_suf (z_Dm X (-1)).op (z_Dm X (-1)).mn (z_Dm X (-1)).gN (X 0 4) (z_xt (z_Dm X (-1)) (X 0 4) (z_Dm X (-1)).mn (z_side X w (-1)) (X 0 3) (X 7) m)) (z_xv (z_Dm X (-1)) (X 0 4) (z_Dm X (-1)).mn (z_side X w (-1)) (X 0 3) (X 7)) false 32).1,
   z_srow X [z_bs (fun r => decide (∃ i : Nat, i < 5 ∧ z_bt (z_lst (fun m => decide (z_dm m (z_side X w (-1)) = 0) && decide (z_pc m = k)) (fun m => z_suf (z_Dm X (-1)).op (z_Dm X (-1)).mn (z_Dm X (-1)).gN (X 0 4) (z_xt (z_Dm X (-1)) (X 0 4) (z_Dm X (-1)).mn (z_side X w (-1)) (X 0 3) (X 7) m)) (z_xv (z_Dm X (-1)) (X 0 4) (z_Dm X (-1)).mn (z_side X w (-1)) (X 0 3) (X 7)) false 32).2.1 i = true ∧ X 6 i = r)) 14, (z_lst (fun m => decide (z_dm m (z_side X w (-1)) = 0) && decide (z_pc m = k)) (fun m => z_suf (z_Dm X (-1)).op (z_Dm X (-1)).mn (z_Dm X (-1)).gN (X 0 4) (z_xt (z_Dm X (-1)) (X 0 4) (z_Dm X (-1)).mn (z_side X w (-1)) (X 0 3) (X 7) m)) (z_xv (z_Dm X (-1)) (X 0 4) (z_Dm X (-1)).mn (z_side X w (-1)) (X 0 3) (X 7)) false 32).2.2]) else (-1, X)
noncomputable def z_CL (X : z_S) (w : Int) : Int × Int × Int := z_lst (fun _ => true) (fun c => z_suf (z_Dm X (-1)).op (z_Dm X (-1)).mn (z_Dm X (-1)).gN (X 0 4) (z_ht (z_Dm X (-1)) (X 0 4) (z_Dm X (-1)).mn (z_side X w (-1)) (z_side X w (-1)) c (X 7))) (fun c => z_hv (z_Dm X (-1)) (X 0 4) (z_Dm X (-1)).mn (z_side X w (-1)) (z_side X w (-1)) c (X 7)) true (X 0 3 + 1).toNat
noncomputable def s_ceiling (X : z_S) (w : Int) : Int × z_S := if z_seek X w = true then ((z_CL X w).1, z_srow X [(z_CL X w).2.1, (z_CL X w).2.2]) else (-1, X)
noncomputable def s_last (X : z_S) (r : Int) : Int × z_S := (if 0 ≤ z_slr X r ∧ z_seek X (X 5 r) = true then z_hv (z_Dm X (-1)) (X 0 4) (z_Dm X (-1)).mn (z_side X (X 5 r) (-1)) (z_side X (X 5 r) (-1)) (X 0 3) (X 7) - z_xv (z_Dm X (-1)) (X 0 4) (z_Dm X (-1)).mn (z_side X (X 5 r) (-1)) (X 0 3) (X 7) ((2 ^ (z_slr X r).toNat : Nat) : Int) else -1, X)
def s_count (X : z_S) (c : Int) : Int × z_S := (if c = 0 then X 0 0 else if c = 1 then X 0 1 else if c = 2 then X 0 2 else if c = 3 then z_gs X (X 0 2).toNat else if c = 4 then X 0 3 else if c = 5 then X 0 4 else if c = 6 then X 0 6 else if c = 7 then X 0 5 else -1, X)
theorem z_lstc_pos {f b : Int → Int} : ∀ {m : Nat}, (∀ c : Int, 0 ≤ c → c < m → 0 ≤ f c) → 0 < m → 0 ≤ (z_lst (fun _ => true) f b true m).1
  | 0, _, h => absurd h (by omega)
  | m + 1, hf, _ => by
    have h0 := hf m (by omega) (by omega)
    unfold z_lst
    by_cases hm : 0 < m
    · have ih := z_lstc_pos (f := f) (b := b) (m := m) (fun c c0 c1 => hf c c0 (by omega)) hm
      split
      · exact h0
      · exact ih
    · have : m = 0 := by omega
      subst this
      rw [if_pos ⟨rfl, Or.inl (by show (-1 : Int) < 0; omega)⟩]
      exact h0
section
variable {X σ : z_S} {L A : Int}
theorem C_count (h : c_inv σ X) (d : Nat) (c : Int) : c_does (z_ev z_hcC (d + 20) 1136 [z_R 1, z_I c] z_hdC σ) (s_count X c) := by
  have h0 := h
  obtain ⟨L, A, hv, hr1, hr2⟩ := h
  obtain ⟨a1, ⟨b1, b2, b3⟩, a3, a4, a5, a6, a7, a8, a9⟩ := id hv
  have hL := hv.hL
  have l1 := a7.land.1
  have l2 := a7.land.2.1
  have l3 := a7.land.2.2.1
  have l4 := a7.land.2.2.2.1
  have g0 := a7.tab.1
  have g0' : σ 46 0 = z_gs X (X 0 2).toNat := g0
  refine c_does_i (s := σ) ?_ h0
  by_cases c0 : c = 0
  · subst c0; simp (disch := omega) only [z_E1136, b1, c_LC hL, l1, z_fdC, z_pdC, z_adC, z_sdC, z_lkC, z_ndC, z_gdC, z_mdC, z_cI_some', z_cV_some', z_w_ok, Int.reduceAdd, Int.reduceSub, Int.reduceMul, Int.reduceNeg, Int.reduceEq, Int.reduceLT, Int.reduceLE, Int.reduceNe, reduceIte, true_and, and_true, false_and, and_false, if_true, if_false, ne_eq, not_true_eq_false, not_false_eq_true]
  · by_cases c1 : c = 1
    · subst c1; simp (disch := omega) only [z_E1136, b1, c_LC hL, l2, z_fdC, z_pdC, z_adC, z_sdC, z_lkC, z_ndC, z_gdC, z_mdC, z_cI_some', z_cV_some', z_w_ok, Int.reduceAdd, Int.reduceSub, Int.reduceMul, Int.reduceNeg, Int.reduceEq, Int.reduceLT, Int.reduceLE, Int.reduceNe, reduceIte, true_and, and_true, false_and, and_false, if_true, if_false, ne_eq, not_true_eq_false, not_false_eq_true]
    · by_cases c2 : c = 2
      · subst c2; simp (disch := omega) only [z_E1136, b1, c_LC hL, l4, z_fdC, z_pdC, z_adC, z_sdC, z_lkC, z_ndC, z_gdC, z_mdC, z_cI_some', z_cV_some', z_w_ok, Int.reduceAdd, Int.reduceSub, Int.reduceMul, Int.reduceNeg, Int.reduceEq, Int.reduceLT, Int.reduceLE, Int.reduceNe, reduceIte, true_and, and_true, false_and, and_false, if_true, if_false, ne_eq, not_true_eq_false, not_false_eq_true]
      · by_cases c3 : c = 3
        · subst c3; simp (disch := omega) only [z_E1136, g0', z_fdC, z_pdC, z_adC, z_sdC, z_lkC, z_ndC, z_gdC, z_mdC, z_cI_some', z_cV_some', z_w_ok, Int.reduceAdd, Int.reduceSub, Int.reduceMul, Int.reduceNeg, Int.reduceEq, Int.reduceLT, Int.reduceLE, Int.reduceNe, reduceIte, true_and, and_true, false_and, and_false, if_true, if_false, ne_eq, not_true_eq_false, not_false_eq_true]
        · by_cases c4 : c = 4
          · subst c4; simp (disch := omega) only [z_E1136, b1, c_LC hL, l3, z_fdC, z_pdC, z_adC, z_sdC, z_lkC, z_ndC, z_gdC, z_mdC, z_cI_some', z_cV_some', z_w_ok, Int.reduceAdd, Int.reduceSub, Int.reduceMul, Int.reduceNeg, Int.reduceEq, Int.reduceLT, Int.reduceLE, Int.reduceNe, reduceIte, true_and, and_true, false_and, and_false, if_true, if_false, ne_eq, not_true_eq_false, not_false_eq_true]
          · by_cases c5 : c = 5
            · subst c5; simp (disch := omega) only [z_E1136, b3, z_fdC, z_pdC, z_adC, z_sdC, z_lkC, z_ndC, z_gdC, z_mdC, z_cI_some', z_cV_some', z_w_ok, Int.reduceAdd, Int.reduceSub, Int.reduceMul, Int.reduceNeg, Int.reduceEq, Int.reduceLT, Int.reduceLE, Int.reduceNe, reduceIte, true_and, and_true, false_and, and_false, if_true, if_false, ne_eq, not_true_eq_false, not_false_eq_true]
            · by_cases c6 : c = 6
              · subst c6; simp (disch := omega) only [z_E1136, hr1, z_fdC, z_pdC, z_adC, z_sdC, z_lkC, z_ndC, z_gdC, z_mdC, z_cI_some', z_cV_some', z_w_ok, Int.reduceAdd, Int.reduceSub, Int.reduceMul, Int.reduceNeg, Int.reduceEq, Int.reduceLT, Int.reduceLE, Int.reduceNe, reduceIte, true_and, and_true, false_and, and_false, if_true, if_false, ne_eq, not_true_eq_false, not_false_eq_true]
              · by_cases c7 : c = 7
                · subst c7; simp (disch := omega) only [z_E1136, a4, z_fdC, z_pdC, z_adC, z_sdC, z_lkC, z_ndC, z_gdC, z_mdC, z_cI_some', z_cV_some', z_w_ok, Int.reduceAdd, Int.reduceSub, Int.reduceMul, Int.reduceNeg, Int.reduceEq, Int.reduceLT, Int.reduceLE, Int.reduceNe, reduceIte, true_and, and_true, false_and, and_false, if_true, if_false, ne_eq, not_true_eq_false, not_false_eq_true]
                · simp (disch := omega) only [z_E1136, c0, c1, c2, c3, c4, c5, c6, c7, z_fdC, z_pdC, z_adC, z_sdC, z_lkC, z_ndC, z_gdC, z_mdC, z_cI_some', z_cV_some', z_w_ok, Int.reduceAdd, Int.reduceSub, Int.reduceMul, Int.reduceNeg, Int.reduceEq, Int.reduceLT, Int.reduceLE, Int.reduceNe, reduceIte, true_and, and_true, false_and, and_false, if_true, if_false, ne_eq, not_true_eq_false, not_false_eq_true]
theorem c_slr_own (hw : z_wf X) {r : Int} (h : ¬ z_slr X r < 0) : (0 ≤ r ∧ r < X 0 0) ∧ X 6 (z_slr X r) = r ∧ 0 ≤ z_slr X r ∧ z_slr X r < X 0 1 ∧ z_slr X r < 5 ∧ X 5 r ≠ -1 := by
  have h5 := hw.2.1
  have hr : 0 ≤ r ∧ r < X 0 0 := by
    unfold z_slr at h
    split at h
    · next c => exact c
    · omega
  have e : z_slr X r = z_slt X r := if_pos hr
  rcases z_slt_some hw r with ⟨e1, -⟩ | ⟨e1, e2, e3, -⟩
  · omega
  · have := hw.2.2.2.2.2.2.2.2.1 (z_slt X r) e1 e2
    rw [e]
    rw [e3] at this
    exact ⟨hr, e3, e1, e2, by omega, this.2.2⟩
theorem C_line (h : c_inv σ X) (d : Nat) (r : Int) : c_does (z_ev z_hcC (d + 20) 1119 [z_R 1, z_I r] z_hdC σ) (s_line X r) := by
  have h0 := h
  obtain ⟨L, A, hv⟩ := h
  have hL := hv.1.hL
  obtain ⟨b1, b2, b3⟩ := hv.1.2.1
  have hsl := hv.1.slotAt (d + 17) r
  unfold s_line
  by_cases c : z_slr X r < 0
  · rw [if_pos c]
    refine c_does_i (s := σ) ?_ h0
    simp (disch := omega) only [z_E1119, b1, c_LC hL, hsl, if_neg, z_fdC, z_pdC, z_adC, z_sdC, z_lkC, z_ndC, z_gdC, z_mdC, z_cI_some', z_cV_some', z_w_ok, Int.reduceAdd, Int.reduceSub, Int.reduceMul, Int.reduceNeg, Int.reduceEq, Int.reduceLT, Int.reduceLE, Int.reduceNe, reduceIte, true_and, and_true, false_and, and_false, if_true, if_false, ne_eq, not_true_eq_false, not_false_eq_true]
  · rw [if_neg c]
    obtain ⟨-, -, k0, k1, k5, -⟩ := c_slr_own hv.1.wf c
    obtain ⟨σ1, e1, o1, h1⟩ := hv.1.openNow (d + 14)
    obtain ⟨σ2, e2, o2, h2, f2⟩ := c_reckonLine h1.rd (d + 14) k0 k1
    have hcp := h1.rd.cp
    have o12 : z_off 58 75 σ σ2 := z_off_trans (z_off_le o1 (by omega) (by omega)) (z_off_le o2 (by omega) (by omega))
    have hw2 := c_iw_off hv.1 o12 h2.z61 h2.z62
    obtain ⟨c1, c2, c3⟩ := c_clear (σ := σ2) (d + 18)
    have b1' : σ2 1 7 = L := hw2.2.1.1
    have l3' := hw2.Q.land.2.2.1
    have hN : (((X 0 3 + 1).toNat : Nat) : Int) = X 0 3 + 1 := by omega
    obtain ⟨σ3, e3, r3, o3⟩ := z_for (fun (v : Nat) (x : z_S) => z_go (z_ev z_hcC (d + 19)) z_hcC 1119 41 [z_R 1, z_I r, z_I (z_slr X r), z_I (z_gr (z_LF X (z_slr X r)) (X 0 3 + 1).toNat), z_I v] [] z_hdC x) (fun x => some (z_I (z_gr (z_LF X (z_slr X r)) (X 0 3 + 1).toNat), z_hdC, x))
      (fun v x => c_rw x ((List.range v).map (z_LF X (z_slr X r))) ∧ z_off 4 5 σ2 x) (X 0 3 + 1).toNat (s := z_upd σ2 4 1 0) ⟨c2, c3⟩ (fun v x hv2 ⟨hr, ho⟩ => by
        have ha := c_lineAt (σ := x) (d + 18) (v : Int)
        rw [if_pos (by omega), z_oat ho (by omega), f2 v (by omega)] at ha
        obtain ⟨x', a1, a2, a3⟩ := c_add hr (by rw [List.length_map, List.length_range]; omega) (d + 18) (z_LF X (z_slr X r) v)
        refine ⟨x', ?_, ?_, z_off_trans ho a3⟩
        · have l3x : x (L + 1) 2 = X 0 3 := by rw [z_oat ho (by omega)]; exact l3'
          have b1x : x 1 7 = L := by rw [z_oat ho (by omega)]; exact b1'
          have ha' : z_ev z_hcC (d + 18 + 1) 908 [z_R 65, z_I v] z_hdC x = some (z_I (z_LF X (z_slr X r) v), z_hdC, x) := ha
          rw [z_B1119_41]
          simp (disch := omega) only [b1x, c_LC hL, l3x, if_neg, ha', a1, z_ns, z_fdC, z_pdC, z_adC, z_sdC, z_lkC, z_ndC, z_gdC, z_mdC, z_cI_some', z_cV_some', z_w_ok, Int.reduceAdd, Int.reduceSub, Int.reduceMul, Int.reduceNeg, Int.reduceEq, Int.reduceLT, Int.reduceLE, Int.reduceNe, reduceIte, true_and, and_true, false_and, and_false, if_true, if_false, ne_eq, not_true_eq_false, not_false_eq_true]
        · rw [List.range_succ, List.map_append]; exact a2) (fun x ⟨hr, ho⟩ => by
        have l3x : x (L + 1) 2 = X 0 3 := by rw [z_oat ho (by omega)]; exact l3'
        have b1x : x 1 7 = L := by rw [z_oat ho (by omega)]; exact b1'
        rw [z_B1119_41]
        simp (disch := omega) only [b1x, c_LC hL, l3x, if_pos, z_fdC, z_pdC, z_adC, z_sdC, z_lkC, z_ndC, z_gdC, z_mdC, z_cI_some', z_cV_some', z_w_ok, Int.reduceAdd, Int.reduceSub, Int.reduceMul, Int.reduceNeg, Int.reduceEq, Int.reduceLT, Int.reduceLE, Int.reduceNe, reduceIte, true_and, and_true, false_and, and_false, if_true, if_false, ne_eq, not_true_eq_false, not_false_eq_true])
    refine c_does_i (s := σ3) ?_ (c_iv_srow (c_iw_row hw2 o3) r3 (by rw [List.length_map, List.length_range]; omega))
    have e3' : z_go (z_ev z_hcC (d + 19)) z_hcC 1119 41 [z_R 1, z_I r, z_I (z_slr X r), z_I (z_gr (z_LF X (z_slr X r)) (X 0 3 + 1).toNat), z_I 0] [] z_hdC (z_upd σ2 4 1 0) = _ := e3
    have e2' : z_ev z_hcC (d + 14 + 5) 905 [z_R 65, z_I (z_slr X r)] z_hdC σ1 = some (z_I (z_gr (z_LF X (z_slr X r)) (X 0 3 + 1).toNat), z_hdC, σ2) := e2
    simp (disch := omega) only [z_E1119, b1, c_LC hL, hsl, if_pos, e1, e2', c1, e3', z_fdC, z_pdC, z_adC, z_sdC, z_lkC, z_ndC, z_gdC, z_mdC, z_cI_some', z_cV_some', z_w_ok, Int.reduceAdd, Int.reduceSub, Int.reduceMul, Int.reduceNeg, Int.reduceEq, Int.reduceLT, Int.reduceLE, Int.reduceNe, reduceIte, true_and, and_true, false_and, and_false, if_true, if_false, ne_eq, not_true_eq_false, not_false_eq_true]
theorem C_bends (h : c_inv σ X) (d : Nat) (r : Int) : c_does (z_ev z_hcC (d + 20) 1120 [z_R 1, z_I r] z_hdC σ) (s_bends X r) := by
  have h0 := h
  obtain ⟨L, A, hv⟩ := h
  have hL := hv.1.hL
  obtain ⟨b1, b2, b3⟩ := hv.1.2.1
  have hsl := hv.1.slotAt (d + 17) r
  unfold s_bends
  by_cases c : z_slr X r < 0
  · rw [if_pos c]
    refine c_does_i (s := σ) ?_ h0
    simp (disch := omega) only [z_E1120, b1, c_LC hL, hsl, if_neg, z_fdC, z_pdC, z_adC, z_sdC, z_lkC, z_ndC, z_gdC, z_mdC, z_cI_some', z_cV_some', z_w_ok, Int.reduceAdd, Int.reduceSub, Int.reduceMul, Int.reduceNeg, Int.reduceEq, Int.reduceLT, Int.reduceLE, Int.reduceNe, reduceIte, true_and, and_true, false_and, and_false, if_true, if_false, ne_eq, not_true_eq_false, not_false_eq_true]
  · rw [if_neg c]
    obtain ⟨-, -, k0, k1, k5, -⟩ := c_slr_own hv.1.wf c
    obtain ⟨σ1, e1, o1, h1⟩ := hv.1.openNow (d + 14)
    obtain ⟨σ2, e2, o2, h2, f2⟩ := c_reckonLine h1.rd (d + 14) k0 k1
    have hcp := h1.rd.cp
    have o12 : z_off 58 75 σ σ2 := z_off_trans (z_off_le o1 (by omega) (by omega)) (z_off_le o2 (by omega) (by omega))
    have hw2 := c_iw_off hv.1 o12 h2.z61 h2.z62
    obtain ⟨c1, c2, c3⟩ := c_clear (σ := σ2) (d + 18)
    have b1' : σ2 1 7 = L := hw2.2.1.1
    have l3' := hw2.Q.land.2.2.1
    have hrng : ∀ v : Nat, (v : Int) ≤ X 0 3 → 0 ≤ z_LF X (z_slr X r) v ∧ z_LF X (z_slr X r) v ≤ 480000000 := fun v hv2 => h1.rd.brt (z_ts_cap h1.cap (by omega) hv2) _
    obtain ⟨u3, σ3, e3, r3, o3⟩ := z_foru (fun (v : Nat) (u : z_V) (x : z_S) => z_go (z_ev z_hcC (d + 19)) z_hcC 1120 40 [z_R 1, z_I r, z_I (z_slr X r), z_I ((v : Int) + 1), u] [] z_hdC x) (fun _ x => some (z_I ((z_bnl (z_LF X (z_slr X r)) (X 0 3 - 1).toNat).length : Int), z_hdC, x))
      (fun v x => c_rw x (z_bnl (z_LF X (z_slr X r)) v) ∧ z_off 4 5 σ2 x) (X 0 3 - 1).toNat (u := z_U) (s := z_upd σ2 4 1 0) ⟨c2, c3⟩ (fun v u x hv2 ⟨hr, ho⟩ => by
        have ha := fun (i : Nat) (hi : (i : Int) ≤ X 0 3) (y : z_S) (hy : z_off 4 5 σ2 y) => by
          have hh := c_lineAt (σ := y) (d + 18) (i : Int)
          rw [if_pos (by omega), z_oat hy (by omega), f2 i hi] at hh
          exact hh
        have a0 : z_ev z_hcC (d + 18 + 1) 908 [z_R 65, z_I v] z_hdC x = some (z_I (z_LF X (z_slr X r) v), z_hdC, x) := ha v (by omega) x ho
        have a1 : z_ev z_hcC (d + 18 + 1) 908 [z_R 65, z_I ((v : Int) + 1)] z_hdC x = some (z_I (z_LF X (z_slr X r) (v + 1)), z_hdC, x) := by have := ha (v + 1) (by omega) x ho; rw [z_ns] at this; exact this
        have a2 : z_ev z_hcC (d + 18 + 1) 908 [z_R 65, z_I ((v : Int) + 1 + 1)] z_hdC x = some (z_I (z_LF X (z_slr X r) (v + 2)), z_hdC, x) := by
          have := ha (v + 2) (by omega) x ho
          rw [show ((v + 2 : Nat) : Int) = (v : Int) + 1 + 1 by omega] at this
          exact this
        have r0 := hrng v (by omega)
        have r1 := hrng (v + 1) (by omega)
        have r2 := hrng (v + 2) (by omega)
        have l3x : x (L + 1) 2 = X 0 3 := by rw [z_oat ho (by omega)]; exact l3'
        have b1x : x 1 7 = L := by rw [z_oat ho (by omega)]; exact b1'
        have hsub : (v : Int) + 1 - 1 = v := by omega
        by_cases cb : z_LF X (z_slr X r) (v + 2) - z_LF X (z_slr X r) (v + 1) = z_LF X (z_slr X r) (v + 1) - z_LF X (z_slr X r) v
        · refine ⟨z_I (z_LF X (z_slr X r) (v + 1)), x, ?_, ?_, ho⟩
          · rw [z_B1120_40]
            simp (disch := omega) only [b1x, c_LC hL, l3x, if_neg, a0, a1, a2, hsub, cb, z_ns, z_fdC, z_pdC, z_adC, z_sdC, z_lkC, z_ndC, z_gdC, z_mdC, z_cI_some', z_cV_some', z_w_ok, Int.reduceAdd, Int.reduceSub, Int.reduceMul, Int.reduceNeg, Int.reduceEq, Int.reduceLT, Int.reduceLE, Int.reduceNe, reduceIte, true_and, and_true, false_and, and_false, if_true, if_false, ne_eq, not_true_eq_false, not_false_eq_true]
          · have : z_bnl (z_LF X (z_slr X r)) (v + 1) = z_bnl (z_LF X (z_slr X r)) v := if_neg (fun z => z cb)
            rw [this]; exact hr
        · have hbl := z_bnl_len (F := z_LF X (z_slr X r)) v
          obtain ⟨x', q1, q2, q3⟩ := c_add hr (by omega) (d + 18) ((v : Int) + 1)
          refine ⟨z_I (z_LF X (z_slr X r) (v + 1)), x', ?_, ?_, z_off_trans ho q3⟩
          · rw [z_B1120_40]
            simp (disch := omega) only [b1x, c_LC hL, l3x, if_neg, a0, a1, a2, hsub, cb, q1, z_ns, z_fdC, z_pdC, z_adC, z_sdC, z_lkC, z_ndC, z_gdC, z_mdC, z_cI_some', z_cV_some', z_w_ok, Int.reduceAdd, Int.reduceSub, Int.reduceMul, Int.reduceNeg, Int.reduceEq, Int.reduceLT, Int.reduceLE, Int.reduceNe, reduceIte, true_and, and_true, false_and, and_false, if_true, if_false, ne_eq, not_true_eq_false, not_false_eq_true]
          · have : z_bnl (z_LF X (z_slr X r)) (v + 1) = z_bnl (z_LF X (z_slr X r)) v ++ [((v + 1 : Nat) : Int)] := if_pos cb
            rw [this, z_ns]; exact q2) (fun u x ⟨hr, ho⟩ => by
        have l3x : x (L + 1) 2 = X 0 3 := by rw [z_oat ho (by omega)]; exact l3'
        have b1x : x 1 7 = L := by rw [z_oat ho (by omega)]; exact b1'
        have h41 := hr.1
        rw [z_B1120_40]
        simp (disch := omega) only [b1x, c_LC hL, l3x, if_pos, h41, z_fdC, z_pdC, z_adC, z_sdC, z_lkC, z_ndC, z_gdC, z_mdC, z_cI_some', z_cV_some', z_w_ok, Int.reduceAdd, Int.reduceSub, Int.reduceMul, Int.reduceNeg, Int.reduceEq, Int.reduceLT, Int.reduceLE, Int.reduceNe, reduceIte, true_and, and_true, false_and, and_false, if_true, if_false, ne_eq, not_true_eq_false, not_false_eq_true])
    have hbl := z_bnl_len (F := z_LF X (z_slr X r)) (X 0 3 - 1).toNat
    refine c_does_i (s := σ3) ?_ (c_iv_srow (c_iw_row hw2 o3) r3 (by omega))
    have e3' : z_go (z_ev z_hcC (d + 19)) z_hcC 1120 40 [z_R 1, z_I r, z_I (z_slr X r), z_I 1, z_U] [] z_hdC (z_upd σ2 4 1 0) = _ := e3
    have e2' : z_ev z_hcC (d + 14 + 5) 905 [z_R 65, z_I (z_slr X r)] z_hdC σ1 = some (z_I (z_gr (z_LF X (z_slr X r)) (X 0 3 + 1).toNat), z_hdC, σ2) := e2
    simp (disch := omega) only [z_E1120, b1, c_LC hL, hsl, if_pos, e1, e2', c1, e3', z_fdC, z_pdC, z_adC, z_sdC, z_lkC, z_ndC, z_gdC, z_mdC, z_cI_some', z_cV_some', z_w_ok, Int.reduceAdd, Int.reduceSub, Int.reduceMul, Int.reduceNeg, Int.reduceEq, Int.reduceLT, Int.reduceLE, Int.reduceNe, reduceIte, true_and, and_true, false_and, and_false, if_true, if_false, ne_eq, not_true_eq_false, not_false_eq_true]
theorem z_mn99 {lean : Int} {L s : Int} {D : z_D} (h : c_rd σ X L s D lean D.mn) : ∀ g, 0 ≤ g → g < D.gN → 0 ≤ D.mn g ∧ D.mn g ≤ 99 := fun g g0 g1 => by
  have := (h.tab.2.2.2.2 g g0 g1).2.2.2.2.1
  omega
theorem C_climb (h : c_inv σ X) (d : Nat) (w : Int) : c_does (z_ev z_hcC (d + 20) 1121 [z_R 1, z_I w] z_hdC σ) (s_climb X w) := by
  have h0 := h
  obtain ⟨L, A, hv⟩ := h
  have hL := hv.1.hL
  obtain ⟨b1, b2, b3⟩ := hv.1.2.1
  unfold s_climb
  by_cases c : w = 0 ∨ w = 1
  · rw [if_pos c]
    obtain ⟨σ1, e1, o1, h1⟩ := hv.1.openNow (d + 14)
    have hst := z_cn_stops (z_stops_ex (lean := (X 0 4)) (side := (z_side X w (-1))) h1.rd.gn (z_mn99 h1.rd) h1.rd.cp h1.rd.tc)
    obtain ⟨σ2, e2, o2, h2, f2, g2⟩ := c_climbOf h1.rd (d + 13) (w := w) hst
    have o12 : z_off 58 75 σ σ2 := z_off_trans (z_off_le o1 (by omega) (by omega)) (z_off_le o2 (by omega) (by omega))
    have hw2 := c_iw_off hv.1 o12 h2.z61 h2.z62
    generalize z_it (z_Dm X (-1)) (X 0 4) (z_Dm X (-1)).mn (z_side X w (-1)) (X 0 3) (X 7) (z_cn (z_Dm X (-1)) (X 0 4) (z_Dm X (-1)).mn (z_side X w (-1)) (X 0 3) (X 7)) = q at *
    obtain ⟨c1, c2, c3⟩ := c_clear (σ := σ2) (d + 18)
    have g2' : z_upd σ2 4 1 0 65 2 = z_brt (z_Dm X (-1)).op (z_Dm X (-1)).mn (z_Dm X (-1)).gN (X 0 4) (z_side X w (-1)) q.1 := by rw [z_upd_ne (by omega)]; exact g2
    obtain ⟨σ3, e3, r3, o3⟩ := c_add c2 (by simp) (d + 18) (z_brt (z_Dm X (-1)).op (z_Dm X (-1)).mn (z_Dm X (-1)).gN (X 0 4) (z_side X w (-1)) q.1)
    have o23 : z_off 4 5 σ2 σ3 := z_off_trans c3 o3
    have hw3 := c_iw_row hw2 o23
    have hQ := hw3.Q
    have hs := c_sideOf (d + 16) hQ.hL hQ.wf hQ.land hQ.shut w
    have hr := z_side_rng hQ.wf w (-1)
    obtain ⟨σ4, e4, r4, o4⟩ := c_tellTolls (a1 := 66) (m := (z_side X w (-1))) (t := q.1) r3 (by simp) (d + 17) (Or.inr (Or.inl rfl)) ⟨hr.1, hr.2.1⟩ (fun k k0 k1 => by rw [z_oat o23 (by omega)]; exact f2 k k0 k1)
    have hl := z_tl_len (m := (z_side X w (-1))) (t := q.1) 5
    refine c_does_i (s := σ4) ?_ (c_iv_srow (c_iw_row hw3 o4) r4 (by rw [List.length_cons]; omega))
    have b1' : σ3 1 7 = L := hw3.2.1.1
    rcases c with rfl | rfl <;> simp (disch := omega) only [z_E1121, z_E1140, e1, e2, c1, g2', e3, b1', c_LC hL, hs, e4, z_fdC, z_pdC, z_adC, z_sdC, z_lkC, z_ndC, z_gdC, z_mdC, z_cI_some', z_cV_some', z_w_ok, Int.reduceAdd, Int.reduceSub, Int.reduceMul, Int.reduceNeg, Int.reduceEq, Int.reduceLT, Int.reduceLE, Int.reduceNe, reduceIte, true_and, and_true, false_and, and_false, if_true, if_false, ne_eq, not_true_eq_false, not_false_eq_true]
  · rw [if_neg c]
    refine c_does_i (s := σ) ?_ h0
    simp (disch := omega) only [z_E1121, z_E1140, if_neg, if_pos, z_fdC, z_pdC, z_adC, z_sdC, z_lkC, z_ndC, z_gdC, z_mdC, z_cI_some', z_cV_some', z_w_ok, Int.reduceAdd, Int.reduceSub, Int.reduceMul, Int.reduceNeg, Int.reduceEq, Int.reduceLT, Int.reduceLE, Int.reduceNe, reduceIte, true_and, and_true, false_and, and_false, if_true, if_false, ne_eq, not_true_eq_false, not_false_eq_true]
theorem C_gap (h : c_inv σ X) (d : Nat) (w : Int) : c_does (z_ev z_hcC (d + 20) 1122 [z_R 1, z_I w] z_hdC σ) (s_gap X w) := by
  have h0 := h
  obtain ⟨L, A, hv⟩ := h
  unfold s_gap
  by_cases c : z_seek X w = true
  · rw [if_pos c]
    have k0 := hv.1.can (d + 15) c
    obtain ⟨σ1, e1, o1, h1⟩ := hv.1.openNow (d + 14)
    obtain ⟨σ2, e2, o2, f2, h2⟩ := h1.rd.best (d + 14) (z_seek_t.mp c).2
    have hst := z_cn_stops (z_stops_ex (lean := (X 0 4)) (side := (z_side X w (-1))) h1.rd.gn (z_mn99 h1.rd) h1.rd.cp h1.rd.tc)
    obtain ⟨σ3, e3, o3, h3, f3, g3⟩ := c_climbOf h2.rd (d + 13) (w := w) hst
    have v1 := h1.rd.brt (h1.rd.htc (side := (z_side X w (-1))) (mv := (z_side X w (-1))) h1.rd.tc (Int.le_refl _)) (z_side X w (-1))
    have v1' : 0 ≤ z_hv (z_Dm X (-1)) (X 0 4) (z_Dm X (-1)).mn (z_side X w (-1)) (z_side X w (-1)) (X 0 3) (X 7) ∧ z_hv (z_Dm X (-1)) (X 0 4) (z_Dm X (-1)).mn (z_side X w (-1)) (z_side X w (-1)) (X 0 3) (X 7) ≤ 480000000 := v1
    have v2 := h1.rd.brt (z_it_ok (D := (z_Dm X (-1))) (lean := (X 0 4)) (share := (z_Dm X (-1)).mn) (side := (z_side X w (-1))) h1.rd.cp.1 h1.rd.tc (z_cn (z_Dm X (-1)) (X 0 4) (z_Dm X (-1)).mn (z_side X w (-1)) (X 0 3) (X 7))).1 (z_side X w (-1))
    refine c_does_i (s := σ3) ?_ (c_iv_keep hv (z_off_trans (z_off_le o1 (by omega) (by omega)) (z_off_trans (z_off_le o2 (by omega) (by omega)) (z_off_le o3 (by omega) (by omega)))) h3.z61 h3.z62)
    simp (disch := omega) only [z_E1122, k0, e1, e2, e3, g3, z_fdC, z_pdC, z_adC, z_sdC, z_lkC, z_ndC, z_gdC, z_mdC, z_cI_some', z_cV_some', z_w_ok, Int.reduceAdd, Int.reduceSub, Int.reduceMul, Int.reduceNeg, Int.reduceEq, Int.reduceLT, Int.reduceLE, Int.reduceNe, reduceIte, true_and, and_true, false_and, and_false, if_true, if_false, ne_eq, not_true_eq_false, not_false_eq_true]
  · rw [if_neg c]
    have k0 := hv.1.not (d + 15) c
    refine c_does_i (s := σ) ?_ h0
    simp (disch := omega) only [z_E1122, k0, z_fdC, z_pdC, z_adC, z_sdC, z_lkC, z_ndC, z_gdC, z_mdC, z_cI_some', z_cV_some', z_w_ok, Int.reduceAdd, Int.reduceSub, Int.reduceMul, Int.reduceNeg, Int.reduceEq, Int.reduceLT, Int.reduceLE, Int.reduceNe, reduceIte, true_and, and_true, false_and, and_false, if_true, if_false, ne_eq, not_true_eq_false, not_false_eq_true]
theorem C_ceiling (h : c_inv σ X) (d : Nat) (w : Int) : c_does (z_ev z_hcC (d + 20) 1127 [z_R 1, z_I w] z_hdC σ) (s_ceiling X w) := by
  have h0 := h
  obtain ⟨L, A, hv⟩ := h
  unfold s_ceiling
  by_cases c : z_seek X w = true
  · rw [if_pos c]
    have k0 := hv.1.can (d + 15) c
    obtain ⟨σ1, e1, o1, h1⟩ := hv.1.openNow (d + 14)
    have hcp := h1.rd.cp
    obtain ⟨σ2, e2, o2, h2, f2⟩ := c_ceilingOf h1.rd (d + 13) (w := w) (z_seek_t.mp c).2
    have hpos : 0 ≤ (z_CL X w).1 := by
      unfold z_CL
      exact z_lstc_pos (fun c c0 c1 => h1.rd.sufpos (z_ti_cap (by omega) h1.rd.cp.1 h1.rd.tc _)) (by omega)
    have hcl : (σ2 65 0, σ2 65 1) = (z_CL X w).2 := f2 hpos
    have g0 : σ2 65 0 = (z_CL X w).2.1 := congrArg Prod.fst hcl
    have g1 : σ2 65 1 = (z_CL X w).2.2 := congrArg Prod.snd hcl
    have o12 : z_off 58 75 σ σ2 := z_off_trans (z_off_le o1 (by omega) (by omega)) (z_off_le o2 (by omega) (by omega))
    have hw2 := c_iw_off hv.1 o12 h2.z61 h2.z62
    obtain ⟨c1, c2, c3⟩ := c_clear (σ := σ2) (d + 18)
    obtain ⟨σ3, e3, r3, o3⟩ := c_add c2 (by simp) (d + 18) (z_CL X w).2.1
    obtain ⟨σ4, e4, r4, o4⟩ := c_add r3 (by simp) (d + 18) (z_CL X w).2.2
    have p0 : z_upd σ2 4 1 0 65 0 = (z_CL X w).2.1 := by rw [z_upd_ne (by omega)]; exact g0
    have p1 : σ3 65 1 = (z_CL X w).2.2 := by rw [z_oat o3 (by omega), z_upd_ne (by omega)]; exact g1
    refine c_does_i (s := σ4) ?_ (c_iv_srow (c_iw_row hw2 (z_off_trans c3 (z_off_trans o3 o4))) r4 (by simp))
    have e2' : z_ev z_hcC (d + 13 + 6) 914 [z_R 65, z_I w] z_hdC σ1 = some (z_I (z_CL X w).1, z_hdC, σ2) := e2
    simp (disch := omega) only [z_E1127, k0, e1, e2', c1, p0, e3, p1, e4, z_fdC, z_pdC, z_adC, z_sdC, z_lkC, z_ndC, z_gdC, z_mdC, z_cI_some', z_cV_some', z_w_ok, Int.reduceAdd, Int.reduceSub, Int.reduceMul, Int.reduceNeg, Int.reduceEq, Int.reduceLT, Int.reduceLE, Int.reduceNe, reduceIte, true_and, and_true, false_and, and_false, if_true, if_false, ne_eq, not_true_eq_false, not_false_eq_true]
  · rw [if_neg c]
    have k0 := hv.1.not (d + 15) c
    refine c_does_i (s := σ) ?_ h0
    simp (disch := omega) only [z_E1127, k0, z_fdC, z_pdC, z_adC, z_sdC, z_lkC, z_ndC, z_gdC, z_mdC, z_cI_some', z_cV_some', z_w_ok, Int.reduceAdd, Int.reduceSub, Int.reduceMul, Int.reduceNeg, Int.reduceEq, Int.reduceLT, Int.reduceLE, Int.reduceNe, reduceIte, true_and, and_true, false_and, and_false, if_true, if_false, ne_eq, not_true_eq_false, not_false_eq_true]
theorem C_last (h : c_inv σ X) (d : Nat) (r : Int) : c_does (z_ev z_hcC (d + 20) 1134 [z_R 1, z_I r] z_hdC σ) (s_last X r) := by
  have h0 := h
  obtain ⟨L, A, hv⟩ := h
  have hL := hv.1.hL
  obtain ⟨b1, b2, b3⟩ := hv.1.2.1
  have hQ := hv.1.Q
  have hsl := hv.1.slotAt (d + 17) r
  have hho := c_houseOf (σ := σ) (q := L + 1) (by omega) (d + 17) r
  rw [show L + 1 + 1 = L + 2 by omega, hQ.land.1] at hho
  unfold s_last
  by_cases c : z_slr X r < 0
  · rw [if_neg (fun z => by omega)]
    refine c_does_i (s := σ) ?_ h0
    simp (disch := omega) only [z_E1134, b1, c_LC hL, hsl, hho, if_pos, z_fdC, z_pdC, z_adC, z_sdC, z_lkC, z_ndC, z_gdC, z_mdC, z_cI_some', z_cV_some', z_w_ok, Int.reduceAdd, Int.reduceSub, Int.reduceMul, Int.reduceNeg, Int.reduceEq, Int.reduceLT, Int.reduceLE, Int.reduceNe, reduceIte, true_and, and_true, false_and, and_false, if_true, if_false, ne_eq, not_true_eq_false, not_false_eq_true]
  · obtain ⟨hr, e6, k0, k1, k5, -⟩ := c_slr_own hv.1.wf c
    have hn := hQ.wf.1
    rw [if_pos (by omega), (hQ.land.2.2.2.2.1 r hr.1 hr.2).2.2.2.2.1] at hho
    by_cases cs : z_seek X (X 5 r) = true
    · rw [if_pos ⟨k0, cs⟩]
      have kc := hv.1.can (d + 15) cs
      obtain ⟨σ1, e1, o1, h1⟩ := hv.1.openNow (d + 14)
      obtain ⟨σ2, e2, o2, f2, h2⟩ := h1.rd.best (d + 14) (z_seek_t.mp cs).2
      have hp5 : 2 ^ (z_slr X r).toNat < 2 ^ 5 := Nat.pow_lt_pow_right (by omega) (by omega)
      have hsh := z_shl1 k0 (show z_slr X r < 31 by omega)
      have hp32 : 0 ≤ ((2 ^ (z_slr X r).toNat : Nat) : Int) ∧ ((2 ^ (z_slr X r).toNat : Nat) : Int) < 32 := ⟨Int.natCast_nonneg _, by exact_mod_cast hp5⟩
      obtain ⟨σ3, e3, o3, h3⟩ := c_bestWithFree h2.rd (d + 13) (w := X 5 r) hp32 (z_seek_t.mp cs).2
      have v1 := h1.rd.brt (h1.rd.htc (side := z_side X (X 5 r) (-1)) (mv := z_side X (X 5 r) (-1)) h1.rd.tc (Int.le_refl _)) (z_side X (X 5 r) (-1))
      have v1' : 0 ≤ z_hv (z_Dm X (-1)) (X 0 4) (z_Dm X (-1)).mn (z_side X (X 5 r) (-1)) (z_side X (X 5 r) (-1)) (X 0 3) (X 7) ∧ z_hv (z_Dm X (-1)) (X 0 4) (z_Dm X (-1)).mn (z_side X (X 5 r) (-1)) (z_side X (X 5 r) (-1)) (X 0 3) (X 7) ≤ 480000000 := v1
      have v2 := h1.rd.brt (h1.rd.htc (side := z_side X (X 5 r) (-1)) (mv := z_dm (z_side X (X 5 r) (-1)) ((2 ^ (z_slr X r).toNat : Nat) : Int)) (z_t0_cap (m := ((2 ^ (z_slr X r).toNat : Nat) : Int)) h1.rd.cp.1 h1.rd.tc) (Int.le_refl _)) (z_side X (X 5 r) (-1))
      have v2' : 0 ≤ z_xv (z_Dm X (-1)) (X 0 4) (z_Dm X (-1)).mn (z_side X (X 5 r) (-1)) (X 0 3) (X 7) ((2 ^ (z_slr X r).toNat : Nat) : Int) ∧ z_xv (z_Dm X (-1)) (X 0 4) (z_Dm X (-1)).mn (z_side X (X 5 r) (-1)) (X 0 3) (X 7) ((2 ^ (z_slr X r).toNat : Nat) : Int) ≤ 480000000 := v2
      refine c_does_i (s := σ3) ?_ (c_iv_keep hv (z_off_trans (z_off_le o1 (by omega) (by omega)) (z_off_trans (z_off_le o2 (by omega) (by omega)) (z_off_le o3 (by omega) (by omega)))) h3.z61 h3.z62)
      simp (disch := omega) only [z_E1134, b1, c_LC hL, hsl, hho, if_neg, kc, e1, e2, hsh, e3, z_fdC, z_pdC, z_adC, z_sdC, z_lkC, z_ndC, z_gdC, z_mdC, z_cI_some', z_cV_some', z_w_ok, Int.reduceAdd, Int.reduceSub, Int.reduceMul, Int.reduceNeg, Int.reduceEq, Int.reduceLT, Int.reduceLE, Int.reduceNe, reduceIte, true_and, and_true, false_and, and_false, if_true, if_false, ne_eq, not_true_eq_false, not_false_eq_true]
    · rw [if_neg (fun z => cs z.2)]
      have kc := hv.1.not (d + 15) cs
      refine c_does_i (s := σ) ?_ h0
      simp (disch := omega) only [z_E1134, b1, c_LC hL, hsl, hho, if_neg, kc, z_fdC, z_pdC, z_adC, z_sdC, z_lkC, z_ndC, z_gdC, z_mdC, z_cI_some', z_cV_some', z_w_ok, Int.reduceAdd, Int.reduceSub, Int.reduceMul, Int.reduceNeg, Int.reduceEq, Int.reduceLT, Int.reduceLE, Int.reduceNe, reduceIte, true_and, and_true, false_and, and_false, if_true, if_false, ne_eq, not_true_eq_false, not_false_eq_true]
end
