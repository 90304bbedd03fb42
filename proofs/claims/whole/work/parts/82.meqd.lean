/-! The reference: a world changed in its questions' part only. -/
section
variable {σ X X' : z_S}
theorem z_dfl_congr (h : z_eqd X X') {s to : Int} {K : Nat} : ∀ {n : Nat} {c seen : Int}, z_dfl X' s to K n c seen = z_dfl X s to K n c seen
  | 0, _, _ => rfl
  | n + 1, c, seen => by
    have hn : ∀ r c, z_nx X' r c = z_nx X r c := fun r c => by unfold z_nx; rw [h.1 1 (by omega), h.1 2 (by omega)]
    have ih : ∀ c seen, z_dfl X' s to K n c seen = z_dfl X s to K n c seen := fun c seen => z_dfl_congr h
    unfold z_dfl z_can
    simp only [hn, ih]
theorem z_wt_congr (h : z_eqd X X') (j : Int) : z_wt X' j = z_wt X j := by
  have hK : z_K X' j = z_K X j := by
    unfold z_K
    rw [h.2 0 (by omega) (by omega), h.1 14 (by omega)]
  unfold z_wt
  simp only [z_dfl_congr h, hK, h.1 15 (by omega), h.1 9 (by omega), h.1 8 (by omega)]
theorem m_ways_eqd (h : z_eqd X X') (hy : m_ways σ X) : m_ways σ X' := fun j h0 h1 => by
  rw [h.2 2 (by omega) (by omega)] at h1
  rw [z_wt_congr h]
  exact hy j h0 h1
theorem m_land_eqd (h : z_eqd X X') (h3 : X' 0 3 = X 0 3) (hl : m_land σ X) : m_land σ X' := by
  unfold m_land at *
  rw [h.2 0 (by omega) (by omega), h.2 1 (by omega) (by omega), h.2 2 (by omega) (by omega), h3, h.1 1 (by omega), h.1 2 (by omega), h.1 3 (by omega), h.1 4 (by omega), h.1 5 (by omega), h.1 6 (by omega), h.1 8 (by omega), h.1 9 (by omega), h.1 10 (by omega), h.1 11 (by omega), h.1 12 (by omega), h.1 13 (by omega), h.1 14 (by omega), h.1 15 (by omega), h.1 16 (by omega)]
  exact hl
theorem m_isJourney (d : Nat) (hw : z_wf X) (hl : m_land σ X) (j : Int) : z_ev z_hcM (d + 2) 1206 [z_R 1, z_I j] z_hdM σ = some (z_I (if 0 ≤ j ∧ j < X 0 2 then 1 else 0), z_hdM, σ) := by
  have h := hl.1.2.2.2
  have hn := hw.2.2.1
  by_cases c : 0 ≤ j ∧ j < X 0 2
  · rw [if_pos c]
    simp (disch := omega) only [z_E1206, z_E1202, h, if_neg, if_pos, or_true, true_or, z_fdM, z_pdM, z_adM, z_sdM, z_lkM, z_ndM, z_gdM, z_cI_some', z_cV_some', z_w_ok, Int.reduceAdd, Int.reduceSub, Int.reduceMul, Int.reduceNeg, Int.reduceEq, Int.reduceLT, Int.reduceLE, Int.reduceNe, reduceIte, true_and, and_true, false_and, and_false, if_true, if_false, ne_eq, not_true_eq_false, not_false_eq_true]
  · rw [if_neg c]
    by_cases c2 : j < 0
    · simp (disch := omega) only [z_E1206, z_E1202, h, if_neg, if_pos, or_true, true_or, z_fdM, z_pdM, z_adM, z_sdM, z_lkM, z_ndM, z_gdM, z_cI_some', z_cV_some', z_w_ok, Int.reduceAdd, Int.reduceSub, Int.reduceMul, Int.reduceNeg, Int.reduceEq, Int.reduceLT, Int.reduceLE, Int.reduceNe, reduceIte, true_and, and_true, false_and, and_false, if_true, if_false, ne_eq, not_true_eq_false, not_false_eq_true]
    · simp (disch := omega) only [z_E1206, z_E1202, h, if_neg, if_pos, or_true, true_or, z_fdM, z_pdM, z_adM, z_sdM, z_lkM, z_ndM, z_gdM, z_cI_some', z_cV_some', z_w_ok, Int.reduceAdd, Int.reduceSub, Int.reduceMul, Int.reduceNeg, Int.reduceEq, Int.reduceLT, Int.reduceLE, Int.reduceNe, reduceIte, true_and, and_true, false_and, and_false, if_true, if_false, ne_eq, not_true_eq_false, not_false_eq_true]
theorem m_isRoad (d : Nat) (hw : z_wf X) (hl : m_land σ X) (r : Int) : z_ev z_hcM (d + 2) 1205 [z_R 1, z_I r] z_hdM σ = some (z_I (if 0 ≤ r ∧ r < X 0 0 then 1 else 0), z_hdM, σ) := by
  have h := hl.1.1
  have hn := hw.1
  by_cases c : 0 ≤ r ∧ r < X 0 0
  · rw [if_pos c]
    simp (disch := omega) only [z_E1205, z_E1202, h, if_neg, if_pos, or_true, true_or, z_fdM, z_pdM, z_adM, z_sdM, z_lkM, z_ndM, z_gdM, z_cI_some', z_cV_some', z_w_ok, Int.reduceAdd, Int.reduceSub, Int.reduceMul, Int.reduceNeg, Int.reduceEq, Int.reduceLT, Int.reduceLE, Int.reduceNe, reduceIte, true_and, and_true, false_and, and_false, if_true, if_false, ne_eq, not_true_eq_false, not_false_eq_true]
  · rw [if_neg c]
    by_cases c2 : r < 0
    · simp (disch := omega) only [z_E1205, z_E1202, h, if_neg, if_pos, or_true, true_or, z_fdM, z_pdM, z_adM, z_sdM, z_lkM, z_ndM, z_gdM, z_cI_some', z_cV_some', z_w_ok, Int.reduceAdd, Int.reduceSub, Int.reduceMul, Int.reduceNeg, Int.reduceEq, Int.reduceLT, Int.reduceLE, Int.reduceNe, reduceIte, true_and, and_true, false_and, and_false, if_true, if_false, ne_eq, not_true_eq_false, not_false_eq_true]
    · simp (disch := omega) only [z_E1205, z_E1202, h, if_neg, if_pos, or_true, true_or, z_fdM, z_pdM, z_adM, z_sdM, z_lkM, z_ndM, z_gdM, z_cI_some', z_cV_some', z_w_ok, Int.reduceAdd, Int.reduceSub, Int.reduceMul, Int.reduceNeg, Int.reduceEq, Int.reduceLT, Int.reduceLE, Int.reduceNe, reduceIte, true_and, and_true, false_and, and_false, if_true, if_false, ne_eq, not_true_eq_false, not_false_eq_true]
theorem z_flt_add (N : Nat) : ∀ V : List (List Int), (V.filter (fun l => decide (1 ≤ l.length ∧ l.length ≤ N + 1))).length = (V.filter (fun l => decide (1 ≤ l.length ∧ l.length ≤ N))).length + (V.filter (fun l => decide (l.length = N + 1))).length
  | [] => rfl
  | x :: V => by
    have ih := z_flt_add N V
    rw [List.filter_cons, List.filter_cons, List.filter_cons]
    by_cases h1 : x.length = N + 1
    · rw [if_pos (decide_eq_true (by omega)), if_neg (by rw [decide_eq_true_eq]; omega), if_pos (decide_eq_true h1), List.length_cons, List.length_cons]
      omega
    · by_cases h2 : 1 ≤ x.length ∧ x.length ≤ N
      · rw [if_pos (decide_eq_true (by omega)), if_pos (decide_eq_true h2), if_neg (by rw [decide_eq_true_eq]; exact h1), List.length_cons, List.length_cons]
        omega
      · rw [if_neg (by rw [decide_eq_true_eq]; omega), if_neg (by rw [decide_eq_true_eq]; exact h2), if_neg (by rw [decide_eq_true_eq]; exact h1)]
        exact ih
theorem z_flt_len (V : List (List Int)) : ∀ N : Nat, ((List.range N).flatMap (fun n => V.filter (fun l => decide (l.length = n + 1)))).length = (V.filter (fun l => decide (1 ≤ l.length ∧ l.length ≤ N))).length
  | 0 => by
    have : V.filter (fun l => decide (1 ≤ l.length ∧ l.length ≤ 0)) = [] := List.filter_eq_nil_iff.mpr (fun l _ => by rw [decide_eq_true_eq]; omega)
    rw [this]
    rfl
  | N + 1 => by
    rw [List.range_succ, List.flatMap_append, List.length_append, z_flt_len V N, z_flt_add]
    simp
theorem z_wt_len (hw : z_wf X) {j : Int} (hj : 0 ≤ j ∧ j < X 0 2) : ((z_wt X j).length : Int) = z_wc X (-1) j := by
  have hne := (hw.2.2.2.2.2.2.2.2.2.2.2.2.2.1 j hj.1 hj.2).2.2.1
  have e : (List.range 7).flatMap (fun n => z_dfl X (-1) (X 9 j) (z_K X j) (n + 1) (X 8 j) (z_shl 1 (X 8 j))) = (List.range 7).flatMap (fun n => (z_wys X (-1) j).filter (fun l => decide (l.length = n + 1))) := by
    rw [List.flatMap_def, List.flatMap_def]
    refine congrArg List.flatten (List.map_congr_left (fun n hn => ?_))
    rw [List.mem_range] at hn
    exact z_dfl_eq (n := 7) (by omega)
  have hall : (z_wys X (-1) j).filter (fun l => decide (1 ≤ l.length ∧ l.length ≤ 7)) = z_wys X (-1) j := List.filter_eq_self.mpr (fun l hl => by
    obtain ⟨h1, -, h3⟩ := z_dfs_mem hl
    have : 0 < l.length := List.length_pos_iff.mpr (fun e => hne (h3 e))
    exact decide_eq_true ⟨this, h1⟩)
  unfold z_wt z_wc
  rw [e, List.length_append, z_flt_len, hall]
  split <;> simp <;> omega
theorem M_ways (h : m_inv σ X) (d : Nat) (j : Int) : m_does (z_ev z_hcM (d + 20) 1246 [z_R 1, z_I j] z_hdM σ) (s_ways X j) := by
  have hi := m_inv_thr h
  have hn := h.1.2.2.1
  have k := m_isJourney (σ := z_upd σ 1 26 0) (d + 17) h.1 hi.2.1 j
  refine ⟨z_upd σ 1 26 0, ?_, hi, z_upd_same⟩
  unfold s_ways
  by_cases c : 0 ≤ j ∧ j < X 0 2
  · rw [if_pos c] at k ⊢
    have e := (h.2.2.1 j c.1 c.2).1
    rw [z_wt_len h.1 c] at e
    simp (disch := omega) only [z_E1246, k, z_upd_ne, e, z_fdM, z_pdM, z_adM, z_sdM, z_lkM, z_ndM, z_gdM, z_cI_some', z_cV_some', z_w_ok, Int.reduceAdd, Int.reduceSub, Int.reduceMul, Int.reduceNeg, Int.reduceEq, Int.reduceLT, Int.reduceLE, Int.reduceNe, reduceIte, true_and, and_true, false_and, and_false, if_true, if_false, ne_eq, not_true_eq_false, not_false_eq_true]
  · rw [if_neg c] at k ⊢
    simp (disch := omega) only [z_E1246, k, z_fdM, z_pdM, z_adM, z_sdM, z_lkM, z_ndM, z_gdM, z_cI_some', z_cV_some', z_w_ok, Int.reduceAdd, Int.reduceSub, Int.reduceMul, Int.reduceNeg, Int.reduceEq, Int.reduceLT, Int.reduceLE, Int.reduceNe, reduceIte, true_and, and_true, false_and, and_false, if_true, if_false, ne_eq, not_true_eq_false, not_false_eq_true]
end
