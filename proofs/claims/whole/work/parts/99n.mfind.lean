/-! The reference: findWays. -/
section
variable {σ0 σ σ' σ'' X : z_S} {j n n' : Int}
theorem m_wj_gf {j' : Int} {V : List (List Int)} (h : m_gf j n σ σ') (hn : 0 ≤ n) (hne : j' ≠ j) (h7 : ∀ l ∈ V, l.length ≤ 7) (hV : m_wj σ j' V) : m_wj σ' j' V := by
  obtain ⟨v1, v2, v3⟩ := hV
  refine ⟨by rw [h _ _ (by omega)]; exact v1, v2, fun i hi => ?_⟩
  obtain ⟨w1, w2⟩ := v3 i hi
  have := h7 _ (z_getDl hi)
  exact ⟨by rw [h _ _ (by omega)]; exact w1, fun p hp => by rw [h _ _ (by omega)]; exact w2 p hp⟩
/-- the ways of at most k roads -/
def z_wk (X : z_S) (j : Int) (k : Nat) : List (List Int) := (if X 15 j < 0 then [] else [[]]) ++ (List.range k).flatMap (fun n => z_dfl X (-1) (X 9 j) (z_K X j) (n + 1) (X 8 j) (z_shl 1 (X 8 j)))
theorem z_wk_s {k : Nat} : z_wk X j (k + 1) = z_wk X j k ++ z_dfl X (-1) (X 9 j) (z_K X j) (k + 1) (X 8 j) (z_shl 1 (X 8 j)) := by
  unfold z_wk
  rw [List.range_succ, List.flatMap_append, List.append_assoc]
  simp
theorem z_wk_7 : z_wk X j 7 = z_wt X j := rfl
theorem z_wk_len {k : Nat} (hk : k ≤ 7) : ∀ l ∈ z_wk X j k, l.length ≤ 7 := fun l hl => by
  unfold z_wk at hl
  rcases List.mem_append.mp hl with h | h
  · split at h
    · cases h
    · rw [List.mem_singleton] at h
      rw [h]
      exact Nat.zero_le _
  · rw [List.mem_flatMap] at h
    obtain ⟨n, hn, h⟩ := h
    rw [List.mem_range] at hn
    have := (z_dfl_mem h).1
    omega
theorem z_wk_le {k : Nat} : ∀ i : Nat, (z_wk X j k).length ≤ (z_wk X j (k + i)).length
  | 0 => Nat.le_refl _
  | i + 1 => by
    have ih := z_wk_le (k := k) i
    rw [show k + (i + 1) = (k + i) + 1 by omega, z_wk_s, List.length_append]
    omega
/-- the ways of one journey -/
theorem m_find1 (hw : z_wf X) (hl : m_land σ X) (hj : 0 ≤ j ∧ j < X 0 2) (d : Nat) (hV : m_wj σ j (z_wk X j 0)) :
    ∃ (σ' : z_S) (v k : Int), z_go (z_ev z_hcM (d + 9)) z_hcM 1222 49 [z_R 1, z_I 1, z_I j, z_I 1] [] z_hdM σ = z_go (z_ev z_hcM (d + 9)) z_hcM 1222 4 [z_R 1, z_I v, z_I (j + 1), z_I k] [] z_hdM σ' ∧ m_gf j 0 σ σ' ∧ ((v = 1 ∧ m_wj σ' j (z_wt X j)) ∨ (v = 0 ∧ 200 < (z_wt X j).length)) := by
  have hnJ := hw.2.2.1
  have hJ := hw.2.2.2.2.2.2.2.2.2.2.2.2.2.1 j hj.1 hj.2
  have hsh := z_shl1 (k := X 8 j) hJ.1.1 (by omega)
  have hp8 : 2 ^ (X 8 j).toNat ≤ 2 ^ 7 := Nat.pow_le_pow_right (by omega) (by omega)
  have hseen : 0 ≤ z_shl 1 (X 8 j) ∧ z_shl 1 (X 8 j) < 256 := by
    rw [hsh]
    generalize 2 ^ (X 8 j).toNat = p at *
    omega
  have go : ∀ (i k : Nat) (x : z_S), k + i = 7 → m_gf j 0 σ x → m_wj x j (z_wk X j k) → ∃ (σ' : z_S) (v k2 : Int), z_go (z_ev z_hcM (d + 9)) z_hcM 1222 49 [z_R 1, z_I 1, z_I j, z_I ((k : Int) + 1)] [] z_hdM x = z_go (z_ev z_hcM (d + 9)) z_hcM 1222 4 [z_R 1, z_I v, z_I (j + 1), z_I k2] [] z_hdM σ' ∧ m_gf j 0 σ σ' ∧ ((v = 1 ∧ m_wj σ' j (z_wt X j)) ∨ (v = 0 ∧ 200 < (z_wt X j).length)) := by
    intro i
    induction i with
    | zero =>
      intro k x hk xg xw
      have ek : k = 7 := by omega
      subst ek
      refine ⟨x, 1, 8, ?_, xg, Or.inl ⟨rfl, xw⟩⟩
      rw [z_B1222_49]
      simp (disch := omega) only [if_pos, z_fdM, z_pdM, z_adM, z_sdM, z_lkM, z_ndM, z_gdM, z_cI_some', z_cV_some', z_w_ok, Int.reduceAdd, Int.reduceSub, Int.reduceMul, Int.reduceNeg, Int.reduceEq, Int.reduceLT, Int.reduceLE, Int.reduceNe, reduceIte, true_and, and_true, false_and, and_false, if_true, if_false, ne_eq, not_true_eq_false, not_false_eq_true]
      rfl
    | succ i ih =>
      intro k x hk xg xw
      have hlx := m_land_off (m_gf_off xg) (by omega) (by omega) hl
      have e9 := (hlx.2.2.2 j hj.1 hj.2).1
      obtain ⟨x2, v, a1, a2, a3⟩ := m_goOn hw hj (k + 1) (X 8 j) (z_shl 1 (X 8 j)) [] (z_wk X j k) x (d + 7 - k) hlx (by show 0 + (k + 1) ≤ 7; omega) ⟨hJ.1.1, by omega⟩ hseen xw (z_wk_len (by omega)) (fun i hi => absurd hi (Nat.not_lt_zero i))
      rw [show d + 7 - k + (k + 1) + 1 = d + 9 by omega] at a1
      have a1' : z_ev z_hcM (d + 9) 1223 [z_R 1, z_I j, z_I (X 8 j), z_I (z_shl 1 (X 8 j)), z_I 0, z_I ((k : Int) + 1)] z_hdM x = some (z_I v, z_hdM, x2) := by
        have e : ((([] : List Int).length + (k + 1) : Nat) : Int) = (k : Int) + 1 := by show ((0 + (k + 1) : Nat) : Int) = _; omega
        rw [e] at a1
        exact a1
      have xg2 : m_gf j 0 σ x2 := m_gf_trans xg a2
      rcases a3 with ⟨rfl, a3⟩ | ⟨rfl, a3⟩
      · have a3' : m_wj x2 j (z_wk X j (k + 1)) := by
          rw [z_wk_s]
          have e : (z_dfl X (-1) (X 9 j) (z_K X j) (k + 1) (X 8 j) (z_shl 1 (X 8 j))).map (fun l => [] ++ l) = z_dfl X (-1) (X 9 j) (z_K X j) (k + 1) (X 8 j) (z_shl 1 (X 8 j)) := List.map_id' _
          rw [e] at a3
          exact a3
        obtain ⟨σ', v, k2, c1, c2⟩ := ih (k + 1) x2 (by omega) xg2 a3'
        rw [z_ns] at c1
        refine ⟨σ', v, k2, ?_, c2⟩
        rw [← c1, z_B1222_49]
        simp (disch := omega) only [if_neg, e9, a1', z_fdM, z_pdM, z_adM, z_sdM, z_lkM, z_ndM, z_gdM, z_cI_some', z_cV_some', z_w_ok, Int.reduceAdd, Int.reduceSub, Int.reduceMul, Int.reduceNeg, Int.reduceEq, Int.reduceLT, Int.reduceLE, Int.reduceNe, reduceIte, true_and, and_true, false_and, and_false, if_true, if_false, ne_eq, not_true_eq_false, not_false_eq_true]
      · refine ⟨x2, 0, (k : Int) + 1 + 1, ?_, xg2, Or.inr ⟨rfl, ?_⟩⟩
        · rw [z_B1222_49]
          simp (disch := omega) only [if_neg, e9, a1', z_fdM, z_pdM, z_adM, z_sdM, z_lkM, z_ndM, z_gdM, z_cI_some', z_cV_some', z_w_ok, Int.reduceAdd, Int.reduceSub, Int.reduceMul, Int.reduceNeg, Int.reduceEq, Int.reduceLT, Int.reduceLE, Int.reduceNe, reduceIte, true_and, and_true, false_and, and_false, if_true, if_false, ne_eq, not_true_eq_false, not_false_eq_true]
          rw [z_B1222_49]
          by_cases c7 : 7 < (k : Int) + 1 + 1
          · simp (disch := omega) only [if_pos, z_fdM, z_pdM, z_adM, z_sdM, z_lkM, z_ndM, z_gdM, z_cI_some', z_cV_some', z_w_ok, Int.reduceAdd, Int.reduceSub, Int.reduceMul, Int.reduceNeg, Int.reduceEq, Int.reduceLT, Int.reduceLE, Int.reduceNe, reduceIte, true_and, and_true, false_and, and_false, if_true, if_false, ne_eq, not_true_eq_false, not_false_eq_true]
          · simp (disch := omega) only [if_neg, z_fdM, z_pdM, z_adM, z_sdM, z_lkM, z_ndM, z_gdM, z_cI_some', z_cV_some', z_w_ok, Int.reduceAdd, Int.reduceSub, Int.reduceMul, Int.reduceNeg, Int.reduceEq, Int.reduceLT, Int.reduceLE, Int.reduceNe, reduceIte, true_and, and_true, false_and, and_false, if_true, if_false, ne_eq, not_true_eq_false, not_false_eq_true]
        · have hle := z_wk_le (X := X) (j := j) (k := k + 1) (7 - (k + 1))
          rw [show k + 1 + (7 - (k + 1)) = 7 by omega, z_wk_7, z_wk_s, List.length_append] at hle
          omega
  have := go 7 0 σ rfl m_gf_refl hV
  exact this
theorem m_findWays (hw : z_wf X) (hl : m_land σ X) (d : Nat) : ∃ (σ' : z_S), z_ev z_hcM (d + 10) 1222 [z_R 1] z_hdM σ = some (z_I (if z_fit X (-1) (X 0 2).toNat = true then 1 else 0), z_hdM, σ') ∧ m_off 99 32 35 σ σ' ∧ (∀ i, σ' 8 i = σ 8 i) ∧ (z_fit X (-1) (X 0 2).toNat = true → m_ways σ' X) := by
  have hnJ := hw.2.2.1
  obtain ⟨u9, σ', e, o, h8, f⟩ := z_foru (U := Int) (fun (j : Nat) (u : Int) (x : z_S) => z_go (z_ev z_hcM (d + 9)) z_hcM 1222 4 [z_R 1, z_I (if z_fit X (-1) j = true then 1 else 0), z_I j, if j = 0 then z_U else z_I u] [] z_hdM x) (fun _ x => some (z_I (if z_fit X (-1) (X 0 2).toNat = true then 1 else 0), z_hdM, x)) (fun j x => m_off 99 32 35 σ x ∧ (∀ i, x 8 i = σ 8 i) ∧ (z_fit X (-1) j = true → ∀ j' : Nat, j' < j → m_wj x j' (z_wt X j'))) (X 0 2).toNat (u := 0) (s := σ) ⟨m_off_refl, fun _ => rfl, fun _ j' hj' => absurd hj' (Nat.not_lt_zero j')⟩
    (fun j u x hj ⟨xo, x8, xf⟩ => by
      have hjr : 0 ≤ (j : Int) ∧ (j : Int) < X 0 2 := by omega
      have hlx := m_land_off xo (by omega) (by omega) hl
      have l4 := hlx.1.2.2.2
      have e16 := (hlx.2.2.2 j hjr.1 hjr.2).2.2.2.2.2.2.2.1
      have hJ := hw.2.2.2.2.2.2.2.2.2.2.2.2.2.1 j hjr.1 hjr.2
      have hs : z_fit X (-1) (j + 1) = (z_fit X (-1) j && decide (z_wc X (-1) j ≤ 200)) := rfl
      have hlen := z_wt_len hw hjr
      -- the beginning of a journey
      have beg : ∃ x1, ∀ b : Int, z_go (z_ev z_hcM (d + 9)) z_hcM 1222 4 [z_R 1, z_I b, z_I j, if j = 0 then z_U else z_I u] [] z_hdM x = z_go (z_ev z_hcM (d + 9)) z_hcM 1222 49 [z_R 1, z_I b, z_I j, z_I 1] [] z_hdM x1 ∧ m_gf j 0 x x1 ∧ m_wj x1 j (z_wk X j 0) := by
        by_cases ch : X 15 j < 0
        · refine ⟨z_upd x 34 j 0, fun b => ⟨?_, fun a i hh => z_upd_ne (by omega), ?_⟩⟩
          · have e16' : z_upd x 34 j 0 16 j = -1 := by rw [z_upd_ne (by omega), e16]; omega
            rw [z_B1222_4]
            simp (disch := omega) only [if_neg, l4, e16', z_fdM, z_pdM, z_adM, z_sdM, z_lkM, z_ndM, z_gdM, z_cI_some', z_cV_some', z_w_ok, Int.reduceAdd, Int.reduceSub, Int.reduceMul, Int.reduceNeg, Int.reduceEq, Int.reduceLT, Int.reduceLE, Int.reduceNe, reduceIte, true_and, and_true, false_and, and_false, if_true, if_false, ne_eq, not_true_eq_false, not_false_eq_true]
          · have : z_wk X j 0 = [] := by unfold z_wk; rw [if_pos ch]; rfl
            rw [this]
            exact ⟨z_upd_same, Nat.zero_le _, fun i hi => absurd hi (Nat.not_lt_zero i)⟩
        · refine ⟨z_upd (z_upd (z_upd x 34 j 0) 33 (200 * j) 0) 34 j 1, fun b => ⟨?_, fun a i hh => by rw [z_upd_ne (by omega), z_upd_ne (by omega), z_upd_ne (by omega)], ?_⟩⟩
          · have e16' : z_upd x 34 j 0 16 j = X 15 j := by rw [z_upd_ne (by omega), e16]
            rw [z_B1222_4]
            simp (disch := omega) only [if_neg, l4, e16', z_fdM, z_pdM, z_adM, z_sdM, z_lkM, z_ndM, z_gdM, z_cI_some', z_cV_some', z_w_ok, Int.reduceAdd, Int.reduceSub, Int.reduceMul, Int.reduceNeg, Int.reduceEq, Int.reduceLT, Int.reduceLE, Int.reduceNe, reduceIte, true_and, and_true, false_and, and_false, if_true, if_false, ne_eq, not_true_eq_false, not_false_eq_true]
          · have : z_wk X j 0 = [[]] := by unfold z_wk; rw [if_neg ch]; rfl
            rw [this]
            refine ⟨z_upd_same, by decide, fun i hi => ?_⟩
            have hi' : i = 0 := by
              have : i < 1 := hi
              omega
            subst hi'
            refine ⟨?_, fun p hp => absurd hp (Nat.not_lt_zero p)⟩
            rw [z_upd_ne (by omega)]
            show z_upd _ 33 (200 * (j : Int)) 0 33 (200 * (j : Int) + 0) = 0
            rw [Int.add_zero, z_upd_same]
      obtain ⟨x1, hb⟩ := beg
      obtain ⟨-, g1, w1⟩ := hb 0
      have keep : ∀ x2 : z_S, m_gf j 0 x x2 → m_off 99 32 35 σ x2 ∧ ∀ i, x2 8 i = σ 8 i := fun x2 hx => ⟨m_off_trans xo (m_gf_off hx), fun i => by rw [hx _ _ (by omega)]; exact x8 i⟩
      by_cases cf : z_fit X (-1) j = true
      · rw [cf] at hs
        obtain ⟨x2, v, k, a1, a2, a3⟩ := m_find1 hw (m_land_off (keep x1 g1).1 (by omega) (by omega) hl) hjr d w1
        have g2 : m_gf j 0 x x2 := m_gf_trans g1 a2
        rcases a3 with ⟨rfl, a3⟩ | ⟨rfl, a3⟩
        · have h200 := a3.2.1
          have hs' : z_fit X (-1) (j + 1) = true := by rw [hs, decide_eq_true (by omega)]; rfl
          refine ⟨k, x2, ?_, (keep x2 g2).1, (keep x2 g2).2, fun _ j' hj' => ?_⟩
          · rw [if_pos cf, if_pos hs', (hb 1).1, a1, if_neg (show ¬ j + 1 = 0 by omega), z_ns]
          · by_cases cj : j' = j
            · rw [cj]; exact a3
            · have hj2 : 0 ≤ (j' : Int) ∧ (j' : Int) < X 0 2 := by omega
              exact m_wj_gf g2 (by omega) (by omega) (fun l hl => (z_wt_ok hw hj2 l hl).2.1) (xf cf j' (by omega))
        · have hs' : ¬ z_fit X (-1) (j + 1) = true := by rw [hs, decide_eq_false (by omega)]; simp
          refine ⟨k, x2, ?_, (keep x2 g2).1, (keep x2 g2).2, fun h => absurd h hs'⟩
          rw [if_pos cf, if_neg hs', (hb 1).1, a1, if_neg (show ¬ j + 1 = 0 by omega), z_ns]
      · have hs' : ¬ z_fit X (-1) (j + 1) = true := by rw [hs, (by simpa using cf : z_fit X (-1) j = false)]; simp
        refine ⟨1, x1, ?_, (keep x1 g1).1, (keep x1 g1).2, fun h => absurd h hs'⟩
        rw [if_neg cf, if_neg hs', (hb 0).1, if_neg (show ¬ j + 1 = 0 by omega), z_ns, z_B1222_49]
        simp (disch := omega) only [if_neg, z_fdM, z_pdM, z_adM, z_sdM, z_lkM, z_ndM, z_gdM, z_cI_some', z_cV_some', z_w_ok, Int.reduceAdd, Int.reduceSub, Int.reduceMul, Int.reduceNeg, Int.reduceEq, Int.reduceLT, Int.reduceLE, Int.reduceNe, reduceIte, true_and, and_true, false_and, and_false, if_true, if_false, ne_eq, not_true_eq_false, not_false_eq_true]) (fun u x ⟨xo, _⟩ => by
      have l4 := (m_land_off xo (by omega) (by omega) hl).1.2.2.2
      have hF : (if z_fit X (-1) (X 0 2).toNat = true then (1 : Int) else 0) = 0 ∨ (if z_fit X (-1) (X 0 2).toNat = true then (1 : Int) else 0) = 1 := by split <;> simp
      rw [Int.toNat_of_nonneg hnJ.1]
      have key : ∀ w : z_V, z_go (z_ev z_hcM (d + 9)) z_hcM 1222 4 [z_R 1, z_I (if z_fit X (-1) (X 0 2).toNat = true then 1 else 0), z_I (X 0 2), w] [] z_hdM x = some (z_I (if z_fit X (-1) (X 0 2).toNat = true then 1 else 0), z_hdM, x) := fun w => by
        rw [z_B1222_4]
        simp (disch := omega) only [if_pos, l4, hF, z_fdM, z_pdM, z_adM, z_sdM, z_lkM, z_ndM, z_gdM, z_cI_some', z_cV_some', z_w_ok, Int.reduceAdd, Int.reduceSub, Int.reduceMul, Int.reduceNeg, Int.reduceEq, Int.reduceLT, Int.reduceLE, Int.reduceNe, reduceIte, true_and, and_true, false_and, and_false, if_true, if_false, ne_eq, not_true_eq_false, not_false_eq_true]
      exact key _)
  refine ⟨σ', ?_, o, h8, fun hf j j0 j1 => ?_⟩
  · have e' : z_go (z_ev z_hcM (d + 9)) z_hcM 1222 4 [z_R 1, z_I 1, z_I 0, z_U] [] z_hdM σ = _ := e
    rw [z_E1222]
    exact e'
  · have := f hf j.toNat (by omega)
    rw [Int.toNat_of_nonneg j0] at this
    exact this
end
