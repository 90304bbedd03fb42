/-! The reference: goers gathered. -/
/-- the goers of the first n journeys: journey and worth -/
def z_glj (X : z_S) (j : Nat) (n : Nat) : List (Int × Int) := (List.range n).map (fun (i : Nat) => ((j : Int), X 11 j + i))
def z_gln (X : z_S) : Nat → List (Int × Int)
  | 0 => []
  | j + 1 => z_gln X j ++ z_glj X j (X 12 j - X 11 j + 1).toNat
/-- those of a time and of a worth -/
def z_gpr (X : z_S) (when worth : Int) (q : Int × Int) : Bool := (decide (when = -1) || decide (X 16 q.1 = when)) && (decide (worth = -1) || (decide (X 13 q.1 = 0) || decide (q.2 = worth)))
def m_gs (σ X : z_S) (but : Int) (G : List (Int × Int)) : Prop := σ 1 48 = (G.length : Int) ∧ ∀ g : Nat, g < G.length → σ 36 g = (G.getD g (0, 0)).1 ∧ σ 37 g = (G.getD g (0, 0)).2 ∧ m_tb σ X g (G.getD g (0, 0)).1 (G.getD g (0, 0)).2 but (z_wt X (G.getD g (0, 0)).1) (z_wt X (G.getD g (0, 0)).1).length
def m_ways (σ X : z_S) : Prop := ∀ j, 0 ≤ j → j < X 0 2 → m_wj σ j (z_wt X j)
section
variable {σ X : z_S}
theorem m_ways_off {σ' : z_S} {b lo hi : Int} (ho : m_off b lo hi σ σ') (hlo : 35 ≤ lo) (h : m_ways σ X) : m_ways σ' X := fun j h0 h1 => m_wj_off ho hlo (h j h0 h1)
theorem z_glj_s {j n : Nat} : z_glj X j (n + 1) = z_glj X j n ++ [((j : Int), X 11 j + n)] := by
  unfold z_glj
  rw [List.range_succ, List.map_append]
  rfl
theorem z_glj_len {j n : Nat} : (z_glj X j n).length = n := by unfold z_glj; simp
theorem z_gln_len (hw : z_wf X) : ∀ {n : Nat}, (n : Int) ≤ X 0 2 → ((z_gln X n).length : Int) = z_gs X n
  | 0, _ => rfl
  | n + 1, h => by
    have ih := z_gln_len hw (n := n) (by omega)
    have := z_wfj hw (j := n) (by omega)
    show ((z_gln X n ++ z_glj X n (X 12 n - X 11 n + 1).toNat).length : Int) = _
    rw [List.length_append, z_glj_len, z_gs_s]
    omega
theorem z_wt_ok (hw : z_wf X) {j : Int} (hj : 0 ≤ j ∧ j < X 0 2) : ∀ l ∈ z_wt X j, (∀ r ∈ l, 0 ≤ r ∧ r < X 0 0) ∧ l.length ≤ 7 ∧ (l = [] → 0 ≤ X 15 j) := fun l hl => by
  have hne := (hw.2.2.2.2.2.2.2.2.2.2.2.2.2.1 j hj.1 hj.2).2.2.1
  rcases (z_wt_mem hw hj l).mp hl with ⟨h1, rfl⟩ | h
  · exact ⟨fun r hr => (by cases hr), Nat.zero_le _, fun _ => h1⟩
  · have h2 := z_wys_ok hw hj l h
    exact ⟨h2.1, h2.2, fun e => absurd ((z_dfs_mem h).2.2 e) hne⟩
/-- one goer more -/
theorem m_gs_add (d : Nat) (hX : z_wf X) (hl : m_land σ X) (hy : m_ways σ X) {j v but : Int} {G : List (Int × Int)} (hj : 0 ≤ j ∧ j < X 0 2) (hv : 0 ≤ v ∧ v ≤ 9) (hG : m_gs σ X but G) (hlen : G.length < 48) :
    ∃ σ', z_ev z_hcM (d + 3) 1227 [z_R 1, z_I j, z_I v, z_I but] z_hdM σ = some (z_U, z_hdM, σ') ∧ (∀ a i, (a < 36 ∨ 39 < a) → (a ≠ 1 ∨ i ≠ 48) → σ' a i = σ a i) ∧ m_gs σ' X but (G ++ [(j, v)]) := by
  obtain ⟨h48, hg⟩ := hG
  obtain ⟨σ', e, o1, o2, o3, f48, f36, f37, ft⟩ := m_addGoer d hX hl hj hv h48 (by omega) (hy j hj.1 hj.2) (z_wt_ok hX hj) (but := but)
  refine ⟨σ', e, o1, by rw [f48, List.length_append]; rfl, fun g hgl => ?_⟩
  rw [List.length_append, List.length_singleton] at hgl
  by_cases c : g = G.length
  · subst c
    have eG : (G ++ [(j, v)]).getD G.length (0, 0) = (j, v) := by
      rw [List.getD_eq_getElem?_getD, List.getElem?_append_right (Nat.le_refl _), Nat.sub_self]; rfl
    rw [eG]
    exact ⟨f36, f37, ft⟩
  · have hlt : g < G.length := by omega
    have eG : (G ++ [(j, v)]).getD g (0, 0) = G.getD g (0, 0) := by
      rw [List.getD_eq_getElem?_getD, List.getD_eq_getElem?_getD, List.getElem?_append_left hlt]
    rw [eG]
    obtain ⟨g1, g2, g3⟩ := hg g hlt
    refine ⟨by rw [(o2 _ (by omega)).1]; exact g1, by rw [(o2 _ (by omega)).2]; exact g2, fun m m0 m1 => ?_⟩
    rw [(o3 _ (by omega)).1, (o3 _ (by omega)).2]
    exact g3 m m0 m1
theorem m_gather (d : Nat) (hX : z_wf X) (hl : m_land σ X) (hy : m_ways σ X) (when but worth : Int) :
    ∃ σ', z_ev z_hcM (d + 4) 1228 [z_R 1, z_I when, z_I but, z_I worth] z_hdM σ = some (z_U, z_hdM, σ') ∧ (∀ a i, (a < 36 ∨ 39 < a) → (a ≠ 1 ∨ i ≠ 48) → σ' a i = σ a i) ∧ m_gs σ' X but ((z_gln X (X 0 2).toNat).filter (z_gpr X when worth)) := by
  have hnJ := hX.2.2.1
  have hoff : ∀ {σ2 : z_S}, (∀ a i, (a < 36 ∨ 39 < a) → (a ≠ 1 ∨ i ≠ 48) → σ2 a i = σ a i) → m_off 48 36 39 σ σ2 := fun o a i h1 h2 h3 => o a i h2 (by omega)
  have go : ∀ (n j : Nat) (u : z_V) (σ2 : z_S), (j : Int) + n = X 0 2 → (∀ a i, (a < 36 ∨ 39 < a) → (a ≠ 1 ∨ i ≠ 48) → σ2 a i = σ a i) → m_gs σ2 X but ((z_gln X j).filter (z_gpr X when worth)) →
      ∃ σ', z_go (z_ev z_hcM (d + 3)) z_hcM 1228 8 [z_R 1, z_I when, z_I but, z_I worth, z_I j, u] [] z_hdM σ2 = some (z_U, z_hdM, σ') ∧ (∀ a i, (a < 36 ∨ 39 < a) → (a ≠ 1 ∨ i ≠ 48) → σ' a i = σ a i) ∧ m_gs σ' X but ((z_gln X (X 0 2).toNat).filter (z_gpr X when worth)) := by
    intro n
    induction n with
    | zero =>
      intro j u σ2 hj o2 hG
      have hl2 := m_land_off (hoff o2) (by omega) (by omega) hl
      have l4 := hl2.1.2.2.2
      refine ⟨σ2, ?_, o2, by rw [show (X 0 2).toNat = j by omega]; exact hG⟩
      rw [z_B1228_8]
      simp (disch := omega) only [l4, if_pos, z_fdM, z_pdM, z_adM, z_sdM, z_lkM, z_ndM, z_gdM, z_cI_some', z_cV_some', z_w_ok, Int.reduceAdd, Int.reduceSub, Int.reduceMul, Int.reduceNeg, Int.reduceEq, Int.reduceLT, Int.reduceLE, Int.reduceNe, reduceIte, true_and, and_true, false_and, and_false, if_true, if_false, ne_eq, not_true_eq_false, not_false_eq_true]
    | succ n ih =>
      intro j u σ2 hj o2 hG
      have hl2 := m_land_off (hoff o2) (by omega) (by omega) hl
      have l4 := hl2.1.2.2.2
      obtain ⟨j1, j2, j3, e12, e13, e14, -, -, e17⟩ := hl2.2.2.2 j (by omega) (by omega)
      have e1 : ((j + 1 : Nat) : Int) = (j : Int) + 1 := by omega
      have hwj := z_wfj hX (j := j) (by omega)
      have hgl := z_gln_len hX (n := j) (by omega)
      have hgs := z_gs_rng hX (n := j) (by omega)
      -- the worths of journey j
      have inn : ∀ (k i : Nat) (σ3 : z_S), (when = -1 ∨ X 16 j = when) → (X 11 j + i) + k = X 12 j + 1 → (∀ a i, (a < 36 ∨ 39 < a) → (a ≠ 1 ∨ i ≠ 48) → σ3 a i = σ a i) → m_gs σ3 X but ((z_gln X j ++ z_glj X j i).filter (z_gpr X when worth)) →
          ∃ σ', z_go (z_ev z_hcM (d + 3)) z_hcM 1228 45 [z_R 1, z_I when, z_I but, z_I worth, z_I j, z_I (X 11 j + i)] [] z_hdM σ3 = some (z_U, z_hdM, σ') ∧ (∀ a i, (a < 36 ∨ 39 < a) → (a ≠ 1 ∨ i ≠ 48) → σ' a i = σ a i) ∧ m_gs σ' X but ((z_gln X (X 0 2).toNat).filter (z_gpr X when worth)) := by
        intro k
        induction k with
        | zero =>
          intro i σ3 hwh hi o3 hG3
          have e13' := ((m_land_off (hoff o3) (by omega) (by omega) hl).2.2.2 j (by omega) (by omega)).2.2.2.2.1
          have hgn : z_gln X (j + 1) = z_gln X j ++ z_glj X j i := by
            show z_gln X j ++ z_glj X j (X 12 j - X 11 j + 1).toNat = _
            rw [show (X 12 j - X 11 j + 1).toNat = i by omega]
          obtain ⟨σ', g1, g2, g3⟩ := ih (j + 1) (z_I (X 11 j + i)) σ3 (by omega) o3 (by rw [hgn]; exact hG3)
          refine ⟨σ', ?_, g2, g3⟩
          rw [e1] at g1
          rw [z_B1228_45]
          simp (disch := omega) only [e13', if_pos, z_fdM, z_pdM, z_adM, z_sdM, z_lkM, z_ndM, z_gdM, z_cI_some', z_cV_some', z_w_ok, Int.reduceAdd, Int.reduceSub, Int.reduceMul, Int.reduceNeg, Int.reduceEq, Int.reduceLT, Int.reduceLE, Int.reduceNe, reduceIte, true_and, and_true, false_and, and_false, if_true, if_false, ne_eq, not_true_eq_false, not_false_eq_true]
          exact g1
        | succ k ihk =>
          intro i σ3 hwh hi o3 hG3
          have hl3 := m_land_off (hoff o3) (by omega) (by omega) hl
          obtain ⟨-, -, -, -, e13', e14', -⟩ := hl3.2.2.2 j (by omega) (by omega)
          have ei : X 11 j + ((i + 1 : Nat) : Int) = X 11 j + i + 1 := by omega
          have hpr : z_gpr X when worth ((j : Int), X 11 j + i) = (decide (worth = -1) || (decide (X 13 j = 0) || decide (X 11 j + i = worth))) := by
            unfold z_gpr
            have : (decide (when = -1) || decide (X 16 (j : Int) = when)) = true := by
              rcases hwh with h | h <;> simp [h]
            rw [this, Bool.true_and]
          have hsplit : (z_gln X j ++ z_glj X j (i + 1)).filter (z_gpr X when worth) = (z_gln X j ++ z_glj X j i).filter (z_gpr X when worth) ++ (if z_gpr X when worth ((j : Int), X 11 j + i) = true then [((j : Int), X 11 j + i)] else []) := by
            rw [z_glj_s, ← List.append_assoc, List.filter_append]
            congr 1
            rw [List.filter_cons]
            rfl
          by_cases c : z_gpr X when worth ((j : Int), X 11 j + i) = true
          · have hlen : ((z_gln X j ++ z_glj X j i).filter (z_gpr X when worth)).length < 48 := by
              have h1 := List.length_filter_le (z_gpr X when worth) (z_gln X j ++ z_glj X j i)
              rw [List.length_append, z_glj_len] at h1
              omega
            obtain ⟨σ4, a1, a2, a3⟩ := m_gs_add d hX hl3 (m_ways_off (hoff o3) (by omega) hy) (j := j) (v := X 11 j + i) (by omega) (by omega) hG3 hlen
            obtain ⟨σ', g1, g2, g3⟩ := ihk (i + 1) σ4 hwh (by omega) (fun a i h h' => by rw [a2 a i h h']; exact o3 a i h h') (by rw [hsplit, if_pos c]; exact a3)
            rw [ei] at g1
            refine ⟨σ', ?_, g2, g3⟩
            have h78 : z_go (z_ev z_hcM (d + 3)) z_hcM 1228 78 [z_R 1, z_I when, z_I but, z_I worth, z_I j, z_I (X 11 j + i)] [] z_hdM σ3 = some (z_U, z_hdM, σ') := by
              rw [z_B1228_78]
              simp (disch := omega) only [a1, z_fdM, z_pdM, z_adM, z_sdM, z_lkM, z_ndM, z_gdM, z_cI_some', z_cV_some', z_w_ok, Int.reduceAdd, Int.reduceSub, Int.reduceMul, Int.reduceNeg, Int.reduceEq, Int.reduceLT, Int.reduceLE, Int.reduceNe, reduceIte, true_and, and_true, false_and, and_false, if_true, if_false, ne_eq, not_true_eq_false, not_false_eq_true]
              exact g1
            rw [hpr, Bool.or_eq_true, Bool.or_eq_true, decide_eq_true_eq, decide_eq_true_eq, decide_eq_true_eq] at c
            rw [z_B1228_45]
            by_cases c1 : worth = -1
            · simp (disch := omega) only [e13', if_neg, c1, z_fdM, z_pdM, z_adM, z_sdM, z_lkM, z_ndM, z_gdM, z_cI_some', z_cV_some', z_w_ok, Int.reduceAdd, Int.reduceSub, Int.reduceMul, Int.reduceNeg, Int.reduceEq, Int.reduceLT, Int.reduceLE, Int.reduceNe, reduceIte, true_and, and_true, false_and, and_false, if_true, if_false, ne_eq, not_true_eq_false, not_false_eq_true]
              rw [← c1]
              exact h78
            · by_cases c2 : X 13 j = 0
              · simp (disch := omega) only [e13', e14', if_neg, if_pos, c2, z_fdM, z_pdM, z_adM, z_sdM, z_lkM, z_ndM, z_gdM, z_cI_some', z_cV_some', z_w_ok, Int.reduceAdd, Int.reduceSub, Int.reduceMul, Int.reduceNeg, Int.reduceEq, Int.reduceLT, Int.reduceLE, Int.reduceNe, reduceIte, true_and, and_true, false_and, and_false, if_true, if_false, ne_eq, not_true_eq_false, not_false_eq_true]
                exact h78
              · simp (disch := omega) only [e13', e14', if_neg, if_pos, z_fdM, z_pdM, z_adM, z_sdM, z_lkM, z_ndM, z_gdM, z_cI_some', z_cV_some', z_w_ok, Int.reduceAdd, Int.reduceSub, Int.reduceMul, Int.reduceNeg, Int.reduceEq, Int.reduceLT, Int.reduceLE, Int.reduceNe, reduceIte, true_and, and_true, false_and, and_false, if_true, if_false, ne_eq, not_true_eq_false, not_false_eq_true]
                exact h78
          · obtain ⟨σ', g1, g2, g3⟩ := ihk (i + 1) σ3 hwh (by omega) o3 (by rw [hsplit, if_neg c, List.append_nil]; exact hG3)
            rw [ei] at g1
            refine ⟨σ', ?_, g2, g3⟩
            rw [hpr, Bool.or_eq_true, Bool.or_eq_true, decide_eq_true_eq, decide_eq_true_eq, decide_eq_true_eq] at c
            rw [z_B1228_45]
            simp (disch := omega) only [e13', e14', if_neg, if_pos, z_fdM, z_pdM, z_adM, z_sdM, z_lkM, z_ndM, z_gdM, z_cI_some', z_cV_some', z_w_ok, Int.reduceAdd, Int.reduceSub, Int.reduceMul, Int.reduceNeg, Int.reduceEq, Int.reduceLT, Int.reduceLE, Int.reduceNe, reduceIte, true_and, and_true, false_and, and_false, if_true, if_false, ne_eq, not_true_eq_false, not_false_eq_true]
            exact g1
      by_cases c : when = -1 ∨ X 16 j = when
      · obtain ⟨σ', g1, g2, g3⟩ := inn (X 12 j - X 11 j + 1).toNat 0 σ2 c (by omega) o2 (by
          show m_gs σ2 X but ((z_gln X j ++ []).filter (z_gpr X when worth))
          rw [List.append_nil]; exact hG)
        have e0 : X 11 j + ((0 : Nat) : Int) = X 11 j := Int.add_zero _
        rw [e0] at g1
        refine ⟨σ', ?_, g2, g3⟩
        rw [z_B1228_8]
        by_cases c1 : when = -1
        · simp (disch := omega) only [l4, if_neg, e12, c1, z_fdM, z_pdM, z_adM, z_sdM, z_lkM, z_ndM, z_gdM, z_cI_some', z_cV_some', z_w_ok, Int.reduceAdd, Int.reduceSub, Int.reduceMul, Int.reduceNeg, Int.reduceEq, Int.reduceLT, Int.reduceLE, Int.reduceNe, reduceIte, true_and, and_true, false_and, and_false, if_true, if_false, ne_eq, not_true_eq_false, not_false_eq_true]
          rw [← c1]
          exact g1
        · simp (disch := omega) only [l4, if_neg, if_pos, e12, e17, z_fdM, z_pdM, z_adM, z_sdM, z_lkM, z_ndM, z_gdM, z_cI_some', z_cV_some', z_w_ok, Int.reduceAdd, Int.reduceSub, Int.reduceMul, Int.reduceNeg, Int.reduceEq, Int.reduceLT, Int.reduceLE, Int.reduceNe, reduceIte, true_and, and_true, false_and, and_false, if_true, if_false, ne_eq, not_true_eq_false, not_false_eq_true]
          exact g1
      · have hno : (z_gln X (j + 1)).filter (z_gpr X when worth) = (z_gln X j).filter (z_gpr X when worth) := by
          show (z_gln X j ++ z_glj X j (X 12 j - X 11 j + 1).toNat).filter (z_gpr X when worth) = _
          rw [List.filter_append]
          have : (z_glj X j (X 12 j - X 11 j + 1).toNat).filter (z_gpr X when worth) = [] := by
            rw [List.filter_eq_nil_iff]
            intro q hq
            unfold z_glj at hq
            rw [List.mem_map] at hq
            obtain ⟨i, -, rfl⟩ := hq
            unfold z_gpr
            have h1 : decide (when = -1) = false := decide_eq_false (fun e => c (Or.inl e))
            have h2 : decide (X 16 (j : Int) = when) = false := decide_eq_false (fun e => c (Or.inr e))
            rw [h1, h2]
            simp
          rw [this, List.append_nil]
        obtain ⟨σ', g1, g2, g3⟩ := ih (j + 1) u σ2 (by omega) o2 (by rw [hno]; exact hG)
        rw [e1] at g1
        refine ⟨σ', ?_, g2, g3⟩
        rw [z_B1228_8]
        simp (disch := omega) only [l4, if_neg, e17, z_fdM, z_pdM, z_adM, z_sdM, z_lkM, z_ndM, z_gdM, z_cI_some', z_cV_some', z_w_ok, Int.reduceAdd, Int.reduceSub, Int.reduceMul, Int.reduceNeg, Int.reduceEq, Int.reduceLT, Int.reduceLE, Int.reduceNe, reduceIte, true_and, and_true, false_and, and_false, if_true, if_false, ne_eq, not_true_eq_false, not_false_eq_true]
        exact g1
  obtain ⟨σ', g1, g2, g3⟩ := go (X 0 2).toNat 0 z_U (z_upd σ 1 48 0) (by omega) (fun a i h h' => z_upd_ne (by omega)) ⟨z_upd_same, fun g hg => absurd hg (Nat.not_lt_zero g)⟩
  refine ⟨σ', ?_, g2, g3⟩
  rw [z_E1228]
  simp (disch := omega) only [if_pos, z_fdM, z_pdM, z_adM, z_sdM, z_lkM, z_ndM, z_gdM, z_cI_some', z_cV_some', z_w_ok, Int.reduceAdd, Int.reduceSub, Int.reduceMul, Int.reduceNeg, Int.reduceEq, Int.reduceLT, Int.reduceLE, Int.reduceNe, reduceIte, true_and, and_true, false_and, and_false, if_true, if_false, ne_eq, not_true_eq_false, not_false_eq_true]
  exact g1
end
