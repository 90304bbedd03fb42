/-! The reference: goOn. -/
section
variable {σ0 σ σ' σ'' X : z_S} {j n n' : Int}
/-- the ways by the first r roads -/
def z_wr (X : z_S) (to : Int) (K m : Nat) (c seen : Int) (r : Nat) : List (List Int) := (List.range r).flatMap (fun (r : Nat) => if z_can X (-1) seen c (r : Int) then (z_dfl X (-1) to K m (z_nx X (r : Int) c) (z_sn seen (z_nx X (r : Int) c))).map (fun l => (r : Int) :: l) else [])
theorem z_wr_s {to : Int} {K m : Nat} {c seen : Int} {r : Nat} : z_wr X to K m c seen (r + 1) = z_wr X to K m c seen r ++ (if z_can X (-1) seen c (r : Int) then (z_dfl X (-1) to K m (z_nx X (r : Int) c) (z_sn seen (z_nx X (r : Int) c))).map (fun l => (r : Int) :: l) else []) := by
  unfold z_wr
  rw [List.range_succ, List.flatMap_append]
  simp
theorem z_wr_le {to : Int} {K m : Nat} {c seen : Int} {r : Nat} : ∀ i : Nat, (z_wr X to K m c seen r).length ≤ (z_wr X to K m c seen (r + i)).length
  | 0 => Nat.le_refl _
  | i + 1 => by
    have ih := z_wr_le (to := to) (K := K) (m := m) (c := c) (seen := seen) (r := r) i
    rw [show r + (i + 1) = (r + i) + 1 by omega, z_wr_s, List.length_append]
    omega
theorem z_dfl_s {to : Int} {K m : Nat} {c seen : Int} (h : c ≠ to) : z_dfl X (-1) to K (m + 1) c seen = z_wr X to K m c seen K := by
  show (if c = to then [] else _) = _
  rw [if_neg h]
  rfl
/-- a road gone on from a corner -/
theorem m_161 (d : Nat) (hw : z_wf X) (hl : m_land σ X) (hj : 0 ≤ j ∧ j < X 0 2) {c seen L v nx : Int} {r pl : Nat} (hr : (r : Int) < X 0 0) (hs : 0 ≤ seen ∧ seen < 256) (hpl : pl < 7) (hc : 0 ≤ c ∧ c < 8) (ht : X 1 r = c ∧ nx = X 2 r ∨ X 1 r ≠ c ∧ X 2 r = c ∧ nx = X 1 r) (u7 : z_V) :
    (z_bt seen nx = true → z_go (z_ev z_hcM d) z_hcM 1223 161 [z_R 1, z_I j, z_I c, z_I seen, z_I pl, z_I L, z_I r, u7] [] z_hdM σ = z_go (z_ev z_hcM d) z_hcM 1223 116 [z_R 1, z_I j, z_I c, z_I seen, z_I pl, z_I L, z_I ((r : Int) + 1), z_I nx] [] z_hdM σ) ∧
    (z_bt seen nx = false → z_ev z_hcM d 1223 [z_R 1, z_I j, z_I nx, z_I (z_sn seen nx), z_I ((pl : Int) + 1), z_I L] z_hdM (z_upd σ 35 pl r) = some (z_I v, z_hdM, σ') → (v = 0 → z_go (z_ev z_hcM d) z_hcM 1223 161 [z_R 1, z_I j, z_I c, z_I seen, z_I pl, z_I L, z_I r, u7] [] z_hdM σ = some (z_I 0, z_hdM, σ')) ∧ (v = 1 → z_go (z_ev z_hcM d) z_hcM 1223 161 [z_R 1, z_I j, z_I c, z_I seen, z_I pl, z_I L, z_I r, u7] [] z_hdM σ = z_go (z_ev z_hcM d) z_hcM 1223 116 [z_R 1, z_I j, z_I c, z_I seen, z_I pl, z_I L, z_I ((r : Int) + 1), z_I nx] [] z_hdM σ')) := by
  have hR := hw.1
  have hRd := hw.2.2.2.2.2.2.2.1 r (by omega) hr
  obtain ⟨e2, e3, -⟩ := hl.2.1 r (by omega) hr
  have hnx : X 1 r + X 2 r - c = nx := by omega
  have hb := z_bit (m := seen) (k := nx) hs.1 (by omega) (by omega) (by omega)
  have hsn : z_or seen (z_shl 1 nx) = z_sn seen nx := rfl
  refine ⟨fun h => ?_, fun h e => ⟨fun hv => ?_, fun hv => ?_⟩⟩
  · rw [h, if_pos rfl] at hb
    rw [z_B1223_161]
    simp (disch := omega) only [e2, e3, hnx, hb, if_neg, z_fdM, z_pdM, z_adM, z_sdM, z_lkM, z_ndM, z_gdM, z_cI_some', z_cV_some', z_w_ok, Int.reduceAdd, Int.reduceSub, Int.reduceMul, Int.reduceNeg, Int.reduceEq, Int.reduceLT, Int.reduceLE, Int.reduceNe, reduceIte, true_and, and_true, false_and, and_false, if_true, if_false, ne_eq, not_true_eq_false, not_false_eq_true]
  · rw [h, if_neg (by simp)] at hb
    subst hv
    rw [z_B1223_161]
    simp (disch := omega) only [e2, e3, hnx, hb, if_pos, hsn, e, z_fdM, z_pdM, z_adM, z_sdM, z_lkM, z_ndM, z_gdM, z_cI_some', z_cV_some', z_w_ok, Int.reduceAdd, Int.reduceSub, Int.reduceMul, Int.reduceNeg, Int.reduceEq, Int.reduceLT, Int.reduceLE, Int.reduceNe, reduceIte, true_and, and_true, false_and, and_false, if_true, if_false, ne_eq, not_true_eq_false, not_false_eq_true]
  · rw [h, if_neg (by simp)] at hb
    subst hv
    rw [z_B1223_161]
    simp (disch := omega) only [e2, e3, hnx, hb, if_pos, hsn, e, z_fdM, z_pdM, z_adM, z_sdM, z_lkM, z_ndM, z_gdM, z_cI_some', z_cV_some', z_w_ok, Int.reduceAdd, Int.reduceSub, Int.reduceMul, Int.reduceNeg, Int.reduceEq, Int.reduceLT, Int.reduceLE, Int.reduceNe, reduceIte, true_and, and_true, false_and, and_false, if_true, if_false, ne_eq, not_true_eq_false, not_false_eq_true]
theorem m_116 (d : Nat) (hw : z_wf X) (hl : m_land σ X) (hj : 0 ≤ j ∧ j < X 0 2) {c seen L : Int} {r pl : Nat} (u7 : z_V) :
    (r = z_K X j → z_go (z_ev z_hcM d) z_hcM 1223 116 [z_R 1, z_I j, z_I c, z_I seen, z_I pl, z_I L, z_I r, u7] [] z_hdM σ = some (z_I 1, z_hdM, σ)) ∧
    (r < z_K X j → (X 1 r ≠ c ∧ X 2 r ≠ c → z_go (z_ev z_hcM d) z_hcM 1223 116 [z_R 1, z_I j, z_I c, z_I seen, z_I pl, z_I L, z_I r, u7] [] z_hdM σ = z_go (z_ev z_hcM d) z_hcM 1223 116 [z_R 1, z_I j, z_I c, z_I seen, z_I pl, z_I L, z_I ((r : Int) + 1), u7] [] z_hdM σ) ∧ (X 1 r = c ∨ X 2 r = c → z_go (z_ev z_hcM d) z_hcM 1223 116 [z_R 1, z_I j, z_I c, z_I seen, z_I pl, z_I L, z_I r, u7] [] z_hdM σ = z_go (z_ev z_hcM d) z_hcM 1223 161 [z_R 1, z_I j, z_I c, z_I seen, z_I pl, z_I L, z_I r, u7] [] z_hdM σ)) := by
  have hR := hw.1
  have hnJ := hw.2.2.1
  obtain ⟨k1, k2⟩ := z_K_le hw hj
  have l1 := hl.1.1
  obtain ⟨-, -, -, -, -, -, ⟨f0, f1, f2⟩, -⟩ := hl.2.2.2 j hj.1 hj.2
  refine ⟨fun hr => ?_, fun hr => ⟨fun hh => ?_, fun hh => ?_⟩⟩
  · rw [z_B1223_116]
    by_cases c1 : X 0 0 ≤ (r : Int)
    · simp (disch := omega) only [l1, if_pos, z_fdM, z_pdM, z_adM, z_sdM, z_lkM, z_ndM, z_gdM, z_cI_some', z_cV_some', z_w_ok, Int.reduceAdd, Int.reduceSub, Int.reduceMul, Int.reduceNeg, Int.reduceEq, Int.reduceLT, Int.reduceLE, Int.reduceNe, reduceIte, true_and, and_true, false_and, and_false, if_true, if_false, ne_eq, not_true_eq_false, not_false_eq_true]
    · have : σ 15 j ≤ r := by
        split at f2 <;> split at k2 <;> omega
      simp (disch := omega) only [l1, if_neg, if_pos, z_fdM, z_pdM, z_adM, z_sdM, z_lkM, z_ndM, z_gdM, z_cI_some', z_cV_some', z_w_ok, Int.reduceAdd, Int.reduceSub, Int.reduceMul, Int.reduceNeg, Int.reduceEq, Int.reduceLT, Int.reduceLE, Int.reduceNe, reduceIte, true_and, and_true, false_and, and_false, if_true, if_false, ne_eq, not_true_eq_false, not_false_eq_true]
  · obtain ⟨e2, e3, -⟩ := hl.2.1 r (by omega) (by omega)
    have hsl : ¬ σ 15 j ≤ r := by split at f2 <;> split at k2 <;> omega
    have h1 := hh.1
    have h2 := hh.2
    rw [z_B1223_116]
    simp (disch := omega) only [l1, if_neg, e2, e3, z_fdM, z_pdM, z_adM, z_sdM, z_lkM, z_ndM, z_gdM, z_cI_some', z_cV_some', z_w_ok, Int.reduceAdd, Int.reduceSub, Int.reduceMul, Int.reduceNeg, Int.reduceEq, Int.reduceLT, Int.reduceLE, Int.reduceNe, reduceIte, true_and, and_true, false_and, and_false, if_true, if_false, ne_eq, not_true_eq_false, not_false_eq_true]
  · obtain ⟨e2, e3, -⟩ := hl.2.1 r (by omega) (by omega)
    have hsl : ¬ σ 15 j ≤ r := by split at f2 <;> split at k2 <;> omega
    rw [z_B1223_116]
    by_cases c1 : X 1 r = c
    · simp (disch := omega) only [l1, if_neg, if_pos, e2, c1, z_fdM, z_pdM, z_adM, z_sdM, z_lkM, z_ndM, z_gdM, z_cI_some', z_cV_some', z_w_ok, Int.reduceAdd, Int.reduceSub, Int.reduceMul, Int.reduceNeg, Int.reduceEq, Int.reduceLT, Int.reduceLE, Int.reduceNe, reduceIte, true_and, and_true, false_and, and_false, if_true, if_false, ne_eq, not_true_eq_false, not_false_eq_true]
    · have h2 : X 2 r = c := by rcases hh with h | h; exact absurd h c1; exact h
      simp (disch := omega) only [l1, if_neg, if_pos, e2, e3, h2, z_fdM, z_pdM, z_adM, z_sdM, z_lkM, z_ndM, z_gdM, z_cI_some', z_cV_some', z_w_ok, Int.reduceAdd, Int.reduceSub, Int.reduceMul, Int.reduceNeg, Int.reduceEq, Int.reduceLT, Int.reduceLE, Int.reduceNe, reduceIte, true_and, and_true, false_and, and_false, if_true, if_false, ne_eq, not_true_eq_false, not_false_eq_true]
theorem m_goOn (hw : z_wf X) (hj : 0 ≤ j ∧ j < X 0 2) : ∀ (m : Nat) (c seen : Int) (p : List Int) (V : List (List Int)) (σ : z_S) (d : Nat), m_land σ X → p.length + m ≤ 7 → (0 ≤ c ∧ c < 8) → (0 ≤ seen ∧ seen < 256) → m_wj σ j V → (∀ l ∈ V, l.length ≤ 7) → (∀ i : Nat, i < p.length → σ 35 i = p.getD i 0) →
    ∃ (σ' : z_S) (v : Int), z_ev z_hcM (d + m + 1) 1223 [z_R 1, z_I j, z_I c, z_I seen, z_I p.length, z_I ((p.length + m : Nat) : Int)] z_hdM σ = some (z_I v, z_hdM, σ') ∧ m_gf j p.length σ σ' ∧ ((v = 1 ∧ m_wj σ' j (V ++ (z_dfl X (-1) (X 9 j) (z_K X j) m c seen).map (fun l => p ++ l))) ∨ (v = 0 ∧ 200 < V.length + (z_dfl X (-1) (X 9 j) (z_K X j) m c seen).length))
  | 0, c, seen, p, V, σ, d, hl, h7, hc, hs, hV, hV7, hp => by
    have e10 := (hl.2.2.2 j hj.1 hj.2).2.1
    have hnJ := hw.2.2.1
    by_cases ct : c = X 9 j
    · have hd : z_dfl X (-1) (X 9 j) (z_K X j) 0 c seen = [[]] := if_pos ct
      rw [hd]
      obtain ⟨g1, g2⟩ := m_goEnd (seen := seen) d hw hl hj (show p.length ≤ 7 by omega) hV hV7 hp
      rw [← ct] at g1 g2
      by_cases c2 : V.length < 200
      · obtain ⟨σ', a1, a2, a3⟩ := g1 c2
        refine ⟨σ', 1, a1, a2, Or.inl ⟨rfl, ?_⟩⟩
        show m_wj σ' j (V ++ [p ++ []])
        rw [List.append_nil]
        exact a3
      · have hv := hV.2.1
        exact ⟨σ, 0, g2 (by omega), m_gf_refl, Or.inr ⟨rfl, by show 200 < V.length + 1; omega⟩⟩
    · have hd : z_dfl X (-1) (X 9 j) (z_K X j) 0 c seen = [] := if_neg ct
      rw [hd]
      refine ⟨σ, 1, ?_, m_gf_refl, Or.inl ⟨rfl, by rw [List.map_nil, List.append_nil]; exact hV⟩⟩
      simp (disch := omega) only [z_E1223, e10, if_pos, if_neg, z_fdM, z_pdM, z_adM, z_sdM, z_lkM, z_ndM, z_gdM, z_cI_some', z_cV_some', z_w_ok, Int.reduceAdd, Int.reduceSub, Int.reduceMul, Int.reduceNeg, Int.reduceEq, Int.reduceLT, Int.reduceLE, Int.reduceNe, reduceIte, true_and, and_true, false_and, and_false, if_true, if_false, ne_eq, not_true_eq_false, not_false_eq_true]
  | m + 1, c, seen, p, V, σ, d, hl, h7, hc, hs, hV, hV7, hp => by
    have e10 := (hl.2.2.2 j hj.1 hj.2).2.1
    have hnJ := hw.2.2.1
    have hR := hw.1
    by_cases ct : c = X 9 j
    · have hd : z_dfl X (-1) (X 9 j) (z_K X j) (m + 1) c seen = [] := if_pos ct
      rw [hd]
      refine ⟨σ, 1, ?_, m_gf_refl, Or.inl ⟨rfl, by rw [List.map_nil, List.append_nil]; exact hV⟩⟩
      simp (disch := omega) only [z_E1223, e10, if_pos, if_neg, z_fdM, z_pdM, z_adM, z_sdM, z_lkM, z_ndM, z_gdM, z_cI_some', z_cV_some', z_w_ok, Int.reduceAdd, Int.reduceSub, Int.reduceMul, Int.reduceNeg, Int.reduceEq, Int.reduceLT, Int.reduceLE, Int.reduceNe, reduceIte, true_and, and_true, false_and, and_false, if_true, if_false, ne_eq, not_true_eq_false, not_false_eq_true]
    · rw [z_dfl_s ct]
      have hK := (z_K_le hw hj).1
      have go : ∀ (i r : Nat) (u : z_V) (x : z_S), r + i = z_K X j → m_gf j p.length σ x → m_wj x j (V ++ (z_wr X (X 9 j) (z_K X j) m c seen r).map (fun l => p ++ l)) → (∀ l ∈ z_wr X (X 9 j) (z_K X j) m c seen r, l.length ≤ m + 1) →
          ∃ (σ' : z_S) (v : Int), z_go (z_ev z_hcM (d + m + 1)) z_hcM 1223 116 [z_R 1, z_I j, z_I c, z_I seen, z_I p.length, z_I ((p.length + (m + 1) : Nat) : Int), z_I r, u] [] z_hdM x = some (z_I v, z_hdM, σ') ∧ m_gf j p.length σ σ' ∧ ((v = 1 ∧ m_wj σ' j (V ++ (z_wr X (X 9 j) (z_K X j) m c seen (z_K X j)).map (fun l => p ++ l))) ∨ (v = 0 ∧ 200 < V.length + (z_wr X (X 9 j) (z_K X j) m c seen (z_K X j)).length)) := by
        intro i
        induction i with
        | zero =>
          intro r u x hr xg xw _
          have er : r = z_K X j := by omega
          refine ⟨x, 1, (m_116 (d + m + 1) hw (m_land_off (m_gf_off xg) (by omega) (by omega) hl) hj u).1 er, xg, Or.inl ⟨rfl, ?_⟩⟩
          rw [er] at xw
          exact xw
        | succ i ih =>
          intro r u x hr xg xw xl
          have hlx := m_land_off (m_gf_off xg) (by omega) (by omega) hl
          obtain ⟨g1, g2⟩ := (m_116 (d + m + 1) hw hlx hj (c := c) (seen := seen) (L := ((p.length + (m + 1) : Nat) : Int)) (r := r) (pl := p.length) u).2 (by omega)
          have hRd := hw.2.2.2.2.2.2.2.1 r (by omega) (by omega)
          have hws := z_wr_s (X := X) (to := X 9 j) (K := z_K X j) (m := m) (c := c) (seen := seen) (r := r)
          by_cases ch : X 1 r ≠ c ∧ X 2 r ≠ c
          · have hcan : z_can X (-1) seen c r = false := by
              unfold z_can z_nx
              rw [if_neg ch.1, if_neg ch.2]
              simp
            rw [hcan, if_neg (by simp), List.append_nil] at hws
            obtain ⟨σ', v, a1, a2⟩ := ih (r + 1) u x (by omega) xg (by rw [hws]; exact xw) (by rw [hws]; exact xl)
            rw [z_ns] at a1
            exact ⟨σ', v, (g1 ch).trans a1, a2⟩
          · have ht : X 1 r = c ∨ X 2 r = c := by
              by_cases h1 : X 1 r = c
              · exact Or.inl h1
              · exact Or.inr (Classical.byContradiction fun h2 => ch ⟨h1, h2⟩)
            have hnx : X 1 r = c ∧ z_nx X r c = X 2 r ∨ X 1 r ≠ c ∧ X 2 r = c ∧ z_nx X r c = X 1 r := by
              unfold z_nx
              by_cases h1 : X 1 r = c
              · exact Or.inl ⟨h1, if_pos h1⟩
              · have h2 : X 2 r = c := by rcases ht with h | h; exact absurd h h1; exact h
                exact Or.inr ⟨h1, h2, by rw [if_neg h1, if_pos h2]⟩
            have hn8 : 0 ≤ z_nx X r c ∧ z_nx X r c < 8 := by omega
            have hgo := g2 ht
            by_cases cb : z_bt seen (z_nx X r c) = true
            · have hcan : z_can X (-1) seen c r = false := by
                unfold z_can
                rw [cb]
                simp
              rw [hcan, if_neg (by simp), List.append_nil] at hws
              have h161 := (m_161 (v := 0) (σ' := x) (d + m + 1) hw hlx hj (c := c) (seen := seen) (L := ((p.length + (m + 1) : Nat) : Int)) (r := r) (pl := p.length) (by omega) hs (by omega) hc hnx u).1 cb
              obtain ⟨σ', v, a1, a2⟩ := ih (r + 1) (z_I (z_nx X r c)) x (by omega) xg (by rw [hws]; exact xw) (by rw [hws]; exact xl)
              rw [z_ns] at a1
              exact ⟨σ', v, (hgo.trans h161).trans a1, a2⟩
            · have cb' : z_bt seen (z_nx X r c) = false := by simpa using cb
              have hcan : z_can X (-1) seen c r = true := by
                unfold z_can
                rw [cb', decide_eq_true (show (r : Int) ≠ -1 by omega), decide_eq_true hn8.1]
                rfl
              rw [hcan, if_pos rfl] at hws
              have xg2 : m_gf j p.length σ (z_upd x 35 p.length r) := m_gf_trans xg (fun a i hh => z_upd_ne (by omega))
              have hl2 := m_land_off (m_gf_off xg2) (by omega) (by omega) hl
              have hV2 : m_wj (z_upd x 35 p.length r) j (V ++ (z_wr X (X 9 j) (z_K X j) m c seen r).map (fun l => p ++ l)) := m_wj_off (b := 99) (lo := 35) (hi := 35) (m_off_upd (by omega)) (by omega) xw
              have hV27 : ∀ l ∈ V ++ (z_wr X (X 9 j) (z_K X j) m c seen r).map (fun l => p ++ l), l.length ≤ 7 := fun l hl => by
                rcases List.mem_append.mp hl with h | h
                · exact hV7 l h
                · rw [List.mem_map] at h
                  obtain ⟨l', h', rfl⟩ := h
                  have := xl l' h'
                  rw [List.length_append]
                  omega
              have hpl : (p ++ [(r : Int)]).length = p.length + 1 := by rw [List.length_append, List.length_singleton]
              obtain ⟨x2, v, a1, a2, a3⟩ := m_goOn hw hj m (z_nx X r c) (z_sn seen (z_nx X r c)) (p ++ [(r : Int)]) _ (z_upd x 35 p.length r) d hl2 (by rw [hpl]; omega) hn8 (z_seen_sn hs hn8) hV2 hV27 (fun i hi => by
                rw [hpl] at hi
                by_cases ci : i = p.length
                · rw [ci, z_upd_same]
                  simp
                · rw [z_upd_ne (by omega), xg 35 i (by omega), hp i (by omega)]
                  rw [List.getD_eq_getElem?_getD, List.getD_eq_getElem?_getD, List.getElem?_append_left (by omega)])
              rw [hpl, z_ns, show (p.length + 1 + m : Nat) = p.length + (m + 1) by omega] at a1
              obtain ⟨b0, b1⟩ := (m_161 (v := v) (σ' := x2) (d + m + 1) hw hlx hj (c := c) (seen := seen) (L := ((p.length + (m + 1) : Nat) : Int)) (r := r) (pl := p.length) (by omega) hs (by omega) hc hnx u).2 cb' a1
              have xg3 : m_gf j p.length σ x2 := m_gf_trans xg2 (m_gf_le a2 (by rw [hpl]; omega))
              rcases a3 with ⟨rfl, a3⟩ | ⟨rfl, a3⟩
              · obtain ⟨σ', v, c1, c2⟩ := ih (r + 1) (z_I (z_nx X r c)) x2 (by omega) xg3 (by
                  rw [hws, List.map_append, ← List.append_assoc, List.map_map]
                  have ef : ((fun l => p ++ l) ∘ fun l => (r : Int) :: l) = fun l => (p ++ [(r : Int)]) ++ l := funext fun l => by
                    show p ++ ((r : Int) :: l) = (p ++ [(r : Int)]) ++ l
                    rw [List.append_assoc]
                    rfl
                  rw [ef]
                  exact a3) (fun l hl => by
                  rw [hws] at hl
                  rcases List.mem_append.mp hl with h | h
                  · exact xl l h
                  · rw [List.mem_map] at h
                    obtain ⟨l', h', rfl⟩ := h
                    have := (z_dfl_mem h').1
                    rw [List.length_cons]
                    omega)
                rw [z_ns] at c1
                exact ⟨σ', v, (hgo.trans (b1 rfl)).trans c1, c2⟩
              · refine ⟨x2, 0, hgo.trans (b0 rfl), xg3, Or.inr ⟨rfl, ?_⟩⟩
                have hle := z_wr_le (X := X) (to := X 9 j) (K := z_K X j) (m := m) (c := c) (seen := seen) (r := r + 1) (z_K X j - (r + 1))
                rw [show r + 1 + (z_K X j - (r + 1)) = z_K X j by omega, hws, List.length_append, List.length_map] at hle
                rw [List.length_append, List.length_map] at a3
                omega
      obtain ⟨σ', v, a1, a2⟩ := go (z_K X j) 0 z_U σ (by omega) m_gf_refl (by
        show m_wj σ j (V ++ [])
        rw [List.append_nil]
        exact hV) (fun l hl => by cases hl)
      refine ⟨σ', v, ?_, a2⟩
      rw [← a1, show d + (m + 1) + 1 = (d + m + 1) + 1 by omega]
      simp (disch := omega) only [z_E1223, e10, if_pos, if_neg, z_fdM, z_pdM, z_adM, z_sdM, z_lkM, z_ndM, z_gdM, z_cI_some', z_cV_some', z_w_ok, Int.reduceAdd, Int.reduceSub, Int.reduceMul, Int.reduceNeg, Int.reduceEq, Int.reduceLT, Int.reduceLE, Int.reduceNe, reduceIte, true_and, and_true, false_and, and_false, if_true, if_false, ne_eq, not_true_eq_false, not_false_eq_true]
      rfl
end
