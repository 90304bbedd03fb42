/-! The reference: rows; ways told; who goes by. -/
def m_rw (σ : z_S) (l : List Int) : Prop := σ 1 25 = (l.length : Int) ∧ ∀ i : Nat, i < l.length → σ 20 i = l.getD i 0
/-- all stands but the row -/
def m_ro (σ σ' : z_S) : Prop := ∀ a i : Int, a ≠ 20 → (a ≠ 1 ∨ i ≠ 25) → σ' a i = σ a i
/-- all stands but questions' cells, tolls and the row -/
def m_ofr (σ σ' : z_S) : Prop := ∀ a i : Int, a ≠ 8 → a ≠ 20 → (a < 35 ∨ 57 < a) → (a ≠ 1 ∨ i < 25 ∨ i = 26) → σ' a i = σ a i
section
variable {σ0 σ σ' σ'' X : z_S} {D : z_D} {nw : Int → Bool} {t : Int → Int} {l : List Int}
theorem m_ro_refl : m_ro σ σ := fun _ _ _ _ => rfl
theorem m_ro_trans (h : m_ro σ σ') (h' : m_ro σ' σ'') : m_ro σ σ'' := fun a i h1 h2 => (h' a i h1 h2).trans (h a i h1 h2)
theorem m_ofr_of (h : m_off 27 35 57 σ σ') : m_ofr σ σ' := fun a i h1 _ h3 h4 => h a i h1 h3 (by omega)
theorem m_ofr_ro (h : m_ofr σ σ') (h' : m_ro σ' σ'') : m_ofr σ σ'' := fun a i h1 h2 h3 h4 => (h' a i h2 (by omega)).trans (h a i h1 h2 h3 h4)
theorem m_inv_row (h : m_inv σ0 X) (o : m_ofr σ0 σ) (ht : m_t σ (X 7)) (h40 : σ 40 0 = 0) (hr : m_rw σ l) (hl : l.length ≤ 24) : m_inv σ (z_srow X l) := by
  obtain ⟨a1, a2, a3, a4, a5, a6, a7, a8, a9, b1, b2⟩ := h
  have e : ∀ a i : Int, a ≠ 8 → a ≠ 20 → (a < 35 ∨ 57 < a) → (a ≠ 1 ∨ i < 25) → σ a i = σ0 a i := fun a i h1 h2 h3 h4 => o a i h1 h2 h3 (by omega)
  have e6 : z_srow X l 0 6 = (l.length : Int) := by unfold z_srow; rw [if_pos rfl, if_pos rfl]
  have hl' : m_land σ X := by
    obtain ⟨⟨l1, l2, l3, l4⟩, l5, l6, l7⟩ := a2
    refine ⟨⟨by rw [e _ _ (by omega) (by omega) (by omega) (by omega)]; exact l1, by rw [e _ _ (by omega) (by omega) (by omega) (by omega)]; exact l2, by rw [e _ _ (by omega) (by omega) (by omega) (by omega)]; exact l3, by rw [e _ _ (by omega) (by omega) (by omega) (by omega)]; exact l4⟩, fun r r0 r1 => ?_, fun k k0 k1 => by rw [e _ _ (by omega) (by omega) (by omega) (by omega)]; exact l6 k k0 k1, fun j j0 j1 => ?_⟩
    · rw [e 2 _ (by omega) (by omega) (by omega) (by omega), e 3 _ (by omega) (by omega) (by omega) (by omega), e 4 _ (by omega) (by omega) (by omega) (by omega), e 5 _ (by omega) (by omega) (by omega) (by omega), e 6 _ (by omega) (by omega) (by omega) (by omega)]
      exact l5 r r0 r1
    · rw [e 9 _ (by omega) (by omega) (by omega) (by omega), e 10 _ (by omega) (by omega) (by omega) (by omega), e 11 _ (by omega) (by omega) (by omega) (by omega), e 12 _ (by omega) (by omega) (by omega) (by omega), e 13 _ (by omega) (by omega) (by omega) (by omega), e 14 _ (by omega) (by omega) (by omega) (by omega), e 15 _ (by omega) (by omega) (by omega) (by omega), e 16 _ (by omega) (by omega) (by omega) (by omega), e 17 _ (by omega) (by omega) (by omega) (by omega)]
      exact l7 j j0 j1
  have hy' : m_ways σ X := fun j j0 j1 => by
    obtain ⟨y1, y2, y3⟩ := a3 j j0 j1
    refine ⟨by rw [e _ _ (by omega) (by omega) (by omega) (by omega)]; exact y1, y2, fun i hi => ?_⟩
    obtain ⟨w1, w2⟩ := y3 i hi
    exact ⟨by rw [e _ _ (by omega) (by omega) (by omega) (by omega)]; exact w1, fun p hp => by rw [e _ _ (by omega) (by omega) (by omega) (by omega)]; exact w2 p hp⟩
  refine ⟨z_wf_srow a1 hl, m_land_eqd z_srow_eqd (z_srow_0 (by omega)) hl', m_ways_eqd z_srow_eqd hy', by rw [z_srow_a (by omega) (by omega)]; exact ht, h40, by rw [e _ _ (by omega) (by omega) (by omega) (by omega), z_srow_0 (by omega)]; exact a6, fun w w0 w1 => by rw [e _ _ (by omega) (by omega) (by omega) (by omega), z_srow_a (by omega) (by omega)]; exact a7 w w0 w1, by rw [e _ _ (by omega) (by omega) (by omega) (by omega), z_srow_0 (by omega)]; exact a8, fun i i0 i1 => ?_, by rw [e6]; exact hr.1, fun i i0 i1 => ?_⟩
  · rw [z_srow_0 (by omega)] at i1
    rw [e _ _ (by omega) (by omega) (by omega) (by omega), z_srow_a (by omega) (by omega)]
    exact a9 i i0 i1
  · rw [e6] at i1
    have := hr.2 i.toNat (by omega)
    rw [Int.toNat_of_nonneg i0] at this
    rw [this]
    unfold z_srow
    rw [if_neg (by omega), if_pos rfl]
/-- a row is told at the end -/
theorem m_does_row (h : m_inv σ0 X) (h26 : σ0 1 26 = 0) {e : Option z_Res} {v : Int} (he : e = some (z_I v, z_hdM, σ)) (o : m_ofr σ0 σ) (ht : m_t σ (X 7)) (h40 : σ 40 0 = 0) (hr : m_rw σ l) (hl : l.length ≤ 24) : m_does e (v, z_srow X l) := ⟨σ, he, m_inv_row h o ht h40 hr hl, by rw [o _ _ (by omega) (by omega) (by omega) (by omega)]; exact h26⟩
theorem m_rw0 : m_rw (z_upd σ 1 25 0) [] := ⟨z_upd_same, fun i hi => absurd hi (Nat.not_lt_zero i)⟩
theorem m_ro0 : m_ro σ (z_upd σ 1 25 0) := fun a i _ h2 => z_upd_ne (by omega)
theorem m_tell1 (hr : m_rw σ l) (hl : l.length < 32) (d : Nat) (v : Int) : ∃ σ', z_ev z_hcM (d + 1) 1204 [z_R 1, z_I v] z_hdM σ = some (z_U, z_hdM, σ') ∧ m_rw σ' (l ++ [v]) ∧ m_ro σ σ' := by
  obtain ⟨h1, h2⟩ := hr
  refine ⟨z_upd (z_upd σ 20 l.length v) 1 25 ((l.length : Int) + 1), ?_, ⟨?_, fun i hi => ?_⟩, fun a i g1 g2 => by rw [z_upd_ne (by omega), z_upd_ne (by omega)]⟩
  · simp (disch := omega) only [z_E1204, h1, z_upd_ne, z_fdM, z_pdM, z_adM, z_sdM, z_lkM, z_ndM, z_gdM, z_cI_some', z_cV_some', z_w_ok, Int.reduceAdd, Int.reduceSub, Int.reduceMul, Int.reduceNeg, Int.reduceEq, Int.reduceLT, Int.reduceLE, Int.reduceNe, reduceIte, true_and, and_true, false_and, and_false, if_true, if_false, ne_eq, not_true_eq_false, not_false_eq_true]
  · rw [z_upd_same, List.length_append, List.length_singleton]; omega
  · rw [List.length_append, List.length_singleton] at hi
    rw [z_upd_ne (by omega)]
    by_cases hil : i = l.length
    · subst hil
      rw [z_upd_same]
      simp
    · rw [z_upd_ne (by omega), h2 i (by omega)]
      rw [List.getD_eq_getElem?_getD, List.getD_eq_getElem?_getD, List.getElem?_append_left (by omega)]
theorem m_ask_ro {t : Int → Int} (o : m_ro σ σ') (h : m_ask σ X t) : m_ask σ' X t := ⟨fun m a b => by rw [o _ _ (by omega) (by omega)]; exact h.1 m a b, by rw [o _ _ (by omega) (by omega)]; exact h.2.1, by rw [o _ _ (by omega) (by omega)]; exact h.2.2⟩
theorem M_way (h : m_inv σ X) (d : Nat) (j w : Int) : m_does (z_ev z_hcM (d + 20) 1239 [z_R 1, z_I j, z_I w] z_hdM σ) (s_way X j w) := by
  have hi := m_inv_thr h
  obtain ⟨σ1, e1, ⟨i1, k1⟩, f1⟩ := m_asks hi (d + 13) j w
  rw [z_upd_same] at k1
  unfold s_way
  by_cases c : z_fg X j w < 0
  · rw [if_pos c]
    rw [z_fg_neg h.1 c] at e1
    refine ⟨σ1, ?_, i1, k1⟩
    simp (disch := omega) only [z_E1239, e1, if_neg, z_fdM, z_pdM, z_adM, z_sdM, z_lkM, z_ndM, z_gdM, z_cI_some', z_cV_some', z_w_ok, Int.reduceAdd, Int.reduceSub, Int.reduceMul, Int.reduceNeg, Int.reduceEq, Int.reduceLT, Int.reduceLE, Int.reduceNe, reduceIte, true_and, and_true, false_and, and_false, if_true, if_false, ne_eq, not_true_eq_false, not_false_eq_true]
  · rw [if_neg c]
    obtain ⟨q, ha⟩ := f1 c
    obtain ⟨g0, g1, g2⟩ := z_fg_rng h.1 c
    have hc := q.wayOf hi (d + 16) ha h.t20 g0 g1
    obtain ⟨l, l1, l2, l3, l4, l5⟩ := q.wy hi g0 g1
    have hmap : (List.range (z_steps (z_rnk l))).map (fun i => z_dg (z_rnk l) (z_steps (z_rnk l) - 1 - i)) = l := by
      rw [z_rnk_steps l1 l2]
      refine List.ext_getElem (by simp) (fun i h1 h2 => ?_)
      rw [List.getElem_map, List.getElem_range, z_rnk_dg l1 l2 (by omega), show l.length - 1 - (l.length - 1 - i) = i by omega, z_getD h2]
    rw [l3, hmap, z_rnk_steps l1 l2]
    generalize z_fg X j w = g at *
    have done : ∀ σ2 : z_S, m_ro σ1 σ2 → m_rw σ2 l → m_inv σ2 (z_srow X l) ∧ σ2 1 26 = 0 := fun σ2 o2 r2 => ⟨m_inv_row i1 (fun a i h1 h2 h3 h4 => o2 a i h2 (by omega)) (fun k k0 k1 => by rw [o2 _ _ (by omega) (by omega)]; exact i1.2.2.2.1 k k0 k1) (by rw [o2 _ _ (by omega) (by omega)]; exact i1.2.2.2.2.1) r2 (by omega), by rw [o2 _ _ (by omega) (by omega)]; exact k1⟩
    cases hn : z_nwD X (-1) g with
    | true =>
      rw [hn, if_pos rfl] at hc
      have el := l4 hn
      subst el
      refine ⟨z_upd σ1 1 25 0, ?_, done _ m_ro0 m_rw0⟩
      simp (disch := omega) only [z_E1239, e1, hc, if_pos, if_neg, z_fdM, z_pdM, z_adM, z_sdM, z_lkM, z_ndM, z_gdM, z_cI_some', z_cV_some', z_w_ok, Int.reduceAdd, Int.reduceSub, Int.reduceMul, Int.reduceNeg, Int.reduceEq, Int.reduceLT, Int.reduceLE, Int.reduceNe, reduceIte, true_and, and_true, false_and, and_false, if_true, if_false, ne_eq, not_true_eq_false, not_false_eq_true]
      rw [z_B1239_34]
      simp (disch := omega) only [z_upd_same, z_fdM, z_pdM, z_adM, z_sdM, z_lkM, z_ndM, z_gdM, z_cI_some', z_cV_some', z_w_ok, Int.reduceAdd, Int.reduceSub, Int.reduceMul, Int.reduceNeg, Int.reduceEq, Int.reduceLT, Int.reduceLE, Int.reduceNe, reduceIte, true_and, and_true, false_and, and_false, if_true, if_false, ne_eq, not_true_eq_false, not_false_eq_true]
      rfl
    | false =>
      rw [hn, if_neg (by simp)] at hc
      obtain ⟨hwr, hwy⟩ := l5 hn
      generalize σ1 38 (32 * g + z_ch ((z_Dm X (-1)).op g) (X 7) (X 0 4)) = wv at *
      obtain ⟨σ2, e2, o2, r2⟩ := z_for (fun (k : Nat) (x : z_S) => z_go (z_ev z_hcM (d + 19)) z_hcM 1239 34 [z_R 1, z_I j, z_I w, z_I g, z_I wv, z_I k] [] z_hdM x) (fun x => some (z_I (l.length : Int), z_hdM, x)) (fun k x => m_ro σ1 x ∧ m_rw x (l.take k)) l.length (s := z_upd σ1 1 25 0) ⟨m_ro0, m_rw0⟩
        (fun k x hk ⟨ho, hr⟩ => by
          have e33 : x 33 wv = (l.length : Int) := by rw [ho _ _ (by omega) (by omega)]; exact hwy.1
          have e32 : x 32 (7 * wv + k) = l.getD k 0 := by rw [ho _ _ (by omega) (by omega)]; exact hwy.2 k hk
          obtain ⟨x', a1, a2, a3⟩ := m_tell1 hr (by rw [List.length_take]; omega) (d + 18) (l.getD k 0)
          refine ⟨x', ?_, m_ro_trans ho a3, by rw [z_take_s hk]; exact a2⟩
          rw [z_B1239_34]
          simp (disch := omega) only [if_pos, if_neg, e33, e32, a1, z_ns, z_fdM, z_pdM, z_adM, z_sdM, z_lkM, z_ndM, z_gdM, z_cI_some', z_cV_some', z_w_ok, Int.reduceAdd, Int.reduceSub, Int.reduceMul, Int.reduceNeg, Int.reduceEq, Int.reduceLT, Int.reduceLE, Int.reduceNe, reduceIte, true_and, and_true, false_and, and_false, if_true, if_false, ne_eq, not_true_eq_false, not_false_eq_true]) (fun x ⟨ho, hr⟩ => by
          have e33 : x 33 wv = (l.length : Int) := by rw [ho _ _ (by omega) (by omega)]; exact hwy.1
          have e25 := hr.1
          rw [List.take_length] at e25
          rw [z_B1239_34]
          simp (disch := omega) only [if_pos, if_neg, e33, e25, z_fdM, z_pdM, z_adM, z_sdM, z_lkM, z_ndM, z_gdM, z_cI_some', z_cV_some', z_w_ok, Int.reduceAdd, Int.reduceSub, Int.reduceMul, Int.reduceNeg, Int.reduceEq, Int.reduceLT, Int.reduceLE, Int.reduceNe, reduceIte, true_and, and_true, false_and, and_false, if_true, if_false, ne_eq, not_true_eq_false, not_false_eq_true])
      rw [List.take_length] at r2
      have e2' : z_go (z_ev z_hcM (d + 19)) z_hcM 1239 34 [z_R 1, z_I j, z_I w, z_I g, z_I wv, z_I 0] [] z_hdM (z_upd σ1 1 25 0) = _ := e2
      refine ⟨σ2, ?_, done _ o2 r2⟩
      rw [← e2']
      simp (disch := omega) only [z_E1239, e1, hc, if_pos, if_neg, z_fdM, z_pdM, z_adM, z_sdM, z_lkM, z_ndM, z_gdM, z_cI_some', z_cV_some', z_w_ok, Int.reduceAdd, Int.reduceSub, Int.reduceMul, Int.reduceNeg, Int.reduceEq, Int.reduceLT, Int.reduceLE, Int.reduceNe, reduceIte, true_and, and_true, false_and, and_false, if_true, if_false, ne_eq, not_true_eq_false, not_false_eq_true]
/-- goBy -/
theorem m_on.goBy (h : m_inv σ0 X) (q : m_on σ0 σ X D nw t) (d : Nat) (ht : c_t20 t) (r : Int) :
    ∃ σ', z_ev z_hcM (d + 5) 1245 [z_R 1, z_I r] z_hdM σ = some (z_I (z_sm D.gN.toNat (fun g => if z_pass D (X 0 4) t r g then D.mn g else 0)), z_hdM, σ') ∧ m_on σ0 σ' X D nw t := by
  obtain ⟨σ1, e1, o1, q1, ha⟩ := q.ask h (d + 2) ht
  have hgn := q1.gn
  refine ⟨σ1, ?_, q1⟩
  have hsum : ∀ k : Nat, (k : Int) ≤ D.gN → 0 ≤ z_sm k (fun g => if z_pass D (X 0 4) t r g then D.mn g else 0) ∧ z_sm k (fun g => if z_pass D (X 0 4) t r g then D.mn g else 0) ≤ k * 99 := fun k hk => z_sm_rng (fun g g0 g1 => by
    have := (q1.goer h g0 (by omega)).2.2.2.2.2.1
    exact z_if_rng (by omega) (by omega))
  have go : ∀ (n k : Nat) (u : z_V), (k : Int) + n = D.gN → z_go (z_ev z_hcM (d + 4)) z_hcM 1245 8 [z_R 1, z_I r, z_I (z_sm k (fun g => if z_pass D (X 0 4) t r g then D.mn g else 0)), z_I k, u] [] z_hdM σ1 = some (z_I (z_sm D.gN.toNat (fun g => if z_pass D (X 0 4) t r g then D.mn g else 0)), z_hdM, σ1) := by
    intro n
    induction n with
    | zero =>
      intro k u hk
      rw [z_B1245_8, show D.gN.toNat = k by omega]
      simp (disch := omega) only [hgn.2, if_pos, z_fdM, z_pdM, z_adM, z_sdM, z_lkM, z_ndM, z_gdM, z_cI_some', z_cV_some', z_w_ok, Int.reduceAdd, Int.reduceSub, Int.reduceMul, Int.reduceNeg, Int.reduceEq, Int.reduceLT, Int.reduceLE, Int.reduceNe, reduceIte, true_and, and_true, false_and, and_false, if_true, if_false, ne_eq, not_true_eq_false, not_false_eq_true]
    | succ n ih =>
      intro k u hk
      have next := fun u => ih (k + 1) u (by omega)
      rw [z_ns, z_sm_s] at next
      have s0 := hsum k (by omega)
      have hc := q1.wayOf h (d + 1) ha ht (g := (k : Int)) (by omega) (by omega)
      obtain ⟨l, l1, l2, l3, l4, l5⟩ := q1.wy h (g := (k : Int)) (by omega) (by omega)
      obtain ⟨a1, a2, a3, a4, a5, a6, a7⟩ := q1.goer h (g := (k : Int)) (by omega) (by omega)
      have hnJ := h.1.2.2.1
      have hpass : z_pass D (X 0 4) t r k = decide (r ∈ l) := by
        unfold z_pass
        rw [l3]
        exact z_rnk_ps l1 l2
      rw [hpass] at next
      rw [z_B1245_8]
      cases hn : nw k with
      | true =>
        rw [hn, if_pos rfl] at hc
        rw [l4 hn] at next
        simp only [List.not_mem_nil, decide_false, Bool.false_eq_true, if_false, Int.add_zero] at next
        simp (disch := omega) only [hgn.2, hc, if_pos, if_neg, z_fdM, z_pdM, z_adM, z_sdM, z_lkM, z_ndM, z_gdM, z_cI_some', z_cV_some', z_w_ok, Int.reduceAdd, Int.reduceSub, Int.reduceMul, Int.reduceNeg, Int.reduceEq, Int.reduceLT, Int.reduceLE, Int.reduceNe, reduceIte, true_and, and_true, false_and, and_false, if_true, if_false, ne_eq, not_true_eq_false, not_false_eq_true]
        exact next _
      | false =>
        rw [hn, if_neg (by simp)] at hc
        obtain ⟨hwr, hwy⟩ := l5 hn
        have hh := m_has (d + 3) hwr hwy l2 r
        by_cases cr : r ∈ l
        · rw [if_pos cr] at hh
          simp only [cr, decide_true, if_true] at next
          simp (disch := omega) only [hgn.2, hc, if_pos, if_neg, hh, a3, a7, z_fdM, z_pdM, z_adM, z_sdM, z_lkM, z_ndM, z_gdM, z_cI_some', z_cV_some', z_w_ok, Int.reduceAdd, Int.reduceSub, Int.reduceMul, Int.reduceNeg, Int.reduceEq, Int.reduceLT, Int.reduceLE, Int.reduceNe, reduceIte, true_and, and_true, false_and, and_false, if_true, if_false, ne_eq, not_true_eq_false, not_false_eq_true]
          exact next _
        · rw [if_neg cr] at hh
          simp only [cr, decide_false, Bool.false_eq_true, if_false, Int.add_zero] at next
          simp (disch := omega) only [hgn.2, hc, if_pos, if_neg, hh, z_fdM, z_pdM, z_adM, z_sdM, z_lkM, z_ndM, z_gdM, z_cI_some', z_cV_some', z_w_ok, Int.reduceAdd, Int.reduceSub, Int.reduceMul, Int.reduceNeg, Int.reduceEq, Int.reduceLT, Int.reduceLE, Int.reduceNe, reduceIte, true_and, and_true, false_and, and_false, if_true, if_false, ne_eq, not_true_eq_false, not_false_eq_true]
          exact next _
  have g0 := go D.gN.toNat 0 z_U (by omega)
  rw [← g0]
  simp (disch := omega) only [z_E1245, e1, z_fdM, z_pdM, z_adM, z_sdM, z_lkM, z_ndM, z_gdM, z_cI_some', z_cV_some', z_w_ok, Int.reduceAdd, Int.reduceSub, Int.reduceMul, Int.reduceNeg, Int.reduceEq, Int.reduceLT, Int.reduceLE, Int.reduceNe, reduceIte, true_and, and_true, false_and, and_false, if_true, if_false, ne_eq, not_true_eq_false, not_false_eq_true]
  rfl
theorem M_by (h : m_inv σ X) (d : Nat) (r : Int) : m_does (z_ev z_hcM (d + 20) 1244 [z_R 1, z_I r] z_hdM σ) (s_by X r) := by
  have hi := m_inv_thr h
  have k := m_isRoad (d + 17) h.1 hi.2.1 r
  unfold s_by
  by_cases c : 0 ≤ r ∧ r < X 0 0
  · rw [if_pos c] at k ⊢
    obtain ⟨σ1, e1, q1⟩ := m_gat0 hi (d + 14)
    obtain ⟨σ2, e2, q2⟩ := q1.goBy hi (d + 14) h.t20 r
    refine m_does_on hi z_upd_same ?_ q2
    simp (disch := omega) only [z_E1244, k, if_pos, e1, e2, z_fdM, z_pdM, z_adM, z_sdM, z_lkM, z_ndM, z_gdM, z_cI_some', z_cV_some', z_w_ok, Int.reduceAdd, Int.reduceSub, Int.reduceMul, Int.reduceNeg, Int.reduceEq, Int.reduceLT, Int.reduceLE, Int.reduceNe, reduceIte, true_and, and_true, false_and, and_false, if_true, if_false, ne_eq, not_true_eq_false, not_false_eq_true]
  · rw [if_neg c] at k ⊢
    refine ⟨_, ?_, hi, z_upd_same⟩
    simp (disch := omega) only [z_E1244, k, z_fdM, z_pdM, z_adM, z_sdM, z_lkM, z_ndM, z_gdM, z_cI_some', z_cV_some', z_w_ok, Int.reduceAdd, Int.reduceSub, Int.reduceMul, Int.reduceNeg, Int.reduceEq, Int.reduceLT, Int.reduceLE, Int.reduceNe, reduceIte, true_and, and_true, false_and, and_false, if_true, if_false, ne_eq, not_true_eq_false, not_false_eq_true]
end
