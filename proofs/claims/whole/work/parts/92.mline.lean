/-! The reference: one road's line; bends. -/
theorem z_mx_gr {F : Nat → Int} (hF : ∀ i, 0 ≤ F i) : ∀ {n : Nat}, 0 < n → z_mx F n = z_gr F n
  | 0, h => absurd h (by omega)
  | n + 1, _ => by
    have hF1 : ∀ i, -1 ≤ F i := fun i => by have := hF i; omega
    show (if z_mx F n < F n then F n else z_mx F n) = _
    by_cases h0 : n = 0
    · subst h0
      show (if (0 : Int) < F 0 then F 0 else 0) = F (if F 0 < F 0 then 0 else 0)
      have := hF 0
      split <;> split <;> omega
    · have ih := z_mx_gr hF (n := n) (by omega)
      rw [ih]
      by_cases c : z_gr F n < F n
      · rw [if_pos c, (z_gr_new c).2]
      · rw [if_neg c, (z_gr_keep hF1 (by omega)).2]
theorem z_ts_self {t : Int → Int} {k : Int} : z_ts t k (t k) = t := by
  funext i
  unfold z_ts
  split
  · next h => rw [h]
  · rfl
theorem z_ts_ts {t : Int → Int} {k u v : Int} : z_ts (z_ts t k u) k v = z_ts t k v := by
  funext i
  unfold z_ts
  split <;> rfl
section
variable {σ0 σ σ' X : z_S} {D : z_D} {nw : Int → Bool} {t T : Int → Int}
theorem m_on.setk (q : m_on σ0 σ X D nw t) {k v : Int} : m_on σ0 (z_upd σ 8 k v) X D nw (z_ts t k v) := q.keep (fun a i h1 _ _ => z_upd_ne (by omega)) (fun j j0 j1 => by
  show _ = if j = k then v else t j
  by_cases c : j = k
  · rw [c, z_upd_same, if_pos rfl]
  · rw [z_upd_ne (by omega), if_neg c]; exact q.2.2.2.1 j j0 j1) (by rw [z_upd_ne (by omega)]; exact q.2.2.2.2)
theorem m_on.goLine (h : m_inv σ0 X) (q : m_on σ0 σ X D nw t) (htc : z_tcap (X 0 3) t) {k : Int} (k0 : 0 ≤ k) (k1 : k < X 0 1) (d : Nat) :
    ∃ σ', z_ev z_hcM (d + 5) 1261 [z_R 1, z_I k] z_hdM σ = some (z_U, z_hdM, σ') ∧ m_on σ0 σ' X D nw t ∧ (∀ a i, a ≠ 8 → (a < 40 ∨ 42 < a) → a ≠ 48 → (a ≠ 1 ∨ i ≠ 54) → σ' a i = σ a i) ∧ ∀ v : Nat, (v : Int) ≤ (X 0 3) → σ' 48 v = z_Ln D (X 0 4) D.mn (z_side X (X 5 (X 6 k)) (-1)) t k v := by
  have hn := h.1.2.1
  have hR := h.1.1
  have hcp := h.cp
  have hto := h.1.2.2.2.2.2.2.2.2.1 k k0 k1
  have hho := (h.1.2.2.2.2.2.2.2.1 (X 6 k) hto.1 hto.2.1).2.2.2.2.2
  have e8 := q.2.2.2.1 k k0 (by omega)
  have htk := htc k k0 (by omega)
  obtain ⟨u', σ2, e2, ⟨uu, hu, qx⟩, ho, hz⟩ := z_foru (U := Int) (fun (i : Nat) (_ : Int) (x : z_S) => z_go (z_ev z_hcM (d + 4)) z_hcM 1261 9 [z_R 1, z_I k, z_I (t k), z_I i] [] z_hdM x) (fun _ x => some (z_U, z_hdM, z_upd x 8 k (t k))) (fun i x => (∃ u, z_tcap (X 0 3) (z_ts t k u) ∧ m_on σ0 x X D nw (z_ts t k u)) ∧ (∀ a i, a ≠ 8 → (a < 40 ∨ 42 < a) → a ≠ 48 → (a ≠ 1 ∨ i ≠ 54) → x a i = σ a i) ∧ ∀ v : Nat, v < i → x 48 v = z_Ln D (X 0 4) D.mn (z_side X (X 5 (X 6 k)) (-1)) t k v) ((X 0 3) + 1).toNat (u := 0) (s := σ) ⟨⟨t k, by rw [z_ts_self]; exact htc, by rw [z_ts_self]; exact q⟩, fun _ _ _ _ _ _ => rfl, fun v hv => absurd hv (Nat.not_lt_zero v)⟩
    (fun i u x hi ⟨⟨uu, hu, qx⟩, ho, hz⟩ => by
      have qv := qx.setk (k := k) (v := (i : Int))
      rw [z_ts_ts] at qv
      have hc := z_ts_cap (s := k) (v := (i : Int)) htc (by omega) (by omega)
      obtain ⟨s1, f1, o1, r1, a1, t1, -⟩ := qv.work h d (z_tcap_20 hcp.2 hc)
      have l3 := qx.capv h
      have e7 : s1 7 k = X 6 k := (r1.land h).2.2.1 k k0 k1
      have e6 : s1 6 (X 6 k) = X 5 (X 6 k) := ((r1.land h).2.1 _ hto.1 hto.2.1).2.2.2.2
      have t1' := t1 (X 5 (X 6 k)) (by omega)
      refine ⟨0, z_upd s1 48 i (z_Ln D (X 0 4) D.mn (z_side X (X 5 (X 6 k)) (-1)) t k i), ?_, ⟨_, hc, r1.keep (m_off_upd (by omega)) (fun j j0 j1 => by rw [z_upd_ne (by omega)]; exact r1.2.2.2.1 j j0 j1) (by rw [z_upd_ne (by omega)]; exact r1.2.2.2.2)⟩, fun a j h1 h2 h3 h4 => by rw [z_upd_ne (by omega), o1 a j h2 h4, z_upd_ne (by omega)]; exact ho a j h1 h2 h3 h4, fun v hv => ?_⟩
      · have hL : z_brt D.op D.mn D.gN (X 0 4) (z_side X (X 5 (X 6 k)) (-1)) (z_ts t k i) = z_Ln D (X 0 4) D.mn (z_side X (X 5 (X 6 k)) (-1)) t k i := rfl
        rw [hL] at t1'
        rw [z_B1261_9]
        rcases (show X 5 (X 6 k) = 0 ∨ X 5 (X 6 k) = 1 by omega) with hh | hh <;> rw [hh] at t1' e6 ⊢ <;> simp (disch := omega) only [if_neg, l3, f1, e7, e6, t1', z_ns, z_fdM, z_pdM, z_adM, z_sdM, z_lkM, z_ndM, z_gdM, z_cI_some', z_cV_some', z_w_ok, Int.reduceAdd, Int.reduceSub, Int.reduceMul, Int.reduceNeg, Int.reduceEq, Int.reduceLT, Int.reduceLE, Int.reduceNe, reduceIte, true_and, and_true, false_and, and_false, if_true, if_false, ne_eq, not_true_eq_false, not_false_eq_true]
      · by_cases cv : v = i
        · rw [cv, z_upd_same]
        · rw [z_upd_ne (by omega), o1 _ _ (by omega) (by omega), z_upd_ne (by omega)]; exact hz v (by omega)) (fun u x ⟨⟨uu, hu, qx⟩, ho, hz⟩ => by
      have l3 := qx.capv h
      rw [z_B1261_9]
      simp (disch := omega) only [if_pos, l3, z_fdM, z_pdM, z_adM, z_sdM, z_lkM, z_ndM, z_gdM, z_cI_some', z_cV_some', z_w_ok, Int.reduceAdd, Int.reduceSub, Int.reduceMul, Int.reduceNeg, Int.reduceEq, Int.reduceLT, Int.reduceLE, Int.reduceNe, reduceIte, true_and, and_true, false_and, and_false, if_true, if_false, ne_eq, not_true_eq_false, not_false_eq_true])
  refine ⟨z_upd σ2 8 k (t k), ?_, ?_, fun a i h1 h2 h3 h4 => by rw [z_upd_ne (by omega)]; exact ho a i h1 h2 h3 h4, fun v hv => by rw [z_upd_ne (by omega)]; exact hz v (by omega)⟩
  · have e2' : z_go (z_ev z_hcM (d + 4)) z_hcM 1261 9 [z_R 1, z_I k, z_I (t k), z_I 0] [] z_hdM σ = _ := e2
    rw [← e2']
    simp (disch := omega) only [z_E1261, e8, z_fdM, z_pdM, z_adM, z_sdM, z_lkM, z_ndM, z_gdM, z_cI_some', z_cV_some', z_w_ok, Int.reduceAdd, Int.reduceSub, Int.reduceMul, Int.reduceNeg, Int.reduceEq, Int.reduceLT, Int.reduceLE, Int.reduceNe, reduceIte, true_and, and_true, false_and, and_false, if_true, if_false, ne_eq, not_true_eq_false, not_false_eq_true]
  · have := qx.setk (k := k) (v := t k)
    rw [z_ts_ts, z_ts_self] at this
    exact this
theorem m_placeOf (d : Nat) (hw : z_wf X) (hl : m_land σ X) (r : Int) : z_ev z_hcM (d + 3) 1262 [z_R 1, z_I r] z_hdM σ = some (z_I (z_slr X r), z_hdM, σ) := by
  have k := m_isRoad d hw hl r
  have kt := m_tollOf (d + 1) hw hl r
  unfold z_slr
  by_cases c : 0 ≤ r ∧ r < X 0 0
  · rw [if_pos c] at k ⊢
    simp (disch := omega) only [z_E1262, k, kt, if_neg, z_fdM, z_pdM, z_adM, z_sdM, z_lkM, z_ndM, z_gdM, z_cI_some', z_cV_some', z_w_ok, Int.reduceAdd, Int.reduceSub, Int.reduceMul, Int.reduceNeg, Int.reduceEq, Int.reduceLT, Int.reduceLE, Int.reduceNe, reduceIte, true_and, and_true, false_and, and_false, if_true, if_false, ne_eq, not_true_eq_false, not_false_eq_true]
  · rw [if_neg c] at k ⊢
    simp (disch := omega) only [z_E1262, k, if_pos, z_fdM, z_pdM, z_adM, z_sdM, z_lkM, z_ndM, z_gdM, z_cI_some', z_cV_some', z_w_ok, Int.reduceAdd, Int.reduceSub, Int.reduceMul, Int.reduceNeg, Int.reduceEq, Int.reduceLT, Int.reduceLE, Int.reduceNe, reduceIte, true_and, and_true, false_and, and_false, if_true, if_false, ne_eq, not_true_eq_false, not_false_eq_true]
theorem M_line (h : m_inv σ X) (d : Nat) (r : Int) : m_does (z_ev z_hcM (d + 20) 1263 [z_R 1, z_I r] z_hdM σ) (s_line X r) := by
  have hi := m_inv_thr h
  have k := m_placeOf (d + 16) h.1 hi.2.1 r
  have hsr := z_slr_rng h.1 r
  have hcp := h.cp
  unfold s_line
  by_cases c : z_slr X r < 0
  · rw [if_pos c]
    have e : z_slr X r = -1 := by omega
    rw [e] at k
    refine ⟨_, ?_, hi, z_upd_same⟩
    simp (disch := omega) only [z_E1263, k, if_neg, z_fdM, z_pdM, z_adM, z_sdM, z_lkM, z_ndM, z_gdM, z_cI_some', z_cV_some', z_w_ok, Int.reduceAdd, Int.reduceSub, Int.reduceMul, Int.reduceNeg, Int.reduceEq, Int.reduceLT, Int.reduceLE, Int.reduceNe, reduceIte, true_and, and_true, false_and, and_false, if_true, if_false, ne_eq, not_true_eq_false, not_false_eq_true]
  · rw [if_neg c]
    obtain ⟨σ1, e1, q1⟩ := m_gat0 hi (d + 14)
    obtain ⟨σ2, e2, q2, o2, f2⟩ := q1.goLine hi h.tc (k := z_slr X r) (by omega) (by omega) (d + 14)
    have hFr : ∀ i : Nat, (i : Int) ≤ (X 0 3) → 0 ≤ z_LF X (z_slr X r) i ∧ z_LF X (z_slr X r) i ≤ 480000000 := fun i hi' => q1.brt hi (z_tcap_20 hcp.2 (z_ts_cap h.tc (by omega) (by omega))) (X 0 4) _
    have f2' : ∀ v : Nat, (v : Int) ≤ (X 0 3) → σ2 48 v = z_LF X (z_slr X r) v := f2
    have hmx : ∀ n : Nat, n ≤ ((X 0 3) + 1).toNat → 0 ≤ z_mx (z_LF X (z_slr X r)) n ∧ z_mx (z_LF X (z_slr X r)) n ≤ 480000000 := fun n hn => z_mx_rng (by omega) (fun i hi' => (hFr i (by omega)).2)
    have hmg : z_mx (z_LF X (z_slr X r)) ((X 0 3) + 1).toNat = z_gr (z_LF X (z_slr X r)) ((X 0 3) + 1).toNat := by
      have key : ∀ n : Nat, n ≤ ((X 0 3) + 1).toNat → 0 < n → z_mx (z_LF X (z_slr X r)) n = z_gr (z_LF X (z_slr X r)) n ∧ -1 ≤ z_gr (z_LF X (z_slr X r)) n := by
        intro n
        induction n with
        | zero => intro _ h; omega
        | succ n ih =>
          intro hn _
          have hFn := (hFr n (by omega)).1
          show (if z_mx (z_LF X (z_slr X r)) n < z_LF X (z_slr X r) n then _ else _) = _ ∧ _
          by_cases h0 : n = 0
          · subst h0
            have e : z_gr (z_LF X (z_slr X r)) (0 + 1) = z_LF X (z_slr X r) 0 := by
              show z_LF X (z_slr X r) (if z_LF X (z_slr X r) 0 < z_LF X (z_slr X r) 0 then 0 else 0) = _
              split <;> rfl
            rw [e]
            have e0 : z_mx (z_LF X (z_slr X r)) 0 = 0 := rfl
            rw [e0]
            refine ⟨?_, by omega⟩
            split <;> omega
          · obtain ⟨i1, i2⟩ := ih (by omega) (by omega)
            rw [i1]
            by_cases cc : z_gr (z_LF X (z_slr X r)) n < z_LF X (z_slr X r) n
            · rw [if_pos cc, (z_gr_new cc).2]
              exact ⟨rfl, by omega⟩
            · rw [if_neg cc]
              obtain ⟨m, rfl⟩ : ∃ m, n = m + 1 := ⟨n - 1, by omega⟩
              have hk : z_am (z_LF X (z_slr X r)) (m + 1 + 1) = z_am (z_LF X (z_slr X r)) (m + 1) := z_am_keep (by show _ ≤ z_gr (z_LF X (z_slr X r)) (m + 1); omega)
              have : z_gr (z_LF X (z_slr X r)) (m + 1 + 1) = z_gr (z_LF X (z_slr X r)) (m + 1) := by show z_LF X (z_slr X r) _ = z_LF X (z_slr X r) _; rw [hk]
              rw [this]
              exact ⟨rfl, i2⟩
      exact (key _ (Nat.le_refl _) (by omega)).1
    obtain ⟨σ3, e3, o3, r3⟩ := z_for (fun (i : Nat) (x : z_S) => z_go (z_ev z_hcM (d + 19)) z_hcM 1263 37 [z_R 1, z_I r, z_I (z_slr X r), z_I (z_mx (z_LF X (z_slr X r)) i), z_I i] [] z_hdM x) (fun x => some (z_I (z_mx (z_LF X (z_slr X r)) ((X 0 3) + 1).toNat), z_hdM, x)) (fun i x => m_ro σ2 x ∧ m_rw x ((List.range i).map (z_LF X (z_slr X r)))) ((X 0 3) + 1).toNat (s := z_upd σ2 1 25 0) ⟨m_ro0, m_rw0⟩
      (fun i x hi' ⟨ho, hr⟩ => by
        have l3 : x 1 9 = (X 0 3) := by rw [ho _ _ (by omega) (by omega)]; exact q2.capv hi
        have e48 : x 48 i = z_LF X (z_slr X r) i := by rw [ho _ _ (by omega) (by omega)]; exact f2' i (by omega)
        obtain ⟨x', a1, a2, a3⟩ := m_tell1 hr (by rw [List.length_map, List.length_range]; omega) (d + 18) (z_LF X (z_slr X r) i)
        have e48' : x' 48 i = z_LF X (z_slr X r) i := by rw [a3 _ _ (by omega) (by omega)]; exact e48
        refine ⟨x', ?_, m_ro_trans ho a3, by rw [List.range_succ, List.map_append]; exact a2⟩
        have hs : z_mx (z_LF X (z_slr X r)) (i + 1) = if z_mx (z_LF X (z_slr X r)) i < z_LF X (z_slr X r) i then z_LF X (z_slr X r) i else z_mx (z_LF X (z_slr X r)) i := rfl
        rw [hs, z_B1263_37]
        simp (disch := omega) only [if_neg, l3, e48, a1, e48', z_ns, z_fdM, z_pdM, z_adM, z_sdM, z_lkM, z_ndM, z_gdM, z_cI_some', z_cV_some', z_w_ok, Int.reduceAdd, Int.reduceSub, Int.reduceMul, Int.reduceNeg, Int.reduceEq, Int.reduceLT, Int.reduceLE, Int.reduceNe, reduceIte, true_and, and_true, false_and, and_false, if_true, if_false, ne_eq, not_true_eq_false, not_false_eq_true]) (fun x ⟨ho, hr⟩ => by
        have l3 : x 1 9 = (X 0 3) := by rw [ho _ _ (by omega) (by omega)]; exact q2.capv hi
        rw [z_B1263_37]
        simp (disch := omega) only [if_pos, l3, z_fdM, z_pdM, z_adM, z_sdM, z_lkM, z_ndM, z_gdM, z_cI_some', z_cV_some', z_w_ok, Int.reduceAdd, Int.reduceSub, Int.reduceMul, Int.reduceNeg, Int.reduceEq, Int.reduceLT, Int.reduceLE, Int.reduceNe, reduceIte, true_and, and_true, false_and, and_false, if_true, if_false, ne_eq, not_true_eq_false, not_false_eq_true])
    rw [hmg] at e3
    refine m_does_row hi z_upd_same ?_ (m_ofr_ro (m_ofr_of q2.1) o3) (fun k k0 k1 => by rw [o3 _ _ (by omega) (by omega)]; exact q2.2.2.2.1 k k0 k1) (by rw [o3 _ _ (by omega) (by omega)]; exact q2.2.2.2.2) r3 (by rw [List.length_map, List.length_range]; omega)
    have e3' : z_go (z_ev z_hcM (d + 19)) z_hcM 1263 37 [z_R 1, z_I r, z_I (z_slr X r), z_I 0, z_I 0] [] z_hdM (z_upd σ2 1 25 0) = _ := e3
    rw [← e3']
    simp (disch := omega) only [z_E1263, k, if_pos, e1, e2, z_fdM, z_pdM, z_adM, z_sdM, z_lkM, z_ndM, z_gdM, z_cI_some', z_cV_some', z_w_ok, Int.reduceAdd, Int.reduceSub, Int.reduceMul, Int.reduceNeg, Int.reduceEq, Int.reduceLT, Int.reduceLE, Int.reduceNe, reduceIte, true_and, and_true, false_and, and_false, if_true, if_false, ne_eq, not_true_eq_false, not_false_eq_true]
theorem M_bends (h : m_inv σ X) (d : Nat) (r : Int) : m_does (z_ev z_hcM (d + 20) 1264 [z_R 1, z_I r] z_hdM σ) (s_bends X r) := by
  have hi := m_inv_thr h
  have k := m_placeOf (d + 16) h.1 hi.2.1 r
  have hsr := z_slr_rng h.1 r
  have hcp := h.cp
  unfold s_bends
  by_cases c : z_slr X r < 0
  · rw [if_pos c]
    have e : z_slr X r = -1 := by omega
    rw [e] at k
    refine ⟨_, ?_, hi, z_upd_same⟩
    simp (disch := omega) only [z_E1264, k, if_neg, z_fdM, z_pdM, z_adM, z_sdM, z_lkM, z_ndM, z_gdM, z_cI_some', z_cV_some', z_w_ok, Int.reduceAdd, Int.reduceSub, Int.reduceMul, Int.reduceNeg, Int.reduceEq, Int.reduceLT, Int.reduceLE, Int.reduceNe, reduceIte, true_and, and_true, false_and, and_false, if_true, if_false, ne_eq, not_true_eq_false, not_false_eq_true]
  · rw [if_neg c]
    obtain ⟨σ1, e1, q1⟩ := m_gat0 hi (d + 14)
    obtain ⟨σ2, e2, q2, o2, f2⟩ := q1.goLine hi h.tc (k := z_slr X r) (by omega) (by omega) (d + 14)
    have hFr : ∀ i : Nat, (i : Int) ≤ (X 0 3) → 0 ≤ z_LF X (z_slr X r) i ∧ z_LF X (z_slr X r) i ≤ 480000000 := fun i hi' => q1.brt hi (z_tcap_20 hcp.2 (z_ts_cap h.tc (by omega) (by omega))) (X 0 4) _
    have f2' : ∀ v : Nat, (v : Int) ≤ (X 0 3) → σ2 48 v = z_LF X (z_slr X r) v := f2
    generalize z_LF X (z_slr X r) = F at *
    obtain ⟨σ3, e3, o3, r3⟩ := z_for (fun (i : Nat) (x : z_S) => z_go (z_ev z_hcM (d + 19)) z_hcM 1264 34 [z_R 1, z_I r, z_I (z_slr X r), z_I ((i : Int) + 1)] [] z_hdM x) (fun x => some (z_I ((z_bnl F ((X 0 3) - 1).toNat).length : Int), z_hdM, x)) (fun i x => m_ro σ2 x ∧ m_rw x (z_bnl F i)) ((X 0 3) - 1).toNat (s := z_upd σ2 1 25 0) ⟨m_ro0, m_rw0⟩
      (fun i x hi' ⟨ho, hr⟩ => by
        have l3 : x 1 9 = (X 0 3) := by rw [ho _ _ (by omega) (by omega)]; exact q2.capv hi
        have k0 : x 48 i = F i := by rw [ho _ _ (by omega) (by omega)]; exact f2' i (by omega)
        have k1 : x 48 ((i : Int) + 1) = F (i + 1) := by rw [ho _ _ (by omega) (by omega)]; exact f2' (i + 1) (by omega)
        have k2 : x 48 ((i : Int) + 2) = F (i + 2) := by rw [ho _ _ (by omega) (by omega)]; exact f2' (i + 2) (by omega)
        have w0 := hFr i (by omega)
        have w1 := hFr (i + 1) (by omega)
        have w2 := hFr (i + 2) (by omega)
        have hbl := z_bnl_len (F := F) i
        have e11 : (i : Int) + 1 + 1 = (i : Int) + 2 := by omega
        have e10 : (i : Int) + 1 - 1 = (i : Int) := by omega
        by_cases cb : F (i + 2) - F (i + 1) = F (i + 1) - F i
        · have hs : z_bnl F (i + 1) = z_bnl F i := by show (if _ then _ else _) = _; rw [if_neg (by simpa using cb)]
          refine ⟨x, ?_, ho, by rw [hs]; exact hr⟩
          rw [z_B1264_34]
          simp (disch := omega) only [if_neg, if_pos, l3, e11, e10, k0, k1, k2, z_ns, z_fdM, z_pdM, z_adM, z_sdM, z_lkM, z_ndM, z_gdM, z_cI_some', z_cV_some', z_w_ok, Int.reduceAdd, Int.reduceSub, Int.reduceMul, Int.reduceNeg, Int.reduceEq, Int.reduceLT, Int.reduceLE, Int.reduceNe, reduceIte, true_and, and_true, false_and, and_false, if_true, if_false, ne_eq, not_true_eq_false, not_false_eq_true]
        · have hs : z_bnl F (i + 1) = z_bnl F i ++ [((i + 1 : Nat) : Int)] := by show (if _ then _ else _) = _; rw [if_pos cb]
          obtain ⟨x', a1, a2, a3⟩ := m_tell1 hr (by omega) (d + 18) ((i + 1 : Nat) : Int)
          rw [z_ns] at a1
          refine ⟨x', ?_, m_ro_trans ho a3, by rw [hs]; exact a2⟩
          rw [z_B1264_34]
          simp (disch := omega) only [if_neg, l3, e11, e10, k0, k1, k2, a1, z_ns, z_fdM, z_pdM, z_adM, z_sdM, z_lkM, z_ndM, z_gdM, z_cI_some', z_cV_some', z_w_ok, Int.reduceAdd, Int.reduceSub, Int.reduceMul, Int.reduceNeg, Int.reduceEq, Int.reduceLT, Int.reduceLE, Int.reduceNe, reduceIte, true_and, and_true, false_and, and_false, if_true, if_false, ne_eq, not_true_eq_false, not_false_eq_true]) (fun x ⟨ho, hr⟩ => by
        have l3 : x 1 9 = (X 0 3) := by rw [ho _ _ (by omega) (by omega)]; exact q2.capv hi
        have e25 := hr.1
        rw [z_B1264_34]
        simp (disch := omega) only [if_pos, l3, e25, z_fdM, z_pdM, z_adM, z_sdM, z_lkM, z_ndM, z_gdM, z_cI_some', z_cV_some', z_w_ok, Int.reduceAdd, Int.reduceSub, Int.reduceMul, Int.reduceNeg, Int.reduceEq, Int.reduceLT, Int.reduceLE, Int.reduceNe, reduceIte, true_and, and_true, false_and, and_false, if_true, if_false, ne_eq, not_true_eq_false, not_false_eq_true])
    have hbl := z_bnl_len (F := F) ((X 0 3) - 1).toNat
    refine m_does_row hi z_upd_same ?_ (m_ofr_ro (m_ofr_of q2.1) o3) (fun k k0 k1 => by rw [o3 _ _ (by omega) (by omega)]; exact q2.2.2.2.1 k k0 k1) (by rw [o3 _ _ (by omega) (by omega)]; exact q2.2.2.2.2) r3 (by omega)
    have e3' : z_go (z_ev z_hcM (d + 19)) z_hcM 1264 34 [z_R 1, z_I r, z_I (z_slr X r), z_I 1] [] z_hdM (z_upd σ2 1 25 0) = _ := e3
    rw [← e3']
    simp (disch := omega) only [z_E1264, k, if_pos, e1, e2, z_fdM, z_pdM, z_adM, z_sdM, z_lkM, z_ndM, z_gdM, z_cI_some', z_cV_some', z_w_ok, Int.reduceAdd, Int.reduceSub, Int.reduceMul, Int.reduceNeg, Int.reduceEq, Int.reduceLT, Int.reduceLE, Int.reduceNe, reduceIte, true_and, and_true, false_and, and_false, if_true, if_false, ne_eq, not_true_eq_false, not_false_eq_true]
end
