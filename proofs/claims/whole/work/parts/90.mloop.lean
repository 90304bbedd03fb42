/-! The reference: sets gone through; bound, given, above. -/
theorem z_dow {S R U : Type} (n : Nat) (F out : U → S → R) (I : Nat → U → S → Prop) (hn : 0 < n) {u : U} {s : S} (h0 : I 0 u s) (step : ∀ i u s, i < n → I i u s → ∃ u' s', I (i + 1) u' s' ∧ (i + 1 ≠ n → F u s = F u' s') ∧ (i + 1 = n → F u s = out u' s')) : ∃ u' s', F u s = out u' s' ∧ I n u' s' := by
  have go : ∀ (j i : Nat) (u : U) (s : S), i + j + 1 = n → I i u s → ∃ u' s', F u s = out u' s' ∧ I n u' s' := by
    intro j
    induction j with
    | zero =>
      intro i u s hi hI
      obtain ⟨u', s', a, -, b⟩ := step i u s (by omega) hI
      rw [show i + 1 = n by omega] at a
      exact ⟨u', s', b (by omega), a⟩
    | succ j ih =>
      intro i u s hi hI
      obtain ⟨u', s', a, b, -⟩ := step i u s (by omega) hI
      obtain ⟨u2, s2, e, h⟩ := ih (i + 1) u' s' (by omega) a
      exact ⟨u2, s2, (b (by omega)).trans e, h⟩
  exact go (n - 1) 0 u s (by omega) h0
section
variable {σ0 σ σ' X : z_S} {D : z_D} {nw : Int → Bool} {t T : Int → Int}
theorem m_on.t20 (h : m_inv σ0 X) (ht : z_tcap (X 0 3) t) : c_t20 t := z_tcap_20 h.cp.2 ht
theorem m_on.start (h : m_inv σ0 X) (q : m_on σ0 σ X D nw t) (d : Nat) (w : Int) {cp : Int} : ∃ σa σb, z_ev z_hcM (d + 1) 1247 [z_R 1] z_hdM σ = some (z_U, z_hdM, σa) ∧ z_ev z_hcM (d + 1) 1249 [z_R 1, z_I w, z_I 0] z_hdM σa = some (z_U, z_hdM, σb) ∧ m_on σ0 σb X D nw (z_ti (z_side X w (-1)) cp t 0) ∧ m_pls σb (z_side X w (-1)) (X 0 1) ∧ (∀ k, 0 ≤ k → k < 5 → σb 44 k = t k) ∧ ∀ a i, a ≠ 8 → a ≠ 43 → a ≠ 44 → (a ≠ 1 ∨ i ≠ 56) → σb a i = σ a i := by
  obtain ⟨σ1, e1, o1, k1⟩ := m_keep (σ := σ) d
  have q1 : m_on σ0 σ1 X D nw t := q.keep (fun a i _ h2 _ => o1 a i (by omega)) (fun k k0 k1 => by rw [o1 _ _ (by omega)]; exact q.2.2.2.1 k k0 k1) (by rw [o1 _ _ (by omega)]; exact q.2.2.2.2)
  obtain ⟨σ2, e2, o2, t2, p2⟩ := m_lay (σ := σ1) (t := t) (h := w) (free := 0) (mv := (z_side X w (-1))) d h.1 (q1.land h) q1.2.2.2.1 (by omega) (m_mvb h.1)
  have q2 : m_on σ0 σ2 X D nw (z_ti (z_side X w (-1)) cp t 0) := q1.keep (fun a i h1 h2 h3 => o2 a i h1 (by omega) (by omega)) (fun k k0 k1 => by rw [t2 k k0 k1]; exact m_ti0 h.1 k k0) (by rw [o2 _ _ (by omega) (by omega) (by omega)]; exact q1.2.2.2.2)
  exact ⟨σ1, σ2, e1, e2, q2, p2, fun k k0 k1' => by rw [o2 _ _ (by omega) (by omega) (by omega), k1 k k0 k1']; exact q.2.2.2.1 k k0 k1', fun a i h1 h2 h3 h4 => by rw [o2 a i h1 h2 h4, o1 a i h3]⟩
theorem m_on.nextI (h : m_inv σ0 X) {mv cp : Int} {i : Nat} (q : m_on σ0 σ X D nw (z_ti mv cp T i)) (hp : m_pls σ mv (X 0 1)) (d : Nat) (hmv : 0 ≤ mv ∧ mv < ((2 ^ (X 0 1).toNat : Nat) : Int)) (hcp : 0 ≤ cp ∧ cp ≤ (X 0 3)) (hT : z_tcap (X 0 3) T) (hi : i < z_tot mv cp) :
    ∃ σ', z_ev z_hcM (d + 1) 1250 [z_R 1, z_I cp] z_hdM σ = some (z_I (if i + 1 = z_tot mv cp then 0 else 1), z_hdM, σ') ∧ (∀ a j, a ≠ 8 → σ' a j = σ a j) ∧ m_on σ0 σ' X D nw (z_ti mv cp T (i + 1)) ∧ m_pls σ' mv (X 0 1) := by
  have hP := z_pow_n h.1
  have hti := z_ti_cap (mv := mv) hcp.2 h.cp.1 hT i
  obtain ⟨σ', e, o, ht⟩ := m_next (σ := σ) (t := z_ti mv cp T i) (cp := cp) d h.1.2.1 hmv.2 q.2.2.2.1 (z_tcap_20 h.cp.2 hti) hp (z_ti_dgc hcp.1 i)
  have hov := z_ov_ti (T := T) (mv := mv) (cp := cp) ⟨hmv.1, by omega⟩ hcp.1 hi
  refine ⟨σ', ?_, o, q.keep (fun a i h1 _ _ => o a i h1) ht (by rw [o _ _ (by omega)]; exact q.2.2.2.2), ⟨by rw [o _ _ (by omega)]; exact hp.1, fun k hk hb => by rw [o _ _ (by omega)]; exact hp.2 k hk hb⟩⟩
  rw [e]
  by_cases c : i + 1 = z_tot mv cp
  · rw [if_pos c, if_pos (hov.mpr c)]
  · rw [if_neg c, if_neg (fun z => c (hov.mp z))]
theorem m_on.put (q : m_on σ0 σ X D nw t) (d : Nat) (hk : ∀ k, 0 ≤ k → k < 5 → σ 44 k = T k) : ∃ σ', z_ev z_hcM (d + 1) 1248 [z_R 1] z_hdM σ = some (z_U, z_hdM, σ') ∧ (∀ a i, a ≠ 8 → σ' a i = σ a i) ∧ m_on σ0 σ' X D nw T := by
  obtain ⟨σ', e, o, ht⟩ := m_putBack (σ := σ) (t := T) d hk
  exact ⟨σ', e, o, q.keep (fun a i h1 _ _ => o a i h1) ht (by rw [o _ _ (by omega)]; exact q.2.2.2.2)⟩
theorem M_above (h : m_inv σ X) (d : Nat) (w v : Int) : m_does (z_ev z_hcM (d + 20) 1260 [z_R 1, z_I w, z_I v] z_hdM σ) (s_above X w v) := by
  have hi := m_inv_thr h
  have k := m_canSet (d + 17) h.1 hi.2.1 w
  unfold s_above
  by_cases c : z_seek X w = true
  · rw [if_pos c] at k ⊢
    obtain ⟨cw, ctot⟩ := z_seek_t.mp c
    have hsr := z_side_rng h.1 w (-1)
    have hcp := h.cp
    obtain ⟨σ1, e1, q1⟩ := m_gat0 hi (d + 14)
    obtain ⟨σa, σb, ea, eb, qb, pb, kb, ob⟩ := q1.start hi (d + 18) w (cp := (X 0 3))
    have hct : ∀ n, 0 ≤ z_ct (fun i => decide (v ≤ z_Bi (z_Dm X (-1)) (X 0 4) (z_Dm X (-1)).mn (z_side X w (-1)) (z_side X w (-1)) (X 0 3) (X 7) i)) n ∧ z_ct (fun i => decide (v ≤ z_Bi (z_Dm X (-1)) (X 0 4) (z_Dm X (-1)).mn (z_side X w (-1)) (z_side X w (-1)) (X 0 3) (X 7) i)) n ≤ n := fun n => z_ct_rng
    obtain ⟨u2, σ2, e2, hu2, q2, p2, k2⟩ := z_dow (z_tot (z_side X w (-1)) (X 0 3)) (fun (x : Int) (s : z_S) => z_go (z_ev z_hcM (d + 19)) z_hcM 1260 31 [z_R 1, z_I w, z_I v, z_I x] [] z_hdM s) (fun x s => z_cV (z_ev z_hcM (d + 19) 1248 [z_R 1] z_hdM s) (fun h4 s5 => some (z_I x, h4, s5))) (fun i x s => x = z_ct (fun i => decide (v ≤ z_Bi (z_Dm X (-1)) (X 0 4) (z_Dm X (-1)).mn (z_side X w (-1)) (z_side X w (-1)) (X 0 3) (X 7) i)) i ∧ m_on (z_upd σ 1 26 0) s X (z_Dm X (-1)) (z_nwD X (-1)) (z_ti (z_side X w (-1)) (X 0 3) (X 7) i) ∧ m_pls s (z_side X w (-1)) (X 0 1) ∧ ∀ k, 0 ≤ k → k < 5 → s 44 k = X 7 k) (z_tot_pos hcp.1) ⟨rfl, qb, pb, kb⟩
      (fun i x s hi' ⟨hx, qs, ps, ks⟩ => by
        have hti := z_ti_cap (mv := (z_side X w (-1))) (Int.le_refl (X 0 3)) hcp.1 h.tc i
        obtain ⟨s1, f1, o1, r1, a1, t1, -⟩ := qs.work hi (d + 15) (z_tcap_20 hcp.2 hti)
        have t1' := t1 w cw
        have p1 : m_pls s1 (z_side X w (-1)) (X 0 1) := ⟨by rw [o1 _ _ (by omega) (by omega)]; exact ps.1, fun k hk hb => by rw [o1 _ _ (by omega) (by omega)]; exact ps.2 k hk hb⟩
        obtain ⟨s2, f2, o2, r2, p2⟩ := r1.nextI hi p1 (d + 18) ⟨hsr.1, hsr.2.2⟩ ⟨hcp.1, Int.le_refl _⟩ h.tc hi'
        have l3 := r1.capv hi
        have hn1 := hct i
        have hB : z_brt (z_Dm X (-1)).op (z_Dm X (-1)).mn (z_Dm X (-1)).gN (X 0 4) (z_side X w (-1)) (z_ti (z_side X w (-1)) (X 0 3) (X 7) i) = z_Bi (z_Dm X (-1)) (X 0 4) (z_Dm X (-1)).mn (z_side X w (-1)) (z_side X w (-1)) (X 0 3) (X 7) i := rfl
        rw [hB] at t1'
        have hs : z_ct (fun i => decide (v ≤ z_Bi (z_Dm X (-1)) (X 0 4) (z_Dm X (-1)).mn (z_side X w (-1)) (z_side X w (-1)) (X 0 3) (X 7) i)) (i + 1) = z_ct (fun i => decide (v ≤ z_Bi (z_Dm X (-1)) (X 0 4) (z_Dm X (-1)).mn (z_side X w (-1)) (z_side X w (-1)) (X 0 3) (X 7) i)) i + if decide (v ≤ z_Bi (z_Dm X (-1)) (X 0 4) (z_Dm X (-1)).mn (z_side X w (-1)) (z_side X w (-1)) (X 0 3) (X 7) i) = true then 1 else 0 := rfl
        refine ⟨_, s2, ⟨rfl, r2, p2, fun k k0 k1 => by rw [o2 _ _ (by omega), o1 _ _ (by omega) (by omega)]; exact ks k k0 k1⟩, fun hne => ?_, fun heq => ?_⟩
        · rw [if_neg hne] at f2
          show z_go _ _ _ _ _ _ _ s = z_go _ _ _ _ _ _ _ s2
          rw [hs, z_B1260_31, hx]
          by_cases cv : z_Bi (z_Dm X (-1)) (X 0 4) (z_Dm X (-1)).mn (z_side X w (-1)) (z_side X w (-1)) (X 0 3) (X 7) i < v
          · rw [decide_eq_false (by omega), if_neg (by simp)]
            simp (disch := omega) only [f1, if_pos, t1', z_B1260_51, l3, f2, z_fdM, z_pdM, z_adM, z_sdM, z_lkM, z_ndM, z_gdM, z_cI_some', z_cV_some', z_w_ok, Int.reduceAdd, Int.reduceSub, Int.reduceMul, Int.reduceNeg, Int.reduceEq, Int.reduceLT, Int.reduceLE, Int.reduceNe, reduceIte, true_and, and_true, false_and, and_false, if_true, if_false, ne_eq, not_true_eq_false, not_false_eq_true]
          · rw [decide_eq_true (by omega), if_pos rfl]
            simp (disch := omega) only [f1, if_neg, t1', z_B1260_51, l3, f2, z_fdM, z_pdM, z_adM, z_sdM, z_lkM, z_ndM, z_gdM, z_cI_some', z_cV_some', z_w_ok, Int.reduceAdd, Int.reduceSub, Int.reduceMul, Int.reduceNeg, Int.reduceEq, Int.reduceLT, Int.reduceLE, Int.reduceNe, reduceIte, true_and, and_true, false_and, and_false, if_true, if_false, ne_eq, not_true_eq_false, not_false_eq_true]
        · rw [if_pos heq] at f2
          show z_go _ _ _ _ _ _ _ s = z_cV _ _
          rw [hs, z_B1260_31, hx]
          by_cases cv : z_Bi (z_Dm X (-1)) (X 0 4) (z_Dm X (-1)).mn (z_side X w (-1)) (z_side X w (-1)) (X 0 3) (X 7) i < v
          · rw [decide_eq_false (by omega), if_neg (by simp)]
            simp (disch := omega) only [f1, if_pos, t1', z_B1260_51, l3, f2, z_fdM, z_pdM, z_adM, z_sdM, z_lkM, z_ndM, z_gdM, z_cI_some', z_cV_some', z_w_ok, Int.reduceAdd, Int.reduceSub, Int.reduceMul, Int.reduceNeg, Int.reduceEq, Int.reduceLT, Int.reduceLE, Int.reduceNe, reduceIte, true_and, and_true, false_and, and_false, if_true, if_false, ne_eq, not_true_eq_false, not_false_eq_true]
          · rw [decide_eq_true (by omega), if_pos rfl]
            simp (disch := omega) only [f1, if_neg, t1', z_B1260_51, l3, f2, z_fdM, z_pdM, z_adM, z_sdM, z_lkM, z_ndM, z_gdM, z_cI_some', z_cV_some', z_w_ok, Int.reduceAdd, Int.reduceSub, Int.reduceMul, Int.reduceNeg, Int.reduceEq, Int.reduceLT, Int.reduceLE, Int.reduceNe, reduceIte, true_and, and_true, false_and, and_false, if_true, if_false, ne_eq, not_true_eq_false, not_false_eq_true])
    obtain ⟨σ3, e3, o3, q3⟩ := q2.put (d + 18) k2
    refine m_does_on hi z_upd_same ?_ q3
    have e2' : z_go (z_ev z_hcM (d + 19)) z_hcM 1260 31 [z_R 1, z_I w, z_I v, z_I 0] [] z_hdM σb = some (z_I u2, z_hdM, σ3) := by
      refine e2.trans ?_
      simp only [e3, z_cV_some']
    rw [← hu2]
    simp (disch := omega) only [z_E1260, k, if_pos, e1, ea, eb, z_fdM, z_pdM, z_adM, z_sdM, z_lkM, z_ndM, z_gdM, z_cI_some', z_cV_some', z_w_ok, Int.reduceAdd, Int.reduceSub, Int.reduceMul, Int.reduceNeg, Int.reduceEq, Int.reduceLT, Int.reduceLE, Int.reduceNe, reduceIte, true_and, and_true, false_and, and_false, if_true, if_false, ne_eq, not_true_eq_false, not_false_eq_true]
    exact e2'
  · rw [if_neg c] at k ⊢
    refine ⟨_, ?_, hi, z_upd_same⟩
    simp (disch := omega) only [z_E1260, z_B1260_51, k, z_fdM, z_pdM, z_adM, z_sdM, z_lkM, z_ndM, z_gdM, z_cI_some', z_cV_some', z_w_ok, Int.reduceAdd, Int.reduceSub, Int.reduceMul, Int.reduceNeg, Int.reduceEq, Int.reduceLT, Int.reduceLE, Int.reduceNe, reduceIte, true_and, and_true, false_and, and_false, if_true, if_false, ne_eq, not_true_eq_false, not_false_eq_true]
theorem m_gp_rng (h : m_inv σ0 X) (q : m_on σ0 σ X D nw t) {u : Int → Int} (hu : c_t20 u) (side g : Int) : 0 ≤ z_gp D (X 0 4) side u g ∧ z_gp D (X 0 4) side u g ≤ 100 := c_t20_pay hu _
theorem M_bound (h : m_inv σ X) (d : Nat) (w : Int) : m_does (z_ev z_hcM (d + 20) 1258 [z_R 1, z_I w] z_hdM σ) (s_bound X w) := by
  have hi := m_inv_thr h
  have k := m_canSet (d + 17) h.1 hi.2.1 w
  unfold s_bound
  by_cases c : z_seek X w = true
  · rw [if_pos c] at k ⊢
    obtain ⟨cw, ctot⟩ := z_seek_t.mp c
    have hsr := z_side_rng h.1 w (-1)
    have hcp := h.cp
    have hP := z_pow_n h.1
    obtain ⟨σ1, e1, q1⟩ := m_gat0 hi (d + 14)
    have hgN := q1.gn
    -- all most 0
    obtain ⟨u2, σ2, e2, o2, z2⟩ := z_foru (fun (k : Nat) (u : z_V) (x : z_S) => z_go (z_ev z_hcM (d + 19)) z_hcM 1258 21 [z_R 1, z_I w, z_I k, u] [] z_hdM x) (fun u x => z_go (z_ev z_hcM (d + 19)) z_hcM 1258 21 [z_R 1, z_I w, z_I (z_Dm X (-1)).gN, u] [] z_hdM x) (fun k x => (∀ a i, a ≠ 46 → x a i = σ1 a i) ∧ ∀ g : Int, 0 ≤ g → g < k → x 46 g = 0) (z_Dm X (-1)).gN.toNat (u := z_U) (s := σ1) ⟨fun _ _ _ => rfl, fun g g0 g1 => absurd g1 (by omega)⟩
      (fun k u x hk ⟨ho, hz⟩ => by
        have e48 : x 1 48 = (z_Dm X (-1)).gN := by rw [ho _ _ (by omega)]; exact hgN.2
        refine ⟨u, z_upd x 46 k 0, ?_, fun a i ha => by rw [z_upd_ne (by omega)]; exact ho a i ha, fun g g0 g1 => ?_⟩
        · rw [z_B1258_21]
          simp (disch := omega) only [if_neg, e48, z_ns, z_fdM, z_pdM, z_adM, z_sdM, z_lkM, z_ndM, z_gdM, z_cI_some', z_cV_some', z_w_ok, Int.reduceAdd, Int.reduceSub, Int.reduceMul, Int.reduceNeg, Int.reduceEq, Int.reduceLT, Int.reduceLE, Int.reduceNe, reduceIte, true_and, and_true, false_and, and_false, if_true, if_false, ne_eq, not_true_eq_false, not_false_eq_true]
        · by_cases cg : g = k
          · rw [cg, z_upd_same]
          · rw [z_upd_ne (by omega)]; exact hz g g0 (by omega)) (fun u x _ => by rw [Int.toNat_of_nonneg hgN.1.1])
    have q2 : m_on (z_upd σ 1 26 0) σ2 X (z_Dm X (-1)) (z_nwD X (-1)) (X 7) := q1.keep (fun a i _ h2 _ => o2 a i (by omega)) (fun k k0 k1 => by rw [o2 _ _ (by omega)]; exact q1.2.2.2.1 k k0 k1) (by rw [o2 _ _ (by omega)]; exact q1.2.2.2.2)
    obtain ⟨σa, σb, ea, eb, qb, pb, kb, ob⟩ := q2.start hi (d + 18) w (cp := (X 0 3))
    -- the sets
    obtain ⟨u3, σ3, e3, hu3, q3, p3, k3, f3⟩ := z_dow (z_tot (z_side X w (-1)) (X 0 3)) (fun (q : Int × z_V) (s : z_S) => z_go (z_ev z_hcM (d + 19)) z_hcM 1258 52 [z_R 1, z_I w, z_I q.1, q.2] [] z_hdM s) (fun q s => z_cV (z_ev z_hcM (d + 19) 1248 [z_R 1] z_hdM s) (fun h4 s5 => z_go (z_ev z_hcM (d + 19)) z_hcM 1258 130 [z_R 1, z_I w, z_I 0, z_I 0] [] h4 s5)) (fun i _ s => True ∧ m_on (z_upd σ 1 26 0) s X (z_Dm X (-1)) (z_nwD X (-1)) (z_ti (z_side X w (-1)) (X 0 3) (X 7) i) ∧ m_pls s (z_side X w (-1)) (X 0 1) ∧ (∀ k, 0 ≤ k → k < 5 → s 44 k = X 7 k) ∧ ∀ g, 0 ≤ g → g < (z_Dm X (-1)).gN → s 46 g = z_mx (fun i => z_gp (z_Dm X (-1)) (X 0 4) (z_side X w (-1)) (z_ti (z_side X w (-1)) (X 0 3) (X 7) i) g) i) (z_tot_pos hcp.1) (u := ((z_Dm X (-1)).gN, u2)) (s := σb) ⟨trivial, qb, pb, kb, fun g g0 g1 => by rw [ob _ _ (by omega) (by omega) (by omega) (by omega)]; exact z2 g g0 (by omega)⟩
      (fun i u s hi' ⟨_, qs, ps, ks, fs⟩ => by
        have hti := z_ti_cap (mv := (z_side X w (-1))) (Int.le_refl (X 0 3)) hcp.1 h.tc i
        have ht20 := z_tcap_20 hcp.2 hti
        obtain ⟨s1, f1, o1, r1, a1⟩ := qs.ask hi (d + 17) ht20
        obtain ⟨u2', s2, f2, o2', m2⟩ := z_foru (fun (k : Nat) (u : z_V) (x : z_S) => z_go (z_ev z_hcM (d + 19)) z_hcM 1258 58 [z_R 1, z_I w, z_I k, u] [] z_hdM x) (fun u x => z_go (z_ev z_hcM (d + 19)) z_hcM 1258 58 [z_R 1, z_I w, z_I (z_Dm X (-1)).gN, u] [] z_hdM x) (fun k x => (∀ a i, a ≠ 46 → x a i = s1 a i) ∧ ∀ g : Int, 0 ≤ g → g < (z_Dm X (-1)).gN → x 46 g = if g < k then z_mx (fun i => z_gp (z_Dm X (-1)) (X 0 4) (z_side X w (-1)) (z_ti (z_side X w (-1)) (X 0 3) (X 7) i) g) (i + 1) else z_mx (fun i => z_gp (z_Dm X (-1)) (X 0 4) (z_side X w (-1)) (z_ti (z_side X w (-1)) (X 0 3) (X 7) i) g) i) (z_Dm X (-1)).gN.toNat (u := u.2) (s := s1) ⟨fun _ _ _ => rfl, fun g g0 g1 => by rw [if_neg (by omega), o1 _ _ (by omega)]; exact fs g g0 g1⟩
          (fun k u x hk ⟨ho, hx⟩ => by
            have rx : m_on (z_upd σ 1 26 0) x X (z_Dm X (-1)) (z_nwD X (-1)) (z_ti (z_side X w (-1)) (X 0 3) (X 7) i) := r1.keep (fun a i _ h2 _ => ho a i (by omega)) (fun k k0 k1 => by rw [ho _ _ (by omega)]; exact r1.2.2.2.1 k k0 k1) (by rw [ho _ _ (by omega)]; exact r1.2.2.2.2)
            have ax : m_ask x X (z_ti (z_side X w (-1)) (X 0 3) (X 7) i) := ⟨fun m a b => by rw [ho _ _ (by omega)]; exact a1.1 m a b, by rw [ho _ _ (by omega)]; exact a1.2.1, by rw [ho _ _ (by omega)]; exact a1.2.2⟩
            have hc := rx.choose hi (d + 17) ax ht20 (g := (k : Int)) (by omega) (by omega)
            have e48 := rx.gn.2
            have hxk := hx k (by omega) (by omega)
            rw [if_neg (by omega)] at hxk
            have hs : z_mx (fun i => z_gp (z_Dm X (-1)) (X 0 4) (z_side X w (-1)) (z_ti (z_side X w (-1)) (X 0 3) (X 7) i) k) (i + 1) = if z_mx (fun i => z_gp (z_Dm X (-1)) (X 0 4) (z_side X w (-1)) (z_ti (z_side X w (-1)) (X 0 3) (X 7) i) k) i < z_gp (z_Dm X (-1)) (X 0 4) (z_side X w (-1)) (z_ti (z_side X w (-1)) (X 0 3) (X 7) i) k then z_gp (z_Dm X (-1)) (X 0 4) (z_side X w (-1)) (z_ti (z_side X w (-1)) (X 0 3) (X 7) i) k else z_mx (fun i => z_gp (z_Dm X (-1)) (X 0 4) (z_side X w (-1)) (z_ti (z_side X w (-1)) (X 0 3) (X 7) i) k) i := rfl
            have hmr := z_mx_rng (f := fun i => z_gp (z_Dm X (-1)) (X 0 4) (z_side X w (-1)) (z_ti (z_side X w (-1)) (X 0 3) (X 7) i) k) (b := 100) (by omega) (n := i) (fun i' _ => (c_t20_pay (z_tcap_20 hcp.2 (z_ti_cap (mv := (z_side X w (-1))) (Int.le_refl (X 0 3)) hcp.1 h.tc i')) _).2)
            have next : ∀ v, v = z_mx (fun i => z_gp (z_Dm X (-1)) (X 0 4) (z_side X w (-1)) (z_ti (z_side X w (-1)) (X 0 3) (X 7) i) k) (i + 1) → ∀ g : Int, 0 ≤ g → g < (z_Dm X (-1)).gN → z_upd x 46 k v 46 g = if g < ((k + 1 : Nat) : Int) then z_mx (fun i => z_gp (z_Dm X (-1)) (X 0 4) (z_side X w (-1)) (z_ti (z_side X w (-1)) (X 0 3) (X 7) i) g) (i + 1) else z_mx (fun i => z_gp (z_Dm X (-1)) (X 0 4) (z_side X w (-1)) (z_ti (z_side X w (-1)) (X 0 3) (X 7) i) g) i := fun v hv g g0 g1 => by
              by_cases cg : g = k
              · rw [cg, z_upd_same, if_pos (by omega), hv]
              · rw [z_upd_ne (by omega), hx g g0 g1]
                by_cases cg2 : g < k
                · rw [if_pos cg2, if_pos (by omega)]
                · rw [if_neg cg2, if_neg (by omega)]
            cases hn : z_nwD X (-1) k with
            | true =>
              rw [hn, if_pos rfl] at hc
              have h0 : z_gp (z_Dm X (-1)) (X 0 4) (z_side X w (-1)) (z_ti (z_side X w (-1)) (X 0 3) (X 7) i) k = 0 := by
                unfold z_gp
                rw [(rx.nw0 (g := (k : Int)) (by omega) (by omega) hn (z_ti (z_side X w (-1)) (X 0 3) (X 7) i) (X 0 4)).1]
                have : z_and 0 (z_side X w (-1)) = 0 := by have := z_and_le (x := 0) (y := (z_side X w (-1))) (by omega) (by omega) hsr.1 (by omega); omega
                rw [this, z_pay_0]
              have hkeep : z_mx (fun i => z_gp (z_Dm X (-1)) (X 0 4) (z_side X w (-1)) (z_ti (z_side X w (-1)) (X 0 3) (X 7) i) k) (i + 1) = z_mx (fun i => z_gp (z_Dm X (-1)) (X 0 4) (z_side X w (-1)) (z_ti (z_side X w (-1)) (X 0 3) (X 7) i) k) i := by rw [hs, if_neg (by omega)]
              refine ⟨z_I (-1), x, ?_, ho, fun g g0 g1 => ?_⟩
              · rw [z_B1258_58]
                simp (disch := omega) only [if_neg, e48, hc, z_ns, z_fdM, z_pdM, z_adM, z_sdM, z_lkM, z_ndM, z_gdM, z_cI_some', z_cV_some', z_w_ok, Int.reduceAdd, Int.reduceSub, Int.reduceMul, Int.reduceNeg, Int.reduceEq, Int.reduceLT, Int.reduceLE, Int.reduceNe, reduceIte, true_and, and_true, false_and, and_false, if_true, if_false, ne_eq, not_true_eq_false, not_false_eq_true]
              · rw [hx g g0 g1]
                by_cases cg : g = k
                · rw [cg, if_neg (by omega), if_pos (by omega), hkeep]
                · by_cases cg2 : g < k
                  · rw [if_pos cg2, if_pos (by omega)]
                  · rw [if_neg cg2, if_neg (by omega)]
            | false =>
              rw [hn, if_neg (by simp)] at hc
              obtain ⟨p, h1, h2, h3, h4, h5, h6⟩ := rx.tk hi (g := (k : Int)) (by omega) (by omega) hn
              have A0 := z_and_le (x := z_ch ((z_Dm X (-1)).op k) (z_ti (z_side X w (-1)) (X 0 3) (X 7) i) (X 0 4)) (y := (z_side X w (-1))) h2.1 (by omega) hsr.1 (by omega)
              have kc := ax.1 _ A0.1 (by omega)
              have hgp : z_pay (z_ti (z_side X w (-1)) (X 0 3) (X 7) i) (z_and (z_ch ((z_Dm X (-1)).op k) (z_ti (z_side X w (-1)) (X 0 3) (X 7) i) (X 0 4)) (z_side X w (-1))) = z_gp (z_Dm X (-1)) (X 0 4) (z_side X w (-1)) (z_ti (z_side X w (-1)) (X 0 3) (X 7) i) k := rfl
              rw [hgp] at kc
              have hhb : x 41 w = (z_side X w (-1)) := by rcases cw with rfl | rfl; exact ax.2.1; exact ax.2.2
              refine ⟨z_I (z_ch ((z_Dm X (-1)).op k) (z_ti (z_side X w (-1)) (X 0 3) (X 7) i) (X 0 4)), z_upd x 46 k (z_mx (fun i => z_gp (z_Dm X (-1)) (X 0 4) (z_side X w (-1)) (z_ti (z_side X w (-1)) (X 0 3) (X 7) i) k) (i + 1)), ?_, fun a i ha => by rw [z_upd_ne (by omega)]; exact ho a i ha, next _ rfl⟩
              rw [z_B1258_58]
              have e16 : 0 ≤ w ∧ w < 2 := by omega
              simp (disch := omega) only [if_neg, if_pos, e48, hc, z_ns, hhb, kc, hxk, z_fdM, z_pdM, z_adM, z_sdM, z_lkM, z_ndM, z_gdM, z_cI_some', z_cV_some', z_w_ok, Int.reduceAdd, Int.reduceSub, Int.reduceMul, Int.reduceNeg, Int.reduceEq, Int.reduceLT, Int.reduceLE, Int.reduceNe, reduceIte, true_and, and_true, false_and, and_false, if_true, if_false, ne_eq, not_true_eq_false, not_false_eq_true]
              rw [hs])
          (fun u x _ => by rw [Int.toNat_of_nonneg hgN.1.1])
        have r2 : m_on (z_upd σ 1 26 0) s2 X (z_Dm X (-1)) (z_nwD X (-1)) (z_ti (z_side X w (-1)) (X 0 3) (X 7) i) := r1.keep (fun a i _ h2 _ => o2' a i (by omega)) (fun k k0 k1 => by rw [o2' _ _ (by omega)]; exact r1.2.2.2.1 k k0 k1) (by rw [o2' _ _ (by omega)]; exact r1.2.2.2.2)
        have p2 : m_pls s2 (z_side X w (-1)) (X 0 1) := ⟨by rw [o2' _ _ (by omega), o1 _ _ (by omega)]; exact ps.1, fun k hk hb => by rw [o2' _ _ (by omega), o1 _ _ (by omega)]; exact ps.2 k hk hb⟩
        obtain ⟨s3, g3, o3, r3, p3⟩ := r2.nextI hi p2 (d + 18) ⟨hsr.1, hsr.2.2⟩ ⟨hcp.1, Int.le_refl _⟩ h.tc hi'
        have l3 := r2.capv hi
        have e48 := r2.gn.2
        have st : z_go (z_ev z_hcM (d + 19)) z_hcM 1258 52 [z_R 1, z_I w, z_I u.1, u.2] [] z_hdM s = z_go (z_ev z_hcM (d + 19)) z_hcM 1258 58 [z_R 1, z_I w, z_I (z_Dm X (-1)).gN, u2'] [] z_hdM s2 := by
          refine Eq.trans ?_ f2
          rw [z_B1258_52]
          simp (disch := omega) only [f1, z_fdM, z_pdM, z_adM, z_sdM, z_lkM, z_ndM, z_gdM, z_cI_some', z_cV_some', z_w_ok, Int.reduceAdd, Int.reduceSub, Int.reduceMul, Int.reduceNeg, Int.reduceEq, Int.reduceLT, Int.reduceLE, Int.reduceNe, reduceIte, true_and, and_true, false_and, and_false, if_true, if_false, ne_eq, not_true_eq_false, not_false_eq_true]
          rfl
        refine ⟨((z_Dm X (-1)).gN, u2'), s3, ⟨trivial, r3, p3, fun k k0 k1 => by rw [o3 _ _ (by omega), o2' _ _ (by omega), o1 _ _ (by omega)]; exact ks k k0 k1, fun g g0 g1 => by rw [o3 _ _ (by omega), m2 g g0 g1, if_pos (by omega)]⟩, fun hne => ?_, fun heq => ?_⟩
        · rw [if_neg hne] at g3
          show z_go _ _ _ _ _ _ _ s = z_go _ _ _ _ _ _ _ s3
          rw [st, z_B1258_58]
          simp (disch := omega) only [e48, if_pos, l3, g3, z_fdM, z_pdM, z_adM, z_sdM, z_lkM, z_ndM, z_gdM, z_cI_some', z_cV_some', z_w_ok, Int.reduceAdd, Int.reduceSub, Int.reduceMul, Int.reduceNeg, Int.reduceEq, Int.reduceLT, Int.reduceLE, Int.reduceNe, reduceIte, true_and, and_true, false_and, and_false, if_true, if_false, ne_eq, not_true_eq_false, not_false_eq_true]
        · rw [if_pos heq] at g3
          show z_go _ _ _ _ _ _ _ s = z_cV _ _
          rw [st, z_B1258_58]
          simp (disch := omega) only [e48, if_pos, l3, g3, z_fdM, z_pdM, z_adM, z_sdM, z_lkM, z_ndM, z_gdM, z_cI_some', z_cV_some', z_w_ok, Int.reduceAdd, Int.reduceSub, Int.reduceMul, Int.reduceNeg, Int.reduceEq, Int.reduceLT, Int.reduceLE, Int.reduceNe, reduceIte, true_and, and_true, false_and, and_false, if_true, if_false, ne_eq, not_true_eq_false, not_false_eq_true])
    obtain ⟨σ4, e4, o4, q4⟩ := q3.put (d + 18) k3
    have e48 := q4.gn.2
    have hnJ := h.1.2.2.1
    have hmr : ∀ g, 0 ≤ g → g < (z_Dm X (-1)).gN → 0 ≤ (z_Dm X (-1)).mn g * z_mx (fun i => z_gp (z_Dm X (-1)) (X 0 4) (z_side X w (-1)) (z_ti (z_side X w (-1)) (X 0 3) (X 7) i) g) (z_tot (z_side X w (-1)) (X 0 3)) ∧ (z_Dm X (-1)).mn g * z_mx (fun i => z_gp (z_Dm X (-1)) (X 0 4) (z_side X w (-1)) (z_ti (z_side X w (-1)) (X 0 3) (X 7) i) g) (z_tot (z_side X w (-1)) (X 0 3)) ≤ 9900 := fun g g0 g1 => by
      have h1 := (q4.goer hi g0 g1).2.2.2.2.2.1
      have h2 := z_mx_rng (f := fun i => z_gp (z_Dm X (-1)) (X 0 4) (z_side X w (-1)) (z_ti (z_side X w (-1)) (X 0 3) (X 7) i) g) (b := 100) (by omega) (n := z_tot (z_side X w (-1)) (X 0 3)) (fun i' _ => (c_t20_pay (z_tcap_20 hcp.2 (z_ti_cap (mv := (z_side X w (-1))) (Int.le_refl (X 0 3)) hcp.1 h.tc i')) _).2)
      exact z_mul_rng (b := 99) (d := 100) (by omega) h1.2 h2.1 h2.2
    have go : ∀ (n k : Nat), (k : Int) + n = (z_Dm X (-1)).gN → z_go (z_ev z_hcM (d + 19)) z_hcM 1258 130 [z_R 1, z_I w, z_I (z_sm k (fun g => (z_Dm X (-1)).mn g * z_mx (fun i => z_gp (z_Dm X (-1)) (X 0 4) (z_side X w (-1)) (z_ti (z_side X w (-1)) (X 0 3) (X 7) i) g) (z_tot (z_side X w (-1)) (X 0 3)))), z_I k] [] z_hdM σ4 = some (z_I (z_sm (z_Dm X (-1)).gN.toNat (fun g => (z_Dm X (-1)).mn g * z_mx (fun i => z_gp (z_Dm X (-1)) (X 0 4) (z_side X w (-1)) (z_ti (z_side X w (-1)) (X 0 3) (X 7) i) g) (z_tot (z_side X w (-1)) (X 0 3)))), z_hdM, σ4) := by
      intro n
      induction n with
      | zero =>
        intro k hk
        rw [z_B1258_130, show (z_Dm X (-1)).gN.toNat = k by omega]
        simp (disch := omega) only [e48, if_pos, z_fdM, z_pdM, z_adM, z_sdM, z_lkM, z_ndM, z_gdM, z_cI_some', z_cV_some', z_w_ok, Int.reduceAdd, Int.reduceSub, Int.reduceMul, Int.reduceNeg, Int.reduceEq, Int.reduceLT, Int.reduceLE, Int.reduceNe, reduceIte, true_and, and_true, false_and, and_false, if_true, if_false, ne_eq, not_true_eq_false, not_false_eq_true]
      | succ n ih =>
        intro k hk
        have next := ih (k + 1) (by omega)
        rw [z_ns, z_sm_s] at next
        have s0 := z_sm_rng (n := k) (f := fun g => (z_Dm X (-1)).mn g * z_mx (fun i => z_gp (z_Dm X (-1)) (X 0 4) (z_side X w (-1)) (z_ti (z_side X w (-1)) (X 0 3) (X 7) i) g) (z_tot (z_side X w (-1)) (X 0 3))) (b := 9900) (fun g g0 g1 => hmr g g0 (by omega))
        have m0 := hmr k (by omega) (by omega)
        obtain ⟨a1, a2, a3, a4, a5, a6, a7⟩ := q4.goer hi (g := (k : Int)) (by omega) (by omega)
        have e46 : σ4 46 k = z_mx (fun i => z_gp (z_Dm X (-1)) (X 0 4) (z_side X w (-1)) (z_ti (z_side X w (-1)) (X 0 3) (X 7) i) k) (z_tot (z_side X w (-1)) (X 0 3)) := by rw [o4 _ _ (by omega)]; exact f3 k (by omega) (by omega)
        rw [z_B1258_130]
        simp (disch := omega) only [e48, if_neg, a3, a7, e46, z_fdM, z_pdM, z_adM, z_sdM, z_lkM, z_ndM, z_gdM, z_cI_some', z_cV_some', z_w_ok, Int.reduceAdd, Int.reduceSub, Int.reduceMul, Int.reduceNeg, Int.reduceEq, Int.reduceLT, Int.reduceLE, Int.reduceNe, reduceIte, true_and, and_true, false_and, and_false, if_true, if_false, ne_eq, not_true_eq_false, not_false_eq_true]
        exact next
    refine m_does_on hi z_upd_same ?_ q4
    have g0 := go (z_Dm X (-1)).gN.toNat 0 (by omega)
    have e5 : z_go (z_ev z_hcM (d + 19)) z_hcM 1258 52 [z_R 1, z_I w, z_I (z_Dm X (-1)).gN, u2] [] z_hdM σb = some (z_I (z_sm (z_Dm X (-1)).gN.toNat (fun g => (z_Dm X (-1)).mn g * z_mx (fun i => z_gp (z_Dm X (-1)) (X 0 4) (z_side X w (-1)) (z_ti (z_side X w (-1)) (X 0 3) (X 7) i) g) (z_tot (z_side X w (-1)) (X 0 3)))), z_hdM, σ4) := by
      refine e3.trans ?_
      simp (disch := omega) only [e4, z_fdM, z_pdM, z_adM, z_sdM, z_lkM, z_ndM, z_gdM, z_cI_some', z_cV_some', z_w_ok, Int.reduceAdd, Int.reduceSub, Int.reduceMul, Int.reduceNeg, Int.reduceEq, Int.reduceLT, Int.reduceLE, Int.reduceNe, reduceIte, true_and, and_true, false_and, and_false, if_true, if_false, ne_eq, not_true_eq_false, not_false_eq_true]
      exact g0
    have e6 : z_go (z_ev z_hcM (d + 19)) z_hcM 1258 21 [z_R 1, z_I w, z_I 0, z_U] [] z_hdM σ1 = some (z_I (z_sm (z_Dm X (-1)).gN.toNat (fun g => (z_Dm X (-1)).mn g * z_mx (fun i => z_gp (z_Dm X (-1)) (X 0 4) (z_side X w (-1)) (z_ti (z_side X w (-1)) (X 0 3) (X 7) i) g) (z_tot (z_side X w (-1)) (X 0 3)))), z_hdM, σ4) := by
      refine e2.trans ?_
      show z_go _ _ _ _ _ _ _ σ2 = _
      have e48' := q2.gn.2
      rw [z_B1258_21]
      simp (disch := omega) only [e48', if_pos, ea, eb, z_fdM, z_pdM, z_adM, z_sdM, z_lkM, z_ndM, z_gdM, z_cI_some', z_cV_some', z_w_ok, Int.reduceAdd, Int.reduceSub, Int.reduceMul, Int.reduceNeg, Int.reduceEq, Int.reduceLT, Int.reduceLE, Int.reduceNe, reduceIte, true_and, and_true, false_and, and_false, if_true, if_false, ne_eq, not_true_eq_false, not_false_eq_true]
      exact e5
    simp (disch := omega) only [z_E1258, k, if_pos, e1, z_fdM, z_pdM, z_adM, z_sdM, z_lkM, z_ndM, z_gdM, z_cI_some', z_cV_some', z_w_ok, Int.reduceAdd, Int.reduceSub, Int.reduceMul, Int.reduceNeg, Int.reduceEq, Int.reduceLT, Int.reduceLE, Int.reduceNe, reduceIte, true_and, and_true, false_and, and_false, if_true, if_false, ne_eq, not_true_eq_false, not_false_eq_true]
    exact e6
  · rw [if_neg c] at k ⊢
    refine ⟨_, ?_, hi, z_upd_same⟩
    simp (disch := omega) only [z_E1258, k, z_fdM, z_pdM, z_adM, z_sdM, z_lkM, z_ndM, z_gdM, z_cI_some', z_cV_some', z_w_ok, Int.reduceAdd, Int.reduceSub, Int.reduceMul, Int.reduceNeg, Int.reduceEq, Int.reduceLT, Int.reduceLE, Int.reduceNe, reduceIte, true_and, and_true, false_and, and_false, if_true, if_false, ne_eq, not_true_eq_false, not_false_eq_true]
end
