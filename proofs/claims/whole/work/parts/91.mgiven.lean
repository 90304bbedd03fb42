/-! The reference: given. -/
section
variable {σ0 σ σ' X : z_S} {D : z_D} {nw : Int → Bool} {t T : Int → Int}
/-- the way that goer g takes, as the reference numbers them -/
noncomputable def m_wn (σ : z_S) (D : z_D) (nw : Int → Bool) (lean : Int) (t : Int → Int) (g : Int) : Int := if nw g = true then -1 else σ 38 (32 * g + z_ch (D.op g) t lean)
theorem m_on.weq (h : m_inv σ0 X) (q : m_on σ0 σ X D nw t) {g : Int} (g0 : 0 ≤ g) (g1 : g < D.gN) (u v : Int → Int) : m_wn σ D nw (X 0 4) u g = m_wn σ D nw (X 0 4) v g ↔ z_ch (D.op g) u (X 0 4) = z_ch (D.op g) v (X 0 4) := by
  obtain ⟨ho, b, c, e, f, i⟩ := q.2.1.2.2 g g0 g1
  obtain ⟨c0, c1, c2, p, hp, -⟩ := z_ch_rng (t := u) (lean := X 0 4) ho b
  obtain ⟨c0', c1', c2', p', hp', -⟩ := z_ch_rng (t := v) (lean := X 0 4) ho b
  unfold m_wn
  cases hn : nw g with
  | true =>
    rw [if_pos rfl, if_pos rfl, (q.nw0 g0 g1 hn u (X 0 4)).1, (q.nw0 g0 g1 hn v (X 0 4)).1]
    exact ⟨fun _ => rfl, fun _ => rfl⟩
  | false =>
    rw [if_neg (by simp), if_neg (by simp)]
    rw [hn] at c
    rcases c with ⟨-, -, k2, k3⟩ | ⟨c, -⟩
    · have h1 := k3 _ _ p p' c0 c1 c0' c1' hp hp'
      have h2 := k3 _ _ p' p c0' c1' c0 c1 hp' hp
      constructor
      · intro he
        refine ho.2.1 _ _ p p' c0 c1 c0' c1' hp hp' ?_
        omega
      · intro he
        rw [he]
    · cases c
theorem m_on.wnof (h : m_inv σ0 X) (q : m_on σ0 σ X D nw t) (d : Nat) (ha : m_ask σ X t) (ht : c_t20 t) {g : Int} (g0 : 0 ≤ g) (g1 : g < D.gN) : z_ev z_hcM (d + 3) 1237 [z_R 1, z_I g] z_hdM σ = some (z_I (m_wn σ D nw (X 0 4) t g), z_hdM, σ) := q.wayOf h d ha ht g0 g1
theorem M_given (h : m_inv σ X) (d : Nat) (w : Int) : m_does (z_ev z_hcM (d + 20) 1259 [z_R 1, z_I w] z_hdM σ) (s_given X w) := by
  have hi := m_inv_thr h
  have k := m_canSet (d + 17) h.1 hi.2.1 w
  unfold s_given
  by_cases c : z_seek X w = true
  · rw [if_pos c] at k ⊢
    obtain ⟨cw, ctot⟩ := z_seek_t.mp c
    have hsr := z_side_rng h.1 w (-1)
    have hcp := h.cp
    have hP := z_pow_n h.1
    obtain ⟨σ0, e0, q0⟩ := m_gat0 hi (d + 14)
    obtain ⟨σ1, e1, o1, q1, a1⟩ := q0.ask hi (d + 17) h.t20
    have hgN := q1.gn
    have hwn : ∀ (x : z_S) (u : Int → Int) (g : Int), (∀ i, x 38 i = σ1 38 i) → m_wn x (z_Dm X (-1)) (z_nwD X (-1)) (X 0 4) u g = m_wn σ1 (z_Dm X (-1)) (z_nwD X (-1)) (X 0 4) u g := fun x u g he => by unfold m_wn; rw [he]
    -- the ways of now
    obtain ⟨σ2, e2, o2, z2⟩ := z_for (fun (k : Nat) (x : z_S) => z_go (z_ev z_hcM (d + 19)) z_hcM 1259 25 [z_R 1, z_I w, z_I k, z_U, z_U] [] z_hdM x) (fun x => z_go (z_ev z_hcM (d + 19)) z_hcM 1259 25 [z_R 1, z_I w, z_I (z_Dm X (-1)).gN, z_U, z_U] [] z_hdM x) (fun k x => (∀ a i, a ≠ 47 → x a i = σ1 a i) ∧ ∀ g : Int, 0 ≤ g → g < k → x 47 g = m_wn σ1 (z_Dm X (-1)) (z_nwD X (-1)) (X 0 4) (X 7) g) (z_Dm X (-1)).gN.toNat (s := σ1) ⟨fun _ _ _ => rfl, fun g g0 g1 => absurd g1 (by omega)⟩
      (fun k x hk ⟨ho, hz⟩ => by
        have rx : m_on (z_upd σ 1 26 0) x X (z_Dm X (-1)) (z_nwD X (-1)) (X 7) := q1.keep (fun a i _ h2 _ => ho a i (by omega)) (fun k k0 k1 => by rw [ho _ _ (by omega)]; exact q1.2.2.2.1 k k0 k1) (by rw [ho _ _ (by omega)]; exact q1.2.2.2.2)
        have ax : m_ask x X (X 7) := ⟨fun m a b => by rw [ho _ _ (by omega)]; exact a1.1 m a b, by rw [ho _ _ (by omega)]; exact a1.2.1, by rw [ho _ _ (by omega)]; exact a1.2.2⟩
        have hc := rx.wnof hi (d + 16) ax h.t20 (g := (k : Int)) (by omega) (by omega)
        rw [hwn x _ _ (fun i => ho _ _ (by omega))] at hc
        have e48 := rx.gn.2
        refine ⟨z_upd x 47 k (m_wn σ1 (z_Dm X (-1)) (z_nwD X (-1)) (X 0 4) (X 7) k), ?_, fun a i ha => by rw [z_upd_ne (by omega)]; exact ho a i ha, fun g g0 g1 => ?_⟩
        · rw [z_B1259_25]
          simp (disch := omega) only [if_neg, e48, hc, z_ns, z_fdM, z_pdM, z_adM, z_sdM, z_lkM, z_ndM, z_gdM, z_cI_some', z_cV_some', z_w_ok, Int.reduceAdd, Int.reduceSub, Int.reduceMul, Int.reduceNeg, Int.reduceEq, Int.reduceLT, Int.reduceLE, Int.reduceNe, reduceIte, true_and, and_true, false_and, and_false, if_true, if_false, ne_eq, not_true_eq_false, not_false_eq_true]
        · by_cases cg : g = k
          · rw [cg, z_upd_same]
          · rw [z_upd_ne (by omega)]; exact hz g g0 (by omega)) (fun x _ => by rw [Int.toNat_of_nonneg hgN.1.1])
    have q2 : m_on (z_upd σ 1 26 0) σ2 X (z_Dm X (-1)) (z_nwD X (-1)) (X 7) := q1.keep (fun a i _ h2 _ => o2 a i (by omega)) (fun k k0 k1 => by rw [o2 _ _ (by omega)]; exact q1.2.2.2.1 k k0 k1) (by rw [o2 _ _ (by omega)]; exact q1.2.2.2.2)
    obtain ⟨σa, σb, ea, eb, qb, pb, kb, ob⟩ := q2.start hi (d + 18) w (cp := (X 0 3))
    have hti := fun i => z_ti_cap (mv := (z_side X w (-1))) (Int.le_refl (X 0 3)) hcp.1 h.tc i
    have hBr := fun i => q1.brt hi (z_tcap_20 hcp.2 (hti i)) (X 0 4) (z_side X w (-1))
    generalize hF : z_Ti (z_Dm X (-1)) (X 0 4) (z_side X w (-1)) (z_side X w (-1)) (X 0 3) (X 7) (X 7) = F at *
    have hFi : ∀ i, F i = if z_same (z_Dm X (-1)) (X 0 4) (X 7) (z_ti (z_side X w (-1)) (X 0 3) (X 7) i) = true then z_brt (z_Dm X (-1)).op (z_Dm X (-1)).mn (z_Dm X (-1)).gN (X 0 4) (z_side X w (-1)) (z_ti (z_side X w (-1)) (X 0 3) (X 7) i) else -1 := fun i => by rw [← hF]; rfl
    have hF1 : ∀ i, -1 ≤ F i := fun i => by
      rw [hFi]
      have := hBr i
      split <;> omega
    have hgr : ∀ n, -1 ≤ z_gr F n := fun n => by
      cases n with
      | zero => exact Int.le_refl _
      | succ n => exact hF1 _
    -- the sets
    obtain ⟨u3, σ3, e3, hu3, q3, p3, k3, f3⟩ := z_dow (z_tot (z_side X w (-1)) (X 0 3)) (fun (q : Int × z_V × z_V) (s : z_S) => z_go (z_ev z_hcM (d + 19)) z_hcM 1259 62 [z_R 1, z_I w, z_I q.1, q.2.1, q.2.2] [] z_hdM s) (fun q s => z_cV (z_ev z_hcM (d + 19) 1248 [z_R 1] z_hdM s) (fun h4 s5 => if q.1 ≠ -1 then z_pf h4 s5 12 1 25 0 (fun s6 => z_fld h4 1 12 (z_fld h4 1 12 (z_cV (z_ev z_hcM (d + 19) 1254 [z_R 1, z_R (z_gf z_hcM s6 1 58), z_I w] h4 s6) (fun h7 s8 => some (z_I q.1, h7, s8))))) else some (z_I (-2), h4, s5))) (fun i q s => q.1 = z_gr F i ∧ m_on (z_upd σ 1 26 0) s X (z_Dm X (-1)) (z_nwD X (-1)) (z_ti (z_side X w (-1)) (X 0 3) (X 7) i) ∧ m_pls s (z_side X w (-1)) (X 0 1) ∧ (∀ k, 0 ≤ k → k < 5 → s 44 k = X 7 k) ∧ (∀ i, s 38 i = σ1 38 i) ∧ (∀ g, 0 ≤ g → g < (z_Dm X (-1)).gN → s 47 g = m_wn σ1 (z_Dm X (-1)) (z_nwD X (-1)) (X 0 4) (X 7) g) ∧ (0 ≤ z_gr F i → ∀ k, 0 ≤ k → k < 5 → s 45 k = z_ti (z_side X w (-1)) (X 0 3) (X 7) (z_am F i) k)) (z_tot_pos hcp.1) (u := (-1, z_U, z_U)) (s := σb) ⟨rfl, qb, pb, kb, fun i => by rw [ob _ _ (by omega) (by omega) (by omega) (by omega), o2 _ _ (by omega)], fun g g0 g1 => by rw [ob _ _ (by omega) (by omega) (by omega) (by omega)]; exact z2 g g0 (by omega), fun h => absurd h (by show ¬ (0 : Int) ≤ -1; omega)⟩
      (fun i u s hi' ⟨hu, qs, ps, ks, s38, s47, s45⟩ => by
        have ht20 := z_tcap_20 hcp.2 (hti i)
        obtain ⟨s1, f1, o1', r1, a1', t1, -⟩ := qs.work hi (d + 15) ht20
        have t1' := t1 w cw
        have p1 : m_pls s1 (z_side X w (-1)) (X 0 1) := ⟨by rw [o1' _ _ (by omega) (by omega)]; exact ps.1, fun k hk hb => by rw [o1' _ _ (by omega) (by omega)]; exact ps.2 k hk hb⟩
        have s381 : ∀ i, s1 38 i = σ1 38 i := fun i => by rw [o1' _ _ (by omega) (by omega)]; exact s38 i
        have hgi := hgr i
        -- are all the ways the same
        have same : ∀ (n k : Nat) (x2 : Int), (k : Int) + n = (z_Dm X (-1)).gN → (∀ g : Int, 0 ≤ g → g < k → z_ch ((z_Dm X (-1)).op g) (z_ti (z_side X w (-1)) (X 0 3) (X 7) i) (X 0 4) = z_ch ((z_Dm X (-1)).op g) (X 7) (X 0 4)) → ∃ x4 : z_V, ∃ x4' : Int, x4 = z_I x4' ∧ z_go (z_ev z_hcM (d + 19)) z_hcM 1259 85 [z_R 1, z_I w, z_I x2, z_I 1, z_I k] [] z_hdM s1 = z_go (z_ev z_hcM (d + 19)) z_hcM 1259 126 [z_R 1, z_I w, z_I x2, z_I (if z_same (z_Dm X (-1)) (X 0 4) (X 7) (z_ti (z_side X w (-1)) (X 0 3) (X 7) i) = true then 1 else 0), x4] [] z_hdM s1 := by
          intro n
          induction n with
          | zero =>
            intro k x2 hk hall
            have hs : z_same (z_Dm X (-1)) (X 0 4) (X 7) (z_ti (z_side X w (-1)) (X 0 3) (X 7) i) = true := z_same_t.mpr (fun g g0 g1 => hall g g0 (by omega))
            have e48 := r1.gn.2
            refine ⟨_, k, rfl, ?_⟩
            rw [z_B1259_85, if_pos hs]
            simp (disch := omega) only [e48, if_pos, z_fdM, z_pdM, z_adM, z_sdM, z_lkM, z_ndM, z_gdM, z_cI_some', z_cV_some', z_w_ok, Int.reduceAdd, Int.reduceSub, Int.reduceMul, Int.reduceNeg, Int.reduceEq, Int.reduceLT, Int.reduceLE, Int.reduceNe, reduceIte, true_and, and_true, false_and, and_false, if_true, if_false, ne_eq, not_true_eq_false, not_false_eq_true]
          | succ n ih =>
            intro k x2 hk hall
            have e48 := r1.gn.2
            have hc := r1.wnof hi (d + 16) a1' ht20 (g := (k : Int)) (by omega) (by omega)
            rw [hwn s1 _ _ s381] at hc
            have e47 : s1 47 k = m_wn σ1 (z_Dm X (-1)) (z_nwD X (-1)) (X 0 4) (X 7) k := by rw [o1' _ _ (by omega) (by omega)]; exact s47 k (by omega) (by omega)
            have hiff := q1.weq hi (g := (k : Int)) (by omega) (by omega) (z_ti (z_side X w (-1)) (X 0 3) (X 7) i) (X 7)
            by_cases ce : z_ch ((z_Dm X (-1)).op k) (z_ti (z_side X w (-1)) (X 0 3) (X 7) i) (X 0 4) = z_ch ((z_Dm X (-1)).op k) (X 7) (X 0 4)
            · have em := hiff.mpr ce
              obtain ⟨x4, x4', ex, ey⟩ := ih (k + 1) x2 (by omega) (fun g g0 g1 => by
                by_cases cg : g = k
                · rw [cg]; exact ce
                · exact hall g g0 (by omega))
              refine ⟨x4, x4', ex, ?_⟩
              rw [← ey, z_ns, z_B1259_85]
              simp (disch := omega) only [e48, if_neg, hc, e47, em, z_fdM, z_pdM, z_adM, z_sdM, z_lkM, z_ndM, z_gdM, z_cI_some', z_cV_some', z_w_ok, Int.reduceAdd, Int.reduceSub, Int.reduceMul, Int.reduceNeg, Int.reduceEq, Int.reduceLT, Int.reduceLE, Int.reduceNe, reduceIte, true_and, and_true, false_and, and_false, if_true, if_false, ne_eq, not_true_eq_false, not_false_eq_true]
            · have em : ¬ m_wn σ1 (z_Dm X (-1)) (z_nwD X (-1)) (X 0 4) (z_ti (z_side X w (-1)) (X 0 3) (X 7) i) k = m_wn σ1 (z_Dm X (-1)) (z_nwD X (-1)) (X 0 4) (X 7) k := fun e => ce (hiff.mp e)
              have hs : ¬ z_same (z_Dm X (-1)) (X 0 4) (X 7) (z_ti (z_side X w (-1)) (X 0 3) (X 7) i) = true := fun hs => ce (z_same_t.mp hs k (by omega) (by omega))
              refine ⟨z_I ((k : Int) + 1), (k : Int) + 1, rfl, ?_⟩
              rw [z_B1259_85, if_neg hs]
              simp (disch := omega) only [e48, if_neg, hc, e47, em, z_fdM, z_pdM, z_adM, z_sdM, z_lkM, z_ndM, z_gdM, z_cI_some', z_cV_some', z_w_ok, Int.reduceAdd, Int.reduceSub, Int.reduceMul, Int.reduceNeg, Int.reduceEq, Int.reduceLT, Int.reduceLE, Int.reduceNe, reduceIte, true_and, and_true, false_and, and_false, if_true, if_false, ne_eq, not_true_eq_false, not_false_eq_true]
              rw [z_B1259_85]
              by_cases c2 : (z_Dm X (-1)).gN ≤ (k : Int) + 1
              · simp (disch := omega) only [e48, if_pos, z_fdM, z_pdM, z_adM, z_sdM, z_lkM, z_ndM, z_gdM, z_cI_some', z_cV_some', z_w_ok, Int.reduceAdd, Int.reduceSub, Int.reduceMul, Int.reduceNeg, Int.reduceEq, Int.reduceLT, Int.reduceLE, Int.reduceNe, reduceIte, true_and, and_true, false_and, and_false, if_true, if_false, ne_eq, not_true_eq_false, not_false_eq_true]
              · simp (disch := omega) only [e48, if_neg, z_fdM, z_pdM, z_adM, z_sdM, z_lkM, z_ndM, z_gdM, z_cI_some', z_cV_some', z_w_ok, Int.reduceAdd, Int.reduceSub, Int.reduceMul, Int.reduceNeg, Int.reduceEq, Int.reduceLT, Int.reduceLE, Int.reduceNe, reduceIte, true_and, and_true, false_and, and_false, if_true, if_false, ne_eq, not_true_eq_false, not_false_eq_true]
        -- up to 126
        have st : ∃ (x4 : Int), z_go (z_ev z_hcM (d + 19)) z_hcM 1259 62 [z_R 1, z_I w, z_I u.1, u.2.1, u.2.2] [] z_hdM s = z_go (z_ev z_hcM (d + 19)) z_hcM 1259 126 [z_R 1, z_I w, z_I u.1, z_I (if z_gr F i < F i then 1 else 0), z_I x4] [] z_hdM s1 := by
          have hFi' := hFi i
          by_cases cb : z_brt (z_Dm X (-1)).op (z_Dm X (-1)).mn (z_Dm X (-1)).gN (X 0 4) (z_side X w (-1)) (z_ti (z_side X w (-1)) (X 0 3) (X 7) i) ≤ z_gr F i
          · have hno : ¬ z_gr F i < F i := by
              rw [hFi']
              split <;> omega
            rw [if_neg hno, hu]
            have e48 := r1.gn.2
            refine ⟨0, ?_⟩
            rw [z_B1259_62]
            simp (disch := omega) only [f1, t1', if_pos, z_fdM, z_pdM, z_adM, z_sdM, z_lkM, z_ndM, z_gdM, z_cI_some', z_cV_some', z_w_ok, Int.reduceAdd, Int.reduceSub, Int.reduceMul, Int.reduceNeg, Int.reduceEq, Int.reduceLT, Int.reduceLE, Int.reduceNe, reduceIte, true_and, and_true, false_and, and_false, if_true, if_false, ne_eq, not_true_eq_false, not_false_eq_true]
            rw [z_B1259_85]
            by_cases c2 : (z_Dm X (-1)).gN ≤ 0
            · simp (disch := omega) only [e48, if_pos, z_fdM, z_pdM, z_adM, z_sdM, z_lkM, z_ndM, z_gdM, z_cI_some', z_cV_some', z_w_ok, Int.reduceAdd, Int.reduceSub, Int.reduceMul, Int.reduceNeg, Int.reduceEq, Int.reduceLT, Int.reduceLE, Int.reduceNe, reduceIte, true_and, and_true, false_and, and_false, if_true, if_false, ne_eq, not_true_eq_false, not_false_eq_true]
            · simp (disch := omega) only [e48, if_neg, z_fdM, z_pdM, z_adM, z_sdM, z_lkM, z_ndM, z_gdM, z_cI_some', z_cV_some', z_w_ok, Int.reduceAdd, Int.reduceSub, Int.reduceMul, Int.reduceNeg, Int.reduceEq, Int.reduceLT, Int.reduceLE, Int.reduceNe, reduceIte, true_and, and_true, false_and, and_false, if_true, if_false, ne_eq, not_true_eq_false, not_false_eq_true]
          · obtain ⟨x4, x4', ex, ey⟩ := same (z_Dm X (-1)).gN.toNat 0 (z_gr F i) (by omega) (fun g g0 g1 => absurd g1 (by omega))
            subst ex
            refine ⟨x4', ?_⟩
            have hif : (if z_gr F i < F i then (1 : Int) else 0) = if z_same (z_Dm X (-1)) (X 0 4) (X 7) (z_ti (z_side X w (-1)) (X 0 3) (X 7) i) = true then 1 else 0 := by
              rw [hFi']
              by_cases cs : z_same (z_Dm X (-1)) (X 0 4) (X 7) (z_ti (z_side X w (-1)) (X 0 3) (X 7) i) = true
              · rw [if_pos cs, if_pos cs, if_pos (by omega)]
              · rw [if_neg cs, if_neg cs, if_neg (by omega)]
            rw [hif, hu, ← ey, z_B1259_62]
            simp (disch := omega) only [f1, t1', if_neg, z_fdM, z_pdM, z_adM, z_sdM, z_lkM, z_ndM, z_gdM, z_cI_some', z_cV_some', z_w_ok, Int.reduceAdd, Int.reduceSub, Int.reduceMul, Int.reduceNeg, Int.reduceEq, Int.reduceLT, Int.reduceLE, Int.reduceNe, reduceIte, true_and, and_true, false_and, and_false, if_true, if_false, ne_eq, not_true_eq_false, not_false_eq_true]
            rfl
        obtain ⟨x4, st⟩ := st
        -- up to 169
        have st2 : ∃ (x3 x4' : Int) (s2 : z_S), z_go (z_ev z_hcM (d + 19)) z_hcM 1259 62 [z_R 1, z_I w, z_I u.1, u.2.1, u.2.2] [] z_hdM s = z_go (z_ev z_hcM (d + 19)) z_hcM 1259 169 [z_R 1, z_I w, z_I (z_gr F (i + 1)), z_I x3, z_I x4'] [] z_hdM s2 ∧ (∀ a j, a ≠ 45 → s2 a j = s1 a j) ∧ (0 ≤ z_gr F (i + 1) → ∀ k, 0 ≤ k → k < 5 → s2 45 k = z_ti (z_side X w (-1)) (X 0 3) (X 7) (z_am F (i + 1)) k) := by
          by_cases cn : z_gr F i < F i
          · obtain ⟨n1, n2⟩ := z_gr_new cn
            rw [if_pos cn] at st
            have hFB : F i = z_brt (z_Dm X (-1)).op (z_Dm X (-1)).mn (z_Dm X (-1)).gN (X 0 4) (z_side X w (-1)) (z_ti (z_side X w (-1)) (X 0 3) (X 7) i) := by
              have hFi' := hFi i
              by_cases cs : z_same (z_Dm X (-1)) (X 0 4) (X 7) (z_ti (z_side X w (-1)) (X 0 3) (X 7) i) = true
              · rw [hFi', if_pos cs]
              · rw [if_neg cs] at hFi'; omega
            obtain ⟨s2, e2, o2, z2⟩ := z_for (fun (k : Nat) (x : z_S) => z_go (z_ev z_hcM (d + 19)) z_hcM 1259 143 [z_R 1, z_I w, z_I (F i), z_I 1, z_I k] [] z_hdM x) (fun x => z_go (z_ev z_hcM (d + 19)) z_hcM 1259 169 [z_R 1, z_I w, z_I (F i), z_I 1, z_I 5] [] z_hdM x) (fun k x => (∀ a j, a ≠ 45 → x a j = s1 a j) ∧ ∀ j : Int, 0 ≤ j → j < k → x 45 j = z_ti (z_side X w (-1)) (X 0 3) (X 7) i j) 5 (s := s1) ⟨fun _ _ _ => rfl, fun j j0 j1 => absurd j1 (by omega)⟩
              (fun k x hk ⟨ho, hz⟩ => by
                have e8 : x 8 k = z_ti (z_side X w (-1)) (X 0 3) (X 7) i k := by rw [ho _ _ (by omega)]; exact r1.2.2.2.1 k (by omega) (by omega)
                refine ⟨z_upd x 45 k (z_ti (z_side X w (-1)) (X 0 3) (X 7) i k), ?_, fun a j ha => by rw [z_upd_ne (by omega)]; exact ho a j ha, fun j j0 j1 => ?_⟩
                · rw [z_B1259_143]
                  simp (disch := omega) only [if_neg, e8, z_ns, z_fdM, z_pdM, z_adM, z_sdM, z_lkM, z_ndM, z_gdM, z_cI_some', z_cV_some', z_w_ok, Int.reduceAdd, Int.reduceSub, Int.reduceMul, Int.reduceNeg, Int.reduceEq, Int.reduceLT, Int.reduceLE, Int.reduceNe, reduceIte, true_and, and_true, false_and, and_false, if_true, if_false, ne_eq, not_true_eq_false, not_false_eq_true]
                · by_cases cj : j = k
                  · rw [cj, z_upd_same]
                  · rw [z_upd_ne (by omega)]; exact hz j j0 (by omega)) (fun x _ => by
                rw [z_B1259_143]
                simp (disch := omega) only [if_pos, z_fdM, z_pdM, z_adM, z_sdM, z_lkM, z_ndM, z_gdM, z_cI_some', z_cV_some', z_w_ok, Int.reduceAdd, Int.reduceSub, Int.reduceMul, Int.reduceNeg, Int.reduceEq, Int.reduceLT, Int.reduceLE, Int.reduceNe, reduceIte, true_and, and_true, false_and, and_false, if_true, if_false, ne_eq, not_true_eq_false, not_false_eq_true]
                rfl)
            refine ⟨1, 5, s2, ?_, o2, fun _ k k0 k1 => by rw [n1]; exact z2 k k0 (by omega)⟩
            rw [n2, ← e2, st, z_B1259_126]
            have t1F : s1 42 w = F i := by rw [hFB]; exact t1'
            simp (disch := omega) only [t1F, z_fdM, z_pdM, z_adM, z_sdM, z_lkM, z_ndM, z_gdM, z_cI_some', z_cV_some', z_w_ok, Int.reduceAdd, Int.reduceSub, Int.reduceMul, Int.reduceNeg, Int.reduceEq, Int.reduceLT, Int.reduceLE, Int.reduceNe, reduceIte, true_and, and_true, false_and, and_false, if_true, if_false, ne_eq, not_true_eq_false, not_false_eq_true]
            rfl
          · obtain ⟨n1, n2⟩ := z_gr_keep hF1 (n := i) (by omega)
            rw [if_neg cn] at st
            refine ⟨0, x4, s1, ?_, fun _ _ _ => rfl, fun h0 k k0 k1 => by rw [n2] at h0; rw [n1, o1' _ _ (by omega) (by omega)]; exact s45 h0 k k0 k1⟩
            rw [n2, st, z_B1259_126, hu]
            simp (disch := omega) only [z_fdM, z_pdM, z_adM, z_sdM, z_lkM, z_ndM, z_gdM, z_cI_some', z_cV_some', z_w_ok, Int.reduceAdd, Int.reduceSub, Int.reduceMul, Int.reduceNeg, Int.reduceEq, Int.reduceLT, Int.reduceLE, Int.reduceNe, reduceIte, true_and, and_true, false_and, and_false, if_true, if_false, ne_eq, not_true_eq_false, not_false_eq_true]
        obtain ⟨x3, x4', s2, st2, o2', f2⟩ := st2
        have r2 : m_on (z_upd σ 1 26 0) s2 X (z_Dm X (-1)) (z_nwD X (-1)) (z_ti (z_side X w (-1)) (X 0 3) (X 7) i) := r1.keep (fun a i _ h2 _ => o2' a i (by omega)) (fun k k0 k1 => by rw [o2' _ _ (by omega)]; exact r1.2.2.2.1 k k0 k1) (by rw [o2' _ _ (by omega)]; exact r1.2.2.2.2)
        have p2 : m_pls s2 (z_side X w (-1)) (X 0 1) := ⟨by rw [o2' _ _ (by omega)]; exact p1.1, fun k hk hb => by rw [o2' _ _ (by omega)]; exact p1.2 k hk hb⟩
        obtain ⟨s3, g3, o3, r3, p3⟩ := r2.nextI hi p2 (d + 18) ⟨hsr.1, hsr.2.2⟩ ⟨hcp.1, Int.le_refl _⟩ h.tc hi'
        have l3 := r2.capv hi
        refine ⟨(z_gr F (i + 1), z_I x3, z_I x4'), s3, ⟨rfl, r3, p3, fun k k0 k1 => by rw [o3 _ _ (by omega), o2' _ _ (by omega), o1' _ _ (by omega) (by omega)]; exact ks k k0 k1, fun j => by rw [o3 _ _ (by omega), o2' _ _ (by omega)]; exact s381 j, fun g g0 g1 => by rw [o3 _ _ (by omega), o2' _ _ (by omega), o1' _ _ (by omega) (by omega)]; exact s47 g g0 g1, fun h0 k k0 k1 => by rw [o3 _ _ (by omega)]; exact f2 h0 k k0 k1⟩, fun hne => ?_, fun heq => ?_⟩
        · rw [if_neg hne] at g3
          refine st2.trans ?_
          rw [z_B1259_169]
          simp (disch := omega) only [l3, g3, z_fdM, z_pdM, z_adM, z_sdM, z_lkM, z_ndM, z_gdM, z_cI_some', z_cV_some', z_w_ok, Int.reduceAdd, Int.reduceSub, Int.reduceMul, Int.reduceNeg, Int.reduceEq, Int.reduceLT, Int.reduceLE, Int.reduceNe, reduceIte, true_and, and_true, false_and, and_false, if_true, if_false, ne_eq, not_true_eq_false, not_false_eq_true]
        · rw [if_pos heq] at g3
          refine st2.trans ?_
          rw [z_B1259_169]
          simp (disch := omega) only [l3, g3, z_fdM, z_pdM, z_adM, z_sdM, z_lkM, z_ndM, z_gdM, z_cI_some', z_cV_some', z_w_ok, Int.reduceAdd, Int.reduceSub, Int.reduceMul, Int.reduceNeg, Int.reduceEq, Int.reduceLT, Int.reduceLE, Int.reduceNe, reduceIte, true_and, and_true, false_and, and_false, if_true, if_false, ne_eq, not_true_eq_false, not_false_eq_true]
          try rfl)
    obtain ⟨σ4, e4, o4, q4⟩ := q3.put (d + 18) k3
    have e5 : z_go (z_ev z_hcM (d + 19)) z_hcM 1259 25 [z_R 1, z_I w, z_I 0, z_U, z_U] [] z_hdM σ1 = z_go (z_ev z_hcM (d + 19)) z_hcM 1259 62 [z_R 1, z_I w, z_I (-1), z_U, z_U] [] z_hdM σb := by
      refine e2.trans ?_
      have e48' := q2.gn.2
      rw [z_B1259_25]
      simp (disch := omega) only [e48', if_pos, ea, eb, z_fdM, z_pdM, z_adM, z_sdM, z_lkM, z_ndM, z_gdM, z_cI_some', z_cV_some', z_w_ok, Int.reduceAdd, Int.reduceSub, Int.reduceMul, Int.reduceNeg, Int.reduceEq, Int.reduceLT, Int.reduceLE, Int.reduceNe, reduceIte, true_and, and_true, false_and, and_false, if_true, if_false, ne_eq, not_true_eq_false, not_false_eq_true]
    have e6 := e5.trans e3
    rw [hu3] at e6
    by_cases cg : z_gr F (z_tot (z_side X w (-1)) (X 0 3)) < 0
    · rw [if_pos cg]
      have eg : z_gr F (z_tot (z_side X w (-1)) (X 0 3)) = -1 := by have := hgr (z_tot (z_side X w (-1)) (X 0 3)); omega
      refine m_does_on hi z_upd_same ?_ q4
      rw [eg] at e6
      simp (disch := omega) only [z_E1259, k, if_pos, e0, e1, e6, e4, z_fdM, z_pdM, z_adM, z_sdM, z_lkM, z_ndM, z_gdM, z_cI_some', z_cV_some', z_w_ok, Int.reduceAdd, Int.reduceSub, Int.reduceMul, Int.reduceNeg, Int.reduceEq, Int.reduceLT, Int.reduceLE, Int.reduceNe, reduceIte, true_and, and_true, false_and, and_false, if_true, if_false, ne_eq, not_true_eq_false, not_false_eq_true]
    · rw [if_neg cg]
      have hl4 : m_land (z_upd σ4 1 25 0) X := m_land_off (b := 25) (lo := 20) (hi := 20) (m_off_upd (by omega)) (by omega) (by omega) (q4.land hi)
      obtain ⟨σ5, e7, r5, o5⟩ := m_tellTolls (l := []) (m := (z_side X w (-1))) (t := z_ti (z_side X w (-1)) (X 0 3) (X 7) (z_am F (z_tot (z_side X w (-1)) (X 0 3)))) h.1 hl4 m_rw0 (by simp) (d + 17) (Or.inr rfl) (fun k k0 k1 => by rw [z_upd_ne (by omega), o4 _ _ (by omega)]; exact f3.2.2 (by omega) k k0 k1) (Or.inr ⟨cw, rfl⟩)
      refine m_does_row hi z_upd_same ?_ (m_ofr_ro (m_ofr_ro (m_ofr_of q4.1) m_ro0) o5) (fun k k0 k1 => by rw [o5 _ _ (by omega) (by omega), z_upd_ne (by omega)]; exact q4.2.2.2.1 k k0 k1) (by rw [o5 _ _ (by omega) (by omega), z_upd_ne (by omega)]; exact q4.2.2.2.2) r5 z_tl5
      simp (disch := omega) only [z_E1259, k, if_pos, e0, e1, e6, e4, e7, z_fdM, z_pdM, z_adM, z_sdM, z_lkM, z_ndM, z_gdM, z_cI_some', z_cV_some', z_w_ok, Int.reduceAdd, Int.reduceSub, Int.reduceMul, Int.reduceNeg, Int.reduceEq, Int.reduceLT, Int.reduceLE, Int.reduceNe, reduceIte, true_and, and_true, false_and, and_false, if_true, if_false, ne_eq, not_true_eq_false, not_false_eq_true]
  · rw [if_neg c] at k ⊢
    refine ⟨_, ?_, hi, z_upd_same⟩
    simp (disch := omega) only [z_E1259, k, z_fdM, z_pdM, z_adM, z_sdM, z_lkM, z_ndM, z_gdM, z_cI_some', z_cV_some', z_w_ok, Int.reduceAdd, Int.reduceSub, Int.reduceMul, Int.reduceNeg, Int.reduceEq, Int.reduceLT, Int.reduceLE, Int.reduceNe, reduceIte, true_and, and_true, false_and, and_false, if_true, if_false, ne_eq, not_true_eq_false, not_false_eq_true]
end
