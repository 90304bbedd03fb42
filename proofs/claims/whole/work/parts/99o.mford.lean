/-! The reference: ford. -/
section
variable {σ0 σ σ' σ'' X : z_S} {D : z_D} {nw : Int → Bool} {t t' T : Int → Int} {l : List Int}
theorem m_ways_fit (hw : z_wf X) (hy : m_ways σ X) : ∀ {n : Nat}, (n : Int) ≤ X 0 2 → z_fit X (-1) n = true
  | 0, _ => rfl
  | n + 1, h => by
    have ih := m_ways_fit hw hy (n := n) (by omega)
    have h1 := (hy n (by omega) (by omega)).2.1
    have h2 := z_wt_len hw (j := (n : Int)) (by omega)
    show (z_fit X (-1) n && decide (z_wc X (-1) n ≤ 200)) = true
    rw [ih, decide_eq_true (by omega)]
    rfl
theorem z_XF_0 {a b c i : Int} (h : i ≠ 0) : z_XF X a b c 0 i = X 0 i := by
  unfold z_XF
  rw [z_addR_c, if_neg h, if_neg (fun z => z.2 rfl)]
theorem z_XF_r {a b c : Int} {i r : Int} (hi : 1 ≤ i ∧ i ≤ 5) (hr : r ≠ X 0 0) : z_XF X a b c i r = X i r := by
  unfold z_XF z_addR
  rw [if_pos rfl, z_upd_ne (by omega), z_upd_ne (by omega), z_upd_ne (by omega), z_upd_ne (by omega), z_upd_ne (by omega), z_upd_ne (by omega)]
theorem z_XF_a {a b c : Int} {i r : Int} (hi : 6 ≤ i) : z_XF X a b c i r = X i r := by
  unfold z_XF z_addR
  rw [if_pos rfl, z_upd_ne (by omega), z_upd_ne (by omega), z_upd_ne (by omega), z_upd_ne (by omega), z_upd_ne (by omega), z_upd_ne (by omega)]
theorem z_XF_n {a b c : Int} : z_XF X a b c 0 0 = X 0 0 + 1 ∧ z_XF X a b c 1 (X 0 0) = a ∧ z_XF X a b c 2 (X 0 0) = b ∧ z_XF X a b c 3 (X 0 0) = c ∧ z_XF X a b c 4 (X 0 0) = 0 ∧ z_XF X a b c 5 (X 0 0) = -1 := by
  unfold z_XF z_addR
  rw [if_pos rfl]
  refine ⟨z_upd_same, ?_, ?_, ?_, ?_, ?_⟩
  · rw [z_upd_ne (by omega), z_upd_ne (by omega), z_upd_ne (by omega), z_upd_ne (by omega), z_upd_ne (by omega), z_upd_same]
  · rw [z_upd_ne (by omega), z_upd_ne (by omega), z_upd_ne (by omega), z_upd_ne (by omega), z_upd_same]
  · rw [z_upd_ne (by omega), z_upd_ne (by omega), z_upd_ne (by omega), z_upd_same]
  · rw [z_upd_ne (by omega), z_upd_ne (by omega), z_upd_same]
  · rw [z_upd_ne (by omega), z_upd_same]
/-- the reference's store with one road more -/
def m_ad (σ : z_S) (R a b c : Int) : z_S := z_upd (z_upd (z_upd (z_upd (z_upd (z_upd σ 2 R a) 3 R b) 4 R c) 5 R 0) 6 R (-1)) 1 5 (R + 1)
theorem m_ad_at {R a b c : Int} {u i : Int} (h : (u < 2 ∨ 6 < u ∨ i ≠ R) ∧ (u ≠ 1 ∨ i ≠ 5)) : m_ad σ R a b c u i = σ u i := by
  unfold m_ad
  rw [z_upd_ne (by omega), z_upd_ne (by omega), z_upd_ne (by omega), z_upd_ne (by omega), z_upd_ne (by omega), z_upd_ne (by omega)]
theorem m_ad_land (hw : z_wf X) (hl : m_land σ X) {a b c : Int} : m_land (m_ad σ (X 0 0) a b c) (z_XF X a b c) := by
  have hR := hw.1
  have hn := hw.2.1
  obtain ⟨n0, n1, n2, n3, n4, n5⟩ := z_XF_n (X := X) (a := a) (b := b) (c := c)
  obtain ⟨⟨l1, l2, l3, l4⟩, l5, l6, l7⟩ := hl
  refine ⟨⟨by unfold m_ad; rw [z_upd_same, n0], by rw [m_ad_at (by omega), z_XF_0 (by omega)]; exact l2, by rw [m_ad_at (by omega), z_XF_0 (by omega)]; exact l3, by rw [m_ad_at (by omega), z_XF_0 (by omega)]; exact l4⟩, fun r r0 r1 => ?_, fun k k0 k1 => ?_, fun j j0 j1 => ?_⟩
  · rw [n0] at r1
    by_cases cr : r = X 0 0
    · rw [cr, n1, n2, n3, n4, n5]
      unfold m_ad
      refine ⟨?_, ?_, ?_, ?_, ?_⟩
      · rw [z_upd_ne (by omega), z_upd_ne (by omega), z_upd_ne (by omega), z_upd_ne (by omega), z_upd_ne (by omega), z_upd_same]
      · rw [z_upd_ne (by omega), z_upd_ne (by omega), z_upd_ne (by omega), z_upd_ne (by omega), z_upd_same]
      · rw [z_upd_ne (by omega), z_upd_ne (by omega), z_upd_ne (by omega), z_upd_same]
      · rw [z_upd_ne (by omega), z_upd_ne (by omega), z_upd_same]
      · rw [z_upd_ne (by omega), z_upd_same]
    · rw [m_ad_at (by omega), m_ad_at (by omega), m_ad_at (by omega), m_ad_at (by omega), m_ad_at (by omega), z_XF_r (by omega) cr, z_XF_r (by omega) cr, z_XF_r (by omega) cr, z_XF_r (by omega) cr, z_XF_r (by omega) cr]
      exact l5 r r0 (by omega)
  · rw [z_XF_0 (by omega)] at k1
    rw [m_ad_at (by omega), z_XF_a (by omega)]
    exact l6 k k0 k1
  · rw [z_XF_0 (by omega)] at j1
    rw [m_ad_at (by omega), m_ad_at (by omega), m_ad_at (by omega), m_ad_at (by omega), m_ad_at (by omega), m_ad_at (by omega), m_ad_at (by omega), m_ad_at (by omega), m_ad_at (by omega), z_XF_a (by omega), z_XF_a (by omega), z_XF_a (by omega), z_XF_a (by omega), z_XF_a (by omega), z_XF_a (by omega), z_XF_a (by omega), z_XF_a (by omega), z_XF_a (by omega)]
    exact l7 j j0 j1
/-- back to the land of before -/
theorem m_back (h : m_inv σ X) (hn5 : σ' 1 5 = X 0 0) (o : ∀ a i, a ≠ 8 → (a < 32 ∨ 57 < a) → (a ≠ 1 ∨ (i < 27 ∧ i ≠ 5)) → (a < 2 ∨ 6 < a ∨ i ≠ X 0 0) → σ' a i = σ a i) (hy : m_ways σ' X) (ht : m_t σ' (X 7)) (h40 : σ' 40 0 = 0) : m_inv σ' X := by
  obtain ⟨a1, a2, a3, a4, a5, a6, a7, a8, a9, b1, b2⟩ := h
  have hR := a1.1
  obtain ⟨⟨l1, l2, l3, l4⟩, l5, l6, l7⟩ := a2
  refine ⟨a1, ⟨⟨hn5, by rw [o _ _ (by omega) (by omega) (by omega) (by omega)]; exact l2, by rw [o _ _ (by omega) (by omega) (by omega) (by omega)]; exact l3, by rw [o _ _ (by omega) (by omega) (by omega) (by omega)]; exact l4⟩, fun r r0 r1 => ?_, fun k k0 k1 => by rw [o _ _ (by omega) (by omega) (by omega) (by omega)]; exact l6 k k0 k1, fun j j0 j1 => ?_⟩, hy, ht, h40, by rw [o _ _ (by omega) (by omega) (by omega) (by omega)]; exact a6, fun w w0 w1 => by rw [o _ _ (by omega) (by omega) (by omega) (by omega)]; exact a7 w w0 w1, by rw [o _ _ (by omega) (by omega) (by omega) (by omega)]; exact a8, fun i i0 i1 => by rw [o _ _ (by omega) (by omega) (by omega) (by omega)]; exact a9 i i0 i1, by rw [o _ _ (by omega) (by omega) (by omega) (by omega)]; exact b1, fun i i0 i1 => by rw [o _ _ (by omega) (by omega) (by omega) (by omega)]; exact b2 i i0 i1⟩
  · rw [o 2 _ (by omega) (by omega) (by omega) (by omega), o 3 _ (by omega) (by omega) (by omega) (by omega), o 4 _ (by omega) (by omega) (by omega) (by omega), o 5 _ (by omega) (by omega) (by omega) (by omega), o 6 _ (by omega) (by omega) (by omega) (by omega)]
    exact l5 r r0 r1
  · rw [o 9 _ (by omega) (by omega) (by omega) (by omega), o 10 _ (by omega) (by omega) (by omega) (by omega), o 11 _ (by omega) (by omega) (by omega) (by omega), o 12 _ (by omega) (by omega) (by omega) (by omega), o 13 _ (by omega) (by omega) (by omega) (by omega), o 14 _ (by omega) (by omega) (by omega) (by omega), o 15 _ (by omega) (by omega) (by omega) (by omega), o 16 _ (by omega) (by omega) (by omega) (by omega), o 17 _ (by omega) (by omega) (by omega) (by omega)]
    exact l7 j j0 j1
theorem M_ford (h : m_inv σ X) (d : Nat) (w a b c : Int) : m_does (z_ev z_hcM (d + 20) 1278 [z_R 1, z_I w, z_I a, z_I b, z_I c] z_hdM σ) (s_ford X w a b c) := by
  have hi := m_inv_thr h
  have hcp := h.cp
  have hR := h.1.1
  have hnJ := h.1.2.2.1
  have k := m_canSet (d + 17) h.1 hi.2.1 w
  have l1 := hi.2.1.1.1
  unfold s_ford
  by_cases cs : z_seek X w = true
  · rw [if_pos cs] at k
    obtain ⟨cw, ctot⟩ := z_seek_t.mp cs
    by_cases cv : (0 ≤ a ∧ a < 8 ∧ 0 ≤ b ∧ b < 8 ∧ a ≠ b ∧ 0 ≤ c ∧ c ≤ 99) ∧ X 0 0 < 14
    · obtain ⟨⟨a0, a1, b0, b1, ab, c0, c1⟩, r14⟩ := cv
      obtain ⟨σ1, e1, q1⟩ := m_gat0 hi (d + 14)
      have l3 := q1.capv hi
      obtain ⟨σ2, e2, o2, q2, -, -⟩ := q1.best hi (d + 13) (cp := X 0 3) cw h.tc ⟨hcp.1, Int.le_refl _⟩
      obtain ⟨i2, k26⟩ := q2.fin hi
      rw [z_upd_same] at k26
      have l5 := i2.2.1.1.1
      have hti : ∀ i, c_t20 (z_ti (z_side X w (-1)) (X 0 3) (X 7) i) := fun i => z_tcap_20 hcp.2 (z_ti_cap (Int.le_refl _) hcp.1 h.tc i)
      have v1 : 0 ≤ z_hv (z_Dm X (-1)) (X 0 4) (z_Dm X (-1)).mn (z_side X w (-1)) (z_side X w (-1)) (X 0 3) (X 7) ∧ z_hv (z_Dm X (-1)) (X 0 4) (z_Dm X (-1)).mn (z_side X w (-1)) (z_side X w (-1)) (X 0 3) (X 7) ≤ 480000000 := q1.brt hi (hti _) (X 0 4) (z_side X w (-1))
      have hw' : z_wf (z_XF X a b c) := z_wf_addR h.1 (Or.inl rfl) ⟨a0, by omega⟩ ⟨b0, by omega⟩ ab ⟨c0, c1⟩ (by omega) r14 (fun z => absurd rfl z)
      have hlx : m_land (m_ad σ2 (X 0 0) a b c) (z_XF X a b c) := m_ad_land h.1 i2.2.1
      have hn' : z_XF X a b c 0 2 = X 0 2 := z_XF_0 (by omega)
      obtain ⟨σ3, e3, o3, o38, f3⟩ := m_findWays hw' hlx (d + 9)
      rw [hn'] at e3 f3
      -- the store up to here
      have st : z_ev z_hcM (d + 20) 1278 [z_R 1, z_I w, z_I a, z_I b, z_I c] z_hdM σ = z_cI (z_ev z_hcM (d + 19) 1222 [z_R 1] z_hdM (m_ad σ2 (X 0 0) a b c)) (fun v27 h25 s26 => if v27 = 0 then (z_go (z_ev z_hcM (d + 19)) z_hcM 1278 167 [z_R 1, z_I w, z_I a, z_I b, z_I c, z_I (z_hv (z_Dm X (-1)) (X 0 4) (z_Dm X (-1)).mn (z_side X w (-1)) (z_side X w (-1)) (X 0 3) (X 7)), z_I v27, z_I 0] [] h25 s26) else (z_fld h25 1 12 (z_cV (z_ev z_hcM (d + 19) 1229 [z_R 1] h25 s26) (fun h28 s29 => z_fld h28 1 12 (z_fld h28 1 12 (z_cI (z_ev z_hcM (d + 19) 1253 [z_R 1, z_I w, z_I 0, z_I (s29 1 9)] h28 s29) (fun v32 h30 s31 => z_go (z_ev z_hcM (d + 19)) z_hcM 1278 167 [z_R 1, z_I w, z_I a, z_I b, z_I c, z_I (z_hv (z_Dm X (-1)) (X 0 4) (z_Dm X (-1)).mn (z_side X w (-1)) (z_side X w (-1)) (X 0 3) (X 7)), z_I v27, z_I v32] [] h30 s31))))))) := by
        unfold m_ad
        simp (disch := omega) only [z_E1278, z_E1202, k, if_neg, if_pos, l1, e1, l3, e2, l5, z_upd_ne, z_fdM, z_pdM, z_adM, z_sdM, z_lkM, z_ndM, z_gdM, z_cI_some', z_cV_some', z_w_ok, Int.reduceAdd, Int.reduceSub, Int.reduceMul, Int.reduceNeg, Int.reduceEq, Int.reduceLT, Int.reduceLE, Int.reduceNe, reduceIte, true_and, and_true, false_and, and_false, if_true, if_false, ne_eq, not_true_eq_false, not_false_eq_true]
      -- the end
      have fin : ∀ (s4 : z_S) (v7 v6 : Int), (∀ a' i, a' ≠ 8 → (a' < 32 ∨ 57 < a') → (a' ≠ 1 ∨ i < 27) → s4 a' i = m_ad σ2 (X 0 0) a b c a' i) → m_t s4 (X 7) → s4 40 0 = 0 → ∃ s6, m_inv s6 X ∧ s6 1 26 = 0 ∧ z_go (z_ev z_hcM (d + 19)) z_hcM 1278 167 [z_R 1, z_I w, z_I a, z_I b, z_I c, z_I (z_hv (z_Dm X (-1)) (X 0 4) (z_Dm X (-1)).mn (z_side X w (-1)) (z_side X w (-1)) (X 0 3) (X 7)), z_I v6, z_I v7] [] z_hdM s4 = some (z_I (if v6 = 0 then -1 else z_w (v7 - z_hv (z_Dm X (-1)) (X 0 4) (z_Dm X (-1)).mn (z_side X w (-1)) (z_side X w (-1)) (X 0 3) (X 7))), z_hdM, s6) := fun s4 v7 v6 o4 t4 z4 => by
        have fr : ∀ a' i, a' ≠ 8 → (a' < 32 ∨ 57 < a') → (a' ≠ 1 ∨ (i < 27 ∧ i ≠ 5)) → (a' < 2 ∨ 6 < a' ∨ i ≠ X 0 0) → z_upd s4 1 5 (X 0 0) a' i = σ2 a' i := fun a' i h1 h2 h3 h4 => by rw [z_upd_ne (by omega), o4 a' i h1 h2 (by omega), m_ad_at (by omega)]
        have hl5 : m_land (z_upd s4 1 5 (X 0 0)) X := by
          obtain ⟨⟨x1, x2, x3, x4⟩, x5, x6, x7⟩ := i2.2.1
          refine ⟨⟨z_upd_same, by rw [fr _ _ (by omega) (by omega) (by omega) (by omega)]; exact x2, by rw [fr _ _ (by omega) (by omega) (by omega) (by omega)]; exact x3, by rw [fr _ _ (by omega) (by omega) (by omega) (by omega)]; exact x4⟩, fun r r0 r1 => ?_, fun k k0 k1 => by rw [fr _ _ (by omega) (by omega) (by omega) (by omega)]; exact x6 k k0 k1, fun j j0 j1 => ?_⟩
          · rw [fr 2 _ (by omega) (by omega) (by omega) (by omega), fr 3 _ (by omega) (by omega) (by omega) (by omega), fr 4 _ (by omega) (by omega) (by omega) (by omega), fr 5 _ (by omega) (by omega) (by omega) (by omega), fr 6 _ (by omega) (by omega) (by omega) (by omega)]
            exact x5 r r0 r1
          · rw [fr 9 _ (by omega) (by omega) (by omega) (by omega), fr 10 _ (by omega) (by omega) (by omega) (by omega), fr 11 _ (by omega) (by omega) (by omega) (by omega), fr 12 _ (by omega) (by omega) (by omega) (by omega), fr 13 _ (by omega) (by omega) (by omega) (by omega), fr 14 _ (by omega) (by omega) (by omega) (by omega), fr 15 _ (by omega) (by omega) (by omega) (by omega), fr 16 _ (by omega) (by omega) (by omega) (by omega), fr 17 _ (by omega) (by omega) (by omega) (by omega)]
            exact x7 j j0 j1
        obtain ⟨s6, e6, o6, o68, f6⟩ := m_findWays h.1 hl5 (d + 9)
        have hfit := m_ways_fit h.1 h.2.2.1 (n := (X 0 2).toNat) (by omega)
        have s45 : s4 1 5 = X 0 0 + 1 := by rw [o4 _ _ (by omega) (by omega) (by omega)]; unfold m_ad; rw [z_upd_same]
        refine ⟨s6, m_back i2 (by rw [m_at o6 (by omega), z_upd_same]) (fun a' i h1 h2 h3 h4 => by rw [m_at o6 (by omega)]; exact fr a' i h1 h2 h3 h4) (f6 hfit) (fun k k0 k1 => by rw [o68, z_upd_ne (by omega)]; exact t4 k k0 k1) (by rw [m_at o6 (by omega), z_upd_ne (by omega)]; exact z4), by rw [m_at o6 (by omega), fr _ _ (by omega) (by omega) (by omega) (by omega)]; exact k26, ?_⟩
        rw [hfit, if_pos rfl] at e6
        rw [z_B1278_167]
        by_cases c6 : v6 = 0
        · rw [if_pos c6]
          simp (disch := omega) only [s45, show X 0 0 + 1 - 1 = X 0 0 by omega, e6, if_pos, z_fdM, z_pdM, z_adM, z_sdM, z_lkM, z_ndM, z_gdM, z_cI_some', z_cV_some', z_w_ok, Int.reduceAdd, Int.reduceSub, Int.reduceMul, Int.reduceNeg, Int.reduceEq, Int.reduceLT, Int.reduceLE, Int.reduceNe, reduceIte, true_and, and_true, false_and, and_false, if_true, if_false, ne_eq, not_true_eq_false, not_false_eq_true]
        · rw [if_neg c6]
          rw [z_fdM, s45, z_pdM, z_fdM, z_w_ok (by omega) (by omega), show X 0 0 + 1 - 1 = X 0 0 by omega, e6, z_cI_some', if_neg c6]
      by_cases cf : z_fit (z_XF X a b c) (-1) (X 0 2).toNat = true
      · rw [if_pos ⟨cs, ⟨a0, a1, b0, b1, ab, c0, c1⟩, r14, cf⟩]
        rw [if_pos cf] at e3
        have t7 : ∀ i, z_XF X a b c 7 i = X 7 i := fun i => z_XF_a (by omega)
        have t7' : z_XF X a b c 7 = X 7 := funext t7
        -- a world with the road
        have hi3 : m_inv σ3 (z_XF X a b c) := by
          obtain ⟨p1, p2, p3, p4, p5, p6, p7, p8, p9, p10, p11⟩ := i2
          have at3 : ∀ a' i, a' ≠ 8 → (a' < 32 ∨ 35 < a') → (a' < 2 ∨ 6 < a' ∨ i ≠ X 0 0) → (a' ≠ 1 ∨ i ≠ 5) → (a' ≠ 1 ∨ i < 99) → σ3 a' i = σ2 a' i := fun a' i h1 h2 h3 h4 h5 => by rw [m_at o3 (by omega), m_ad_at (by omega)]
          refine ⟨hw', m_land_off o3 (by omega) (by omega) hlx, f3 cf, fun k k0 k1 => by rw [o38, m_ad_at (by omega), t7]; exact p4 k k0 k1, by rw [at3 _ _ (by omega) (by omega) (by omega) (by omega) (by omega)]; exact p5, by rw [at3 _ _ (by omega) (by omega) (by omega) (by omega) (by omega), z_XF_0 (by omega)]; exact p6, fun u u0 u1 => by rw [at3 _ _ (by omega) (by omega) (by omega) (by omega) (by omega), z_XF_a (by omega)]; exact p7 u u0 u1, by rw [at3 _ _ (by omega) (by omega) (by omega) (by omega) (by omega), z_XF_0 (by omega)]; exact p8, fun i i0 i1 => ?_, by rw [at3 _ _ (by omega) (by omega) (by omega) (by omega) (by omega), z_XF_0 (by omega)]; exact p10, fun i i0 i1 => ?_⟩
          · rw [z_XF_0 (by omega)] at i1
            rw [at3 _ _ (by omega) (by omega) (by omega) (by omega) (by omega), z_XF_a (by omega)]
            exact p9 i i0 i1
          · rw [z_XF_0 (by omega)] at i1
            rw [at3 _ _ (by omega) (by omega) (by omega) (by omega) (by omega), z_XF_a (by omega)]
            exact p11 i i0 i1
        obtain ⟨σ4, e4, q4⟩ := m_gat0 hi3 (d + 14)
        have l34 := q4.capv hi3
        obtain ⟨σ5, e5, o5, q5, -, -⟩ := q4.best hi3 (d + 13) (w := w) (cp := z_XF X a b c 0 3) cw hi3.tc ⟨hi3.cp.1, Int.le_refl _⟩
        have v2 := fun i => q4.brt hi3 (z_tcap_20 hi3.cp.2 (z_ti_cap (mv := z_side (z_XF X a b c) w (-1)) (Int.le_refl _) hi3.cp.1 hi3.tc i)) (z_XF X a b c 0 4) (z_side (z_XF X a b c) w (-1))
        have v2' : 0 ≤ z_hv (z_Dm (z_XF X a b c) (-1)) (z_XF X a b c 0 4) (z_Dm (z_XF X a b c) (-1)).mn (z_side (z_XF X a b c) w (-1)) (z_side (z_XF X a b c) w (-1)) (z_XF X a b c 0 3) (z_XF X a b c 7) ∧ z_hv (z_Dm (z_XF X a b c) (-1)) (z_XF X a b c 0 4) (z_Dm (z_XF X a b c) (-1)).mn (z_side (z_XF X a b c) w (-1)) (z_side (z_XF X a b c) w (-1)) (z_XF X a b c 0 3) (z_XF X a b c 7) ≤ 480000000 := v2 _
        have e03 : z_XF X a b c 0 3 = X 0 3 := z_XF_0 (by omega)
        have e04 : z_XF X a b c 0 4 = X 0 4 := z_XF_0 (by omega)
        rw [z_XF_side h.1, e03, e04, t7'] at v2'
        rw [z_XF_side h.1, e04, t7', e03] at e5
        rw [e03] at l34
        obtain ⟨s6, j1, j2, j3⟩ := fin σ5 (z_hv (z_Dm (z_XF X a b c) (-1)) (X 0 4) (z_Dm (z_XF X a b c) (-1)).mn (z_side X w (-1)) (z_side X w (-1)) (X 0 3) (X 7)) 1 (fun a' i h1 h2 h3 => by rw [m_at q5.1 (by omega), m_at o3 (by omega)]) (fun k k0 k1 => by rw [q5.2.2.2.1 k k0 k1, t7]) q5.2.2.2.2
        refine ⟨s6, ?_, j1, j2⟩
        rw [st, e3]
        rw [if_neg (show ¬ (1 : Int) = 0 by omega), z_w_ok (by omega) (by omega)] at j3
        simp (disch := omega) only [e4, l34, e5, z_fdM, z_pdM, z_adM, z_sdM, z_lkM, z_ndM, z_gdM, z_cI_some', z_cV_some', z_w_ok, Int.reduceAdd, Int.reduceSub, Int.reduceMul, Int.reduceNeg, Int.reduceEq, Int.reduceLT, Int.reduceLE, Int.reduceNe, reduceIte, true_and, and_true, false_and, and_false, if_true, if_false, ne_eq, not_true_eq_false, not_false_eq_true]
        exact j3
      · rw [if_neg (fun z => cf z.2.2.2)]
        rw [if_neg cf] at e3
        obtain ⟨s6, j1, j2, j3⟩ := fin σ3 0 0 (fun a' i h1 h2 h3 => m_at o3 (by omega)) (fun k k0 k1 => by rw [o38, m_ad_at (by omega)]; exact i2.2.2.2.1 k k0 k1) (by rw [m_at o3 (by omega), m_ad_at (by omega)]; exact i2.2.2.2.2.1)
        refine ⟨s6, ?_, j1, j2⟩
        rw [st, e3]
        rw [if_pos rfl] at j3
        simp (disch := omega) only [z_fdM, z_pdM, z_adM, z_sdM, z_lkM, z_ndM, z_gdM, z_cI_some', z_cV_some', z_w_ok, Int.reduceAdd, Int.reduceSub, Int.reduceMul, Int.reduceNeg, Int.reduceEq, Int.reduceLT, Int.reduceLE, Int.reduceNe, reduceIte, true_and, and_true, false_and, and_false, if_true, if_false, ne_eq, not_true_eq_false, not_false_eq_true]
        exact j3
    · rw [if_neg (fun z => cv ⟨z.2.1, z.2.2.1⟩)]
      refine ⟨_, ?_, hi, z_upd_same⟩
      by_cases a0 : a < 0
      · simp (disch := omega) only [z_E1278, z_E1202, z_B1278_58, k, if_neg, if_pos, z_fdM, z_pdM, z_adM, z_sdM, z_lkM, z_ndM, z_gdM, z_cI_some', z_cV_some', z_w_ok, Int.reduceAdd, Int.reduceSub, Int.reduceMul, Int.reduceNeg, Int.reduceEq, Int.reduceLT, Int.reduceLE, Int.reduceNe, reduceIte, true_and, and_true, false_and, and_false, if_true, if_false, ne_eq, not_true_eq_false, not_false_eq_true]
      · by_cases a1 : 7 < a
        · simp (disch := omega) only [z_E1278, z_E1202, z_B1278_58, k, if_neg, if_pos, z_fdM, z_pdM, z_adM, z_sdM, z_lkM, z_ndM, z_gdM, z_cI_some', z_cV_some', z_w_ok, Int.reduceAdd, Int.reduceSub, Int.reduceMul, Int.reduceNeg, Int.reduceEq, Int.reduceLT, Int.reduceLE, Int.reduceNe, reduceIte, true_and, and_true, false_and, and_false, if_true, if_false, ne_eq, not_true_eq_false, not_false_eq_true]
        · by_cases b0 : b < 0
          · simp (disch := omega) only [z_E1278, z_E1202, z_B1278_58, k, if_neg, if_pos, z_fdM, z_pdM, z_adM, z_sdM, z_lkM, z_ndM, z_gdM, z_cI_some', z_cV_some', z_w_ok, Int.reduceAdd, Int.reduceSub, Int.reduceMul, Int.reduceNeg, Int.reduceEq, Int.reduceLT, Int.reduceLE, Int.reduceNe, reduceIte, true_and, and_true, false_and, and_false, if_true, if_false, ne_eq, not_true_eq_false, not_false_eq_true]
          · by_cases b1 : 7 < b
            · simp (disch := omega) only [z_E1278, z_E1202, z_B1278_58, k, if_neg, if_pos, z_fdM, z_pdM, z_adM, z_sdM, z_lkM, z_ndM, z_gdM, z_cI_some', z_cV_some', z_w_ok, Int.reduceAdd, Int.reduceSub, Int.reduceMul, Int.reduceNeg, Int.reduceEq, Int.reduceLT, Int.reduceLE, Int.reduceNe, reduceIte, true_and, and_true, false_and, and_false, if_true, if_false, ne_eq, not_true_eq_false, not_false_eq_true]
            · by_cases ab : a = b
              · simp (disch := omega) only [z_E1278, z_E1202, z_B1278_58, k, if_neg, if_pos, z_fdM, z_pdM, z_adM, z_sdM, z_lkM, z_ndM, z_gdM, z_cI_some', z_cV_some', z_w_ok, Int.reduceAdd, Int.reduceSub, Int.reduceMul, Int.reduceNeg, Int.reduceEq, Int.reduceLT, Int.reduceLE, Int.reduceNe, reduceIte, true_and, and_true, false_and, and_false, if_true, if_false, ne_eq, not_true_eq_false, not_false_eq_true]
              · by_cases c0 : c < 0
                · simp (disch := omega) only [z_E1278, z_E1202, z_B1278_58, k, if_neg, if_pos, z_fdM, z_pdM, z_adM, z_sdM, z_lkM, z_ndM, z_gdM, z_cI_some', z_cV_some', z_w_ok, Int.reduceAdd, Int.reduceSub, Int.reduceMul, Int.reduceNeg, Int.reduceEq, Int.reduceLT, Int.reduceLE, Int.reduceNe, reduceIte, true_and, and_true, false_and, and_false, if_true, if_false, ne_eq, not_true_eq_false, not_false_eq_true]
                · by_cases c1 : 99 < c
                  · simp (disch := omega) only [z_E1278, z_E1202, z_B1278_58, k, if_neg, if_pos, z_fdM, z_pdM, z_adM, z_sdM, z_lkM, z_ndM, z_gdM, z_cI_some', z_cV_some', z_w_ok, Int.reduceAdd, Int.reduceSub, Int.reduceMul, Int.reduceNeg, Int.reduceEq, Int.reduceLT, Int.reduceLE, Int.reduceNe, reduceIte, true_and, and_true, false_and, and_false, if_true, if_false, ne_eq, not_true_eq_false, not_false_eq_true]
                  · have r14 : X 0 0 = 14 := by omega
                    simp (disch := omega) only [z_E1278, z_E1202, z_B1278_58, k, if_neg, if_pos, l1, r14, z_fdM, z_pdM, z_adM, z_sdM, z_lkM, z_ndM, z_gdM, z_cI_some', z_cV_some', z_w_ok, Int.reduceAdd, Int.reduceSub, Int.reduceMul, Int.reduceNeg, Int.reduceEq, Int.reduceLT, Int.reduceLE, Int.reduceNe, reduceIte, true_and, and_true, false_and, and_false, if_true, if_false, ne_eq, not_true_eq_false, not_false_eq_true]
  · rw [if_neg cs] at k
    rw [if_neg (fun z => cs z.1)]
    refine ⟨_, ?_, hi, z_upd_same⟩
    rw [z_E1278, z_pdM, z_fdM, k, z_cI_some', if_pos rfl, z_B1278_58]
end
