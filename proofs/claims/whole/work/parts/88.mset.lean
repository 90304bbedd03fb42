/-! The reference: the best told, and set. -/
section
variable {σ0 σ σ' X X' : z_S} {D : z_D} {nw : Int → Bool} {t : Int → Int} {l : List Int}
theorem m_inv.tc (h : m_inv σ X) : z_tcap (X 0 3) (X 7) := h.1.2.2.2.2.2.2.2.2.2.2.2.1
theorem m_inv.cp (h : m_inv σ X) : 0 ≤ X 0 3 ∧ X 0 3 ≤ 20 := h.1.2.2.2.1
theorem m_on.capv (h : m_inv σ0 X) (q : m_on σ0 σ X D nw t) : σ 1 9 = X 0 3 := (q.land h).1.2.2.1
theorem m_on.mnr (h : m_inv σ0 X) (q : m_on σ0 σ X D nw t) : ∀ g, 0 ≤ g → g < D.gN → 0 ≤ D.mn g ∧ D.mn g ≤ 100000 := fun g g0 g1 => by have := (q.goer h g0 g1).2.2.2.2.2.1; omega
theorem m_on.brt (h : m_inv σ0 X) (q : m_on σ0 σ X D nw t) {u : Int → Int} (hu : c_t20 u) (lean side : Int) : 0 ≤ z_brt D.op D.mn D.gN lean side u ∧ z_brt D.op D.mn D.gN lean side u ≤ 480000000 := z_brt_rng q.gn.1 (q.mnr h) hu (k := D.gN.toNat) (by have := q.gn.1; omega)
theorem m_ti0 (hw : z_wf X) {w cp : Int} {t : Int → Int} (k : Int) (k0 : 0 ≤ k) : (if k < X 0 1 ∧ X 5 (X 6 k) = w then 0 else t k) = z_ti (z_side X w (-1)) cp t 0 k := by
  have hb := z_side_bt hw (h := w) (s := -1) k0
  show _ = if 0 ≤ k ∧ z_bt (z_side X w (-1)) k = true then 0 else t k
  by_cases c : k < X 0 1 ∧ X 5 (X 6 k) = w
  · have := hw.2.2.2.2.2.2.2.2.1 k k0 c.1
    rw [if_pos c, if_pos ⟨k0, hb.mpr ⟨c.1, c.2, by omega⟩⟩]
  · rw [if_neg c, if_neg (fun z => c ⟨(hb.mp z.2).1, (hb.mp z.2).2.1⟩)]
theorem m_mvb (hw : z_wf X) {w : Int} (k : Nat) (hk : (k : Int) < X 0 1) : z_bt (z_side X w (-1)) k = (decide (X 5 (X 6 k) = w) && !z_bt 0 k) := by
  have h0 : z_bt 0 k = false := by unfold z_bt; simp
  rw [z_side_bk hw hk, h0]
  simp
theorem m_on.best (h : m_inv σ0 X) (q : m_on σ0 σ X D nw t) (d : Nat) {w cp : Int} (hw : w = 0 ∨ w = 1) (htc : z_tcap (X 0 3) t) (hcp : 0 ≤ cp ∧ cp ≤ X 0 3) :
    ∃ σ', z_ev z_hcM (d + 6) 1253 [z_R 1, z_I w, z_I 0, z_I cp] z_hdM σ = some (z_I (z_hv D (X 0 4) D.mn (z_side X w (-1)) (z_side X w (-1)) cp t), z_hdM, σ') ∧ m_off 54 40 45 σ σ' ∧ m_on σ0 σ' X D nw t ∧ (∀ k, 0 ≤ k → k < 5 → σ' 45 k = z_ht D (X 0 4) D.mn (z_side X w (-1)) (z_side X w (-1)) cp t k) ∧ σ' 1 59 = z_suf D.op D.mn D.gN (X 0 4) (z_ht D (X 0 4) D.mn (z_side X w (-1)) (z_side X w (-1)) cp t) := by
  have hsr := z_side_rng h.1 w (-1)
  obtain ⟨σ', e, o, ht, z, f, s⟩ := m_bestOf (σ := σ) (X := X) (t := t) (T := t) (h := w) (free := 0) (cp := cp) (mv := (z_side X w (-1))) d h.1 (q.land h) q.2.1 q.2.2.2.1 htc q.2.2.2.2 hw (by omega) hcp ⟨hsr.1, hsr.2.2⟩ (m_mvb h.1) (fun k k0 _ => m_ti0 h.1 k k0)
  rw [q.lean h] at e f s
  exact ⟨σ', e, o, q.keep (m_off_le o (by omega) (by omega) (by omega)) ht z, f, s⟩
theorem m_on.bestF (h : m_inv σ0 X) (q : m_on σ0 σ X D nw t) (d : Nat) {w free : Int} (hw : w = 0 ∨ w = 1) (htc : z_tcap (X 0 3) t) (hf : 0 ≤ free ∧ free < 32) (hfs : ∀ k : Int, 0 ≤ k → k < 5 → z_bt free k = true → z_bt (z_side X w (-1)) k = true) :
    ∃ σ', z_ev z_hcM (d + 6) 1253 [z_R 1, z_I w, z_I free, z_I (X 0 3)] z_hdM σ = some (z_I (z_xv D (X 0 4) D.mn (z_side X w (-1)) (X 0 3) t free), z_hdM, σ') ∧ m_off 54 40 45 σ σ' ∧ m_on σ0 σ' X D nw t ∧ (∀ k, 0 ≤ k → k < 5 → σ' 45 k = z_xt D (X 0 4) D.mn (z_side X w (-1)) (X 0 3) t free k) ∧ σ' 1 59 = z_suf D.op D.mn D.gN (X 0 4) (z_xt D (X 0 4) D.mn (z_side X w (-1)) (X 0 3) t free) := by
  have hsr := z_side_rng h.1 w (-1)
  have hn := h.1.2.1
  have hcp := h.cp
  obtain ⟨dm0, -, dmb⟩ := z_dm_ok (x := (z_side X w (-1))) (y := free) ⟨hsr.1, hsr.2.1⟩ hf
  have hdn : z_dm (z_side X w (-1)) free < ((2 ^ (X 0 1).toNat : Nat) : Int) := by
    have := (z_and_le (x := (z_side X w (-1))) (y := z_xor free (-1)) hsr.1 (by omega))
    have hle : z_dm (z_side X w (-1)) free ≤ (z_side X w (-1)) := by
      rcases Int.lt_or_le (z_dm (z_side X w (-1)) free) ((z_side X w (-1)) + 1) with h | h
      · omega
      · exfalso
        have hd : ∀ x : Nat, x < 32 → ∀ y : Nat, y < 32 → z_dm x y ≤ x := by decide +kernel
        have := hd ((z_side X w (-1))).toNat (by omega) free.toNat (by omega)
        rw [Int.toNat_of_nonneg hsr.1, Int.toNat_of_nonneg hf.1] at this
        omega
    omega
  obtain ⟨σ', e, o, ht, z, f, s⟩ := m_bestOf (σ := σ) (X := X) (t := t) (T := z_t0 free t) (h := w) (free := free) (cp := (X 0 3)) (mv := z_dm (z_side X w (-1)) free) d h.1 (q.land h) q.2.1 q.2.2.2.1 (z_t0_cap hcp.1 htc) q.2.2.2.2 hw hf ⟨hcp.1, Int.le_refl _⟩ ⟨dm0.1, hdn⟩ (fun k hk => by
      rw [dmb k (by omega) (by omega), z_side_bk h.1 hk]) (fun k k0 k1 => by
      rw [m_ti0 (cp := 0) h.1 k k0]
      show (if 0 ≤ k ∧ z_bt (z_side X w (-1)) k = true then 0 else t k) = if 0 ≤ k ∧ z_bt (z_dm (z_side X w (-1)) free) k = true then 0 else (if 0 ≤ k ∧ z_bt free k = true then 0 else t k)
      rw [dmb k k0 k1]
      have := hfs k k0 k1
      cases h1 : z_bt (z_side X w (-1)) k <;> cases h2 : z_bt free k <;> simp_all)
  rw [q.lean h] at e f s
  exact ⟨σ', e, o, q.keep (m_off_le o (by omega) (by omega) (by omega)) ht z, f, s⟩
theorem M_best (h : m_inv σ X) (d : Nat) (w : Int) : m_does (z_ev z_hcM (d + 20) 1255 [z_R 1, z_I w] z_hdM σ) (s_best X w) := by
  have hi := m_inv_thr h
  have k := m_canSet (d + 17) h.1 hi.2.1 w
  unfold s_best
  by_cases c : z_seek X w = true
  · rw [if_pos c] at k ⊢
    have cw := (z_seek_t.mp c).1
    obtain ⟨σ1, e1, q1⟩ := m_gat0 hi (d + 14)
    have l3 := q1.capv hi
    obtain ⟨σ2, e2, o2, q2, f2, -⟩ := q1.best hi (d + 13) (cp := X 0 3) cw h.tc ⟨h.cp.1, Int.le_refl _⟩
    have hl2 : m_land (z_upd σ2 1 25 0) X := m_land_off (b := 25) (lo := 20) (hi := 20) (m_off_upd (by omega)) (by omega) (by omega) (q2.land hi)
    obtain ⟨σ3, e3, r3, o3⟩ := m_tellTolls (l := []) (m := (z_side X w (-1))) (t := z_ht (z_Dm X (-1)) (X 0 4) (z_Dm X (-1)).mn (z_side X w (-1)) (z_side X w (-1)) (X 0 3) (X 7)) h.1 hl2 m_rw0 (by simp) (d + 17) (Or.inr rfl) (fun k k0 k1 => by rw [z_upd_ne (by omega)]; exact f2 k k0 k1) (Or.inr ⟨cw, rfl⟩)
    refine m_does_row hi z_upd_same ?_ (m_ofr_ro (m_ofr_ro (m_ofr_of q2.1) m_ro0) o3) (fun k k0 k1 => by rw [o3 _ _ (by omega) (by omega), z_upd_ne (by omega)]; exact q2.2.2.2.1 k k0 k1) (by rw [o3 _ _ (by omega) (by omega), z_upd_ne (by omega)]; exact q2.2.2.2.2) r3 z_tl5
    simp (disch := omega) only [z_E1255, k, if_pos, e1, l3, e2, e3, z_fdM, z_pdM, z_adM, z_sdM, z_lkM, z_ndM, z_gdM, z_cI_some', z_cV_some', z_w_ok, Int.reduceAdd, Int.reduceSub, Int.reduceMul, Int.reduceNeg, Int.reduceEq, Int.reduceLT, Int.reduceLE, Int.reduceNe, reduceIte, true_and, and_true, false_and, and_false, if_true, if_false, ne_eq, not_true_eq_false, not_false_eq_true]
  · rw [if_neg c] at k ⊢
    refine ⟨_, ?_, hi, z_upd_same⟩
    simp (disch := omega) only [z_E1255, k, z_fdM, z_pdM, z_adM, z_sdM, z_lkM, z_ndM, z_gdM, z_cI_some', z_cV_some', z_w_ok, Int.reduceAdd, Int.reduceSub, Int.reduceMul, Int.reduceNeg, Int.reduceEq, Int.reduceLT, Int.reduceLE, Int.reduceNe, reduceIte, true_and, and_true, false_and, and_false, if_true, if_false, ne_eq, not_true_eq_false, not_false_eq_true]
theorem m_inv_gen (h : m_inv σ X) (he : z_eqd X X') (h3 : X' 0 3 = X 0 3) (hw' : z_wf X') (o : ∀ a i : Int, a ≠ 8 → a ≠ 18 → a ≠ 19 → a ≠ 20 → (a < 35 ∨ 57 < a) → (a ≠ 1 ∨ i = 5 ∨ i = 8 ∨ i = 9 ∨ i = 20) → σ' a i = σ a i) (ht : m_t σ' (X' 7)) (h40 : σ' 40 0 = 0) (h10 : σ' 1 10 = X' 0 4) (h18 : ∀ w, 0 ≤ w → w < 10 → σ' 18 w = X' 17 w) (h23 : σ' 1 23 = X' 0 5) (h19 : ∀ i, 0 ≤ i → i < X' 0 5 → σ' 19 i = z_b8 (X' 18 i)) (h25 : σ' 1 25 = X' 0 6) (h20 : ∀ i, 0 ≤ i → i < X' 0 6 → σ' 20 i = X' 19 i) : m_inv σ' X' := by
  obtain ⟨a1, a2, a3, -⟩ := h
  have e : ∀ a i : Int, a ≠ 8 → (a < 18 ∨ 20 < a) → (a < 35 ∨ 57 < a) → (a ≠ 1 ∨ i = 5 ∨ i = 8 ∨ i = 9 ∨ i = 20) → σ' a i = σ a i := fun a i h1 h2 h3 h4 => o a i h1 (by omega) (by omega) (by omega) h3 h4
  have hl' : m_land σ' X := by
    obtain ⟨⟨l1, l2, l3, l4⟩, l5, l6, l7⟩ := a2
    refine ⟨⟨by rw [e _ _ (by omega) (by omega) (by omega) (by omega)]; exact l1, by rw [e _ _ (by omega) (by omega) (by omega) (by omega)]; exact l2, by rw [e _ _ (by omega) (by omega) (by omega) (by omega)]; exact l3, by rw [e _ _ (by omega) (by omega) (by omega) (by omega)]; exact l4⟩, fun r r0 r1 => ?_, fun k k0 k1 => by rw [e _ _ (by omega) (by omega) (by omega) (by omega)]; exact l6 k k0 k1, fun j j0 j1 => ?_⟩
    · rw [e 2 _ (by omega) (by omega) (by omega) (by omega), e 3 _ (by omega) (by omega) (by omega) (by omega), e 4 _ (by omega) (by omega) (by omega) (by omega), e 5 _ (by omega) (by omega) (by omega) (by omega), e 6 _ (by omega) (by omega) (by omega) (by omega)]
      exact l5 r r0 r1
    · rw [e 9 _ (by omega) (by omega) (by omega) (by omega), e 10 _ (by omega) (by omega) (by omega) (by omega), e 11 _ (by omega) (by omega) (by omega) (by omega), e 12 _ (by omega) (by omega) (by omega) (by omega), e 13 _ (by omega) (by omega) (by omega) (by omega), e 14 _ (by omega) (by omega) (by omega) (by omega), e 15 _ (by omega) (by omega) (by omega) (by omega), e 16 _ (by omega) (by omega) (by omega) (by omega), e 17 _ (by omega) (by omega) (by omega) (by omega)]
      exact l7 j j0 j1
  have hy' : m_ways σ' X := fun j j0 j1 => by
    obtain ⟨y1, y2, y3⟩ := a3 j j0 j1
    refine ⟨by rw [e _ _ (by omega) (by omega) (by omega) (by omega)]; exact y1, y2, fun i hi => ?_⟩
    obtain ⟨w1, w2⟩ := y3 i hi
    exact ⟨by rw [e _ _ (by omega) (by omega) (by omega) (by omega)]; exact w1, fun p hp => by rw [e _ _ (by omega) (by omega) (by omega) (by omega)]; exact w2 p hp⟩
  exact ⟨hw', m_land_eqd he h3 hl', m_ways_eqd he hy', ht, h40, h10, h18, h23, h19, h25, h20⟩
theorem z_wf_setT (hw : z_wf X) (htc : z_tcap (X 0 3) t) (hbey : ∀ k, X 0 1 ≤ k → k < 5 → t k = 0) : z_wf (z_setT X t) := by
  have hn := hw.2.1
  have ha : ∀ a i, a ≠ 7 → z_setT X t a i = X a i := fun a i h => if_neg h
  have h7 : ∀ k, 0 ≤ k → k < 5 → z_setT X t 7 k = t k := fun k k0 k1 => by unfold z_setT; rw [if_pos rfl, if_pos ⟨k0, k1⟩]
  have he : z_eqd X (z_setT X t) := ⟨fun a h => by funext i; exact ha a i (by omega), fun i _ _ => ha _ _ (by omega)⟩
  exact z_wf_gen hw he (by rw [ha _ _ (by omega)]; exact hw.2.2.2.1) (by rw [ha _ _ (by omega)]; exact hw.2.2.2.2.1) (by rw [ha _ _ (by omega)]; exact hw.2.2.2.2.2.1) (by rw [ha _ _ (by omega)]; exact hw.2.2.2.2.2.2.1) (fun k k0 k1 => by rw [h7 k k0 k1, ha _ _ (by omega)]; exact htc k k0 k1) (fun k k0 k1 => by rw [h7 k (by omega) k1]; exact hbey k k0 k1) (fun u w0 w1 => by rw [ha _ _ (by omega)]; exact hw.2.2.2.2.2.2.2.2.2.2.2.2.2.2.1 u w0 w1) (fun i i0 i1 => by rw [ha _ _ (by omega)] at i1; rw [ha _ _ (by omega)]; exact hw.2.2.2.2.2.2.2.2.2.2.2.2.2.2.2 i i0 i1)
theorem M_set (h : m_inv σ X) (d : Nat) (w : Int) : m_does (z_ev z_hcM (d + 20) 1256 [z_R 1, z_I w] z_hdM σ) (s_set X w) := by
  have hi := m_inv_thr h
  have k := m_canSet (d + 17) h.1 hi.2.1 w
  unfold s_set
  by_cases c : z_seek X w = true
  · rw [if_pos c] at k ⊢
    have cw := (z_seek_t.mp c).1
    obtain ⟨σ1, e1, q1⟩ := m_gat0 hi (d + 14)
    have l3 := q1.capv hi
    obtain ⟨σ2, e2, o2, q2, f2, -⟩ := q1.best hi (d + 13) (cp := X 0 3) cw h.tc ⟨h.cp.1, Int.le_refl _⟩
    have i2 := q2.fin hi
    rw [z_upd_same] at i2
    have hcap : z_tcap (X 0 3) (z_ht (z_Dm X (-1)) (X 0 4) (z_Dm X (-1)).mn (z_side X w (-1)) (z_side X w (-1)) (X 0 3) (X 7)) := z_ti_cap (Int.le_refl _) h.cp.1 h.tc _
    have hbey : ∀ k, X 0 1 ≤ k → k < 5 → z_ht (z_Dm X (-1)) (X 0 4) (z_Dm X (-1)).mn (z_side X w (-1)) (z_side X w (-1)) (X 0 3) (X 7) k = 0 := fun k k0 k1 => by
      have hn := h.1.2.1
      have hb := z_side_b0 h.1 (w := w) (k := k.toNat) (by omega)
      rw [Int.toNat_of_nonneg (by omega)] at hb
      unfold z_ht
      rw [z_ti_keep hb]
      exact h.1.2.2.2.2.2.2.2.2.2.2.2.2.1 k k0 k1
    generalize hgt : z_ht (z_Dm X (-1)) (X 0 4) (z_Dm X (-1)).mn (z_side X w (-1)) (z_side X w (-1)) (X 0 3) (X 7) = t at *
    have ha : ∀ a i, a ≠ 7 → z_setT X t a i = X a i := fun a i h => if_neg h
    have h7 : ∀ k, 0 ≤ k → k < 5 → z_setT X t 7 k = t k := fun k k0 k1 => by unfold z_setT; rw [if_pos rfl, if_pos ⟨k0, k1⟩]
    have he : z_eqd X (z_setT X t) := ⟨fun a h => by funext i; exact ha a i (by omega), fun i _ _ => ha _ _ (by omega)⟩
    obtain ⟨σ3, e3, o3, t3⟩ := z_for (fun (k : Nat) (x : z_S) => z_go (z_ev z_hcM (d + 19)) z_hcM 1256 32 [z_R 1, z_I w, z_I (z_hv (z_Dm X (-1)) (X 0 4) (z_Dm X (-1)).mn (z_side X w (-1)) (z_side X w (-1)) (X 0 3) (X 7)), z_I k] [] z_hdM x) (fun x => some (z_I (z_hv (z_Dm X (-1)) (X 0 4) (z_Dm X (-1)).mn (z_side X w (-1)) (z_side X w (-1)) (X 0 3) (X 7)), z_hdM, x)) (fun k x => (∀ a i, a ≠ 8 → x a i = σ2 a i) ∧ ∀ j : Int, 0 ≤ j → j < k → x 8 j = t j) 5 (s := σ2) ⟨fun _ _ _ => rfl, fun j j0 j1 => absurd j1 (by omega)⟩
      (fun k x hk ⟨ho, hx⟩ => by
        have e45 : x 45 k = t k := by rw [ho _ _ (by omega)]; exact f2 k (by omega) (by omega)
        refine ⟨z_upd x 8 k (t k), ?_, fun a i ha => by rw [z_upd_ne (by omega)]; exact ho a i ha, fun j j0 j1 => ?_⟩
        · rw [z_B1256_32]
          simp (disch := omega) only [if_neg, e45, z_ns, z_fdM, z_pdM, z_adM, z_sdM, z_lkM, z_ndM, z_gdM, z_cI_some', z_cV_some', z_w_ok, Int.reduceAdd, Int.reduceSub, Int.reduceMul, Int.reduceNeg, Int.reduceEq, Int.reduceLT, Int.reduceLE, Int.reduceNe, reduceIte, true_and, and_true, false_and, and_false, if_true, if_false, ne_eq, not_true_eq_false, not_false_eq_true]
        · by_cases cj : j = k
          · rw [cj, z_upd_same]
          · rw [z_upd_ne (by omega)]; exact hx j j0 (by omega)) (fun x _ => by
        rw [z_B1256_32]
        simp (disch := omega) only [if_pos, z_fdM, z_pdM, z_adM, z_sdM, z_lkM, z_ndM, z_gdM, z_cI_some', z_cV_some', z_w_ok, Int.reduceAdd, Int.reduceSub, Int.reduceMul, Int.reduceNeg, Int.reduceEq, Int.reduceLT, Int.reduceLE, Int.reduceNe, reduceIte, true_and, and_true, false_and, and_false, if_true, if_false, ne_eq, not_true_eq_false, not_false_eq_true])
    obtain ⟨j1, j2, j3, j4, j5, j6, j7, j8, j9, j10, j11⟩ := id i2.1
    refine ⟨σ3, ?_, m_inv_gen (X' := z_setT X t) i2.1 he (ha _ _ (by omega)) (z_wf_setT h.1 hcap hbey) (fun a i h1 _ _ _ _ _ => o3 a i h1) (fun k k0 k1 => by rw [t3 k k0 (by omega), h7 k k0 k1]) (by rw [o3 _ _ (by omega)]; exact j5) (by rw [o3 _ _ (by omega), ha _ _ (by omega)]; exact j6) (fun u u0 u1 => by rw [o3 _ _ (by omega), ha _ _ (by omega)]; exact j7 u u0 u1) (by rw [o3 _ _ (by omega), ha _ _ (by omega)]; exact j8) (fun i i0 i1 => by rw [ha _ _ (by omega)] at i1; rw [o3 _ _ (by omega), ha _ _ (by omega)]; exact j9 i i0 i1) (by rw [o3 _ _ (by omega), ha _ _ (by omega)]; exact j10) (fun i i0 i1 => by rw [ha _ _ (by omega)] at i1; rw [o3 _ _ (by omega), ha _ _ (by omega)]; exact j11 i i0 i1), by rw [o3 _ _ (by omega)]; exact i2.2⟩
    have e3' : z_go (z_ev z_hcM (d + 19)) z_hcM 1256 32 [z_R 1, z_I w, z_I (z_hv (z_Dm X (-1)) (X 0 4) (z_Dm X (-1)).mn (z_side X w (-1)) (z_side X w (-1)) (X 0 3) (X 7)), z_I 0] [] z_hdM σ2 = _ := e3
    rw [← e3']
    simp (disch := omega) only [z_E1256, k, if_pos, e1, l3, e2, z_fdM, z_pdM, z_adM, z_sdM, z_lkM, z_ndM, z_gdM, z_cI_some', z_cV_some', z_w_ok, Int.reduceAdd, Int.reduceSub, Int.reduceMul, Int.reduceNeg, Int.reduceEq, Int.reduceLT, Int.reduceLE, Int.reduceNe, reduceIte, true_and, and_true, false_and, and_false, if_true, if_false, ne_eq, not_true_eq_false, not_false_eq_true]
  · rw [if_neg c] at k ⊢
    refine ⟨_, ?_, hi, z_upd_same⟩
    simp (disch := omega) only [z_E1256, k, z_fdM, z_pdM, z_adM, z_sdM, z_lkM, z_ndM, z_gdM, z_cI_some', z_cV_some', z_w_ok, Int.reduceAdd, Int.reduceSub, Int.reduceMul, Int.reduceNeg, Int.reduceEq, Int.reduceLT, Int.reduceLE, Int.reduceNe, reduceIte, true_and, and_true, false_and, and_false, if_true, if_false, ne_eq, not_true_eq_false, not_false_eq_true]
theorem M_ties (h : m_inv σ X) (d : Nat) (w : Int) : m_does (z_ev z_hcM (d + 20) 1257 [z_R 1, z_I w] z_hdM σ) (s_ties X w) := by
  have hi := m_inv_thr h
  have k := m_canSet (d + 17) h.1 hi.2.1 w
  unfold s_ties
  by_cases c : z_seek X w = true
  · rw [if_pos c] at k ⊢
    have cw := (z_seek_t.mp c).1
    have hsr := z_side_rng h.1 w (-1)
    have cp := h.cp
    obtain ⟨σ1, e1, q1⟩ := m_gat0 hi (d + 14)
    have l3 := q1.capv hi
    have l10 := q1.lean hi
    have hb : ∀ (σ2 : z_S) (ln : Int), σ2 1 10 = ln → (∃ u, m_off 54 40 45 (z_upd σ1 1 10 u) σ2) → m_t σ2 (X 7) → σ2 40 0 = 0 → ∃ σ', z_ev z_hcM (d + 19) 1253 [z_R 1, z_I w, z_I 0, z_I (X 0 3)] z_hdM σ2 = some (z_I (z_hv (z_Dm X (-1)) ln (z_Dm X (-1)).mn (z_side X w (-1)) (z_side X w (-1)) (X 0 3) (X 7)), z_hdM, σ') ∧ m_off 54 40 45 σ2 σ' ∧ m_t σ' (X 7) ∧ σ' 40 0 = 0 := by
      intro σ2 ln hln ⟨u, ho⟩ ht h40
      have hl1 : m_land (z_upd σ1 1 10 u) X := by
        obtain ⟨⟨p1, p2, p3, p4⟩, p5, p6, p7⟩ := q1.land hi
        exact ⟨⟨by rw [z_upd_ne (by omega)]; exact p1, by rw [z_upd_ne (by omega)]; exact p2, by rw [z_upd_ne (by omega)]; exact p3, by rw [z_upd_ne (by omega)]; exact p4⟩, fun r r0 r1 => by rw [z_upd_ne (by omega), z_upd_ne (by omega), z_upd_ne (by omega), z_upd_ne (by omega), z_upd_ne (by omega)]; exact p5 r r0 r1, fun k k0 k1 => by rw [z_upd_ne (by omega)]; exact p6 k k0 k1, fun j j0 j1 => by rw [z_upd_ne (by omega), z_upd_ne (by omega), z_upd_ne (by omega), z_upd_ne (by omega), z_upd_ne (by omega), z_upd_ne (by omega), z_upd_ne (by omega), z_upd_ne (by omega), z_upd_ne (by omega)]; exact p7 j j0 j1⟩
      have hT1 : m_tab (z_upd σ1 1 10 u) X (z_Dm X (-1)).op (z_Dm X (-1)).mn (z_Dm X (-1)).gN (z_Dm X (-1)).gj (z_nwD X (-1)) := by
        obtain ⟨p1, p2, p3⟩ := q1.2.1
        refine ⟨by rw [z_upd_ne (by omega)]; exact p1, p2, fun g g0 g1 => ?_⟩
        obtain ⟨r1, r2, r3, r4, r5, r6⟩ := p3 g g0 g1
        refine ⟨r1, r2, ?_, by rw [z_upd_ne (by omega)]; exact r4, r5, r6⟩
        unfold m_gr at *
        have e8 : ∀ i, z_upd σ1 1 10 u 38 i = σ1 38 i := fun i => z_upd_ne (by omega)
        have e9 : ∀ i, z_upd σ1 1 10 u 39 i = σ1 39 i := fun i => z_upd_ne (by omega)
        simp only [e8, e9]
        exact r3
      obtain ⟨σ', e, o, ht', z, -⟩ := m_bestOf (σ := σ2) (X := X) (t := X 7) (T := X 7) (h := w) (free := 0) (cp := (X 0 3)) (mv := (z_side X w (-1))) (d + 13) h.1 (m_land_off ho (by omega) (by omega) hl1) (m_tab_off ho (by omega) (by omega) hT1) ht h.tc h40 cw (by omega) ⟨cp.1, Int.le_refl _⟩ ⟨hsr.1, hsr.2.2⟩ (m_mvb h.1) (fun k k0 _ => m_ti0 h.1 k k0)
      rw [hln] at e
      exact ⟨σ', e, o, ht', z⟩
    obtain ⟨σ2, e2, o2, t2, z2⟩ := hb (z_upd σ1 1 10 1) 1 z_upd_same ⟨1, m_off_refl⟩ (fun k k0 k1 => by rw [z_upd_ne (by omega)]; exact q1.2.2.2.1 k k0 k1) (by rw [z_upd_ne (by omega)]; exact q1.2.2.2.2)
    have o2' : m_off 54 40 45 (z_upd σ1 1 10 0) (z_upd σ2 1 10 0) := fun a i h1 h2 h3 => by
      by_cases c1 : a = 1 ∧ i = 10
      · rw [c1.1, c1.2, z_upd_same, z_upd_same]
      · rw [z_upd_ne (by omega), z_upd_ne (by omega), o2 a i h1 h2 h3, z_upd_ne (by omega)]
    obtain ⟨σ3, e3, o3, t3, z3⟩ := hb (z_upd σ2 1 10 0) 0 z_upd_same ⟨0, o2'⟩ (fun k k0 k1 => by rw [z_upd_ne (by omega)]; exact t2 k k0 k1) (by rw [z_upd_ne (by omega)]; exact z2)
    have o4 : m_off 54 40 45 σ1 (z_upd σ3 1 10 (X 0 4)) := fun a i h1 h2 h3 => by
      by_cases c1 : a = 1 ∧ i = 10
      · rw [c1.1, c1.2, z_upd_same, l10]
      · rw [z_upd_ne (by omega), o3 a i h1 h2 h3, o2' a i h1 h2 h3, z_upd_ne (by omega)]
    have q4 : m_on (z_upd σ 1 26 0) (z_upd σ3 1 10 (X 0 4)) X (z_Dm X (-1)) (z_nwD X (-1)) (X 7) := q1.keep (m_off_le o4 (by omega) (by omega) (by omega)) (fun k k0 k1 => by rw [z_upd_ne (by omega)]; exact t3 k k0 k1) (by rw [z_upd_ne (by omega)]; exact z3)
    have l3a : z_upd σ1 1 10 1 1 9 = X 0 3 := by rw [z_upd_ne (by omega)]; exact l3
    have l3b : z_upd σ2 1 10 0 1 9 = X 0 3 := by rw [z_upd_ne (by omega), m_at o2 (by omega)]; exact l3a
    have hti : ∀ i, c_t20 (z_ti (z_side X w (-1)) (X 0 3) (X 7) i) := fun i => z_tcap_20 cp.2 (z_ti_cap (Int.le_refl _) cp.1 h.tc i)
    have v1 : 0 ≤ z_hv (z_Dm X (-1)) 1 (z_Dm X (-1)).mn (z_side X w (-1)) (z_side X w (-1)) (X 0 3) (X 7) ∧ z_hv (z_Dm X (-1)) 1 (z_Dm X (-1)).mn (z_side X w (-1)) (z_side X w (-1)) (X 0 3) (X 7) ≤ 480000000 := q1.brt hi (hti _) 1 (z_side X w (-1))
    have v2 : 0 ≤ z_hv (z_Dm X (-1)) 0 (z_Dm X (-1)).mn (z_side X w (-1)) (z_side X w (-1)) (X 0 3) (X 7) ∧ z_hv (z_Dm X (-1)) 0 (z_Dm X (-1)).mn (z_side X w (-1)) (z_side X w (-1)) (X 0 3) (X 7) ≤ 480000000 := q1.brt hi (hti _) 0 (z_side X w (-1))
    refine m_does_on hi z_upd_same ?_ q4
    simp (disch := omega) only [z_E1257, k, if_pos, e1, l10, l3a, e2, l3b, e3, z_fdM, z_pdM, z_adM, z_sdM, z_lkM, z_ndM, z_gdM, z_cI_some', z_cV_some', z_w_ok, Int.reduceAdd, Int.reduceSub, Int.reduceMul, Int.reduceNeg, Int.reduceEq, Int.reduceLT, Int.reduceLE, Int.reduceNe, reduceIte, true_and, and_true, false_and, and_false, if_true, if_false, ne_eq, not_true_eq_false, not_false_eq_true]
  · rw [if_neg c] at k ⊢
    refine ⟨_, ?_, hi, z_upd_same⟩
    simp (disch := omega) only [z_E1257, k, z_fdM, z_pdM, z_adM, z_sdM, z_lkM, z_ndM, z_gdM, z_cI_some', z_cV_some', z_w_ok, Int.reduceAdd, Int.reduceSub, Int.reduceMul, Int.reduceNeg, Int.reduceEq, Int.reduceLT, Int.reduceLE, Int.reduceNe, reduceIte, true_and, and_true, false_and, and_false, if_true, if_false, ne_eq, not_true_eq_false, not_false_eq_true]
end
