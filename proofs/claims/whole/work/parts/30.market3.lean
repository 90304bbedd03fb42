theorem c_mbegin {σ : z_S} (d : Nat) {ln a1 mv cp n : Int} {t : Int → Int} (ha : z_arr5 a1) (ht : c_t20 t) (hln : ln = 0 ∨ ln = 1) (hn : 0 ≤ n ∧ n ≤ 5) (hmv : 0 ≤ mv ∧ mv < 32) (hcp : 0 ≤ cp ∧ cp ≤ 20) (h3 : σ 59 3 = n) (h61 : σ 61 0 = 0) (h62 : σ 62 0 = 0) (hA : ∀ i : Int, 0 ≤ i → i < 5 → σ a1 i = t i) (hl : σ 58 5 = ln) :
    ∃ σ', z_ev z_hcC (d + 3) 405 [z_R 58, z_R a1, z_I mv, z_I cp] z_hdC σ = some (z_I ((cp + 1) ^ (z_pc mv).toNat), z_hdC, σ') ∧ z_off 59 62 σ σ' ∧ c_sets σ' (z_t0 mv t) n mv cp (z_lf ln) := by
  obtain ⟨σ', g1, g2, g3⟩ := c_begin d ha ht hln hn hmv hcp h3 h61 h62 hA
  refine ⟨σ', ?_, g2, g3⟩
  simp (disch := omega) only [z_E405, hl, g1, z_fdC, z_pdC, z_adC, z_sdC, z_lkC, z_ndC, z_gdC, z_mdC, z_cI_some', z_cV_some', z_w_ok, Int.reduceAdd, Int.reduceSub, Int.reduceMul, Int.reduceNeg, Int.reduceEq, Int.reduceLT, Int.reduceLE, Int.reduceNe, reduceIte, true_and, and_true, false_and, and_false, if_true, if_false, ne_eq, not_true_eq_false, not_false_eq_true]
theorem z_t0_0 {t : Int → Int} {k : Int} : z_t0 0 t k = t k := by
  unfold z_t0 z_bt
  simp
/-- Market.fix: all is asked by these tolls -/
theorem c_fix {σ : z_S} (d : Nat) {q ln a1 n cap : Int} {t : Int → Int} (hq : q = 7 ∨ q = 27) (ha : z_arr5 a1) (ht : c_t20 t) (hln : ln = 0 ∨ ln = 1) (hn : 0 ≤ n ∧ n ≤ 5) (hcap : 0 ≤ cap ∧ cap ≤ 20) (h3 : σ 59 3 = n) (h61 : σ 61 0 = 0) (h62 : σ 62 0 = 0) (hA : ∀ i : Int, 0 ≤ i → i < 5 → σ a1 i = t i) (hl : σ 58 5 = ln) (hr : σ 58 2 = q) (hc : σ q 2 = cap) :
    ∃ σ', z_ev z_hcC (d + 3) 404 [z_R 58, z_R a1] z_hdC σ = some (z_U, z_hdC, σ') ∧ z_off 59 62 σ σ' ∧ c_sets σ' t n 0 cap (z_lf ln) := by
  obtain ⟨σ', g1, g2, g3⟩ := c_begin (mv := 0) d ha ht hln hn (by omega) hcap h3 h61 h62 hA
  refine ⟨σ', ?_, g2, ?_⟩
  · rcases hq with rfl | rfl <;> simp (disch := omega) only [z_E404, hl, hr, hc, g1, z_fdC, z_pdC, z_adC, z_sdC, z_lkC, z_ndC, z_gdC, z_mdC, z_cI_some', z_cV_some', z_w_ok, Int.reduceAdd, Int.reduceSub, Int.reduceMul, Int.reduceNeg, Int.reduceEq, Int.reduceLT, Int.reduceLE, Int.reduceNe, reduceIte, true_and, and_true, false_and, and_false, if_true, if_false, ne_eq, not_true_eq_false, not_false_eq_true]
  · have e : z_t0 0 t = t := funext fun k => z_t0_0
    rw [e] at g3
    exact g3
theorem c_keep {σ : z_S} (d : Nat) : z_ev z_hcC (d + 1) 413 [z_R 58] z_hdC σ = some (z_U, z_hdC, z_cpy σ 60 0 63 0 5) := by
  have h : ∀ {β : Type} {σ : z_S} {k : z_S → Option β}, z_cp z_hdC σ 60 0 63 0 5 k = k (z_cpy σ 60 0 63 0 5) := fun {_ _ _} => if_pos ⟨rfl, rfl, by decide, by decide, by decide, by decide, by decide⟩
  simp (disch := omega) only [z_E413, h, z_fdC, z_pdC, z_adC, z_sdC, z_lkC, z_ndC, z_gdC, z_mdC, z_cI_some', z_cV_some', z_w_ok, Int.reduceAdd, Int.reduceSub, Int.reduceMul, Int.reduceNeg, Int.reduceEq, Int.reduceLT, Int.reduceLE, Int.reduceNe, reduceIte, true_and, and_true, false_and, and_false, if_true, if_false, ne_eq, not_true_eq_false, not_false_eq_true]
/-- Market.hunt -/
theorem c_hunt {σ : z_S} (d : Nat) {op : Int → z_Opt} {mn share : Int → Int} {gN cap n mv cp lean q side a1 : Int} {t : Int → Int} (ha : z_arr5 a1) (hT : c_tab σ op mn gN cap n) (hM : c_mk σ q lean share gN) (htc : z_tcap cap t) (hside : 0 ≤ side ∧ side < 32) (hmv : 0 ≤ mv ∧ mv < 32) (hcp : 0 ≤ cp ∧ cp ≤ cap)
    (htot : (cp + 1) ^ (z_pc mv).toNat ≤ 20000) (h3 : σ 59 3 = n) (h61 : σ 61 0 = 0) (h62 : σ 62 0 = 0) (hA : ∀ i : Int, 0 ≤ i → i < 5 → σ a1 i = t i) :
    ∃ σ', z_ev z_hcC (d + 4) 412 [z_R 58, z_R a1, z_I side, z_I mv, z_I cp] z_hdC σ = some (z_I (z_brt op share gN lean side (z_ti mv cp t (z_am (fun i => z_brt op share gN lean side (z_ti mv cp t i)) ((cp + 1) ^ (z_pc mv).toNat).toNat))), z_hdC, σ') ∧ z_off 59 63 σ σ' ∧
      (∀ k : Int, 0 ≤ k → k < 5 → σ' 63 k = z_ti mv cp t (z_am (fun i => z_brt op share gN lean side (z_ti mv cp t i)) ((cp + 1) ^ (z_pc mv).toNat).toNat) k) ∧ c_sets σ' (z_ti mv cp t ((cp + 1) ^ (z_pc mv).toNat).toNat) n mv cp (z_lf lean) := by
  have hgN := hT.2.1
  have hn := hT.2.2.1
  have hcap := hT.2.2.2.1
  have hlean := hM.2.2.2.1
  obtain ⟨σ1, g1, g2, g3⟩ := c_mbegin (mv := mv) (cp := cp) (d) ha (z_tcap_20 hcap.2 htc) hlean hn hmv (by omega) h3 h61 h62 hA hM.2.2.1
  have htp : 0 < (cp + 1) ^ (z_pc mv).toNat := Int.pow_pos (by omega)
  generalize hTot : (cp + 1) ^ (z_pc mv).toNat = tot at htot htp g1 ⊢
  have hcap' : ∀ i, z_tcap cap (z_ti mv cp t i) := z_ti_cap hcp.2 hcap.1 htc
  have hpos : ∀ i, 0 ≤ z_brt op share gN lean side (z_ti mv cp t i) := fun i => (z_brt_rng hgN (fun g a b => (hM.2.2.2.2 g a b).2) (z_tcap_20 hcap.2 (hcap' i)) (k := gN.toNat) (by omega)).1
  have go : ∀ (j i : Nat) (most : Int) (u : z_V) (σ : z_S), (i : Int) + j = tot → c_tab σ op mn gN cap n → c_mk σ q lean share gN → c_sets σ (z_ti mv cp t i) n mv cp (z_lf lean) →
      ((i = 0 ∧ most = -1) ∨ (0 < i ∧ most = z_brt op share gN lean side (z_ti mv cp t (z_am (fun i => z_brt op share gN lean side (z_ti mv cp t i)) i)) ∧ ∀ k : Int, 0 ≤ k → k < 5 → σ 63 k = z_ti mv cp t (z_am (fun i => z_brt op share gN lean side (z_ti mv cp t i)) i) k)) →
      ∃ σ', z_go (z_ev z_hcC (d + 3)) z_hcC 412 16 [z_R 58, z_R a1, z_I side, z_I mv, z_I cp, z_I tot, z_I most, z_I i, u] [] z_hdC σ = some (z_I (z_brt op share gN lean side (z_ti mv cp t (z_am (fun i => z_brt op share gN lean side (z_ti mv cp t i)) tot.toNat))), z_hdC, σ') ∧ z_off 59 63 σ σ' ∧
        (∀ k : Int, 0 ≤ k → k < 5 → σ' 63 k = z_ti mv cp t (z_am (fun i => z_brt op share gN lean side (z_ti mv cp t i)) tot.toNat) k) ∧ c_sets σ' (z_ti mv cp t tot.toNat) n mv cp (z_lf lean) := by
    intro j
    induction j with
    | zero =>
      intro i most u σ hi hT hM hs hI
      have hit : tot.toNat = i := by omega
      rcases hI with ⟨h, -⟩ | ⟨h, hmost, hfound⟩
      · omega
      · rw [hit]
        refine ⟨σ, ?_, z_off_refl, hfound, hs⟩
        rw [z_B412_16, if_pos (by omega), hmost]
    | succ j ih =>
      intro i most u σ hi hT hM hs hI
      have hb := c_brought d (side := side) hT hM hs (hcap' i) hside
      have hpi := hpos i
      have hx : ((i + 1 : Nat) : Int) = (i : Int) + 1 := by omega
      rw [z_B412_16]
      by_cases hlt : z_brt op share gN lean side (z_ti mv cp t i) ≤ most
      · have hi0 : 0 < i := by
          rcases hI with ⟨h, hm⟩ | ⟨h, -⟩
          · omega
          · exact h
        obtain ⟨σ2, k1, k2, k3⟩ := c_next (d + 1) hs
        obtain ⟨σ', r1, r2, r3, r4⟩ := ih (i + 1) most (z_I (z_brt op share gN lean side (z_ti mv cp t i))) σ2 (by omega) (c_tab_off k2 (by omega) hT) (c_mk_off k2 (by omega) hM) k3 (by
          right
          rcases hI with ⟨h, hm⟩ | ⟨h, hm, hf⟩
          · omega
          · have ham : z_am (fun i => z_brt op share gN lean side (z_ti mv cp t i)) (i + 1) = z_am (fun i => z_brt op share gN lean side (z_ti mv cp t i)) i := z_am_keep (by rw [hm] at hlt; exact hlt)
            rw [ham]
            exact ⟨by omega, hm, fun k k0 k1 => by rw [k2 _ _ (by omega)]; exact hf k k0 k1⟩)
        refine ⟨σ', ?_, z_off_trans (z_off_le k2 (by omega) (by omega)) r2, r3, r4⟩
        rw [← r1, hx]
        simp (disch := omega) only [if_neg, if_pos, hb, k1, z_fdC, z_pdC, z_adC, z_sdC, z_lkC, z_ndC, z_gdC, z_mdC, z_cI_some', z_cV_some', z_w_ok, Int.reduceAdd, Int.reduceSub, Int.reduceMul, Int.reduceNeg, Int.reduceEq, Int.reduceLT, Int.reduceLE, Int.reduceNe, reduceIte, true_and, and_true, false_and, and_false, if_true, if_false, ne_eq, not_true_eq_false, not_false_eq_true]
      · have hk := c_keep (σ := σ) (d + 2)
        have hoff : z_off 63 63 σ (z_cpy σ 60 0 63 0 5) := fun a b h => by rw [z_cpy_at, if_neg (by omega)]
        have hs2 := c_sets_off hoff (by omega) hs
        obtain ⟨σ2, k1, k2, k3⟩ := c_next (d + 1) hs2
        obtain ⟨σ', r1, r2, r3, r4⟩ := ih (i + 1) (z_brt op share gN lean side (z_ti mv cp t i)) (z_I (z_brt op share gN lean side (z_ti mv cp t i))) σ2 (by omega) (c_tab_off k2 (by omega) (c_tab_off hoff (by omega) hT)) (c_mk_off k2 (by omega) (c_mk_off hoff (by omega) hM)) k3 (by
          right
          have ham : z_am (fun i => z_brt op share gN lean side (z_ti mv cp t i)) (i + 1) = i := by
            rcases hI with ⟨h, hm⟩ | ⟨h, hm, hf⟩
            · subst h
              show (if _ then _ else _) = _
              split <;> rfl
            · exact z_am_new (by rw [hm] at hlt; exact Int.not_le.mp hlt)
          rw [ham]
          refine ⟨by omega, rfl, fun k k0 k1 => ?_⟩
          rw [k2 _ _ (by omega), z_cpy_at, if_pos (by omega), show 0 + (k - 0) = k by omega]
          exact hs.2.2.2.2.1 k k0 k1)
        refine ⟨σ', ?_, z_off_trans (z_off_le hoff (by omega) (by omega)) (z_off_trans (z_off_le k2 (by omega) (by omega)) r2), r3, r4⟩
        rw [← r1, hx]
        simp (disch := omega) only [if_neg, if_pos, hb, hk, k1, z_fdC, z_pdC, z_adC, z_sdC, z_lkC, z_ndC, z_gdC, z_mdC, z_cI_some', z_cV_some', z_w_ok, Int.reduceAdd, Int.reduceSub, Int.reduceMul, Int.reduceNeg, Int.reduceEq, Int.reduceLT, Int.reduceLE, Int.reduceNe, reduceIte, true_and, and_true, false_and, and_false, if_true, if_false, ne_eq, not_true_eq_false, not_false_eq_true]
  obtain ⟨σ', r1, r2, r3, r4⟩ := go tot.toNat 0 (-1) z_U σ1 (by omega) (c_tab_off g2 (by omega) hT) (c_mk_off g2 (by omega) hM) g3 (Or.inl ⟨rfl, rfl⟩)
  refine ⟨σ', ?_, z_off_trans (z_off_le g2 (by omega) (by omega)) r2, r3, r4⟩
  rw [← r1]
  simp (disch := omega) only [z_E412, g1, z_fdC, z_pdC, z_adC, z_sdC, z_lkC, z_ndC, z_gdC, z_mdC, z_cI_some', z_cV_some', z_w_ok, Int.reduceAdd, Int.reduceSub, Int.reduceMul, Int.reduceNeg, Int.reduceEq, Int.reduceLT, Int.reduceLE, Int.reduceNe, reduceIte, true_and, and_true, false_and, and_false, if_true, if_false, ne_eq, not_true_eq_false, not_false_eq_true]
  rfl
