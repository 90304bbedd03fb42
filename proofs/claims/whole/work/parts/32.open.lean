theorem z_upd_same {σ : z_S} {a i v : Int} : z_upd σ a i v a i = v := if_pos ⟨rfl, rfl⟩
theorem z_upd_ne {σ : z_S} {a i v b j : Int} (h : b ≠ a ∨ j ≠ i) : z_upd σ a i v b j = σ b j := if_neg (fun z => by rcases h with h | h; exact h z.1; exact h z.2)
/-- a loop that fills the shares -/
theorem c_shares {σ : z_S} {share : Int → Int} {gN : Int} {F : Int → z_S → Option z_Res} {R : z_S → Option z_Res} (hgN : 0 ≤ gN ∧ gN ≤ 48)
    (hend : ∀ σ', z_off 64 64 σ σ' → F gN σ' = R σ') (hstep : ∀ (k : Int) (σ' : z_S), 0 ≤ k → k < gN → z_off 64 64 σ σ' → F k σ' = F (k + 1) (z_upd σ' 64 k (share k))) :
    ∃ σ', F 0 σ = R σ' ∧ z_off 64 64 σ σ' ∧ ∀ g, 0 ≤ g → g < gN → σ' 64 g = share g := by
  have go : ∀ (j : Nat) (k : Int) (σ1 : z_S), 0 ≤ k → k + j = gN → z_off 64 64 σ σ1 → (∀ g, 0 ≤ g → g < k → σ1 64 g = share g) → ∃ σ', F k σ1 = R σ' ∧ z_off 64 64 σ σ' ∧ ∀ g, 0 ≤ g → g < gN → σ' 64 g = share g := by
    intro j
    induction j with
    | zero =>
      intro k σ1 h0 hk ho hs
      have : k = gN := by omega
      subst this
      exact ⟨σ1, hend σ1 ho, ho, hs⟩
    | succ j ih =>
      intro k σ1 h0 hk ho hs
      obtain ⟨σ', g1, g2, g3⟩ := ih (k + 1) (z_upd σ1 64 k (share k)) (by omega) (by omega) (z_off_trans ho (z_off_upd (by omega) (by omega))) (fun g g0 g1 => by
        by_cases hg : g = k
        · subst hg; rw [z_upd_same]
        · rw [z_upd_ne (Or.inr hg)]; exact hs g g0 (by omega))
      exact ⟨σ', by rw [hstep k σ1 h0 (by omega) ho]; exact g1, g2, g3⟩
  exact go gN.toNat 0 σ (by omega) (by omega) z_off_refl (fun g g0 g1 => by omega)
/-- Market.open: all goers, the tolls of now -/
theorem c_open {σ X : z_S} {L ln gN : Int} {op : Int → z_Opt} {mn : Int → Int} (d : Nat) (hL : L = 6 ∨ L = 26) (hw : z_wf X) (hl : c_land σ L X) (hln : ln = 0 ∨ ln = 1) (hT : c_tab σ op mn gN (X 0 3) (X 0 1)) (h61 : σ 61 0 = 0) (h62 : σ 62 0 = 0) :
    ∃ σ', z_ev z_hcC (d + 4) 401 [z_R 58, z_R (L + 1), z_I ln] z_hdC σ = some (z_U, z_hdC, σ') ∧ z_off 58 64 σ σ' ∧ c_mk σ' (L + 1) ln mn gN ∧ c_sets σ' (X 7) (X 0 1) 0 (X 0 3) (z_lf ln) := by
  have hq : L + 1 = 7 ∨ L + 1 = 27 := by omega
  have ht0 := hT.1
  have hgN := hT.2.1
  have htg := hT.2.2.2.2
  have l2 := hl.2.1
  have l3 := hl.2.2.1
  have l7 := hl.2.2.2.2.2.2.1
  obtain ⟨σ', g1, g2, g3⟩ := c_shares (σ := z_upd (z_upd (z_upd σ 58 2 (L + 1)) 58 5 ln) 59 3 (X 0 1)) (share := mn) (F := fun k s => z_go (z_ev z_hcC (d + 3)) z_hcC 401 23 [z_R 58, z_R (L + 1), z_I ln, z_I k] [] z_hdC s)
    (R := fun s => z_cV (z_ev z_hcC (d + 3) 404 [z_R 58, z_R (L + 3)] z_hdC s) (fun h s => some (z_U, h, s))) hgN (fun s ho => by
      have e46 : s 46 0 = gN := by rw [ho _ _ (by omega), z_upd_ne (by omega), z_upd_ne (by omega), z_upd_ne (by omega)]; exact ht0
      have e58 : s 58 2 = L + 1 := by rw [ho _ _ (by omega), z_upd_ne (by omega), z_upd_ne (by omega), z_upd_same]
      rw [z_B401_23]
      rcases hL with rfl | rfl <;> (simp only [Int.reduceAdd] at *; simp (disch := omega) only [if_pos, e46, e58, z_fdC, z_pdC, z_adC, z_sdC, z_lkC, z_ndC, z_gdC, z_mdC, z_cI_some', z_cV_some', z_w_ok, Int.reduceAdd, Int.reduceSub, Int.reduceMul, Int.reduceNeg, Int.reduceEq, Int.reduceLT, Int.reduceLE, Int.reduceNe, reduceIte, true_and, and_true, false_and, and_false, if_true, if_false, ne_eq, not_true_eq_false, not_false_eq_true])) (fun k s k0 k1 ho => by
      have e46 : s 46 0 = gN := by rw [ho _ _ (by omega), z_upd_ne (by omega), z_upd_ne (by omega), z_upd_ne (by omega)]; exact ht0
      have e50 : s 50 k = mn k := by rw [ho _ _ (by omega), z_upd_ne (by omega), z_upd_ne (by omega), z_upd_ne (by omega)]; exact (htg k k0 k1).2.2.2.1
      have h := c_gmanyOf (σ := s) (d + 1) k0 (by rw [e46]; exact k1) (by omega)
      rw [z_B401_23]
      simp (disch := omega) only [if_pos, if_neg, e46, e50, h, z_fdC, z_pdC, z_adC, z_sdC, z_lkC, z_ndC, z_gdC, z_mdC, z_cI_some', z_cV_some', z_w_ok, Int.reduceAdd, Int.reduceSub, Int.reduceMul, Int.reduceNeg, Int.reduceEq, Int.reduceLT, Int.reduceLE, Int.reduceNe, reduceIte, true_and, and_true, false_and, and_false, if_true, if_false, ne_eq, not_true_eq_false, not_false_eq_true])
  have hk : ∀ a i : Int, (a < 58 ∨ 64 < a) → σ' a i = σ a i := fun a i ha => by rw [g2 _ _ (by omega), z_upd_ne (by omega), z_upd_ne (by omega), z_upd_ne (by omega)]
  have hk2 : ∀ a i : Int, (60 ≤ a ∧ a ≤ 63) → σ' a i = σ a i := fun a i ha => by rw [g2 _ _ (by omega), z_upd_ne (by omega), z_upd_ne (by omega), z_upd_ne (by omega)]
  have e582 : σ' 58 2 = L + 1 := by rw [g2 _ _ (by omega), z_upd_ne (by omega), z_upd_ne (by omega), z_upd_same]
  have e585 : σ' 58 5 = ln := by rw [g2 _ _ (by omega), z_upd_ne (by omega), z_upd_same]
  have e593 : σ' 59 3 = X 0 1 := by rw [g2 _ _ (by omega), z_upd_same]
  have ha5 : z_arr5 (L + 3) := by rcases hL with rfl | rfl <;> (unfold z_arr5; omega)
  have ht20 : c_t20 (X 7) := fun k k0 k1 => by have h1 := hw.2.2.2.2.2.2.2.2.2.2.2.1 k k0 k1; have h2 := hw.2.2.2.1; omega
  obtain ⟨σ2, f1, f2, f3⟩ := c_fix (σ := σ') (q := L + 1) (a1 := L + 3) (cap := X 0 3) d hq ha5 ht20 hln hw.2.1 hw.2.2.2.1 e593 (by rw [hk2 _ _ (by omega)]; exact h61) (by rw [hk2 _ _ (by omega)]; exact h62) (fun i i0 i1 => by rw [hk _ _ (by omega)]; exact l7 i i0 i1) e585 e582 (by rw [hk _ _ (by omega)]; exact l3)
  refine ⟨σ2, ?_, fun a i ha => by rw [f2 _ _ (by omega)]; exact hk a i ha, ⟨by rw [f2 _ _ (by omega)]; exact e582, hq, by rw [f2 _ _ (by omega)]; exact e585, hln, fun g a b => ?_⟩, f3⟩
  · have : z_ev z_hcC (d + 4) 401 [z_R 58, z_R (L + 1), z_I ln] z_hdC σ = z_go (z_ev z_hcC (d + 3)) z_hcC 401 23 [z_R 58, z_R (L + 1), z_I ln, z_I 0] [] z_hdC (z_upd (z_upd (z_upd σ 58 2 (L + 1)) 58 5 ln) 59 3 (X 0 1)) := by
      have e : (z_upd (z_upd σ 58 2 (L + 1)) 58 5 ln) (L + 1) 1 = X 0 1 := by rw [z_upd_ne (by omega), z_upd_ne (by omega)]; exact l2
      rcases hL with rfl | rfl <;> (simp only [Int.reduceAdd] at *; simp (disch := omega) only [z_E401, e, z_fdC, z_pdC, z_adC, z_sdC, z_lkC, z_ndC, z_gdC, z_mdC, z_cI_some', z_cV_some', z_w_ok, Int.reduceAdd, Int.reduceSub, Int.reduceMul, Int.reduceNeg, Int.reduceEq, Int.reduceLT, Int.reduceLE, Int.reduceNe, reduceIte, true_and, and_true, false_and, and_false, if_true, if_false, ne_eq, not_true_eq_false, not_false_eq_true])
    rw [this]
    refine g1.trans ?_
    rw [f1]
    rfl
  · have := (htg g a b).2.2.2.2.1
    rw [f2 _ _ (by omega), g3 g a b]
    exact ⟨rfl, by omega, by omega⟩

/-- whose goer g is, and its worth -/
def c_who (σ : z_S) (X : z_S) (L gN : Int) (gj gw : Int → Int) : Prop := σ 46 1 = L + 10 ∧ ∀ g, 0 ≤ g → g < gN → σ 48 g = gj g ∧ σ 49 g = gw g ∧ (0 ≤ gj g ∧ gj g < X 0 2) ∧ (X 11 (gj g) ≤ gw g ∧ gw g ≤ X 12 (gj g))
theorem c_who_off {σ σ' X : z_S} {L gN lo hi : Int} {gj gw : Int → Int} (ho : z_off lo hi σ σ') (hlo : 58 ≤ lo) (h : c_who σ X L gN gj gw) : c_who σ' X L gN gj gw := ⟨by rw [ho _ _ (by omega)]; exact h.1, fun g a b => by rw [ho _ _ (by omega), ho _ _ (by omega)]; exact h.2 g a b⟩
theorem c_land_off {σ σ' X : z_S} {L lo hi : Int} (hL : L = 6 ∨ L = 26) (ho : z_off lo hi σ σ') (hlo : 46 ≤ lo ∨ hi ≤ 5) (h : c_land σ L X) : c_land σ' L X := by
  obtain ⟨l1, l2, l3, l4, l5, l6, l7, l8⟩ := h
  have e : ∀ b i : Int, 1 ≤ b → b ≤ 19 → σ' (L + b) i = σ (L + b) i := fun b i b0 b1 => ho _ _ (by omega)
  refine ⟨by rw [e _ _ (by omega) (by omega)]; exact l1, by rw [e _ _ (by omega) (by omega)]; exact l2, by rw [e _ _ (by omega) (by omega)]; exact l3, by rw [e _ _ (by omega) (by omega)]; exact l4, fun r a b => ?_, fun k a b => by rw [e _ _ (by omega) (by omega)]; exact l6 k a b, fun k a b => by rw [e _ _ (by omega) (by omega)]; exact l7 k a b, fun j a b => ?_⟩
  · rw [e _ _ (by omega) (by omega), e _ _ (by omega) (by omega), e _ _ (by omega) (by omega), e _ _ (by omega) (by omega), e _ _ (by omega) (by omega), e _ _ (by omega) (by omega)]
    exact l5 r a b
  · rw [e _ _ (by omega) (by omega), e _ _ (by omega) (by omega), e _ _ (by omega) (by omega), e _ _ (by omega) (by omega), e _ _ (by omega) (by omega), e _ _ (by omega) (by omega), e _ _ (by omega) (by omega), e _ _ (by omega) (by omega), e _ _ (by omega) (by omega)]
    exact l8 j a b
theorem c_shareTime {σ X : z_S} {L gN tm : Int} {op : Int → z_Opt} {mn gj gw : Int → Int} {cap n : Int} (d : Nat) (hL : L = 6 ∨ L = 26) (hw : z_wf X) (hl : c_land σ L X) (hT : c_tab σ op mn gN cap n) (hG : c_who σ X L gN gj gw) :
    ∃ σ', z_ev z_hcC (d + 4) 402 [z_R 58, z_I tm] z_hdC σ = some (z_U, z_hdC, σ') ∧ z_off 64 64 σ σ' ∧ ∀ g, 0 ≤ g → g < gN → σ' 64 g = if X 16 (gj g) = tm then mn g else 0 := by
  have ht0 := hT.1
  have hgN := hT.2.1
  have htg := hT.2.2.2.2
  have hnJ := hw.2.2.1
  obtain ⟨σ', g1, g2, g3⟩ := c_shares (σ := σ) (share := fun g => if X 16 (gj g) = tm then mn g else 0) (F := fun k s => z_go (z_ev z_hcC (d + 3)) z_hcC 402 2 [z_R 58, z_I tm, z_I k] [] z_hdC s)
    (R := fun s => some (z_U, z_hdC, s)) hgN (fun s ho => by
      have e46 : s 46 0 = gN := by rw [ho _ _ (by omega)]; exact ht0
      rw [z_B402_2]
      simp (disch := omega) only [if_pos, e46, z_fdC, z_pdC, z_adC, z_sdC, z_lkC, z_ndC, z_gdC, z_mdC, z_cI_some', z_cV_some', z_w_ok, Int.reduceAdd, Int.reduceSub, Int.reduceMul, Int.reduceNeg, Int.reduceEq, Int.reduceLT, Int.reduceLE, Int.reduceNe, reduceIte, true_and, and_true, false_and, and_false, if_true, if_false, ne_eq, not_true_eq_false, not_false_eq_true]) (fun k s k0 k1 ho => by
      have e46 : s 46 0 = gN := by rw [ho _ _ (by omega)]; exact ht0
      have e50 : s 50 k = mn k := by rw [ho _ _ (by omega)]; exact (htg k k0 k1).2.2.2.1
      obtain ⟨w1, w2, w3, w4⟩ := (c_who_off ho (by omega) hG).2 k k0 k1
      have hl' := c_land_off hL ho (by omega) hl
      have e16 := (hl'.2.2.2.2.2.2.2 (gj k) w3.1 w3.2).2.2.2.2.2.2.2.2
      have h := c_gmanyOf (σ := s) (d + 1) k0 (by rw [e46]; exact k1) (by omega)
      have h2 := c_gtimeOf (σ := s) (q := L + 10) (by omega) d k0 (by rw [e46]; exact k1) (by omega) (c_who_off ho (by omega) hG).1 (by rw [w1]; exact w3.1) (by rw [w1, hl'.2.2.2.1]; exact w3.2) (by rw [w1]; omega)
      rw [w1, show L + 10 + 9 = L + 19 by omega, e16] at h2
      rw [z_B402_2]
      by_cases c : X 16 (gj k) = tm
      · simp (disch := omega) only [if_pos, if_neg, e46, e50, h, h2, c, z_fdC, z_pdC, z_adC, z_sdC, z_lkC, z_ndC, z_gdC, z_mdC, z_cI_some', z_cV_some', z_w_ok, Int.reduceAdd, Int.reduceSub, Int.reduceMul, Int.reduceNeg, Int.reduceEq, Int.reduceLT, Int.reduceLE, Int.reduceNe, reduceIte, true_and, and_true, false_and, and_false, if_true, if_false, ne_eq, not_true_eq_false, not_false_eq_true]
      · simp (disch := omega) only [if_pos, if_neg, e46, e50, h2, c, z_fdC, z_pdC, z_adC, z_sdC, z_lkC, z_ndC, z_gdC, z_mdC, z_cI_some', z_cV_some', z_w_ok, Int.reduceAdd, Int.reduceSub, Int.reduceMul, Int.reduceNeg, Int.reduceEq, Int.reduceLT, Int.reduceLE, Int.reduceNe, reduceIte, true_and, and_true, false_and, and_false, if_true, if_false, ne_eq, not_true_eq_false, not_false_eq_true])
  refine ⟨σ', ?_, g2, g3⟩
  rw [z_E402]
  exact g1
theorem c_sum10 {c : z_Call} {σ X : z_S} {u v : z_V} (hw : z_wf X) (h76 : ∀ w, 0 ≤ w → w < 10 → σ 76 w = X 17 w) : ∀ (j k : Nat), k + j = 10 → z_go c z_hcC 403 4 [z_R 58, z_R 76, z_I (z_sm k (X 17)), z_I k, u, v] [] z_hdC σ = z_go c z_hcC 403 24 [z_R 58, z_R 76, z_I (z_sm 10 (X 17)), z_I 0, u, v] [] z_hdC σ := by
  have h17 := hw.2.2.2.2.2.2.2.2.2.2.2.2.2.2.1
  intro j
  induction j with
  | zero =>
    intro k hk
    have : k = 10 := by omega
    subst this
    rw [z_B403_4]
    simp (disch := omega) only [if_pos, z_fdC, z_pdC, z_adC, z_sdC, z_lkC, z_ndC, z_gdC, z_mdC, z_cI_some', z_cV_some', z_w_ok, Int.reduceAdd, Int.reduceSub, Int.reduceMul, Int.reduceNeg, Int.reduceEq, Int.reduceLT, Int.reduceLE, Int.reduceNe, reduceIte, true_and, and_true, false_and, and_false, if_true, if_false, ne_eq, not_true_eq_false, not_false_eq_true]
  | succ j ih =>
    intro k hk
    have e := h76 k (by omega) (by omega)
    have hr := h17 k (by omega) (by omega)
    have hb := z_sm_rng (n := k) (f := X 17) (b := 99) (fun w a b => h17 w a (by omega))
    have next := ih (k + 1) (by omega)
    have hs : z_sm (k + 1) (X 17) = z_sm k (X 17) + X 17 k := rfl
    have e1 : ((k + 1 : Nat) : Int) = (k : Int) + 1 := by omega
    rw [hs, e1] at next
    rw [z_B403_4]
    simp (disch := omega) only [if_pos, if_neg, e, z_fdC, z_pdC, z_adC, z_sdC, z_lkC, z_ndC, z_gdC, z_mdC, z_cI_some', z_cV_some', z_w_ok, Int.reduceAdd, Int.reduceSub, Int.reduceMul, Int.reduceNeg, Int.reduceEq, Int.reduceLT, Int.reduceLE, Int.reduceNe, reduceIte, true_and, and_true, false_and, and_false, if_true, if_false, ne_eq, not_true_eq_false, not_false_eq_true]
    exact next
theorem c_shareMean {σ X : z_S} {L gN : Int} {op : Int → z_Opt} {mn gj gw : Int → Int} {cap n : Int} (d : Nat) (hL : L = 6 ∨ L = 26) (hw : z_wf X) (hl : c_land σ L X) (hT : c_tab σ op mn gN cap n) (hG : c_who σ X L gN gj gw) (h76 : ∀ w, 0 ≤ w → w < 10 → σ 76 w = X 17 w) :
    ∃ σ', z_ev z_hcC (d + 4) 403 [z_R 58, z_R 76] z_hdC σ = some (z_U, z_hdC, σ') ∧ z_off 64 64 σ σ' ∧ ∀ g, 0 ≤ g → g < gN → σ' 64 g = mn g * (if X 13 (gj g) ≠ 0 then X 17 (gw g) else z_sm 10 (X 17)) := by
  have ht0 := hT.1
  have hgN := hT.2.1
  have htg := hT.2.2.2.2
  have hnJ := hw.2.2.1
  have h17 := hw.2.2.2.2.2.2.2.2.2.2.2.2.2.2.1
  have hall := z_sm_rng (n := 10) (f := X 17) (b := 99) (fun w a b => h17 w a (by omega))
  have go : ∀ (j : Nat) (k : Int) (u v : z_V) (s : z_S), 0 ≤ k → k + j = gN → z_off 64 64 σ s → (∀ g, 0 ≤ g → g < k → s 64 g = mn g * (if X 13 (gj g) ≠ 0 then X 17 (gw g) else z_sm 10 (X 17))) →
      ∃ σ', z_go (z_ev z_hcC (d + 3)) z_hcC 403 24 [z_R 58, z_R 76, z_I (z_sm 10 (X 17)), z_I k, u, v] [] z_hdC s = some (z_U, z_hdC, σ') ∧ z_off 64 64 σ σ' ∧ ∀ g, 0 ≤ g → g < gN → σ' 64 g = mn g * (if X 13 (gj g) ≠ 0 then X 17 (gw g) else z_sm 10 (X 17)) := by
    intro j
    induction j with
    | zero =>
      intro k u v s k0 hk ho hs
      have : k = gN := by omega
      subst this
      have e46 : s 46 0 = k := by rw [ho _ _ (by omega)]; exact ht0
      refine ⟨s, ?_, ho, hs⟩
      rw [z_B403_24]
      simp (disch := omega) only [if_pos, e46, z_fdC, z_pdC, z_adC, z_sdC, z_lkC, z_ndC, z_gdC, z_mdC, z_cI_some', z_cV_some', z_w_ok, Int.reduceAdd, Int.reduceSub, Int.reduceMul, Int.reduceNeg, Int.reduceEq, Int.reduceLT, Int.reduceLE, Int.reduceNe, reduceIte, true_and, and_true, false_and, and_false, if_true, if_false, ne_eq, not_true_eq_false, not_false_eq_true]
    | succ j ih =>
      intro k u v s k0 hk ho hs
      have k1 : k < gN := by omega
      have e46 : s 46 0 = gN := by rw [ho _ _ (by omega)]; exact ht0
      have e50 : s 50 k = mn k := by rw [ho _ _ (by omega)]; exact (htg k k0 k1).2.2.2.1
      have hmn := (htg k k0 k1).2.2.2.2.1
      obtain ⟨w1, w2, w3, w4⟩ := (c_who_off ho (by omega) hG).2 k k0 k1
      have hj := hw.2.2.2.2.2.2.2.2.2.2.2.2.2.1 (gj k) w3.1 w3.2
      have hl' := c_land_off hL ho (by omega) hl
      have e13 := (hl'.2.2.2.2.2.2.2 (gj k) w3.1 w3.2).2.2.2.2.2.1
      have e76 : s 76 (gw k) = X 17 (gw k) := by rw [ho _ _ (by omega)]; exact h76 _ (by omega) (by omega)
      have hgw := h17 (gw k) (by omega) (by omega)
      have h1 := c_gworthOf (σ := s) (d + 1) k0 (by rw [e46]; exact k1) (by omega)
      have h2 := c_gmanyOf (σ := s) (d + 1) k0 (by rw [e46]; exact k1) (by omega)
      have h3 := c_gisOfCrowd (σ := s) (q := L + 10) (by omega) d k0 (by rw [e46]; exact k1) (by omega) (c_who_off ho (by omega) hG).1 (by rw [w1]; exact w3.1) (by rw [w1, hl'.2.2.2.1]; exact w3.2) (by rw [w1]; omega)
      rw [w1, show L + 10 + 6 = L + 16 by omega, e13] at h3
      rw [w2] at h1
      have step : ∀ x, x = mn k * (if X 13 (gj k) ≠ 0 then X 17 (gw k) else z_sm 10 (X 17)) → ∃ σ', z_go (z_ev z_hcC (d + 3)) z_hcC 403 24 [z_R 58, z_R 76, z_I (z_sm 10 (X 17)), z_I (k + 1), z_I (gw k), z_I (X 17 (gw k))] [] z_hdC (z_upd s 64 k x) = some (z_U, z_hdC, σ') ∧ z_off 64 64 σ σ' ∧ ∀ g, 0 ≤ g → g < gN → σ' 64 g = mn g * (if X 13 (gj g) ≠ 0 then X 17 (gw g) else z_sm 10 (X 17)) := fun x hx =>
        ih (k + 1) _ _ (z_upd s 64 k x) (by omega) (by omega) (z_off_trans ho (z_off_upd (by omega) (by omega))) (fun g g0 g1 => by
          by_cases hg : g = k
          · subst hg; rw [z_upd_same]; exact hx
          · rw [z_upd_ne (Or.inr hg)]; exact hs g g0 (by omega))
      by_cases c : X 13 (gj k) = 0
      · have hm := z_mul_rng (by omega) hmn.2 hall.1 hall.2
        obtain ⟨σ', g1, g2⟩ := step (mn k * z_sm 10 (X 17)) (by rw [if_neg (by simpa using c)])
        refine ⟨σ', ?_, g2⟩
        rw [← g1, z_B403_24]
        simp (disch := omega) only [z_B403_74, if_pos, if_neg, e46, e50, e76, h1, h2, h3, c, z_fdC, z_pdC, z_adC, z_sdC, z_lkC, z_ndC, z_gdC, z_mdC, z_cI_some', z_cV_some', z_w_ok, Int.reduceAdd, Int.reduceSub, Int.reduceMul, Int.reduceNeg, Int.reduceEq, Int.reduceLT, Int.reduceLE, Int.reduceNe, reduceIte, true_and, and_true, false_and, and_false, if_true, if_false, ne_eq, not_true_eq_false, not_false_eq_true]
      · have hm := z_mul_rng (by omega) hmn.2 hgw.1 hgw.2
        obtain ⟨σ', g1, g2⟩ := step (mn k * X 17 (gw k)) (by rw [if_pos c])
        refine ⟨σ', ?_, g2⟩
        rw [← g1, z_B403_24]
        simp (disch := omega) only [z_B403_74, if_pos, if_neg, e46, e50, e76, h1, h2, h3, c, z_fdC, z_pdC, z_adC, z_sdC, z_lkC, z_ndC, z_gdC, z_mdC, z_cI_some', z_cV_some', z_w_ok, Int.reduceAdd, Int.reduceSub, Int.reduceMul, Int.reduceNeg, Int.reduceEq, Int.reduceLT, Int.reduceLE, Int.reduceNe, reduceIte, true_and, and_true, false_and, and_false, if_true, if_false, ne_eq, not_true_eq_false, not_false_eq_true]
  obtain ⟨σ', g1, g2, g3⟩ := go gN.toNat 0 z_U z_U σ (by omega) (by omega) z_off_refl (fun g g0 g1 => by omega)
  refine ⟨σ', ?_, g2, g3⟩
  rw [← g1, z_E403]
  exact c_sum10 hw h76 10 0 (by omega)
