/-! The class's own methods: the best, and what goes beyond. -/
theorem z_inc_keep {mv cp k : Int} (h : z_bt mv k = false) : ∀ {n : Nat} {t : Int → Int}, z_inc mv cp n t k = t k
  | 0, t => rfl
  | n + 1, t => by
    unfold z_inc
    by_cases c : z_bt mv n = true
    · have hk : k ≠ (n : Int) := fun e => by rw [e, c] at h; cases h
      rw [if_pos c]
      split
      · exact if_neg hk
      · rw [z_inc_keep h]; exact if_neg hk
    · rw [if_neg c]; exact z_inc_keep h
theorem z_ti_keep {mv cp k : Int} {t : Int → Int} (h : z_bt mv k = false) : ∀ i : Nat, z_ti mv cp t i k = t k
  | 0 => by unfold z_ti z_t0; rw [if_neg (fun z => by rw [z.2] at h; cases h)]
  | i + 1 => by
    unfold z_ti
    rw [z_inc_keep h, z_ti_keep h i]
def z_setT (X : z_S) (t : Int → Int) : z_S := fun a i => if a = 7 then (if 0 ≤ i ∧ i < 5 then t i else X 7 i) else X a i
noncomputable def s_best (X : z_S) (w : Int) : Int × z_S := if z_seek X w = true then (z_hv (z_Dm X (-1)) (X 0 4) (z_Dm X (-1)).mn (z_side X w (-1)) (z_side X w (-1)) (X 0 3) (X 7), z_srow X (z_tl (z_side X w (-1)) (z_ht (z_Dm X (-1)) (X 0 4) (z_Dm X (-1)).mn (z_side X w (-1)) (z_side X w (-1)) (X 0 3) (X 7)) 5)) else (-1, X)
noncomputable def s_set (X : z_S) (w : Int) : Int × z_S := if z_seek X w = true then (z_hv (z_Dm X (-1)) (X 0 4) (z_Dm X (-1)).mn (z_side X w (-1)) (z_side X w (-1)) (X 0 3) (X 7), z_setT X (z_ht (z_Dm X (-1)) (X 0 4) (z_Dm X (-1)).mn (z_side X w (-1)) (z_side X w (-1)) (X 0 3) (X 7))) else (-1, X)
noncomputable def s_ties (X : z_S) (w : Int) : Int × z_S := (if z_seek X w = true then z_hv (z_Dm X (-1)) 1 (z_Dm X (-1)).mn (z_side X w (-1)) (z_side X w (-1)) (X 0 3) (X 7) - z_hv (z_Dm X (-1)) 0 (z_Dm X (-1)).mn (z_side X w (-1)) (z_side X w (-1)) (X 0 3) (X 7) else -1, X)
noncomputable def s_bound (X : z_S) (w : Int) : Int × z_S := (if z_seek X w = true then z_sm (z_Dm X (-1)).gN.toNat (fun g => (z_Dm X (-1)).mn g * z_mx (fun i => z_gp (z_Dm X (-1)) (X 0 4) (z_side X w (-1)) (z_ti (z_side X w (-1)) (X 0 3) (X 7) i) g) (z_tot (z_side X w (-1)) (X 0 3))) else -1, X)
noncomputable def s_given (X : z_S) (w : Int) : Int × z_S := if z_seek X w = true then (if z_gr (z_Ti (z_Dm X (-1)) (X 0 4) (z_side X w (-1)) (z_side X w (-1)) (X 0 3) (X 7) (X 7)) (z_tot (z_side X w (-1)) (X 0 3)) < 0 then (-2, X) else (z_gr (z_Ti (z_Dm X (-1)) (X 0 4) (z_side X w (-1)) (z_side X w (-1)) (X 0 3) (X 7) (X 7)) (z_tot (z_side X w (-1)) (X 0 3)), z_srow X (z_tl (z_side X w (-1)) (z_ti (z_side X w (-1)) (X 0 3) (X 7) (z_am (z_Ti (z_Dm X (-1)) (X 0 4) (z_side X w (-1)) (z_side X w (-1)) (X 0 3) (X 7) (X 7)) (z_tot (z_side X w (-1)) (X 0 3)))) 5))) else (-1, X)
noncomputable def s_above (X : z_S) (w v : Int) : Int × z_S := (if z_seek X w = true then z_ct (fun i => decide (v ≤ z_Bi (z_Dm X (-1)) (X 0 4) (z_Dm X (-1)).mn (z_side X w (-1)) (z_side X w (-1)) (X 0 3) (X 7) i)) (z_tot (z_side X w (-1)) (X 0 3)) else -1, X)
noncomputable def s_mean (X : z_S) (w : Int) : Int × z_S := if z_seek X w = true then (z_hv (z_Dm X (-1)) (X 0 4) (fun g => (z_Dm X (-1)).mn g * (if X 13 ((z_Dm X (-1)).gj g) ≠ 0 then X 17 ((z_Dm X (-1)).gw g) else z_sm 10 (X 17))) (z_side X w (-1)) (z_side X w (-1)) (X 0 3) (X 7), z_srow X (z_tl (z_side X w (-1)) (z_ht (z_Dm X (-1)) (X 0 4) (fun g => (z_Dm X (-1)).mn g * (if X 13 ((z_Dm X (-1)).gj g) ≠ 0 then X 17 ((z_Dm X (-1)).gw g) else z_sm 10 (X 17))) (z_side X w (-1)) (z_side X w (-1)) (X 0 3) (X 7)) 5)) else (-1, X)
def z_anyw (X : z_S) : Nat → Bool
  | 0 => false
  | n + 1 => z_anyw X n || decide (0 < X 17 n)
noncomputable def s_safe (X : z_S) (w : Int) : Int × z_S := if z_seek X w = true ∧ z_anyw X 10 = true then (z_gr (z_Si X (z_Dm X (-1)) (X 0 4) (z_side X w (-1)) (z_side X w (-1)) (X 0 3) (X 7)) (z_tot (z_side X w (-1)) (X 0 3)), z_srow X (z_tl (z_side X w (-1)) (z_ti (z_side X w (-1)) (X 0 3) (X 7) (z_am (z_Si X (z_Dm X (-1)) (X 0 4) (z_side X w (-1)) (z_side X w (-1)) (X 0 3) (X 7)) (z_tot (z_side X w (-1)) (X 0 3)))) 5)) else (-1, X)
noncomputable def s_learn (X : z_S) (r v : Int) : Int × z_S := (if (0 ≤ r ∧ r < X 0 0) ∧ 0 ≤ v then z_bs (fun u => decide (z_bw X (z_Dm X (-1)) (X 0 4) (X 7) r u = v)) 10 else -1, X)
theorem z_lm_pos {X : z_S} {f : Nat → Int} (hf : ∀ i, 0 ≤ f i) : ∀ {n : Nat}, z_anyw X n = true → 0 ≤ z_lm (fun w => decide (0 < X 17 w)) f n
  | 0, h => by cases h
  | n + 1, h => by
    have h0 := hf n
    unfold z_anyw at h
    rw [Bool.or_eq_true, decide_eq_true_eq] at h
    unfold z_lm
    split
    · exact h0
    · next hn =>
      rcases h with h | h
      · exact z_lm_pos hf h
      · have := z_lm_ge (P := fun w => decide (0 < X 17 w)) (f := f) (fun i => by have := hf i; omega) n
        simp only [h, decide_true, true_and] at hn
        omega
section
variable {X σ : z_S} {L A : Int}
theorem c_tellFound (h : c_iw σ X L A) (d : Nat) {w : Int} {t : Int → Int} (hA : ∀ k, 0 ≤ k → k < 5 → σ 63 k = t k) : ∃ σ', z_ev z_hcC (d + 5) 1143 [z_R 1, z_I w] z_hdC σ = some (z_U, z_hdC, σ') ∧ c_rw σ' (z_tl (z_side X w (-1)) t 5) ∧ z_off 4 5 σ σ' := by
  obtain ⟨c1, c2, c3⟩ := c_clear (σ := σ) (d + 3)
  have h1 := c_iw_row h c3
  have hQ := h1.Q
  have hs := c_sideOf (d + 1) hQ.hL hQ.wf hQ.land hQ.shut w
  have hr := z_side_rng hQ.wf w (-1)
  obtain ⟨σ', e, r, o⟩ := c_tellTolls (a1 := 63) (m := (z_side X w (-1))) (t := t) c2 (by simp) (d + 2) (Or.inl rfl) ⟨hr.1, hr.2.1⟩ (fun k k0 k1 => by rw [z_oat c3 (by omega)]; exact hA k k0 k1)
  obtain ⟨b1, b2, b3⟩ := h1.2.1
  refine ⟨σ', ?_, r, z_off_trans c3 o⟩
  simp (disch := omega) only [z_E1143, c1, b1, c_LC h.hL, hs, e, z_fdC, z_pdC, z_adC, z_sdC, z_lkC, z_ndC, z_gdC, z_mdC, z_cI_some', z_cV_some', z_w_ok, Int.reduceAdd, Int.reduceSub, Int.reduceMul, Int.reduceNeg, Int.reduceEq, Int.reduceLT, Int.reduceLE, Int.reduceNe, reduceIte, true_and, and_true, false_and, and_false, if_true, if_false, ne_eq, not_true_eq_false, not_false_eq_true]
theorem z_tl5 {m : Int} {t : Int → Int} : (z_tl m t 5).length ≤ 24 := by have := z_tl_len (m := m) (t := t) 5; omega
theorem c_iw.not (h : c_iw σ X L A) (d : Nat) {w : Int} (c : ¬ z_seek X w = true) : z_ev z_hcC (d + 4) 1141 [z_R 1, z_I w] z_hdC σ = some (z_I 0, z_hdC, σ) := by rw [h.canSeek, if_neg c]
theorem c_iw.can (h : c_iw σ X L A) (d : Nat) {w : Int} (c : z_seek X w = true) : z_ev z_hcC (d + 4) 1141 [z_R 1, z_I w] z_hdC σ = some (z_I 1, z_hdC, σ) := by rw [h.canSeek, if_pos c]
theorem C_best (h : c_inv σ X) (d : Nat) (w : Int) : c_does (z_ev z_hcC (d + 20) 1113 [z_R 1, z_I w] z_hdC σ) (s_best X w) := by
  have h0 := h
  obtain ⟨L, A, hv⟩ := h
  unfold s_best
  by_cases c : z_seek X w = true
  · rw [if_pos c]
    have k0 := hv.1.can (d + 15) c
    obtain ⟨σ1, e1, o1, h1⟩ := hv.1.openNow (d + 14)
    obtain ⟨σ2, e2, o2, f2, h2⟩ := h1.rd.best (d + 14) (z_seek_t.mp c).2
    have hw2 := c_iw_off hv.1 (z_off_trans (z_off_le o1 (by omega) (by omega)) (z_off_le o2 (by omega) (by omega))) h2.rd.z61 h2.rd.z62
    obtain ⟨σ3, e3, r3, o3⟩ := c_tellFound hw2 (d + 14) (w := w) f2
    refine c_does_i (s := σ3) ?_ (c_iv_srow (c_iw_row hw2 o3) r3 z_tl5)
    simp (disch := omega) only [z_E1113, k0, e1, e2, e3, z_fdC, z_pdC, z_adC, z_sdC, z_lkC, z_ndC, z_gdC, z_mdC, z_cI_some', z_cV_some', z_w_ok, Int.reduceAdd, Int.reduceSub, Int.reduceMul, Int.reduceNeg, Int.reduceEq, Int.reduceLT, Int.reduceLE, Int.reduceNe, reduceIte, true_and, and_true, false_and, and_false, if_true, if_false, ne_eq, not_true_eq_false, not_false_eq_true]
  · rw [if_neg c]
    have k0 := hv.1.not (d + 15) c
    refine c_does_i (s := σ) ?_ h0
    simp (disch := omega) only [z_E1113, k0, z_fdC, z_pdC, z_adC, z_sdC, z_lkC, z_ndC, z_gdC, z_mdC, z_cI_some', z_cV_some', z_w_ok, Int.reduceAdd, Int.reduceSub, Int.reduceMul, Int.reduceNeg, Int.reduceEq, Int.reduceLT, Int.reduceLE, Int.reduceNe, reduceIte, true_and, and_true, false_and, and_false, if_true, if_false, ne_eq, not_true_eq_false, not_false_eq_true]
theorem C_set (h : c_inv σ X) (d : Nat) (w : Int) : c_does (z_ev z_hcC (d + 20) 1114 [z_R 1, z_I w] z_hdC σ) (s_set X w) := by
  have h0 := h
  obtain ⟨L, A, hv⟩ := h
  have hL := hv.1.hL
  have hwf := hv.1.wf
  unfold s_set
  by_cases c : z_seek X w = true
  · rw [if_pos c]
    have k0 := hv.1.can (d + 15) c
    obtain ⟨σ1, e1, o1, h1⟩ := hv.1.openNow (d + 14)
    obtain ⟨σ2, e2, o2, f2, h2⟩ := h1.rd.best (d + 14) (z_seek_t.mp c).2
    have o12 : z_off 58 75 σ σ2 := z_off_trans (z_off_le o1 (by omega) (by omega)) (z_off_le o2 (by omega) (by omega))
    have hw2 := c_iw_off hv.1 o12 h2.rd.z61 h2.rd.z62
    obtain ⟨a1, ⟨b1, b2, b3⟩, a3, a4, a5, a6, a7, a8, a9⟩ := id hw2
    have hcp : ∀ {β : Type} {k : z_S → Option β}, z_cp z_hdC σ2 63 0 (L + 3) 0 5 k = k (z_cpy σ2 63 0 (L + 3) 0 5) := fun {β k} => by
      rcases hL with rfl | rfl <;> exact if_pos ⟨rfl, rfl, by omega, by omega, by omega, by decide, by decide⟩
    have hat : ∀ a i, a ≠ L + 3 → z_cpy σ2 63 0 (L + 3) 0 5 a i = σ2 a i := fun a i ha => by rw [z_cpy_at, if_neg (fun z => ha z.1)]
    have hat7 : ∀ k, 0 ≤ k → k < 5 → z_cpy σ2 63 0 (L + 3) 0 5 (L + 3) k = z_ht (z_Dm X (-1)) (X 0 4) (z_Dm X (-1)).mn (z_side X w (-1)) (z_side X w (-1)) (X 0 3) (X 7) k := fun k k0 k1 => by rw [z_cpy_at, if_pos (by omega), show 0 + (k - 0) = k by omega]; exact f2 k k0 k1
    have hcap := h1.rd.htc (side := (z_side X w (-1))) (mv := (z_side X w (-1))) h1.rd.tc (Int.le_refl _)
    have hbey : ∀ k, X 0 1 ≤ k → k < 5 → z_ht (z_Dm X (-1)) (X 0 4) (z_Dm X (-1)).mn (z_side X w (-1)) (z_side X w (-1)) (X 0 3) (X 7) k = 0 := fun k k0 k1 => by
      have hn := hwf.2.1
      have hb : z_bt (z_side X w (-1)) k = false := by
        cases hb : z_bt (z_side X w (-1)) k with
        | false => rfl
        | true => have := ((z_side_bt hwf (by omega)).mp hb).1; omega
      unfold z_ht
      rw [z_ti_keep hb]
      exact hwf.2.2.2.2.2.2.2.2.2.2.2.2.1 k k0 k1
    generalize z_ht (z_Dm X (-1)) (X 0 4) (z_Dm X (-1)).mn (z_side X w (-1)) (z_side X w (-1)) (X 0 3) (X 7) = t at *
    have ha : ∀ a i, a ≠ 7 → z_setT X t a i = X a i := fun a i h => if_neg h
    have h7 : ∀ k, 0 ≤ k → k < 5 → z_setT X t 7 k = t k := fun k k0 k1 => by unfold z_setT; rw [if_pos rfl, if_pos ⟨k0, k1⟩]
    have he : z_eqd X (z_setT X t) := ⟨fun a h => by funext i; exact ha a i (by omega), fun i _ _ => ha _ _ (by omega)⟩
    have hw' : z_wf (z_setT X t) := z_wf_gen hwf he (by rw [ha _ _ (by omega)]; exact hwf.2.2.2.1) (by rw [ha _ _ (by omega)]; exact hwf.2.2.2.2.1) (by rw [ha _ _ (by omega)]; exact hwf.2.2.2.2.2.1) (by rw [ha _ _ (by omega)]; exact hwf.2.2.2.2.2.2.1) (fun k k0 k1 => by rw [h7 k k0 k1, ha _ _ (by omega)]; exact hcap k k0 k1) (fun k k0 k1 => by have hn := hwf.2.1; rw [h7 k (by omega) k1]; exact hbey k k0 k1) (fun u w0 w1 => by rw [ha _ _ (by omega)]; exact hwf.2.2.2.2.2.2.2.2.2.2.2.2.2.2.1 u w0 w1) (fun i i0 i1 => by rw [ha _ _ (by omega)] at i1; rw [ha _ _ (by omega)]; exact hwf.2.2.2.2.2.2.2.2.2.2.2.2.2.2.2 i i0 i1)
    refine c_does_i (s := z_cpy σ2 63 0 (L + 3) 0 5) ?_ (c_iv_gen hw2 he (ha _ _ (by omega)) hw' (fun a i h1 h2 h3 => hat a i h3) (fun k k0 k1 => by rw [hat7 k k0 k1, h7 k k0 k1]) (by rw [hat _ _ (by omega)]; exact a9.1) (by rw [hat _ _ (by omega)]; exact a9.2) (by rw [hat _ _ (by omega)]; exact b1) (by rw [hat _ _ (by omega)]; exact b2) (by rw [hat _ _ (by omega), ha _ _ (by omega)]; exact b3) (fun u w0 w1 => by rw [hat _ _ (by omega), ha _ _ (by omega)]; exact a3 u w0 w1) (by rw [hat _ _ (by omega), ha _ _ (by omega)]; exact a4) (fun i i0 i1 => by rw [ha _ _ (by omega)] at i1; rw [hat _ _ (by omega), ha _ _ (by omega)]; exact a5 i i0 i1) (by rw [hat _ _ (by omega), ha _ _ (by omega), z_oat o12 (by omega)]; exact hv.2.1) (fun i i0 i1 => by rw [ha _ _ (by omega)] at i1; rw [hat _ _ (by omega), ha _ _ (by omega), z_oat o12 (by omega)]; exact hv.2.2 i i0 i1))
    simp (disch := omega) only [z_E1114, k0, e1, e2, b1, c_LC hL, hcp, z_fdC, z_pdC, z_adC, z_sdC, z_lkC, z_ndC, z_gdC, z_mdC, z_cI_some', z_cV_some', z_w_ok, Int.reduceAdd, Int.reduceSub, Int.reduceMul, Int.reduceNeg, Int.reduceEq, Int.reduceLT, Int.reduceLE, Int.reduceNe, reduceIte, true_and, and_true, false_and, and_false, if_true, if_false, ne_eq, not_true_eq_false, not_false_eq_true]
  · rw [if_neg c]
    have k0 := hv.1.not (d + 15) c
    refine c_does_i (s := σ) ?_ h0
    simp (disch := omega) only [z_E1114, k0, z_fdC, z_pdC, z_adC, z_sdC, z_lkC, z_ndC, z_gdC, z_mdC, z_cI_some', z_cV_some', z_w_ok, Int.reduceAdd, Int.reduceSub, Int.reduceMul, Int.reduceNeg, Int.reduceEq, Int.reduceLT, Int.reduceLE, Int.reduceNe, reduceIte, true_and, and_true, false_and, and_false, if_true, if_false, ne_eq, not_true_eq_false, not_false_eq_true]
theorem C_ties (h : c_inv σ X) (d : Nat) (w : Int) : c_does (z_ev z_hcC (d + 20) 1115 [z_R 1, z_I w] z_hdC σ) (s_ties X w) := by
  have h0 := h
  obtain ⟨L, A, hv⟩ := h
  unfold s_ties
  by_cases c : z_seek X w = true
  · rw [if_pos c]
    have k0 := hv.1.can (d + 15) c
    obtain ⟨σ1, e1, o1, h1⟩ := hv.1.openl (d + 15) (ln := 1) (Or.inr rfl)
    obtain ⟨σ2, e2, o2, f2, h2⟩ := h1.rd.best (d + 14) (z_seek_t.mp c).2
    have o12 : z_off 58 75 σ σ2 := z_off_trans (z_off_le o1 (by omega) (by omega)) (z_off_le o2 (by omega) (by omega))
    have hw2 := c_iw_off hv.1 o12 h2.rd.z61 h2.rd.z62
    obtain ⟨σ3, e3, o3, h3⟩ := hw2.openl (d + 15) (ln := 0) (Or.inl rfl)
    obtain ⟨σ4, e4, o4, f4, h4⟩ := h3.rd.best (d + 14) (z_seek_t.mp c).2
    have v1 := h1.rd.brt (h1.rd.htc (side := (z_side X w (-1))) (mv := (z_side X w (-1))) h1.rd.tc (Int.le_refl _)) (z_side X w (-1))
    have v2 := h3.rd.brt (h3.rd.htc (side := (z_side X w (-1))) (mv := (z_side X w (-1))) h3.rd.tc (Int.le_refl _)) (z_side X w (-1))
    have v1' : 0 ≤ z_hv (z_Dm X (-1)) 1 (z_Dm X (-1)).mn (z_side X w (-1)) (z_side X w (-1)) (X 0 3) (X 7) ∧ z_hv (z_Dm X (-1)) 1 (z_Dm X (-1)).mn (z_side X w (-1)) (z_side X w (-1)) (X 0 3) (X 7) ≤ 480000000 := v1
    have v2' : 0 ≤ z_hv (z_Dm X (-1)) 0 (z_Dm X (-1)).mn (z_side X w (-1)) (z_side X w (-1)) (X 0 3) (X 7) ∧ z_hv (z_Dm X (-1)) 0 (z_Dm X (-1)).mn (z_side X w (-1)) (z_side X w (-1)) (X 0 3) (X 7) ≤ 480000000 := v2
    obtain ⟨b1, b2, b3⟩ := hv.1.2.1
    obtain ⟨c1, c2, c3⟩ := hw2.2.1
    refine c_does_i (s := σ4) ?_ (c_keepAt hv (z_off_trans o12 (z_off_trans (z_off_le o3 (by omega) (by omega)) (z_off_le o4 (by omega) (by omega)))) h4)
    simp (disch := omega) only [z_E1115, k0, b1, c1, c_LC hv.1.hL, e1, e2, e3, e4, z_fdC, z_pdC, z_adC, z_sdC, z_lkC, z_ndC, z_gdC, z_mdC, z_cI_some', z_cV_some', z_w_ok, Int.reduceAdd, Int.reduceSub, Int.reduceMul, Int.reduceNeg, Int.reduceEq, Int.reduceLT, Int.reduceLE, Int.reduceNe, reduceIte, true_and, and_true, false_and, and_false, if_true, if_false, ne_eq, not_true_eq_false, not_false_eq_true]
  · rw [if_neg c]
    have k0 := hv.1.not (d + 15) c
    refine c_does_i (s := σ) ?_ h0
    simp (disch := omega) only [z_E1115, k0, z_fdC, z_pdC, z_adC, z_sdC, z_lkC, z_ndC, z_gdC, z_mdC, z_cI_some', z_cV_some', z_w_ok, Int.reduceAdd, Int.reduceSub, Int.reduceMul, Int.reduceNeg, Int.reduceEq, Int.reduceLT, Int.reduceLE, Int.reduceNe, reduceIte, true_and, and_true, false_and, and_false, if_true, if_false, ne_eq, not_true_eq_false, not_false_eq_true]
theorem C_bound (h : c_inv σ X) (d : Nat) (w : Int) : c_does (z_ev z_hcC (d + 20) 1116 [z_R 1, z_I w] z_hdC σ) (s_bound X w) := by
  have h0 := h
  obtain ⟨L, A, hv⟩ := h
  unfold s_bound
  by_cases c : z_seek X w = true
  · rw [if_pos c]
    have k0 := hv.1.can (d + 15) c
    obtain ⟨σ1, e1, o1, h1⟩ := hv.1.openNow (d + 14)
    obtain ⟨σ2, e2, o2, h2⟩ := c_boundOf h1.rd (d + 14) (w := w) (z_seek_t.mp c).2
    refine c_does_i (s := σ2) ?_ (c_iv_keep hv (z_off_trans (z_off_le o1 (by omega) (by omega)) (z_off_le o2 (by omega) (by omega))) h2.z61 h2.z62)
    simp (disch := omega) only [z_E1116, k0, e1, e2, z_fdC, z_pdC, z_adC, z_sdC, z_lkC, z_ndC, z_gdC, z_mdC, z_cI_some', z_cV_some', z_w_ok, Int.reduceAdd, Int.reduceSub, Int.reduceMul, Int.reduceNeg, Int.reduceEq, Int.reduceLT, Int.reduceLE, Int.reduceNe, reduceIte, true_and, and_true, false_and, and_false, if_true, if_false, ne_eq, not_true_eq_false, not_false_eq_true]
  · rw [if_neg c]
    have k0 := hv.1.not (d + 15) c
    refine c_does_i (s := σ) ?_ h0
    simp (disch := omega) only [z_E1116, k0, z_fdC, z_pdC, z_adC, z_sdC, z_lkC, z_ndC, z_gdC, z_mdC, z_cI_some', z_cV_some', z_w_ok, Int.reduceAdd, Int.reduceSub, Int.reduceMul, Int.reduceNeg, Int.reduceEq, Int.reduceLT, Int.reduceLE, Int.reduceNe, reduceIte, true_and, and_true, false_and, and_false, if_true, if_false, ne_eq, not_true_eq_false, not_false_eq_true]
theorem C_above (h : c_inv σ X) (d : Nat) (w v : Int) : c_does (z_ev z_hcC (d + 20) 1118 [z_R 1, z_I w, z_I v] z_hdC σ) (s_above X w v) := by
  have h0 := h
  obtain ⟨L, A, hv⟩ := h
  unfold s_above
  by_cases c : z_seek X w = true
  · rw [if_pos c]
    have k0 := hv.1.can (d + 15) c
    obtain ⟨σ1, e1, o1, h1⟩ := hv.1.openNow (d + 14)
    obtain ⟨σ2, e2, o2, h2⟩ := c_aboveOf h1.rd (d + 14) (w := w) v (z_seek_t.mp c).2
    refine c_does_i (s := σ2) ?_ (c_iv_keep hv (z_off_trans (z_off_le o1 (by omega) (by omega)) (z_off_le o2 (by omega) (by omega))) h2.z61 h2.z62)
    simp (disch := omega) only [z_E1118, k0, e1, e2, z_fdC, z_pdC, z_adC, z_sdC, z_lkC, z_ndC, z_gdC, z_mdC, z_cI_some', z_cV_some', z_w_ok, Int.reduceAdd, Int.reduceSub, Int.reduceMul, Int.reduceNeg, Int.reduceEq, Int.reduceLT, Int.reduceLE, Int.reduceNe, reduceIte, true_and, and_true, false_and, and_false, if_true, if_false, ne_eq, not_true_eq_false, not_false_eq_true]
  · rw [if_neg c]
    have k0 := hv.1.not (d + 15) c
    refine c_does_i (s := σ) ?_ h0
    simp (disch := omega) only [z_E1118, k0, z_fdC, z_pdC, z_adC, z_sdC, z_lkC, z_ndC, z_gdC, z_mdC, z_cI_some', z_cV_some', z_w_ok, Int.reduceAdd, Int.reduceSub, Int.reduceMul, Int.reduceNeg, Int.reduceEq, Int.reduceLT, Int.reduceLE, Int.reduceNe, reduceIte, true_and, and_true, false_and, and_false, if_true, if_false, ne_eq, not_true_eq_false, not_false_eq_true]
theorem C_given (h : c_inv σ X) (d : Nat) (w : Int) : c_does (z_ev z_hcC (d + 20) 1117 [z_R 1, z_I w] z_hdC σ) (s_given X w) := by
  have h0 := h
  obtain ⟨L, A, hv⟩ := h
  unfold s_given
  by_cases c : z_seek X w = true
  · rw [if_pos c]
    have k0 := hv.1.can (d + 15) c
    obtain ⟨σ1, e1, o1, h1⟩ := hv.1.openNow (d + 14)
    obtain ⟨σ2, e2, o2, h2, f2⟩ := c_givenOf h1 (d + 14) (w := w) (z_seek_t.mp c).2
    have o12 : z_off 58 75 σ σ2 := z_off_trans (z_off_le o1 (by omega) (by omega)) (z_off_le o2 (by omega) (by omega))
    by_cases cg : z_gr (z_Ti (z_Dm X (-1)) (X 0 4) (z_side X w (-1)) (z_side X w (-1)) (X 0 3) (X 7) (X 7)) (z_tot (z_side X w (-1)) (X 0 3)) < 0
    · rw [if_pos cg]
      refine c_does_i (s := σ2) ?_ (c_iv_keep hv o12 h2.z61 h2.z62)
      simp (disch := omega) only [z_E1117, k0, e1, e2, if_neg, z_fdC, z_pdC, z_adC, z_sdC, z_lkC, z_ndC, z_gdC, z_mdC, z_cI_some', z_cV_some', z_w_ok, Int.reduceAdd, Int.reduceSub, Int.reduceMul, Int.reduceNeg, Int.reduceEq, Int.reduceLT, Int.reduceLE, Int.reduceNe, reduceIte, true_and, and_true, false_and, and_false, if_true, if_false, ne_eq, not_true_eq_false, not_false_eq_true]
    · rw [if_neg cg]
      have hw2 := c_iw_off hv.1 o12 h2.z61 h2.z62
      obtain ⟨σ3, e3, r3, o3⟩ := c_tellFound hw2 (d + 14) (w := w) (f2 (by omega))
      refine c_does_i (s := σ3) ?_ (c_iv_srow (c_iw_row hw2 o3) r3 z_tl5)
      simp (disch := omega) only [z_E1117, k0, e1, e2, if_pos, e3, z_fdC, z_pdC, z_adC, z_sdC, z_lkC, z_ndC, z_gdC, z_mdC, z_cI_some', z_cV_some', z_w_ok, Int.reduceAdd, Int.reduceSub, Int.reduceMul, Int.reduceNeg, Int.reduceEq, Int.reduceLT, Int.reduceLE, Int.reduceNe, reduceIte, true_and, and_true, false_and, and_false, if_true, if_false, ne_eq, not_true_eq_false, not_false_eq_true]
  · rw [if_neg c]
    have k0 := hv.1.not (d + 15) c
    refine c_does_i (s := σ) ?_ h0
    simp (disch := omega) only [z_E1117, k0, z_fdC, z_pdC, z_adC, z_sdC, z_lkC, z_ndC, z_gdC, z_mdC, z_cI_some', z_cV_some', z_w_ok, Int.reduceAdd, Int.reduceSub, Int.reduceMul, Int.reduceNeg, Int.reduceEq, Int.reduceLT, Int.reduceLE, Int.reduceNe, reduceIte, true_and, and_true, false_and, and_false, if_true, if_false, ne_eq, not_true_eq_false, not_false_eq_true]
theorem C_mean (h : c_inv σ X) (d : Nat) (w : Int) : c_does (z_ev z_hcC (d + 20) 1131 [z_R 1, z_I w] z_hdC σ) (s_mean X w) := by
  have h0 := h
  obtain ⟨L, A, hv⟩ := h
  unfold s_mean
  by_cases c : z_seek X w = true
  · rw [if_pos c]
    have k0 := hv.1.can (d + 15) c
    obtain ⟨σ1, e1, o1, h1⟩ := hv.1.openNow (d + 14)
    have hQ1 := h1.rd.Q
    obtain ⟨σ2, e2, o2, f2⟩ := c_shareMean (d + 15) hQ1.hL hQ1.wf hQ1.land hQ1.tab hQ1.who (fun u u0 u1 => by rw [z_oat o1 (by omega)]; exact hv.1.2.2.1 u u0 u1)
    have h17 := hQ1.wf.2.2.2.2.2.2.2.2.2.2.2.2.2.2.1
    have hall := z_sm_rng (n := 10) (f := X 17) (b := 99) (fun u a b => h17 u a (by omega))
    have h2 : c_rd σ2 X L (-1) (z_Dm X (-1)) (X 0 4) (fun g => (z_Dm X (-1)).mn g * (if X 13 ((z_Dm X (-1)).gj g) ≠ 0 then X 17 ((z_Dm X (-1)).gw g) else z_sm 10 (X 17))) := by
      have hmk := h1.rd.mk
      refine ⟨c_Q_off o2 (by omega) hQ1, ⟨by rw [z_oat o2 (by omega)]; exact hmk.1, hmk.2.1, by rw [z_oat o2 (by omega)]; exact hmk.2.2.1, hmk.2.2.2.1, fun g g0 g1 => ?_⟩, by rw [z_oat o2 (by omega)]; exact h1.rd.n3, by rw [z_oat o2 (by omega)]; exact h1.rd.z61, by rw [z_oat o2 (by omega)]; exact h1.rd.z62⟩
      have hm := (h1.goer g0 g1).2.2.1
      obtain ⟨w1, w2, w3, w4⟩ := hQ1.who.2 g g0 g1
      have hj := z_wfj hQ1.wf w3
      have hgw := h17 ((z_Dm X (-1)).gw g) (by omega) (by omega)
      have hif : 0 ≤ (if X 13 ((z_Dm X (-1)).gj g) ≠ 0 then X 17 ((z_Dm X (-1)).gw g) else z_sm 10 (X 17)) ∧ (if X 13 ((z_Dm X (-1)).gj g) ≠ 0 then X 17 ((z_Dm X (-1)).gw g) else z_sm 10 (X 17)) ≤ 990 := by split <;> omega
      have := z_mul_rng (by omega) hm.2 hif.1 hif.2
      have h100 : (z_Dm X (-1)).mn g * (if X 13 ((z_Dm X (-1)).gj g) ≠ 0 then X 17 ((z_Dm X (-1)).gw g) else z_sm 10 (X 17)) ≤ 100000 := by omega
      exact ⟨f2 g g0 g1, this.1, h100⟩
    obtain ⟨σ3, e3, o3, f3, h3⟩ := h2.best (d + 14) (z_seek_t.mp c).2
    have o13 : z_off 58 75 σ σ3 := z_off_trans (z_off_le o1 (by omega) (by omega)) (z_off_trans (z_off_le o2 (by omega) (by omega)) (z_off_le o3 (by omega) (by omega)))
    have hw3 := c_iw_off hv.1 o13 h3.rd.z61 h3.rd.z62
    obtain ⟨σ4, e4, r4, o4⟩ := c_tellFound hw3 (d + 14) (w := w) f3
    refine c_does_i (s := σ4) ?_ (c_iv_srow (c_iw_row hw3 o4) r4 z_tl5)
    simp (disch := omega) only [z_E1131, k0, e1, e2, e3, e4, z_fdC, z_pdC, z_adC, z_sdC, z_lkC, z_ndC, z_gdC, z_mdC, z_cI_some', z_cV_some', z_w_ok, Int.reduceAdd, Int.reduceSub, Int.reduceMul, Int.reduceNeg, Int.reduceEq, Int.reduceLT, Int.reduceLE, Int.reduceNe, reduceIte, true_and, and_true, false_and, and_false, if_true, if_false, ne_eq, not_true_eq_false, not_false_eq_true]
  · rw [if_neg c]
    have k0 := hv.1.not (d + 15) c
    refine c_does_i (s := σ) ?_ h0
    simp (disch := omega) only [z_E1131, k0, z_fdC, z_pdC, z_adC, z_sdC, z_lkC, z_ndC, z_gdC, z_mdC, z_cI_some', z_cV_some', z_w_ok, Int.reduceAdd, Int.reduceSub, Int.reduceMul, Int.reduceNeg, Int.reduceEq, Int.reduceLT, Int.reduceLE, Int.reduceNe, reduceIte, true_and, and_true, false_and, and_false, if_true, if_false, ne_eq, not_true_eq_false, not_false_eq_true]
theorem c_iw.anyw (h : c_iw σ X L A) (d : Nat) : z_ev z_hcC (d + 1) 1142 [z_R 1] z_hdC σ = some (z_I (if z_anyw X 10 then 1 else 0), z_hdC, σ) := by
  have h76 := h.2.2.1
  have key := z_forv (S := Unit) (fun k _ => z_go (z_ev z_hcC d) z_hcC 1142 4 [z_R 1, z_I (if z_anyw X k then 1 else 0), z_I k] [] z_hdC σ) (some (z_I (if z_anyw X 10 then 1 else 0), z_hdC, σ)) 10 () (fun k _ hk => ⟨(), by
    have e := h76 k (by omega) (by omega)
    have hs : z_anyw X (k + 1) = (z_anyw X k || decide (0 < X 17 k)) := rfl
    rw [hs, z_B1142_4]
    cases hb : z_anyw X k with
    | true => simp (disch := omega) only [if_neg, z_ns, Bool.true_or, Int.reduceEq, z_fdC, z_pdC, z_adC, z_sdC, z_lkC, z_ndC, z_gdC, z_mdC, z_cI_some', z_cV_some', z_w_ok, Int.reduceAdd, Int.reduceSub, Int.reduceMul, Int.reduceNeg, Int.reduceEq, Int.reduceLT, Int.reduceLE, Int.reduceNe, reduceIte, true_and, and_true, false_and, and_false, if_true, if_false, ne_eq, not_true_eq_false, not_false_eq_true]
    | false =>
      by_cases c : 0 < X 17 k
      · have cd : decide (0 < X 17 k) = true := by simpa using c
        simp (disch := omega) only [if_neg, z_ns, Bool.false_or, Bool.false_eq_true, cd, e, z_fdC, z_pdC, z_adC, z_sdC, z_lkC, z_ndC, z_gdC, z_mdC, z_cI_some', z_cV_some', z_w_ok, Int.reduceAdd, Int.reduceSub, Int.reduceMul, Int.reduceNeg, Int.reduceEq, Int.reduceLT, Int.reduceLE, Int.reduceNe, reduceIte, true_and, and_true, false_and, and_false, if_true, if_false, ne_eq, not_true_eq_false, not_false_eq_true]
      · have cd : decide (0 < X 17 k) = false := by simpa using c
        simp (disch := omega) only [if_neg, if_pos, z_ns, Bool.false_or, Bool.false_eq_true, cd, e, z_fdC, z_pdC, z_adC, z_sdC, z_lkC, z_ndC, z_gdC, z_mdC, z_cI_some', z_cV_some', z_w_ok, Int.reduceAdd, Int.reduceSub, Int.reduceMul, Int.reduceNeg, Int.reduceEq, Int.reduceLT, Int.reduceLE, Int.reduceNe, reduceIte, true_and, and_true, false_and, and_false, if_true, if_false, ne_eq, not_true_eq_false, not_false_eq_true]⟩) (fun _ => by
    have hF : (if z_anyw X 10 = true then (1 : Int) else 0) = 0 ∨ (if z_anyw X 10 = true then (1 : Int) else 0) = 1 := by split <;> simp
    rw [z_B1142_4]
    simp (disch := omega) only [if_pos, hF, z_fdC, z_pdC, z_adC, z_sdC, z_lkC, z_ndC, z_gdC, z_mdC, z_cI_some', z_cV_some', z_w_ok, Int.reduceAdd, Int.reduceSub, Int.reduceMul, Int.reduceNeg, Int.reduceEq, Int.reduceLT, Int.reduceLE, Int.reduceNe, reduceIte, true_and, and_true, false_and, and_false, if_true, if_false, ne_eq, not_true_eq_false, not_false_eq_true])
  have key' : z_go (z_ev z_hcC d) z_hcC 1142 4 [z_R 1, z_I 0, z_I 0] [] z_hdC σ = _ := key
  rw [z_E1142, key']
theorem C_safe (h : c_inv σ X) (d : Nat) (w : Int) : c_does (z_ev z_hcC (d + 20) 1132 [z_R 1, z_I w] z_hdC σ) (s_safe X w) := by
  have h0 := h
  obtain ⟨L, A, hv⟩ := h
  have ka := hv.1.anyw (d + 18)
  unfold s_safe
  by_cases c : z_seek X w = true
  · have k0 := hv.1.can (d + 15) c
    by_cases ca : z_anyw X 10 = true
    · rw [if_pos ⟨c, ca⟩]
      rw [if_pos ca] at ka
      obtain ⟨σ1, e1, o1, h1⟩ := hv.1.openNow (d + 14)
      obtain ⟨σ2, e2, o2, h2, f2⟩ := c_safeOf h1.rd (d + 13) (w := w) (z_seek_t.mp c).2 (fun u u0 u1 => by rw [z_oat o1 (by omega)]; exact hv.1.2.2.1 u u0 u1)
      have o12 : z_off 58 75 σ σ2 := z_off_trans (z_off_le o1 (by omega) (by omega)) (z_off_le o2 (by omega) (by omega))
      have hw2 := c_iw_off hv.1 o12 h2.z61 h2.z62
      have hpos : 0 ≤ z_gr (z_Si X (z_Dm X (-1)) (X 0 4) (z_side X w (-1)) (z_side X w (-1)) (X 0 3) (X 7)) (z_tot (z_side X w (-1)) (X 0 3)) := by
        have htp := z_tot_pos (mv := (z_side X w (-1))) h1.rd.cp.1
        obtain ⟨n, hn⟩ : ∃ n, z_tot (z_side X w (-1)) (X 0 3) = n + 1 := ⟨z_tot (z_side X w (-1)) (X 0 3) - 1, by omega⟩
        rw [hn]
        show 0 ≤ z_Si X (z_Dm X (-1)) (X 0 4) (z_side X w (-1)) (z_side X w (-1)) (X 0 3) (X 7) (z_am (z_Si X (z_Dm X (-1)) (X 0 4) (z_side X w (-1)) (z_side X w (-1)) (X 0 3) (X 7)) (n + 1))
        have hti := z_ti_cap (mv := (z_side X w (-1))) (Int.le_refl (X 0 3)) h1.rd.cp.1 h1.cap (z_am (z_Si X (z_Dm X (-1)) (X 0 4) (z_side X w (-1)) (z_side X w (-1)) (X 0 3) (X 7)) (n + 1))
        refine z_lm_pos (fun u => ?_) ca
        refine (z_sm_rng (b := 100000) (fun g g0 g1 => ?_)).1
        have hm := (h1.goer g0 (by have := h1.rd.gn; omega)).2.2.1
        have hp := c_t20_pay (z_tcap_20 h1.rd.cp.2 hti) (z_and (z_ch ((z_Dm X (-1)).op g) (z_ti (z_side X w (-1)) (X 0 3) (X 7) (z_am (z_Si X (z_Dm X (-1)) (X 0 4) (z_side X w (-1)) (z_side X w (-1)) (X 0 3) (X 7)) (n + 1))) (X 0 4)) (z_side X w (-1)))
        have := z_mul_rng (by omega) hm.2 hp.1 hp.2
        split
        · exact ⟨this.1, Int.le_trans this.2 (by omega)⟩
        · omega
      obtain ⟨σ3, e3, r3, o3⟩ := c_tellFound hw2 (d + 14) (w := w) (f2 hpos)
      refine c_does_i (s := σ3) ?_ (c_iv_srow (c_iw_row hw2 o3) r3 z_tl5)
      simp (disch := omega) only [z_E1132, k0, ka, e1, e2, e3, z_fdC, z_pdC, z_adC, z_sdC, z_lkC, z_ndC, z_gdC, z_mdC, z_cI_some', z_cV_some', z_w_ok, Int.reduceAdd, Int.reduceSub, Int.reduceMul, Int.reduceNeg, Int.reduceEq, Int.reduceLT, Int.reduceLE, Int.reduceNe, reduceIte, true_and, and_true, false_and, and_false, if_true, if_false, ne_eq, not_true_eq_false, not_false_eq_true]
    · rw [if_neg (fun z => ca z.2)]
      rw [if_neg ca] at ka
      refine c_does_i (s := σ) ?_ h0
      simp (disch := omega) only [z_E1132, k0, ka, z_fdC, z_pdC, z_adC, z_sdC, z_lkC, z_ndC, z_gdC, z_mdC, z_cI_some', z_cV_some', z_w_ok, Int.reduceAdd, Int.reduceSub, Int.reduceMul, Int.reduceNeg, Int.reduceEq, Int.reduceLT, Int.reduceLE, Int.reduceNe, reduceIte, true_and, and_true, false_and, and_false, if_true, if_false, ne_eq, not_true_eq_false, not_false_eq_true]
  · rw [if_neg (fun z => c z.1)]
    have k0 := hv.1.not (d + 15) c
    refine c_does_i (s := σ) ?_ h0
    simp (disch := omega) only [z_E1132, k0, z_fdC, z_pdC, z_adC, z_sdC, z_lkC, z_ndC, z_gdC, z_mdC, z_cI_some', z_cV_some', z_w_ok, Int.reduceAdd, Int.reduceSub, Int.reduceMul, Int.reduceNeg, Int.reduceEq, Int.reduceLT, Int.reduceLE, Int.reduceNe, reduceIte, true_and, and_true, false_and, and_false, if_true, if_false, ne_eq, not_true_eq_false, not_false_eq_true]
theorem C_learn (h : c_inv σ X) (d : Nat) (r v : Int) : c_does (z_ev z_hcC (d + 20) 1133 [z_R 1, z_I r, z_I v] z_hdC σ) (s_learn X r v) := by
  have h0 := h
  obtain ⟨L, A, hv⟩ := h
  obtain ⟨b1, b2, b3⟩ := hv.1.2.1
  have hh := hv.1.has (d + 18) r
  unfold s_learn
  by_cases c : 0 ≤ r ∧ r < X 0 0
  · rw [if_pos c] at hh
    by_cases cv : 0 ≤ v
    · rw [if_pos ⟨c, cv⟩]
      obtain ⟨σ1, e1, o1, h1⟩ := hv.1.openNow (d + 14)
      obtain ⟨σ2, e2, o2⟩ := c_worldsWith h1 (d + 14) r v
      refine c_does_i (s := σ2) ?_ (c_iv_keep hv (z_off_trans (z_off_le o1 (by omega) (by omega)) (z_off_le o2 (by omega) (by omega))) (by rw [z_oat o2 (by omega)]; exact h1.rd.z61) (by rw [z_oat o2 (by omega)]; exact h1.rd.z62))
      simp (disch := omega) only [z_E1133, b1, c_LC hv.1.hL, hh, if_pos, e1, e2, z_fdC, z_pdC, z_adC, z_sdC, z_lkC, z_ndC, z_gdC, z_mdC, z_cI_some', z_cV_some', z_w_ok, Int.reduceAdd, Int.reduceSub, Int.reduceMul, Int.reduceNeg, Int.reduceEq, Int.reduceLT, Int.reduceLE, Int.reduceNe, reduceIte, true_and, and_true, false_and, and_false, if_true, if_false, ne_eq, not_true_eq_false, not_false_eq_true]
    · rw [if_neg (fun z => cv z.2)]
      refine c_does_i (s := σ) ?_ h0
      simp (disch := omega) only [z_E1133, b1, c_LC hv.1.hL, hh, if_neg, z_fdC, z_pdC, z_adC, z_sdC, z_lkC, z_ndC, z_gdC, z_mdC, z_cI_some', z_cV_some', z_w_ok, Int.reduceAdd, Int.reduceSub, Int.reduceMul, Int.reduceNeg, Int.reduceEq, Int.reduceLT, Int.reduceLE, Int.reduceNe, reduceIte, true_and, and_true, false_and, and_false, if_true, if_false, ne_eq, not_true_eq_false, not_false_eq_true]
  · rw [if_neg c] at hh
    rw [if_neg (fun z => c z.1)]
    refine c_does_i (s := σ) ?_ h0
    simp (disch := omega) only [z_E1133, b1, c_LC hv.1.hL, hh, z_fdC, z_pdC, z_adC, z_sdC, z_lkC, z_ndC, z_gdC, z_mdC, z_cI_some', z_cV_some', z_w_ok, Int.reduceAdd, Int.reduceSub, Int.reduceMul, Int.reduceNeg, Int.reduceEq, Int.reduceLT, Int.reduceLE, Int.reduceNe, reduceIte, true_and, and_true, false_and, and_false, if_true, if_false, ne_eq, not_true_eq_false, not_false_eq_true]
end
