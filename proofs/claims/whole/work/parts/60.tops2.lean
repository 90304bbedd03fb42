/-! The class's own methods: ways, takes, the best. -/
/-- which goer that is, -1: none -/
def z_fg (X : z_S) (j w : Int) : Int := if (0 ≤ j ∧ j < X 0 2) ∧ X 11 j ≤ w ∧ w ≤ X 12 j then z_gs X j.toNat + w - X 11 j else -1
noncomputable def s_way (X : z_S) (j w : Int) : Int × z_S := if z_fg X j w < 0 then (-1, X) else ((z_steps (z_rk (z_Dm X (-1)) (X 0 4) (X 7) (z_fg X j w)) : Int), z_srow X ((List.range (z_steps (z_rk (z_Dm X (-1)) (X 0 4) (X 7) (z_fg X j w)))).map (fun i => z_dg (z_rk (z_Dm X (-1)) (X 0 4) (X 7) (z_fg X j w)) (z_steps (z_rk (z_Dm X (-1)) (X 0 4) (X 7) (z_fg X j w)) - 1 - i))))
noncomputable def s_pains (X : z_S) (j w : Int) : Int × z_S := (if z_fg X j w < 0 then -1 else z_pn ((z_Dm X (-1)).op (z_fg X j w)) (X 7) (X 0 4), X)
noncomputable def s_room (X : z_S) (j w : Int) : Int × z_S := (if z_fg X j w < 0 then -1 else if z_ch ((z_Dm X (-1)).op (z_fg X j w)) (X 7) (X 0 4) = 0 ∨ z_lw ((z_Dm X (-1)).op (z_fg X j w)) (X 7) (z_ch ((z_Dm X (-1)).op (z_fg X j w)) (X 7) (X 0 4)) 32 < 0 then -2 else z_lw ((z_Dm X (-1)).op (z_fg X j w)) (X 7) (z_ch ((z_Dm X (-1)).op (z_fg X j w)) (X 7) (X 0 4)) 32 - z_pn ((z_Dm X (-1)).op (z_fg X j w)) (X 7) (X 0 4), X)
noncomputable def s_take (X : z_S) (w : Int) : Int × z_S := (if w = 0 ∨ w = 1 then z_brt (z_Dm X (-1)).op (z_Dm X (-1)).mn (z_Dm X (-1)).gN (X 0 4) (z_side X w (-1)) (X 7) else -1, X)
noncomputable def s_suf (X : z_S) : Int × z_S := (z_suf (z_Dm X (-1)).op (z_Dm X (-1)).mn (z_Dm X (-1)).gN (X 0 4) (X 7), X)
noncomputable def s_by (X : z_S) (r : Int) : Int × z_S := (if 0 ≤ r ∧ r < X 0 0 then z_sm (z_Dm X (-1)).gN.toNat (fun g => if z_pass (z_Dm X (-1)) (X 0 4) (X 7) r g then (z_Dm X (-1)).mn g else 0) else -1, X)
def s_ways (X : z_S) (j : Int) : Int × z_S := (if 0 ≤ j ∧ j < X 0 2 then z_wc X (-1) j else -1, X)
section
variable {X σ : z_S} {L A : Int}
theorem z_fg_rng (hw : z_wf X) {j w : Int} (h : ¬ z_fg X j w < 0) : 0 ≤ z_fg X j w ∧ z_fg X j w < (z_Dm X (-1)).gN ∧ z_fg X j w < 48 := by
  have hn := hw.2.2.1
  have c : (0 ≤ j ∧ j < X 0 2) ∧ X 11 j ≤ w ∧ w ≤ X 12 j := by
    unfold z_fg at h
    split at h
    · next c => exact c
    · omega
  have e : z_fg X j w = z_gs X j.toNat + w - X 11 j := if_pos c
  have h1 := z_gs_rng hw (n := j.toNat) (by omega)
  have h2 := z_gs_s (X := X) j.toNat
  rw [Int.toNat_of_nonneg c.1.1] at h2
  have h3 := z_gs_mono hw (a := j.toNat + 1) (b := (X 0 2).toNat) (by omega) (by omega)
  have h4 := z_gs_rng hw (n := (X 0 2).toNat) (by omega)
  show 0 ≤ z_fg X j w ∧ z_fg X j w < z_gs X (X 0 2).toNat ∧ z_fg X j w < 48
  omega
theorem c_iw.find (h : c_iw σ X L A) (d : Nat) (j w : Int) : z_ev z_hcC (d + 3) 110 [z_R 46, z_I j, z_I w] z_hdC σ = some (z_I (z_fg X j w), z_hdC, σ) := by
  have hQ := h.Q
  have hL := hQ.hL
  have hn := hQ.wf.2.2.1
  have hj := c_jhas (σ := σ) (q := L + 10) (by omega) (d + 1) j
  rw [hQ.land.2.2.2.1] at hj
  have g1 := hQ.who.1
  unfold z_fg
  by_cases c : 0 ≤ j ∧ j < X 0 2
  · rw [if_pos (by omega)] at hj
    obtain ⟨-, -, -, r11, r12, -, -⟩ := c_jr hL hQ.wf hQ.land c d
    have hs := (h.2.2.2.2.2.2.2.1 j.toNat (by omega)).2
    rw [Int.toNat_of_nonneg c.1] at hs
    have h1 := z_gs_rng hQ.wf (n := j.toNat) (by omega)
    have hJ := z_wfj hQ.wf c
    by_cases c1 : w < X 11 j
    · rw [if_neg (by omega)]
      simp (disch := omega) only [z_E110, g1, c_LC hL, hj, r11, if_pos, z_fdC, z_pdC, z_adC, z_sdC, z_lkC, z_ndC, z_gdC, z_mdC, z_cI_some', z_cV_some', z_w_ok, Int.reduceAdd, Int.reduceSub, Int.reduceMul, Int.reduceNeg, Int.reduceEq, Int.reduceLT, Int.reduceLE, Int.reduceNe, reduceIte, true_and, and_true, false_and, and_false, if_true, if_false, ne_eq, not_true_eq_false, not_false_eq_true]
    · by_cases c2 : w ≤ X 12 j
      · rw [if_pos (by omega)]
        simp (disch := omega) only [z_E110, g1, c_LC hL, hj, r11, r12, if_pos, if_neg, hs, z_fdC, z_pdC, z_adC, z_sdC, z_lkC, z_ndC, z_gdC, z_mdC, z_cI_some', z_cV_some', z_w_ok, Int.reduceAdd, Int.reduceSub, Int.reduceMul, Int.reduceNeg, Int.reduceEq, Int.reduceLT, Int.reduceLE, Int.reduceNe, reduceIte, true_and, and_true, false_and, and_false, if_true, if_false, ne_eq, not_true_eq_false, not_false_eq_true]
      · rw [if_neg (by omega)]
        simp (disch := omega) only [z_E110, g1, c_LC hL, hj, r11, r12, if_pos, if_neg, z_fdC, z_pdC, z_adC, z_sdC, z_lkC, z_ndC, z_gdC, z_mdC, z_cI_some', z_cV_some', z_w_ok, Int.reduceAdd, Int.reduceSub, Int.reduceMul, Int.reduceNeg, Int.reduceEq, Int.reduceLT, Int.reduceLE, Int.reduceNe, reduceIte, true_and, and_true, false_and, and_false, if_true, if_false, ne_eq, not_true_eq_false, not_false_eq_true]
  · rw [if_neg (by omega)] at hj
    rw [if_neg (fun z => c z.1)]
    simp (disch := omega) only [z_E110, g1, c_LC hL, hj, z_fdC, z_pdC, z_adC, z_sdC, z_lkC, z_ndC, z_gdC, z_mdC, z_cI_some', z_cV_some', z_w_ok, Int.reduceAdd, Int.reduceSub, Int.reduceMul, Int.reduceNeg, Int.reduceEq, Int.reduceLT, Int.reduceLE, Int.reduceNe, reduceIte, true_and, and_true, false_and, and_false, if_true, if_false, ne_eq, not_true_eq_false, not_false_eq_true]
theorem c_at.pains {lean mv cp s : Int} {D : z_D} {share t : Int → Int} (h : c_at σ X L s D lean share t mv cp) (d : Nat) {g : Int} (g0 : 0 ≤ g) (g1 : g < D.gN) : z_ev z_hcC (d + 3) 407 [z_R 58, z_I g, z_I (z_ch (D.op g) t lean)] z_hdC σ = some (z_I (z_pn (D.op g) t lean), z_hdC, σ) ∧ 0 ≤ z_pn (D.op g) t lean ∧ z_pn (D.op g) t lean ≤ 2100 := by
  have hgn := h.rd.gn
  obtain ⟨ho, hL, hm2, h50, hmn, hno, hso⟩ := h.rd.tab.2.2.2.2 g g0 g1
  obtain ⟨c0, c1, c2, qq, hqq, q0, q1, q2⟩ := z_ch_rng (t := t) (lean := lean) ho hm2
  have h3 := c_painsOf (σ := σ) d (op := D.op g) (g := g) g0 (by rw [h.rd.gz]; exact g1) (by omega) h.sets c0 c1 c2 (hso _ _ c0 c1 hqq).1 q0 q1
  have hpn : z_pn (D.op g) t lean = qq.1 + z_pay t (z_ch (D.op g) t lean) := by unfold z_pn; rw [hqq]
  rw [hpn]
  have := h.payr (z_ch (D.op g) t lean)
  exact ⟨h3, by omega, by omega⟩
theorem c_keepAt {s lean mv cp : Int} {D : z_D} {share t : Int → Int} {σ' : z_S} (h : c_iv σ X L A) (ho : z_off 58 75 σ σ') (ha : c_at σ' X L s D lean share t mv cp) : c_inv σ' X := c_iv_keep h ho ha.rd.z61 ha.rd.z62
theorem C_pains (h : c_inv σ X) (d : Nat) (j w : Int) : c_does (z_ev z_hcC (d + 20) 1107 [z_R 1, z_I j, z_I w] z_hdC σ) (s_pains X j w) := by
  have h0 := h
  obtain ⟨L, A, hv⟩ := h
  have hf := hv.1.find (d + 16) j w
  unfold s_pains
  by_cases c : z_fg X j w < 0
  · rw [if_pos c]
    refine c_does_i (s := σ) ?_ h0
    simp (disch := omega) only [z_E1107, hf, if_neg, z_fdC, z_pdC, z_adC, z_sdC, z_lkC, z_ndC, z_gdC, z_mdC, z_cI_some', z_cV_some', z_w_ok, Int.reduceAdd, Int.reduceSub, Int.reduceMul, Int.reduceNeg, Int.reduceEq, Int.reduceLT, Int.reduceLE, Int.reduceNe, reduceIte, true_and, and_true, false_and, and_false, if_true, if_false, ne_eq, not_true_eq_false, not_false_eq_true]
  · rw [if_neg c]
    obtain ⟨g0, g1, g2⟩ := z_fg_rng hv.1.wf c
    obtain ⟨σ1, e1, o1, h1⟩ := hv.1.openNow (d + 14)
    have k1 := h1.choice (d + 16) g0 g1
    have k2 := (h1.pains (d + 16) g0 g1).1
    refine c_does_i (s := σ1) ?_ (c_keepAt hv (z_off_le o1 (by omega) (by omega)) h1)
    simp (disch := omega) only [z_E1107, hf, if_pos, e1, k1, k2, z_fdC, z_pdC, z_adC, z_sdC, z_lkC, z_ndC, z_gdC, z_mdC, z_cI_some', z_cV_some', z_w_ok, Int.reduceAdd, Int.reduceSub, Int.reduceMul, Int.reduceNeg, Int.reduceEq, Int.reduceLT, Int.reduceLE, Int.reduceNe, reduceIte, true_and, and_true, false_and, and_false, if_true, if_false, ne_eq, not_true_eq_false, not_false_eq_true]
theorem C_room (h : c_inv σ X) (d : Nat) (j w : Int) : c_does (z_ev z_hcC (d + 20) 1108 [z_R 1, z_I j, z_I w] z_hdC σ) (s_room X j w) := by
  have h0 := h
  obtain ⟨L, A, hv⟩ := h
  have hf := hv.1.find (d + 16) j w
  unfold s_room
  by_cases c : z_fg X j w < 0
  · rw [if_pos c]
    refine c_does_i (s := σ) ?_ h0
    simp (disch := omega) only [z_E1108, hf, if_neg, z_fdC, z_pdC, z_adC, z_sdC, z_lkC, z_ndC, z_gdC, z_mdC, z_cI_some', z_cV_some', z_w_ok, Int.reduceAdd, Int.reduceSub, Int.reduceMul, Int.reduceNeg, Int.reduceEq, Int.reduceLT, Int.reduceLE, Int.reduceNe, reduceIte, true_and, and_true, false_and, and_false, if_true, if_false, ne_eq, not_true_eq_false, not_false_eq_true]
  · rw [if_neg c]
    obtain ⟨g0, g1, g2⟩ := z_fg_rng hv.1.wf c
    obtain ⟨σ1, e1, o1, h1⟩ := hv.1.openNow (d + 14)
    have k1 := h1.choice (d + 16) g0 g1
    obtain ⟨k2, p0, p1⟩ := h1.pains (d + 16) g0 g1
    obtain ⟨ho, hLs, hm2, h50, hmn, hno, hso⟩ := h1.rd.tab.2.2.2.2 _ g0 g1
    have k3 := c_leastWithout (own := z_ch ((z_Dm X (-1)).op (z_fg X j w)) (X 7) (X 0 4)) (d + 15) ho g0 (by rw [h1.rd.gz]; exact g1) g2 h1.sets hm2 hno hso
    have hlw := z_lw_rng (own := z_ch ((z_Dm X (-1)).op (z_fg X j w)) (X 7) (X 0 4)) ho (z_tcap_20 h1.rd.cp.2 h1.cap) (n := 32) (by omega)
    refine c_does_i (s := σ1) ?_ (c_keepAt hv (z_off_le o1 (by omega) (by omega)) h1)
    by_cases c1 : z_ch ((z_Dm X (-1)).op (z_fg X j w)) (X 7) (X 0 4) = 0
    · rw [if_pos (Or.inl c1)]
      rw [c1] at k1 k3
      simp (disch := omega) only [z_E1108, hf, if_pos, e1, k1, k3, z_fdC, z_pdC, z_adC, z_sdC, z_lkC, z_ndC, z_gdC, z_mdC, z_cI_some', z_cV_some', z_w_ok, Int.reduceAdd, Int.reduceSub, Int.reduceMul, Int.reduceNeg, Int.reduceEq, Int.reduceLT, Int.reduceLE, Int.reduceNe, reduceIte, true_and, and_true, false_and, and_false, if_true, if_false, ne_eq, not_true_eq_false, not_false_eq_true]
    · by_cases c2 : z_lw ((z_Dm X (-1)).op (z_fg X j w)) (X 7) (z_ch ((z_Dm X (-1)).op (z_fg X j w)) (X 7) (X 0 4)) 32 < 0
      · rw [if_pos (Or.inr c2)]
        simp (disch := omega) only [z_E1108, hf, if_pos, e1, k1, k3, c1, if_neg, z_fdC, z_pdC, z_adC, z_sdC, z_lkC, z_ndC, z_gdC, z_mdC, z_cI_some', z_cV_some', z_w_ok, Int.reduceAdd, Int.reduceSub, Int.reduceMul, Int.reduceNeg, Int.reduceEq, Int.reduceLT, Int.reduceLE, Int.reduceNe, reduceIte, true_and, and_true, false_and, and_false, if_true, if_false, ne_eq, not_true_eq_false, not_false_eq_true]
      · rw [if_neg (by omega)]
        simp (disch := omega) only [z_E1108, hf, if_pos, e1, k1, k3, c1, if_neg, k2, z_fdC, z_pdC, z_adC, z_sdC, z_lkC, z_ndC, z_gdC, z_mdC, z_cI_some', z_cV_some', z_w_ok, Int.reduceAdd, Int.reduceSub, Int.reduceMul, Int.reduceNeg, Int.reduceEq, Int.reduceLT, Int.reduceLE, Int.reduceNe, reduceIte, true_and, and_true, false_and, and_false, if_true, if_false, ne_eq, not_true_eq_false, not_false_eq_true]
theorem C_take (h : c_inv σ X) (d : Nat) (w : Int) : c_does (z_ev z_hcC (d + 20) 1109 [z_R 1, z_I w] z_hdC σ) (s_take X w) := by
  have h0 := h
  obtain ⟨L, A, hv⟩ := h
  obtain ⟨b1, b2, b3⟩ := hv.1.2.1
  unfold s_take
  by_cases c : w = 0 ∨ w = 1
  · rw [if_pos c]
    obtain ⟨σ1, e1, o1, h1⟩ := hv.1.openNow (d + 14)
    have k1 := h1.rd.side (d + 16) w
    have k2 := h1.brought (d + 16) (h1.rd.sr w)
    have b1' : σ1 1 7 = L := by rw [z_oat o1 (by omega)]; exact b1
    refine c_does_i (s := σ1) ?_ (c_keepAt hv (z_off_le o1 (by omega) (by omega)) h1)
    rcases c with rfl | rfl <;> simp (disch := omega) only [z_E1109, z_E1140, e1, b1', c_LC hv.1.hL, k1, k2, z_fdC, z_pdC, z_adC, z_sdC, z_lkC, z_ndC, z_gdC, z_mdC, z_cI_some', z_cV_some', z_w_ok, Int.reduceAdd, Int.reduceSub, Int.reduceMul, Int.reduceNeg, Int.reduceEq, Int.reduceLT, Int.reduceLE, Int.reduceNe, reduceIte, true_and, and_true, false_and, and_false, if_true, if_false, ne_eq, not_true_eq_false, not_false_eq_true]
  · rw [if_neg c]
    refine c_does_i (s := σ) ?_ h0
    simp (disch := omega) only [z_E1109, z_E1140, if_neg, if_pos, z_fdC, z_pdC, z_adC, z_sdC, z_lkC, z_ndC, z_gdC, z_mdC, z_cI_some', z_cV_some', z_w_ok, Int.reduceAdd, Int.reduceSub, Int.reduceMul, Int.reduceNeg, Int.reduceEq, Int.reduceLT, Int.reduceLE, Int.reduceNe, reduceIte, true_and, and_true, false_and, and_false, if_true, if_false, ne_eq, not_true_eq_false, not_false_eq_true]
theorem C_suf (h : c_inv σ X) (d : Nat) : c_does (z_ev z_hcC (d + 20) 1110 [z_R 1] z_hdC σ) (s_suf X) := by
  obtain ⟨L, A, hv⟩ := h
  obtain ⟨σ1, e1, o1, h1⟩ := hv.1.openNow (d + 14)
  have k1 := (h1.suf (d + 15)).1
  refine c_does_i (s := σ1) ?_ (c_keepAt hv (z_off_le o1 (by omega) (by omega)) h1)
  simp (disch := omega) only [z_E1110, e1, k1, z_fdC, z_pdC, z_adC, z_sdC, z_lkC, z_ndC, z_gdC, z_mdC, z_cI_some', z_cV_some', z_w_ok, Int.reduceAdd, Int.reduceSub, Int.reduceMul, Int.reduceNeg, Int.reduceEq, Int.reduceLT, Int.reduceLE, Int.reduceNe, reduceIte, true_and, and_true, false_and, and_false, if_true, if_false, ne_eq, not_true_eq_false, not_false_eq_true]
theorem c_iw.has (h : c_iw σ X L A) (d : Nat) (r : Int) : z_ev z_hcC (d + 1) 605 [z_R (L + 1), z_I r] z_hdC σ = some (z_I (if 0 ≤ r ∧ r < X 0 0 then 1 else 0), z_hdC, σ) := by
  have hQ := h.Q
  have hn := hQ.wf.1
  have hL := hQ.hL
  have := c_has (σ := σ) (q := L + 1) (by omega) d r
  rw [hQ.land.1] at this
  rw [this]
  by_cases c : 0 ≤ r ∧ r < X 0 0
  · rw [if_pos (by omega), if_pos c]
  · rw [if_neg (by omega), if_neg c]
theorem C_by (h : c_inv σ X) (d : Nat) (r : Int) : c_does (z_ev z_hcC (d + 20) 1111 [z_R 1, z_I r] z_hdC σ) (s_by X r) := by
  have h0 := h
  obtain ⟨L, A, hv⟩ := h
  obtain ⟨b1, b2, b3⟩ := hv.1.2.1
  have hh := hv.1.has (d + 18) r
  unfold s_by
  by_cases c : 0 ≤ r ∧ r < X 0 0
  · rw [if_pos c] at hh ⊢
    obtain ⟨σ1, e1, o1, h1⟩ := hv.1.openNow (d + 14)
    have hgn := h1.rd.gn
    refine c_does_i (s := σ1) ?_ (c_keepAt hv (z_off_le o1 (by omega) (by omega)) h1)
    have hsum : ∀ k : Nat, (k : Int) ≤ (z_Dm X (-1)).gN → 0 ≤ z_sm k (fun g => if z_pass (z_Dm X (-1)) (X 0 4) (X 7) r g then (z_Dm X (-1)).mn g else 0) ∧ z_sm k (fun g => if z_pass (z_Dm X (-1)) (X 0 4) (X 7) r g then (z_Dm X (-1)).mn g else 0) ≤ k * 99 := fun k hk => z_sm_rng (fun g g0 g1 => by
      have := (h1.goer g0 (by omega)).2.2.1
      exact z_if_rng (by omega) (by omega))
    have key := z_forv (S := Unit) (fun k _ => z_go (z_ev z_hcC (d + 19)) z_hcC 1111 24 [z_R 1, z_I r, z_I (z_sm k (fun g => if z_pass (z_Dm X (-1)) (X 0 4) (X 7) r g then (z_Dm X (-1)).mn g else 0)), z_I k] [] z_hdC σ1) (some (z_I (z_sm (z_Dm X (-1)).gN.toNat (fun g => if z_pass (z_Dm X (-1)) (X 0 4) (X 7) r g then (z_Dm X (-1)).mn g else 0)), z_hdC, σ1)) (z_Dm X (-1)).gN.toNat () (fun k _ hk => ⟨(), by
      have q1 := h1.choice (d + 16) (g := k) (by omega) (by omega)
      have q2 := h1.passes (d + 16) (g := k) r (by omega) (by omega)
      have q3 := h1.manyOf (d + 17) (g := k) (by omega) (by omega)
      have s0 := hsum k (by omega)
      have s1 := hsum (k + 1) (by omega)
      rw [z_sm_s] at s1
      rw [z_B1111_24]
      by_cases cp : z_pass (z_Dm X (-1)) (X 0 4) (X 7) r k = true
      · rw [if_pos cp] at q2 s1
        simp (disch := omega) only [if_neg, h1.rd.gz, q1, q2, q3, z_ns, z_sm_s, cp, z_fdC, z_pdC, z_adC, z_sdC, z_lkC, z_ndC, z_gdC, z_mdC, z_cI_some', z_cV_some', z_w_ok, Int.reduceAdd, Int.reduceSub, Int.reduceMul, Int.reduceNeg, Int.reduceEq, Int.reduceLT, Int.reduceLE, Int.reduceNe, reduceIte, true_and, and_true, false_and, and_false, if_true, if_false, ne_eq, not_true_eq_false, not_false_eq_true]
      · rw [if_neg cp] at q2
        have cp' : z_pass (z_Dm X (-1)) (X 0 4) (X 7) r k = false := by simpa using cp
        simp (disch := omega) only [if_neg, h1.rd.gz, q1, q2, z_ns, z_sm_s, cp', Bool.false_eq_true, Int.add_zero, z_fdC, z_pdC, z_adC, z_sdC, z_lkC, z_ndC, z_gdC, z_mdC, z_cI_some', z_cV_some', z_w_ok, Int.reduceAdd, Int.reduceSub, Int.reduceMul, Int.reduceNeg, Int.reduceEq, Int.reduceLT, Int.reduceLE, Int.reduceNe, reduceIte, true_and, and_true, false_and, and_false, if_true, if_false, ne_eq, not_true_eq_false, not_false_eq_true]⟩) (fun _ => by
      rw [z_B1111_24]
      simp (disch := omega) only [if_pos, h1.rd.gz, z_fdC, z_pdC, z_adC, z_sdC, z_lkC, z_ndC, z_gdC, z_mdC, z_cI_some', z_cV_some', z_w_ok, Int.reduceAdd, Int.reduceSub, Int.reduceMul, Int.reduceNeg, Int.reduceEq, Int.reduceLT, Int.reduceLE, Int.reduceNe, reduceIte, true_and, and_true, false_and, and_false, if_true, if_false, ne_eq, not_true_eq_false, not_false_eq_true])
    have key' : z_go (z_ev z_hcC (d + 19)) z_hcC 1111 24 [z_R 1, z_I r, z_I 0, z_I 0] [] z_hdC σ1 = _ := key
    rw [← key']
    simp (disch := omega) only [z_E1111, b1, c_LC hv.1.hL, hh, e1, z_fdC, z_pdC, z_adC, z_sdC, z_lkC, z_ndC, z_gdC, z_mdC, z_cI_some', z_cV_some', z_w_ok, Int.reduceAdd, Int.reduceSub, Int.reduceMul, Int.reduceNeg, Int.reduceEq, Int.reduceLT, Int.reduceLE, Int.reduceNe, reduceIte, true_and, and_true, false_and, and_false, if_true, if_false, ne_eq, not_true_eq_false, not_false_eq_true]
  · rw [if_neg c] at hh ⊢
    refine c_does_i (s := σ) ?_ h0
    simp (disch := omega) only [z_E1111, b1, c_LC hv.1.hL, hh, z_fdC, z_pdC, z_adC, z_sdC, z_lkC, z_ndC, z_gdC, z_mdC, z_cI_some', z_cV_some', z_w_ok, Int.reduceAdd, Int.reduceSub, Int.reduceMul, Int.reduceNeg, Int.reduceEq, Int.reduceLT, Int.reduceLE, Int.reduceNe, reduceIte, true_and, and_true, false_and, and_false, if_true, if_false, ne_eq, not_true_eq_false, not_false_eq_true]
theorem C_ways (h : c_inv σ X) (d : Nat) (j : Int) : c_does (z_ev z_hcC (d + 20) 1112 [z_R 1, z_I j] z_hdC σ) (s_ways X j) := by
  have h0 := h
  obtain ⟨L, A, hv⟩ := h
  have hQ := hv.1.Q
  have hL := hQ.hL
  have hn := hQ.wf.2.2.1
  have hj := c_jhas (σ := σ) (q := L + 10) (by omega) (d + 17) j
  rw [hQ.land.2.2.2.1] at hj
  have g1 := hQ.who.1
  refine c_does_i (s := σ) ?_ h0
  by_cases c : 0 ≤ j ∧ j < X 0 2
  · rw [if_pos (by omega)] at hj
    rw [if_pos c]
    have hs := (hv.1.2.2.2.2.2.2.2.1 j.toNat (by omega)).1
    rw [Int.toNat_of_nonneg c.1] at hs
    simp (disch := omega) only [z_E1112, z_E111, g1, c_LC hL, hj, hs, z_fdC, z_pdC, z_adC, z_sdC, z_lkC, z_ndC, z_gdC, z_mdC, z_cI_some', z_cV_some', z_w_ok, Int.reduceAdd, Int.reduceSub, Int.reduceMul, Int.reduceNeg, Int.reduceEq, Int.reduceLT, Int.reduceLE, Int.reduceNe, reduceIte, true_and, and_true, false_and, and_false, if_true, if_false, ne_eq, not_true_eq_false, not_false_eq_true]
  · rw [if_neg (by omega)] at hj
    rw [if_neg c]
    simp (disch := omega) only [z_E1112, z_E111, g1, c_LC hL, hj, z_fdC, z_pdC, z_adC, z_sdC, z_lkC, z_ndC, z_gdC, z_mdC, z_cI_some', z_cV_some', z_w_ok, Int.reduceAdd, Int.reduceSub, Int.reduceMul, Int.reduceNeg, Int.reduceEq, Int.reduceLT, Int.reduceLE, Int.reduceNe, reduceIte, true_and, and_true, false_and, and_false, if_true, if_false, ne_eq, not_true_eq_false, not_false_eq_true]
theorem C_way (h : c_inv σ X) (d : Nat) (j w : Int) : c_does (z_ev z_hcC (d + 20) 1106 [z_R 1, z_I j, z_I w] z_hdC σ) (s_way X j w) := by
  have h0 := h
  obtain ⟨L, A, hv⟩ := h
  have hf := hv.1.find (d + 16) j w
  unfold s_way
  by_cases c : z_fg X j w < 0
  · rw [if_pos c]
    refine c_does_i (s := σ) ?_ h0
    simp (disch := omega) only [z_E1106, hf, if_neg, z_fdC, z_pdC, z_adC, z_sdC, z_lkC, z_ndC, z_gdC, z_mdC, z_cI_some', z_cV_some', z_w_ok, Int.reduceAdd, Int.reduceSub, Int.reduceMul, Int.reduceNeg, Int.reduceEq, Int.reduceLT, Int.reduceLE, Int.reduceNe, reduceIte, true_and, and_true, false_and, and_false, if_true, if_false, ne_eq, not_true_eq_false, not_false_eq_true]
  · rw [if_neg c]
    obtain ⟨g0, g1, g2⟩ := z_fg_rng hv.1.wf c
    obtain ⟨σ1, e1, o1, h1⟩ := hv.1.openNow (d + 14)
    have k1 := h1.choice (d + 16) g0 g1
    obtain ⟨k2, r0, r1⟩ := h1.rk (d + 17) g0 g1
    generalize hrk : z_rk (z_Dm X (-1)) (X 0 4) (X 7) (z_fg X j w) = rk at *
    obtain ⟨hst, hs7⟩ := z_steps_ok r0 r1
    obtain ⟨c1, c2, c3⟩ := c_clear (σ := σ1) (d + 17)
    have key : ∀ (n : Nat) (x : z_S) (l : List Int), n ≤ z_steps rk → l.length + n = z_steps rk → l = (List.range (z_steps rk - n)).map (fun i => z_dg rk (z_steps rk - 1 - i)) → c_rw x l → z_off 4 5 σ1 x → ∃ x', z_go (z_ev z_hcC (d + 18)) z_hcC 121 11 [z_R 46, z_I rk, z_R 4, z_I ((n : Int) - 1)] [] z_hdC x = some (z_I (z_steps rk), z_hdC, x') ∧ c_rw x' ((List.range (z_steps rk)).map (fun i => z_dg rk (z_steps rk - 1 - i))) ∧ z_off 4 5 σ1 x' := by
      intro n
      induction n with
      | zero =>
        intro x l hn hl he hr ho
        refine ⟨x, ?_, by rw [he] at hr; exact hr, ho⟩
        have h41 := hr.1
        rw [show l.length = z_steps rk by omega] at h41
        rw [z_B121_11]
        simp (disch := omega) only [if_pos, h41, z_fdC, z_pdC, z_adC, z_sdC, z_lkC, z_ndC, z_gdC, z_mdC, z_cI_some', z_cV_some', z_w_ok, Int.reduceAdd, Int.reduceSub, Int.reduceMul, Int.reduceNeg, Int.reduceEq, Int.reduceLT, Int.reduceLE, Int.reduceNe, reduceIte, true_and, and_true, false_and, and_false, if_true, if_false, ne_eq, not_true_eq_false, not_false_eq_true]
      | succ n ih =>
        intro x l hn hl he hr ho
        obtain ⟨x1, a1, a2, a3⟩ := c_add hr (by omega) (d + 17) (z_dg rk n)
        have hdg := z_dg_ok r0 r1 (i := n) (by omega)
        obtain ⟨x', b1, b2⟩ := ih x1 (l ++ [z_dg rk n]) (by omega) (by rw [List.length_append, List.length_singleton]; omega) (by
          rw [show z_steps rk - n = (z_steps rk - (n + 1)) + 1 by omega, List.range_succ, List.map_append, ← he]
          congr 1
          show [z_dg rk n] = [z_dg rk (z_steps rk - 1 - (z_steps rk - (n + 1)))]
          rw [show z_steps rk - 1 - (z_steps rk - (n + 1)) = n by omega]) a2 (z_off_trans ho a3)
        refine ⟨x', ?_, b2⟩
        rw [← b1, z_B121_11, z_ns, show (n : Int) + 1 - 1 = n by omega]
        simp (disch := omega) only [if_neg, hdg, a1, z_fdC, z_pdC, z_adC, z_sdC, z_lkC, z_ndC, z_gdC, z_mdC, z_cI_some', z_cV_some', z_w_ok, Int.reduceAdd, Int.reduceSub, Int.reduceMul, Int.reduceNeg, Int.reduceEq, Int.reduceLT, Int.reduceLE, Int.reduceNe, reduceIte, true_and, and_true, false_and, and_false, if_true, if_false, ne_eq, not_true_eq_false, not_false_eq_true]
        rw [show (n : Int) + -1 = (n : Int) - 1 by omega]
    obtain ⟨x', a1, a2, a3⟩ := key (z_steps rk) (z_upd σ1 4 1 0) [] (Nat.le_refl _) (by simp) (by simp) c2 c3
    have hlen : ((List.range (z_steps rk)).map (fun i => z_dg rk (z_steps rk - 1 - i))).length = z_steps rk := by rw [List.length_map, List.length_range]
    have k3 : z_ev z_hcC (d + 19) 121 [z_R 46, z_I rk, z_R 4] z_hdC σ1 = some (z_I (z_steps rk), z_hdC, x') := by
      rw [← a1]
      simp (disch := omega) only [z_E121, c1, hst, z_fdC, z_pdC, z_adC, z_sdC, z_lkC, z_ndC, z_gdC, z_mdC, z_cI_some', z_cV_some', z_w_ok, Int.reduceAdd, Int.reduceSub, Int.reduceMul, Int.reduceNeg, Int.reduceEq, Int.reduceLT, Int.reduceLE, Int.reduceNe, reduceIte, true_and, and_true, false_and, and_false, if_true, if_false, ne_eq, not_true_eq_false, not_false_eq_true]
    refine c_does_i (s := x') ?_ (c_iv_srow (c_iw_row (c_iw_off hv.1 (z_off_le o1 (by omega) (by omega)) h1.rd.z61 h1.rd.z62) a3) a2 (by omega))
    simp (disch := omega) only [z_E1106, hf, if_pos, e1, k1, k2, k3, z_fdC, z_pdC, z_adC, z_sdC, z_lkC, z_ndC, z_gdC, z_mdC, z_cI_some', z_cV_some', z_w_ok, Int.reduceAdd, Int.reduceSub, Int.reduceMul, Int.reduceNeg, Int.reduceEq, Int.reduceLT, Int.reduceLE, Int.reduceNe, reduceIte, true_and, and_true, false_and, and_false, if_true, if_false, ne_eq, not_true_eq_false, not_false_eq_true]
end
