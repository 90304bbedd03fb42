/-! The class's own methods: times, answers, rests, spare, fair, a road's numbers. -/
theorem z_shl1m : ∀ n : Nat, n < 6 → z_shl 1 n - 1 = ((2 ^ n - 1 : Nat) : Int) := by decide
theorem z_full_bt : ∀ n : Nat, n < 6 → ∀ k : Nat, k < 5 → z_bt ((2 ^ n - 1 : Nat) : Int) k = decide (k < n) := by decide
noncomputable def z_RS (X : z_S) : Nat → Bool := z_rest X (-1) (z_Dm X (-1)) (X 0 4) (z_Dm X (-1)).mn
def z_RN (X : z_S) : Nat := z_tot (z_or (z_side X 0 (-1)) (z_side X 1 (-1))) (X 0 3)
noncomputable def z_RT (X : z_S) : Int → Int := z_ti (z_or (z_side X 0 (-1)) (z_side X 1 (-1))) (X 0 3) (X 7) (z_ff (z_RS X) (z_RN X))
noncomputable def s_rests (X : z_S) : Int × z_S := if 2000 < (X 0 3 + 1) ^ (X 0 1).toNat then (-1, X) else
  (z_ct (z_RS X) (z_RN X), z_srow X (if z_ct (z_RS X) (z_RN X) ≤ 0 then [] else z_tl (z_all X) (z_RT X) 5 ++ [z_brt (z_Dm X (-1)).op (z_Dm X (-1)).mn (z_Dm X (-1)).gN (X 0 4) (z_side X 0 (-1)) (z_RT X), z_brt (z_Dm X (-1)).op (z_Dm X (-1)).mn (z_Dm X (-1)).gN (X 0 4) (z_side X 1 (-1)) (z_RT X)]))
noncomputable def z_FU (X : z_S) (r : Int) : Int := z_sm 32 (z_add1 (z_Dm X (-1)) (X 0 4) (z_side X (X 5 r) (-1)) (X 0 3) (X 7) (z_slr X r))
noncomputable def z_FN (X : z_S) (r : Int) : Int := z_fc (z_pc (z_side X (X 5 r) (-1))).toNat
noncomputable def s_fair (X : z_S) (r : Int) : Int × z_S := if 0 ≤ z_slr X r ∧ z_seek X (X 5 r) = true then
  (z_FU X r / z_FN X r, z_srow X [z_FU X r / (Nat.gcd (z_FU X r).toNat (z_FN X r).toNat : Nat), z_FN X r / (Nat.gcd (z_FU X r).toNat (z_FN X r).toNat : Nat)]) else (-1, X)
def s_of (X : z_S) (r c : Int) : Int := if c = 0 then X 1 r else if c = 1 then X 2 r else if c = 2 then X 3 r else if c = 3 then X 4 r else if c = 4 then X 5 r else if z_slr X r < 0 then 0 else X 7 (z_slr X r)
section
variable {X σ : z_S} {L A : Int}
theorem C_of (h : c_inv σ X) (d : Nat) {r c : Int} (hr : 0 ≤ r ∧ r < X 0 0) (hc : 0 ≤ c ∧ c ≤ 5) : c_does (z_ev z_hcC (d + 20) 1137 [z_R 1, z_I r, z_I c] z_hdC σ) (s_of X r c, X) := by
  have h0 := h
  obtain ⟨L, A, hv⟩ := h
  have hL := hv.1.hL
  have hQ := hv.1.Q
  have hn := hQ.wf.1
  obtain ⟨b1, b2, b3⟩ := hv.1.2.1
  have hh := hv.1.has (d + 18) r
  have hh2 := hv.1.has (d + 17) r
  rw [if_pos hr] at hh hh2
  have hsl := hv.1.slotAt (d + 16) r
  have hsr := z_slr_rng hQ.wf r
  obtain ⟨l1, l2, l3, l4, l5, l6⟩ := hQ.land.2.2.2.2.1 r hr.1 hr.2
  refine c_does_i (s := σ) ?_ h0
  unfold s_of
  have hcc : c = 0 ∨ c = 1 ∨ c = 2 ∨ c = 3 ∨ c = 4 ∨ c = 5 := by omega
  rcases hcc with rfl | rfl | rfl | rfl | rfl | rfl
  · simp (disch := omega) only [z_E1137, z_E616, b1, c_LC hL, c_LA hL, hh, hh2, if_pos, if_neg, l1, z_fdC, z_pdC, z_adC, z_sdC, z_lkC, z_ndC, z_gdC, z_mdC, z_cI_some', z_cV_some', z_w_ok, Int.reduceAdd, Int.reduceSub, Int.reduceMul, Int.reduceNeg, Int.reduceEq, Int.reduceLT, Int.reduceLE, Int.reduceNe, reduceIte, true_and, and_true, false_and, and_false, if_true, if_false, ne_eq, not_true_eq_false, not_false_eq_true]
  · simp (disch := omega) only [z_E1137, z_E616, b1, c_LC hL, c_LA hL, hh, hh2, if_pos, if_neg, l2, z_fdC, z_pdC, z_adC, z_sdC, z_lkC, z_ndC, z_gdC, z_mdC, z_cI_some', z_cV_some', z_w_ok, Int.reduceAdd, Int.reduceSub, Int.reduceMul, Int.reduceNeg, Int.reduceEq, Int.reduceLT, Int.reduceLE, Int.reduceNe, reduceIte, true_and, and_true, false_and, and_false, if_true, if_false, ne_eq, not_true_eq_false, not_false_eq_true]
  · simp (disch := omega) only [z_E1137, z_E616, b1, c_LC hL, c_LA hL, hh, hh2, if_pos, if_neg, l3, z_fdC, z_pdC, z_adC, z_sdC, z_lkC, z_ndC, z_gdC, z_mdC, z_cI_some', z_cV_some', z_w_ok, Int.reduceAdd, Int.reduceSub, Int.reduceMul, Int.reduceNeg, Int.reduceEq, Int.reduceLT, Int.reduceLE, Int.reduceNe, reduceIte, true_and, and_true, false_and, and_false, if_true, if_false, ne_eq, not_true_eq_false, not_false_eq_true]
  · simp (disch := omega) only [z_E1137, z_E616, b1, c_LC hL, c_LA hL, hh, hh2, if_pos, if_neg, l4, z_fdC, z_pdC, z_adC, z_sdC, z_lkC, z_ndC, z_gdC, z_mdC, z_cI_some', z_cV_some', z_w_ok, Int.reduceAdd, Int.reduceSub, Int.reduceMul, Int.reduceNeg, Int.reduceEq, Int.reduceLT, Int.reduceLE, Int.reduceNe, reduceIte, true_and, and_true, false_and, and_false, if_true, if_false, ne_eq, not_true_eq_false, not_false_eq_true]
  · simp (disch := omega) only [z_E1137, z_E616, b1, c_LC hL, c_LA hL, hh, hh2, if_pos, if_neg, l5, z_fdC, z_pdC, z_adC, z_sdC, z_lkC, z_ndC, z_gdC, z_mdC, z_cI_some', z_cV_some', z_w_ok, Int.reduceAdd, Int.reduceSub, Int.reduceMul, Int.reduceNeg, Int.reduceEq, Int.reduceLT, Int.reduceLE, Int.reduceNe, reduceIte, true_and, and_true, false_and, and_false, if_true, if_false, ne_eq, not_true_eq_false, not_false_eq_true]
  · by_cases cs : z_slr X r < 0
    · simp (disch := omega) only [z_E1137, z_E616, b1, c_LC hL, c_LA hL, hh, hh2, if_pos, if_neg, hsl, z_fdC, z_pdC, z_adC, z_sdC, z_lkC, z_ndC, z_gdC, z_mdC, z_cI_some', z_cV_some', z_w_ok, Int.reduceAdd, Int.reduceSub, Int.reduceMul, Int.reduceNeg, Int.reduceEq, Int.reduceLT, Int.reduceLE, Int.reduceNe, reduceIte, true_and, and_true, false_and, and_false, if_true, if_false, ne_eq, not_true_eq_false, not_false_eq_true]
    · have ht := hv.1.tolls (k := z_slr X r) (by omega) (by omega)
      simp (disch := omega) only [z_E1137, z_E616, b1, c_LC hL, c_LA hL, hh, hh2, if_pos, if_neg, hsl, ht, z_fdC, z_pdC, z_adC, z_sdC, z_lkC, z_ndC, z_gdC, z_mdC, z_cI_some', z_cV_some', z_w_ok, Int.reduceAdd, Int.reduceSub, Int.reduceMul, Int.reduceNeg, Int.reduceEq, Int.reduceLT, Int.reduceLE, Int.reduceNe, reduceIte, true_and, and_true, false_and, and_false, if_true, if_false, ne_eq, not_true_eq_false, not_false_eq_true]
theorem C_row (h : c_inv σ X) (d : Nat) {i : Int} (hi : 0 ≤ i ∧ i < X 0 6) : c_does (z_ev z_hcC (d + 20) 1138 [z_R 1, z_I i] z_hdC σ) (X 19 i, X) := by
  have h0 := h
  obtain ⟨L, A, hv, hr1, hr2⟩ := h
  have h24 := hv.wf.2.2.2.2.2.2.1
  have he := hr2 i hi.1 hi.2
  refine c_does_i (s := σ) ?_ h0
  simp (disch := omega) only [z_E1138, z_E703, hr1, he, if_pos, if_neg, z_fdC, z_pdC, z_adC, z_sdC, z_lkC, z_ndC, z_gdC, z_mdC, z_cI_some', z_cV_some', z_w_ok, Int.reduceAdd, Int.reduceSub, Int.reduceMul, Int.reduceNeg, Int.reduceEq, Int.reduceLT, Int.reduceLE, Int.reduceNe, reduceIte, true_and, and_true, false_and, and_false, if_true, if_false, ne_eq, not_true_eq_false, not_false_eq_true]
theorem c_allSlots (h : c_iw σ X L A) (d : Nat) : z_ev z_hcC (d + 1) 614 [z_R (L + 1)] z_hdC σ = some (z_I (z_all X), z_hdC, σ) := by
  have hQ := h.Q
  have hn := hQ.wf.2.1
  have l2 := hQ.land.2.1
  have hs := z_shl1m (X 0 1).toNat (by omega)
  rw [Int.toNat_of_nonneg hn.1] at hs
  have hp : 2 ^ (X 0 1).toNat ≤ 2 ^ 5 := Nat.pow_le_pow_right (by omega) (by omega)
  have hmin : (if 5 < X 0 1 then (5 : Int) else X 0 1) = X 0 1 := by rw [if_neg (by omega)]
  have hsm : z_w (z_shl 1 (X 0 1) - 1) = z_all X := by rw [hs]; exact z_w_ok (by omega) (by omega)
  simp (disch := omega) only [z_E614, c_LC h.hL, l2, hmin, hsm, z_fdC, z_pdC, z_adC, z_sdC, z_lkC, z_ndC, z_gdC, z_mdC, z_cI_some', z_cV_some', z_w_ok, Int.reduceAdd, Int.reduceSub, Int.reduceMul, Int.reduceNeg, Int.reduceEq, Int.reduceLT, Int.reduceLE, Int.reduceNe, reduceIte, true_and, and_true, false_and, and_false, if_true, if_false, ne_eq, not_true_eq_false, not_false_eq_true]
theorem z_all_rng (hw : z_wf X) : 0 ≤ z_all X ∧ z_all X < 32 := by
  have hn := hw.2.1
  have hp : 2 ^ (X 0 1).toNat ≤ 2 ^ 5 := Nat.pow_le_pow_right (by omega) (by omega)
  unfold z_all
  omega
theorem C_times (h : c_inv σ X) (d : Nat) (w : Int) : c_does (z_ev z_hcC (d + 20) 1123 [z_R 1, z_I w] z_hdC σ) (s_times X w) := by
  have h0 := h
  obtain ⟨L, A, hv⟩ := h
  unfold s_times
  by_cases c : z_seek X w = true
  · rw [if_pos c]
    have k0 := hv.1.can (d + 15) c
    obtain ⟨σ1, e1, o1, h1⟩ := hv.1.openNow (d + 14)
    obtain ⟨c1, c2, c3⟩ := c_clear (σ := σ1) (d + 18)
    have hQ1 := h1.rd.Q
    let V : Int → Int := fun u => z_hv (z_Dm X (-1)) (X 0 4) (z_tsh X u) (z_side X w (-1)) (z_side X w (-1)) (X 0 3) (X 7)
    -- a time asked
    have ask : ∀ (k : Nat) (x : z_S), (∃ sh, c_rd x X L (-1) (z_Dm X (-1)) (X 0 4) sh) → ∃ x1 x2, z_ev z_hcC (d + 19) 402 [z_R 58, z_I k] z_hdC x = some (z_U, z_hdC, x1) ∧ z_ev z_hcC (d + 19) 411 [z_R 58, z_I w] z_hdC x1 = some (z_I (V k), z_hdC, x2) ∧ z_off 59 75 x x2 ∧ (∃ sh, c_rd x2 X L (-1) (z_Dm X (-1)) (X 0 4) sh) ∧ 0 ≤ V k ∧ V k ≤ 480000000 := fun k x ⟨sh, hx⟩ => by
      have hQ := hx.Q
      obtain ⟨x1, q1, q2, q3⟩ := c_shareTime (tm := (k : Int)) (d + 15) hQ.hL hQ.wf hQ.land hQ.tab hQ.who
      have hx1 : c_rd x1 X L (-1) (z_Dm X (-1)) (X 0 4) (z_tsh X k) := by
        have hmk := hx.mk
        refine ⟨c_Q_off q2 (by omega) hQ, ⟨by rw [z_oat q2 (by omega)]; exact hmk.1, hmk.2.1, by rw [z_oat q2 (by omega)]; exact hmk.2.2.1, hmk.2.2.2.1, fun g g0 g1 => ?_⟩, by rw [z_oat q2 (by omega)]; exact hx.n3, by rw [z_oat q2 (by omega)]; exact hx.z61, by rw [z_oat q2 (by omega)]; exact hx.z62⟩
        have hm := (hx.tab.2.2.2.2 g g0 g1).2.2.2.2.1
        refine ⟨q3 g g0 g1, ?_, ?_⟩
        · unfold z_tsh; split <;> omega
        · unfold z_tsh; split <;> omega
      obtain ⟨x2, r1, r2, r3, r4⟩ := hx1.best (d + 14) (z_seek_t.mp c).2
      exact ⟨x1, x2, q1, r1, z_off_trans (z_off_le q2 (by omega) (by omega)) (z_off_le r2 (by omega) (by omega)), ⟨_, r4.rd⟩, hx1.brt (hx1.htc hx1.tc (Int.le_refl _)) _⟩
    have vsum : ∀ k : Nat, k ≤ 4 → 0 ≤ z_sm k V ∧ z_sm k V ≤ k * 480000000 := fun k hk => z_sm_rng (fun u u0 u1 => by
      obtain ⟨x1, x2, -, -, -, -, hh⟩ := ask u.toNat σ1 ⟨_, h1.rd⟩
      rw [Int.toNat_of_nonneg u0] at hh
      exact hh)
    obtain ⟨u3, σ3, e3, r3, o3, h3⟩ := z_foru (fun (k : Nat) (u : z_V) (x : z_S) => z_go (z_ev z_hcC (d + 19)) z_hcC 1123 25 [z_R 1, z_I w, z_I (z_sm k V), z_I k, u] [] z_hdC x) (fun _ x => some (z_I (z_sm 4 V), z_hdC, x))
      (fun k x => c_rw x ((List.range k).map (fun (u : Nat) => V u)) ∧ (∀ a i, (a < 4 ∨ (5 < a ∧ a < 59) ∨ 75 < a) → x a i = σ1 a i) ∧ ∃ sh, c_rd x X L (-1) (z_Dm X (-1)) (X 0 4) sh) 4 (u := z_U) (s := z_upd σ1 4 1 0) ⟨c2, fun a i ha => z_oat c3 (by omega), ⟨_, c_rd_lo c3 (by omega) h1.rd⟩⟩ (fun k u x hk ⟨hr, ho, hx⟩ => by
        obtain ⟨x1, x2, q1, q2, q3, ⟨sh, q4⟩, q5⟩ := ask k x hx
        have hr2 : c_rw x2 ((List.range k).map (fun (u : Nat) => V u)) := ⟨by rw [z_oat q3 (by omega)]; exact hr.1, fun i hi => by rw [z_oat q3 (by omega)]; exact hr.2 i hi⟩
        obtain ⟨x3, p1, p2, p3⟩ := c_add hr2 (by rw [List.length_map, List.length_range]; omega) (d + 18) (V k)
        have v0 := vsum k (by omega)
        refine ⟨z_I (V k), x3, ?_, by rw [List.range_succ, List.map_append]; exact p2, fun a i ha => by rw [z_oat p3 (by omega), z_oat q3 (by omega)]; exact ho a i ha, ⟨sh, c_rd_lo p3 (by omega) q4⟩⟩
        rw [z_B1123_25]
        have hw5 : z_w (z_sm k V + V k) = z_sm (k + 1) V := z_w_ok (by omega) (by omega)
        simp (disch := omega) only [if_neg, q1, q2, p1, hw5, z_ns, z_fdC, z_pdC, z_adC, z_sdC, z_lkC, z_ndC, z_gdC, z_mdC, z_cI_some', z_cV_some', z_w_ok, Int.reduceAdd, Int.reduceSub, Int.reduceMul, Int.reduceNeg, Int.reduceEq, Int.reduceLT, Int.reduceLE, Int.reduceNe, reduceIte, true_and, and_true, false_and, and_false, if_true, if_false, ne_eq, not_true_eq_false, not_false_eq_true]) (fun u x _ => by
        rw [z_B1123_25]
        simp (disch := omega) only [if_pos, z_fdC, z_pdC, z_adC, z_sdC, z_lkC, z_ndC, z_gdC, z_mdC, z_cI_some', z_cV_some', z_w_ok, Int.reduceAdd, Int.reduceSub, Int.reduceMul, Int.reduceNeg, Int.reduceEq, Int.reduceLT, Int.reduceLE, Int.reduceNe, reduceIte, true_and, and_true, false_and, and_false, if_true, if_false, ne_eq, not_true_eq_false, not_false_eq_true])
    obtain ⟨sh, h3⟩ := h3
    have hw1 := c_iw_off hv.1 (z_off_le o1 (by omega) (by omega)) h1.rd.z61 h1.rd.z62
    -- the row apart from the rest
    let σ2 : z_S := fun a i => if 59 ≤ a ∧ a ≤ 75 then σ3 a i else σ1 a i
    have o12 : z_off 58 75 σ1 σ2 := fun a i ha => if_neg (by omega)
    have o23 : z_off 4 5 σ2 σ3 := fun a i ha => by
      show _ = if _ then _ else _
      split
      · rfl
      · exact o3 a i (by omega)
    have hw2 := c_iw_off hw1 o12 (by show (if _ then _ else _) = _; rw [if_pos (by omega)]; exact h3.z61) (by show (if _ then _ else _) = _; rw [if_pos (by omega)]; exact h3.z62)
    refine c_does_i (s := σ3) ?_ (c_iv_srow (c_iw_row hw2 o23) r3 (by rw [List.length_map, List.length_range]; omega))
    have e3' : z_go (z_ev z_hcC (d + 19)) z_hcC 1123 25 [z_R 1, z_I w, z_I 0, z_I 0, z_U] [] z_hdC (z_upd σ1 4 1 0) = _ := e3
    simp (disch := omega) only [z_E1123, k0, e1, c1, e3', z_fdC, z_pdC, z_adC, z_sdC, z_lkC, z_ndC, z_gdC, z_mdC, z_cI_some', z_cV_some', z_w_ok, Int.reduceAdd, Int.reduceSub, Int.reduceMul, Int.reduceNeg, Int.reduceEq, Int.reduceLT, Int.reduceLE, Int.reduceNe, reduceIte, true_and, and_true, false_and, and_false, if_true, if_false, ne_eq, not_true_eq_false, not_false_eq_true]
    rfl
  · rw [if_neg c]
    have k0 := hv.1.not (d + 15) c
    refine c_does_i (s := σ) ?_ h0
    simp (disch := omega) only [z_E1123, k0, z_fdC, z_pdC, z_adC, z_sdC, z_lkC, z_ndC, z_gdC, z_mdC, z_cI_some', z_cV_some', z_w_ok, Int.reduceAdd, Int.reduceSub, Int.reduceMul, Int.reduceNeg, Int.reduceEq, Int.reduceLT, Int.reduceLE, Int.reduceNe, reduceIte, true_and, and_true, false_and, and_false, if_true, if_false, ne_eq, not_true_eq_false, not_false_eq_true]
theorem z_an_cap {D : z_D} {lean cap : Int} {share S t : Int → Int} (hc : 0 ≤ cap) (ht : z_tcap cap t) : ∀ n, z_tcap cap (z_an D lean share S cap t n)
  | 0 => ht
  | n + 1 => z_ti_cap (Int.le_refl _) hc (z_an_cap hc ht n) _
theorem C_answers (h : c_inv σ X) (d : Nat) (n : Int) : c_does (z_ev z_hcC (d + 20) 1124 [z_R 1, z_I n] z_hdC σ) (s_answers X n) := by
  have h0 := h
  obtain ⟨L, A, hv⟩ := h
  have hL := hv.1.hL
  have hwf := hv.1.wf
  unfold s_answers
  by_cases cn : 1 ≤ n ∧ n ≤ 60
  · by_cases c0 : z_seek X 0 = true
    · have k0 := hv.1.can (d + 15) c0
      by_cases c1 : z_seek X 1 = true
      · have k1 := hv.1.can (d + 15) c1
        rw [if_pos ⟨cn, c0, c1⟩]
        have hn1 : ((n.toNat : Nat) : Int) = n := by omega
        obtain ⟨σ1, e1, o1, h1⟩ := hv.1.openNow (d + 14)
        obtain ⟨σ2, e2, o2, h2, f2⟩ := c_answer h1.rd (d + 14) (n := n.toNat) (by omega) ⟨(z_seek_t.mp c0).2, (z_seek_t.mp c1).2⟩
        rw [hn1] at e2
        have e2' : z_ev z_hcC (d + 14 + 5) 2 [z_R 72, z_I n, z_R (L + 1)] z_hdC σ1 = some (z_I (z_AO X n.toNat).1, z_hdC, σ2) := e2
        have f2' : ∀ k, 0 ≤ k → k < 5 → σ2 73 k = z_an (z_Dm X (-1)) (X 0 4) (z_Dm X (-1)).mn (fun w => (z_side X w (-1))) (X 0 3) (X 7) (z_AO X n.toNat).2 k := f2
        have hcap := z_an_cap (D := (z_Dm X (-1))) (lean := (X 0 4)) (share := (z_Dm X (-1)).mn) (S := fun w => (z_side X w (-1))) h1.rd.cp.1 h1.rd.tc (z_AO X n.toNat).2
        generalize z_an (z_Dm X (-1)) (X 0 4) (z_Dm X (-1)).mn (fun w => (z_side X w (-1))) (X 0 3) (X 7) (z_AO X n.toNat).2 = t at *
        have o12 : z_off 58 75 σ σ2 := z_off_trans (z_off_le o1 (by omega) (by omega)) (z_off_le o2 (by omega) (by omega))
        have hw2 := c_iw_off hv.1 o12 h2.z61 h2.z62
        obtain ⟨p1, p2, p3⟩ := c_clear (σ := σ2) (d + 18)
        have h3 := c_rd_lo p3 (by omega) h2
        have hw3 := c_iw_row hw2 p3
        obtain ⟨σ4, e4, o4, h4⟩ := c_duelBrought (w := 0) h3 (d + 15) hcap (fun k k0 k1 => by rw [z_oat p3 (by omega)]; exact f2' k k0 k1)
        have hw4 := c_iw_off hw3 (z_off_le o4 (by omega) (by omega)) h4.z61 h4.z62
        have r4 : c_rw σ4 [] := ⟨by rw [z_oat o4 (by omega)]; exact p2.1, fun i hi => by rw [z_oat o4 (by omega)]; exact p2.2 i hi⟩
        obtain ⟨σ5, e5, r5, o5⟩ := c_add r4 (by simp) (d + 18) (z_brt (z_Dm X (-1)).op (z_Dm X (-1)).mn (z_Dm X (-1)).gN (X 0 4) (z_side X 0 (-1)) t)
        have h5 := c_rd_lo o5 (by omega) h4
        have hw5 := c_iw_row hw4 o5
        obtain ⟨σ6, e6, o6, h6⟩ := c_duelBrought (w := 1) h5 (d + 15) hcap (fun k k0 k1 => by rw [z_oat o5 (by omega), z_oat o4 (by omega), z_oat p3 (by omega)]; exact f2' k k0 k1)
        have hw6 := c_iw_off hw5 (z_off_le o6 (by omega) (by omega)) h6.z61 h6.z62
        have r6 : c_rw σ6 ([] ++ [z_brt (z_Dm X (-1)).op (z_Dm X (-1)).mn (z_Dm X (-1)).gN (X 0 4) (z_side X 0 (-1)) t]) := ⟨by rw [z_oat o6 (by omega)]; exact r5.1, fun i hi => by rw [z_oat o6 (by omega)]; exact r5.2 i hi⟩
        obtain ⟨σ7, e7, r7, o7⟩ := c_add r6 (by simp) (d + 18) (z_brt (z_Dm X (-1)).op (z_Dm X (-1)).mn (z_Dm X (-1)).gN (X 0 4) (z_side X 1 (-1)) t)
        have hw7 := c_iw_row hw6 o7
        have hal := c_allSlots hw7 (d + 18)
        obtain ⟨σ8, e8, r8, o8⟩ := c_tellTolls (a1 := 73) (m := z_all X) (t := t) r7 (by simp) (d + 17) (Or.inr (Or.inr rfl)) (z_all_rng hwf) (fun k k0 k1 => by rw [z_oat o7 (by omega), z_oat o6 (by omega), z_oat o5 (by omega), z_oat o4 (by omega), z_oat p3 (by omega)]; exact f2' k k0 k1)
        have hl := z_tl_len (m := z_all X) (t := t) 5
        have b1 := hv.1.2.1.1
        have b11 : σ1 1 7 = L := by rw [z_oat o1 (by omega)]; exact b1
        have b13 : z_upd σ2 4 1 0 1 7 = L := hw3.2.1.1
        have b15 : σ5 1 7 = L := hw5.2.1.1
        have b17 : σ7 1 7 = L := hw7.2.1.1
        refine c_does_i (s := σ8) ?_ (c_iv_srow (c_iw_row hw7 o8) (l := z_brt (z_Dm X (-1)).op (z_Dm X (-1)).mn (z_Dm X (-1)).gN (X 0 4) (z_side X 0 (-1)) t :: z_brt (z_Dm X (-1)).op (z_Dm X (-1)).mn (z_Dm X (-1)).gN (X 0 4) (z_side X 1 (-1)) t :: z_tl (z_all X) t 5) r8 (by rw [List.length_cons, List.length_cons]; omega))
        simp (disch := omega) only [z_E1124, if_neg, k0, k1, e1, e2', p1, b11, b13, b15, b17, c_LC hL, e4, e5, e6, e7, hal, e8, z_fdC, z_pdC, z_adC, z_sdC, z_lkC, z_ndC, z_gdC, z_mdC, z_cI_some', z_cV_some', z_w_ok, Int.reduceAdd, Int.reduceSub, Int.reduceMul, Int.reduceNeg, Int.reduceEq, Int.reduceLT, Int.reduceLE, Int.reduceNe, reduceIte, true_and, and_true, false_and, and_false, if_true, if_false, ne_eq, not_true_eq_false, not_false_eq_true]
      · rw [if_neg (fun z => c1 z.2.2)]
        have k1 := hv.1.not (d + 15) c1
        refine c_does_i (s := σ) ?_ h0
        simp (disch := omega) only [z_E1124, if_neg, k0, k1, z_fdC, z_pdC, z_adC, z_sdC, z_lkC, z_ndC, z_gdC, z_mdC, z_cI_some', z_cV_some', z_w_ok, Int.reduceAdd, Int.reduceSub, Int.reduceMul, Int.reduceNeg, Int.reduceEq, Int.reduceLT, Int.reduceLE, Int.reduceNe, reduceIte, true_and, and_true, false_and, and_false, if_true, if_false, ne_eq, not_true_eq_false, not_false_eq_true]
    · rw [if_neg (fun z => c0 z.2.1)]
      have k0 := hv.1.not (d + 15) c0
      refine c_does_i (s := σ) ?_ h0
      simp (disch := omega) only [z_E1124, if_neg, k0, z_fdC, z_pdC, z_adC, z_sdC, z_lkC, z_ndC, z_gdC, z_mdC, z_cI_some', z_cV_some', z_w_ok, Int.reduceAdd, Int.reduceSub, Int.reduceMul, Int.reduceNeg, Int.reduceEq, Int.reduceLT, Int.reduceLE, Int.reduceNe, reduceIte, true_and, and_true, false_and, and_false, if_true, if_false, ne_eq, not_true_eq_false, not_false_eq_true]
  · rw [if_neg (fun z => cn z.1)]
    refine c_does_i (s := σ) ?_ h0
    by_cases c1 : n < 1
    · simp (disch := omega) only [z_E1124, if_pos, z_fdC, z_pdC, z_adC, z_sdC, z_lkC, z_ndC, z_gdC, z_mdC, z_cI_some', z_cV_some', z_w_ok, Int.reduceAdd, Int.reduceSub, Int.reduceMul, Int.reduceNeg, Int.reduceEq, Int.reduceLT, Int.reduceLE, Int.reduceNe, reduceIte, true_and, and_true, false_and, and_false, if_true, if_false, ne_eq, not_true_eq_false, not_false_eq_true]
    · simp (disch := omega) only [z_E1124, if_pos, if_neg, z_fdC, z_pdC, z_adC, z_sdC, z_lkC, z_ndC, z_gdC, z_mdC, z_cI_some', z_cV_some', z_w_ok, Int.reduceAdd, Int.reduceSub, Int.reduceMul, Int.reduceNeg, Int.reduceEq, Int.reduceLT, Int.reduceLE, Int.reduceNe, reduceIte, true_and, and_true, false_and, and_false, if_true, if_false, ne_eq, not_true_eq_false, not_false_eq_true]
theorem C_rests (h : c_inv σ X) (d : Nat) : c_does (z_ev z_hcC (d + 20) 1125 [z_R 1] z_hdC σ) (s_rests X) := by
  have h0 := h
  obtain ⟨L, A, hv⟩ := h
  have hL := hv.1.hL
  have hwf := hv.1.wf
  have hcp := hwf.2.2.2.1
  have hnt := hwf.2.1
  have hQ := hv.1.Q
  have b1 := hv.1.2.1.1
  have l2 := hQ.land.2.1
  have l3 := hQ.land.2.2.1
  have hp := c_powerOf (hc := z_hcC) (hd := z_hdC) (σ := σ) (d + 18) (b := X 0 3 + 1) (n := X 0 1) (by omega) (by omega) hnt.1 hnt.2
  unfold s_rests
  by_cases c : 2000 < (X 0 3 + 1) ^ (X 0 1).toNat
  · rw [if_pos c]
    refine c_does_i (s := σ) ?_ h0
    simp (disch := omega) only [z_E1125, b1, c_LC hL, l2, l3, hp, if_neg, z_fdC, z_pdC, z_adC, z_sdC, z_lkC, z_ndC, z_gdC, z_mdC, z_cI_some', z_cV_some', z_w_ok, Int.reduceAdd, Int.reduceSub, Int.reduceMul, Int.reduceNeg, Int.reduceEq, Int.reduceLT, Int.reduceLE, Int.reduceNe, reduceIte, true_and, and_true, false_and, and_false, if_true, if_false, ne_eq, not_true_eq_false, not_false_eq_true]
  · rw [if_neg c]
    obtain ⟨σ1, e1, o1, h1⟩ := hv.1.openNow (d + 14)
    have hfull : (z_or (z_side X 0 (-1)) (z_side X 1 (-1))) = z_all X := by
      have ho := z_sides (s := -1) hwf
      have s0 := z_side_rng hwf 0 (-1)
      have s1 := z_side_rng hwf 1 (-1)
      refine z_ext32 ho.2.1 (z_all_rng hwf) (fun k k0 k1 => ?_)
      have hb := ((z_or_32 (z_side X 0 (-1)).toNat (by omega) (z_side X 1 (-1)).toNat (by omega)).2.2.2.2 k.toNat (by omega)).1
      rw [Int.toNat_of_nonneg s0.1, Int.toNat_of_nonneg s1.1, Int.toNat_of_nonneg k0] at hb
      have hf := z_full_bt (X 0 1).toNat (by omega) k.toNat (by omega)
      rw [Int.toNat_of_nonneg k0] at hf
      rw [hb]
      unfold z_all
      rw [hf, Bool.eq_iff_iff, Bool.or_eq_true, z_side_bt hwf k0, z_side_bt hwf k0, decide_eq_true_eq]
      constructor
      · rintro (h | h) <;> omega
      · intro h
        have h6 := hwf.2.2.2.2.2.2.2.2.1 k k0 (by omega)
        have h5 := (hwf.2.2.2.2.2.2.2.1 (X 6 k) h6.1 h6.2.1).2.2.2.2.2
        rcases h5 with h5 | h5 | h5
        · exact absurd h5 h6.2.2
        · left; exact ⟨by omega, h5, by omega⟩
        · right; exact ⟨by omega, h5, by omega⟩
    have hpcall : z_pc (z_all X) = X 0 1 := by
      have hd : ∀ n : Nat, n < 6 → z_pc ((2 ^ n - 1 : Nat) : Int) = n := by decide +kernel
      have := hd (X 0 1).toNat (by omega)
      rwa [Int.toNat_of_nonneg hnt.1] at this
    have htot : z_tot (z_or (z_side X 0 (-1)) (z_side X 1 (-1))) (X 0 3) ≤ 2000 := by
      have := z_tot_i (mv := z_or (z_side X 0 (-1)) (z_side X 1 (-1))) hcp.1
      rw [hfull, hpcall] at this
      rw [hfull]
      omega
    obtain ⟨σ2, e2, o2, h2, f2⟩ := c_countRests h1.rd (d + 14) htot
    have e2' : z_ev z_hcC (d + 14 + 5) 5 [z_R 72, z_R (L + 1)] z_hdC σ1 = some (z_I (z_ct (z_RS X) (z_RN X)), z_hdC, σ2) := e2
    have f2' : 0 < z_ct (z_RS X) (z_RN X) → ∀ k, 0 ≤ k → k < 5 → σ2 73 k = z_RT X k := f2
    have hcap : z_tcap (X 0 3) (z_RT X) := z_ti_cap (Int.le_refl _) hcp.1 h1.cap _
    have o12 : z_off 58 75 σ σ2 := z_off_trans (z_off_le o1 (by omega) (by omega)) (z_off_le o2 (by omega) (by omega))
    have hw2 := c_iw_off hv.1 o12 h2.z61 h2.z62
    obtain ⟨p1, p2, p3⟩ := c_clear (σ := σ2) (d + 18)
    have h3 := c_rd_lo p3 (by omega) h2
    have hw3 := c_iw_row hw2 p3
    have b11 : σ1 1 7 = L := by rw [z_oat o1 (by omega)]; exact b1
    have b13 : z_upd σ2 4 1 0 1 7 = L := hw3.2.1.1
    by_cases cp : z_ct (z_RS X) (z_RN X) ≤ 0
    · rw [if_pos cp]
      refine c_does_i (s := z_upd σ2 4 1 0) ?_ (c_iv_srow hw3 p2 (by simp))
      simp (disch := omega) only [z_E1125, b1, c_LC hL, l2, l3, hp, if_pos, e1, b11, e2', p1, z_fdC, z_pdC, z_adC, z_sdC, z_lkC, z_ndC, z_gdC, z_mdC, z_cI_some', z_cV_some', z_w_ok, Int.reduceAdd, Int.reduceSub, Int.reduceMul, Int.reduceNeg, Int.reduceEq, Int.reduceLT, Int.reduceLE, Int.reduceNe, reduceIte, true_and, and_true, false_and, and_false, if_true, if_false, ne_eq, not_true_eq_false, not_false_eq_true]
    · rw [if_neg cp]
      have f3 : ∀ k, 0 ≤ k → k < 5 → (z_upd σ2 4 1 0) 73 k = z_RT X k := fun k k0 k1 => by rw [z_oat p3 (by omega)]; exact f2' (by omega) k k0 k1
      have hal := c_allSlots hw3 (d + 18)
      obtain ⟨σ4, e4, r4, o4⟩ := c_tellTolls (a1 := 73) (m := z_all X) (t := z_RT X) p2 (by simp) (d + 17) (Or.inr (Or.inr rfl)) (z_all_rng hwf) f3
      have h4 := c_rd_lo o4 (by omega) h3
      have hw4 := c_iw_row hw3 o4
      have hl := z_tl_len (m := z_all X) (t := z_RT X) 5
      obtain ⟨σ5, e5, o5, h5⟩ := c_duelBrought (w := 0) h4 (d + 15) hcap (fun k k0 k1 => by rw [z_oat o4 (by omega)]; exact f3 k k0 k1)
      have hw5 := c_iw_off hw4 (z_off_le o5 (by omega) (by omega)) h5.z61 h5.z62
      have r5 : c_rw σ5 ([] ++ z_tl (z_all X) (z_RT X) 5) := ⟨by rw [z_oat o5 (by omega)]; exact r4.1, fun i hi => by rw [z_oat o5 (by omega)]; exact r4.2 i hi⟩
      obtain ⟨σ6, e6, r6, o6⟩ := c_add r5 (by rw [List.length_append, List.length_nil]; omega) (d + 18) (z_brt (z_Dm X (-1)).op (z_Dm X (-1)).mn (z_Dm X (-1)).gN (X 0 4) (z_side X 0 (-1)) (z_RT X))
      have h6 := c_rd_lo o6 (by omega) h5
      have hw6 := c_iw_row hw5 o6
      obtain ⟨σ7, e7, o7, h7⟩ := c_duelBrought (w := 1) h6 (d + 15) hcap (fun k k0 k1 => by rw [z_oat o6 (by omega), z_oat o5 (by omega), z_oat o4 (by omega)]; exact f3 k k0 k1)
      have hw7 := c_iw_off hw6 (z_off_le o7 (by omega) (by omega)) h7.z61 h7.z62
      have r7 : c_rw σ7 ([] ++ z_tl (z_all X) (z_RT X) 5 ++ [z_brt (z_Dm X (-1)).op (z_Dm X (-1)).mn (z_Dm X (-1)).gN (X 0 4) (z_side X 0 (-1)) (z_RT X)]) := ⟨by rw [z_oat o7 (by omega)]; exact r6.1, fun i hi => by rw [z_oat o7 (by omega)]; exact r6.2 i hi⟩
      obtain ⟨σ8, e8, r8, o8⟩ := c_add r7 (by rw [List.length_append, List.length_append, List.length_nil, List.length_singleton]; omega) (d + 18) (z_brt (z_Dm X (-1)).op (z_Dm X (-1)).mn (z_Dm X (-1)).gN (X 0 4) (z_side X 1 (-1)) (z_RT X))
      have b14 : σ4 1 7 = L := hw4.2.1.1
      have b16 : σ6 1 7 = L := hw6.2.1.1
      refine c_does_i (s := σ8) ?_ (c_iv_srow (c_iw_row hw7 o8) (l := z_tl (z_all X) (z_RT X) 5 ++ [z_brt (z_Dm X (-1)).op (z_Dm X (-1)).mn (z_Dm X (-1)).gN (X 0 4) (z_side X 0 (-1)) (z_RT X), z_brt (z_Dm X (-1)).op (z_Dm X (-1)).mn (z_Dm X (-1)).gN (X 0 4) (z_side X 1 (-1)) (z_RT X)]) (by rw [List.nil_append, List.append_assoc] at r8; exact r8) (by rw [List.length_append, List.length_cons, List.length_singleton]; omega))
      simp (disch := omega) only [z_E1125, b1, c_LC hL, l2, l3, hp, if_pos, if_neg, e1, b11, e2', p1, b13, hal, e4, b14, e5, e6, b16, e7, e8, z_fdC, z_pdC, z_adC, z_sdC, z_lkC, z_ndC, z_gdC, z_mdC, z_cI_some', z_cV_some', z_w_ok, Int.reduceAdd, Int.reduceSub, Int.reduceMul, Int.reduceNeg, Int.reduceEq, Int.reduceLT, Int.reduceLE, Int.reduceNe, reduceIte, true_and, and_true, false_and, and_false, if_true, if_false, ne_eq, not_true_eq_false, not_false_eq_true]
end
