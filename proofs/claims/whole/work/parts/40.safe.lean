/-! Study: safe, learn, fair. -/
theorem z_lm_ge {P : Nat → Bool} {f : Nat → Int} (hf : ∀ i, -1 ≤ f i) : ∀ n, -1 ≤ z_lm P f n
  | 0 => by unfold z_lm; omega
  | n + 1 => by
    unfold z_lm
    split
    · exact hf n
    · exact z_lm_ge hf n
section
variable {σ X : z_S} {L s lean : Int} {D : z_D} {share t : Int → Int} {mv cp : Int}
noncomputable def z_Si (X : z_S) (D : z_D) (lean side mv cp : Int) (t : Int → Int) (i : Nat) : Int := z_lt X D lean side (z_ti mv cp t i)
/-- Study.safeOf -/
theorem c_safeOf (h : c_rd σ X L s D lean share) (d : Nat) {w : Int} (hf : z_tot (z_side X w s) (X 0 3) ≤ 20000) (h76 : ∀ w, 0 ≤ w → w < 10 → σ 76 w = X 17 w) :
    ∃ σ', z_ev z_hcC (d + 6) 915 [z_R 65, z_I w, z_R 76] z_hdC σ = some (z_I (z_gr (z_Si X D lean (z_side X w s) (z_side X w s) (X 0 3) (X 7)) (z_tot (z_side X w s) (X 0 3))), z_hdC, σ') ∧ z_off 59 75 σ σ' ∧ c_rd σ' X L s D lean share ∧
      (0 ≤ z_gr (z_Si X D lean (z_side X w s) (z_side X w s) (X 0 3) (X 7)) (z_tot (z_side X w s) (X 0 3)) → ∀ k : Int, 0 ≤ k → k < 5 → σ' 63 k = z_ti (z_side X w s) (X 0 3) (X 7) (z_am (z_Si X D lean (z_side X w s) (z_side X w s) (X 0 3) (X 7)) (z_tot (z_side X w s) (X 0 3))) k) := by
  have hsd := h.side (d + 2) w
  have hsr := h.sr w
  have hgn := h.gn
  have hcp := h.cp
  generalize z_side X w s = side at hf hsd hsr ⊢
  have hti := z_ti_cap (mv := side) (Int.le_refl (X 0 3)) hcp.1 h.tc
  obtain ⟨σ2, e2, o2, h2⟩ := h.begin (mv := side) (cp := X 0 3) (d + 2) h.a5 h.tc hsr ⟨hcp.1, Int.le_refl _⟩ (fun i => h.tolls)
  have hF : ∀ i, -1 ≤ z_Si X D lean side side (X 0 3) (X 7) i := fun i => by
    unfold z_Si z_lt
    refine z_lm_ge (fun w => ?_) 10
    have := z_sm_rng (n := D.gN.toNat) (f := fun g => if z_inw X D w g then D.mn g * z_gp D lean side (z_ti side (X 0 3) (X 7) i) g else 0) (b := 9900) (fun g g0 g1 => by
      have h1 := (h.tab.2.2.2.2 g g0 (by omega)).2.2.2.2.1
      have h2 := c_t20_pay (z_tcap_20 hcp.2 (hti i)) (z_and (z_ch (D.op g) (z_ti side (X 0 3) (X 7) i) lean) side)
      have h3 := z_mul_rng (show 0 ≤ D.mn g by omega) h1.2 h2.1 h2.2
      exact z_if_rng h3.1 h3.2)
    exact Int.le_trans (by omega) this.1
  generalize hFF : z_Si X D lean side side (X 0 3) (X 7) = F at hF ⊢
  have hFi : ∀ i, z_lt X D lean side (z_ti side (X 0 3) (X 7) i) = F i := fun i => by rw [← hFF]; rfl
  obtain ⟨u3, σ3, e3, o3, h3, k3⟩ := z_foru (fun i u x => z_go (z_ev z_hcC (d + 5)) z_hcC 915 48 [z_R 65, z_I w, z_R 76, z_I side, z_I (z_gr F i), z_I (z_tot side (X 0 3)), z_I i, u] [] z_hdC x) (fun u x => some (z_I (z_gr F (z_tot side (X 0 3))), z_hdC, x))
    (fun i x => z_off 59 75 σ x ∧ c_at x X L s D lean share (z_ti side (X 0 3) (X 7) i) side (X 0 3) ∧ (0 ≤ z_gr F i → ∀ k : Int, 0 ≤ k → k < 5 → x 63 k = z_ti side (X 0 3) (X 7) (z_am F i) k)) (z_tot side (X 0 3)) (u := z_U) (s := σ2) ⟨z_off_le o2 (by omega) (by omega), h2, fun h => absurd h (by show ¬ (0 : Int) ≤ -1; omega)⟩ (fun i u x hi ⟨ho, ha0, hk⟩ => by
      obtain ⟨y, q1, oy⟩ := c_leastTake ha0 d hsr (fun w w0 w1 => by rw [z_oat ho (by omega)]; exact h76 w w0 w1)
      have ha := c_at_off oy (by omega) ha0
      have hk : 0 ≤ z_gr F i → ∀ k : Int, 0 ≤ k → k < 5 → y 63 k = z_ti side (X 0 3) (X 7) (z_am F i) k := fun h k k0 k1 => by rw [z_oat oy (by omega)]; exact hk h k k0 k1
      have ho := z_off_trans ho (z_off_le oy (lo' := 59) (hi' := 75) (by omega) (by omega))
      rw [hFi] at q1
      rw [z_B915_48, if_neg (by omega)]
      by_cases c : F i ≤ z_gr F i
      · obtain ⟨g1, g2⟩ := z_gr_keep hF c
        obtain ⟨s3, n1, n2, n3⟩ := ha.next (Int.le_refl _) (d + 3)
        refine ⟨z_I (F i), s3, ?_, z_off_trans ho (z_off_le n2 (by omega) (by omega)), n3, fun h k k0 k1 => ?_⟩
        · simp (disch := omega) only [if_pos, q1, c, n1, z_ns, g2, z_fdC, z_pdC, z_adC, z_sdC, z_lkC, z_ndC, z_gdC, z_mdC, z_cI_some', z_cV_some', z_w_ok, Int.reduceAdd, Int.reduceSub, Int.reduceMul, Int.reduceNeg, Int.reduceEq, Int.reduceLT, Int.reduceLE, Int.reduceNe, reduceIte, true_and, and_true, false_and, and_false, if_true, if_false, ne_eq, not_true_eq_false, not_false_eq_true]
        · rw [z_oat n2 (by omega), g1]; rw [g2] at h; exact hk h k k0 k1
      · obtain ⟨g1, g2⟩ := z_gr_new (Int.not_le.mp c)
        have e := c_keep (σ := y) (d + 4)
        have hoff : z_off 63 63 y (z_cpy y 60 0 63 0 5) := fun a b h => by rw [z_cpy_at, if_neg (by omega)]
        obtain ⟨s3, n1, n2, n3⟩ := (c_at_off hoff (by omega) ha).next (Int.le_refl _) (d + 3)
        refine ⟨z_I (F i), s3, ?_, z_off_trans ho (z_off_trans (z_off_le hoff (by omega) (by omega)) (z_off_le n2 (by omega) (by omega))), n3, fun h k k0 k1 => ?_⟩
        · simp (disch := omega) only [if_neg, q1, c, e, n1, z_ns, g2, z_fdC, z_pdC, z_adC, z_sdC, z_lkC, z_ndC, z_gdC, z_mdC, z_cI_some', z_cV_some', z_w_ok, Int.reduceAdd, Int.reduceSub, Int.reduceMul, Int.reduceNeg, Int.reduceEq, Int.reduceLT, Int.reduceLE, Int.reduceNe, reduceIte, true_and, and_true, false_and, and_false, if_true, if_false, ne_eq, not_true_eq_false, not_false_eq_true]
        · rw [z_oat n2 (by omega), g1, z_cpy_at, if_pos (by omega), show 0 + (k - 0) = k by omega]
          exact ha.sets.2.2.2.2.1 k k0 k1) (fun u x _ => by
      rw [z_B915_48]
      simp (disch := omega) only [if_pos, z_fdC, z_pdC, z_adC, z_sdC, z_lkC, z_ndC, z_gdC, z_mdC, z_cI_some', z_cV_some', z_w_ok, Int.reduceAdd, Int.reduceSub, Int.reduceMul, Int.reduceNeg, Int.reduceEq, Int.reduceLT, Int.reduceLE, Int.reduceNe, reduceIte, true_and, and_true, false_and, and_false, if_true, if_false, ne_eq, not_true_eq_false, not_false_eq_true])
  refine ⟨σ3, ?_, o3, h3.rd, k3⟩
  simp (disch := omega) only [z_E915, h.roads, h.capv, c_LC h.hL, hsd, e2, z_fdC, z_pdC, z_adC, z_sdC, z_lkC, z_ndC, z_gdC, z_mdC, z_cI_some', z_cV_some', z_w_ok, Int.reduceAdd, Int.reduceSub, Int.reduceMul, Int.reduceNeg, Int.reduceEq, Int.reduceLT, Int.reduceLE, Int.reduceNe, reduceIte, true_and, and_true, false_and, and_false, if_true, if_false, ne_eq, not_true_eq_false, not_false_eq_true]
  exact e3
/-- how many pass a road in world w -/
noncomputable def z_bw (X : z_S) (D : z_D) (lean : Int) (t : Int → Int) (r w : Int) : Int := z_wv X D (fun g => if z_pass D lean t r g then D.mn g else 0) w
theorem z_or_0 {x : Int} (h0 : 0 ≤ x) (h1 : x < 2147483648) : z_or x 0 = x := by
  rw [z_or_nat h0 h1 (by omega) (by omega)]
  show ((x.toNat ||| 0 : Nat) : Int) = x
  rw [Nat.or_zero]; omega
/-- Study.worldsWith -/
theorem c_worldsWith (h : c_at σ X L s D lean share t mv cp) (d : Nat) (r v : Int) :
    ∃ σ', z_ev z_hcC (d + 5) 917 [z_R 65, z_I r, z_I v] z_hdC σ = some (z_I (z_bs (fun w => decide (z_bw X D lean t r w = v)) 10), z_hdC, σ') ∧ z_off 71 71 σ σ' := by
  have hgn := h.rd.gn
  have hF : ∀ g, 0 ≤ g → g < D.gN → 0 ≤ (if z_pass D lean t r g then D.mn g else 0) ∧ (if z_pass D lean t r g then D.mn g else 0) ≤ 100000 := fun g g0 g1 => by
    have h1 := (h.goer g0 g1).2.2.1
    exact z_if_rng (by omega) (by omega)
  obtain ⟨σ1, e1, o1, f1⟩ := c_clearWorlds (d + 3) σ
  generalize hFF : (fun g => if z_pass D lean t r g then D.mn g else 0) = F
  have hFg : ∀ g, F g = if z_pass D lean t r g then D.mn g else 0 := fun g => by rw [← hFF]
  replace hF : ∀ g, 0 ≤ g → g < D.gN → 0 ≤ F g ∧ F g ≤ 100000 := fun g g0 g1 => by rw [hFg]; exact hF g g0 g1
  obtain ⟨σ2, e2, o2, f2⟩ := z_for (fun k x => z_go (z_ev z_hcC (d + 4)) z_hcC 917 8 [z_R 65, z_I r, z_I v, z_I (z_sure X D F k), z_I k, z_U] [] z_hdC x) (fun x => z_go (z_ev z_hcC (d + 4)) z_hcC 917 76 [z_R 65, z_I r, z_I v, z_I (z_sure X D F D.gN.toNat), z_I 0, z_I 0] [] z_hdC x)
    (fun k x => z_off 71 71 σ x ∧ ∀ w, 0 ≤ w → w < 10 → x 71 w = z_own X D F w k) D.gN.toNat (s := σ1) ⟨o1, fun w w0 w1 => f1 w w0 w1⟩ (fun k x hk ⟨ho, hz⟩ => by
      have ha := c_at_off ho (by omega) h
      have q1 := ha.choice (d + 1) (g := k) (by omega) (by omega)
      have q2 := ha.manyOf (d + 2) (g := k) (by omega) (by omega)
      have q3 := ha.passes (d + 1) r (g := k) (by omega) (by omega)
      obtain ⟨x2, v', q4, q5, q6, q7, q8, q9⟩ := c_addTo ha.rd.Q d (k := k) (by omega) hF hz
      have hb := z_sure_rng (X := X) hF (k := k) (by omega)
      have hFk := hFg k
      by_cases c : z_pass D lean t r k = true
      · rw [if_pos c] at hFk
        rw [hFk] at q4
        rw [if_pos c] at q3
        refine ⟨x2, ?_, z_off_trans ho q5, q9⟩
        rw [← q6, z_B917_8]
        simp (disch := omega) only [if_neg, ha.rd.gz, q1, q2, q3, q4, z_ns, z_fdC, z_pdC, z_adC, z_sdC, z_lkC, z_ndC, z_gdC, z_mdC, z_cI_some', z_cV_some', z_w_ok, Int.reduceAdd, Int.reduceSub, Int.reduceMul, Int.reduceNeg, Int.reduceEq, Int.reduceLT, Int.reduceLE, Int.reduceNe, reduceIte, true_and, and_true, false_and, and_false, if_true, if_false, ne_eq, not_true_eq_false, not_false_eq_true]
      · rw [if_neg c] at hFk q3
        refine ⟨x, ?_, ho, fun w w0 w1 => ?_⟩
        · have e : z_sure X D F (k + 1) = z_sure X D F k := by
            show z_sure X D F k + (if X 13 (D.gj k) = 0 then F k else 0) = _
            rw [hFk]; simp
          rw [e, z_B917_8]
          simp (disch := omega) only [if_neg, if_pos, ha.rd.gz, q1, q3, z_ns, Int.add_zero, z_fdC, z_pdC, z_adC, z_sdC, z_lkC, z_ndC, z_gdC, z_mdC, z_cI_some', z_cV_some', z_w_ok, Int.reduceAdd, Int.reduceSub, Int.reduceMul, Int.reduceNeg, Int.reduceEq, Int.reduceLT, Int.reduceLE, Int.reduceNe, reduceIte, true_and, and_true, false_and, and_false, if_true, if_false, ne_eq, not_true_eq_false, not_false_eq_true]
        · rw [hz w w0 w1]
          show _ = z_own X D F w k + (if X 13 (D.gj k) ≠ 0 ∧ D.gw k = w then F k else 0)
          rw [hFk]; simp) (fun x ⟨ho, hz⟩ => by
      have ha := c_at_off ho (by omega) h
      rw [z_B917_8]
      simp (disch := omega) only [if_pos, ha.rd.gz, z_fdC, z_pdC, z_adC, z_sdC, z_lkC, z_ndC, z_gdC, z_mdC, z_cI_some', z_cV_some', z_w_ok, Int.reduceAdd, Int.reduceSub, Int.reduceMul, Int.reduceNeg, Int.reduceEq, Int.reduceLT, Int.reduceLE, Int.reduceNe, reduceIte, true_and, and_true, false_and, and_false, if_true, if_false, ne_eq, not_true_eq_false, not_false_eq_true])
  have e3 : z_go (z_ev z_hcC (d + 4)) z_hcC 917 76 [z_R 65, z_I r, z_I v, z_I (z_sure X D F D.gN.toNat), z_I 0, z_I 0] [] z_hdC σ2 = some (z_I (z_bs (fun w => decide (z_bw X D lean t r w = v)) 10), z_hdC, σ2) := by
    refine z_forv (S := Unit) (fun k _ => z_go (z_ev z_hcC (d + 4)) z_hcC 917 76 [z_R 65, z_I r, z_I v, z_I (z_sure X D F D.gN.toNat), z_I (z_bs (fun w => decide (z_bw X D lean t r w = v)) k), z_I k] [] z_hdC σ2) _ 10 () (fun k _ hk => ⟨(), ?_⟩) (fun _ => ?_)
    · have e71 := f2 k (by omega) (by omega)
      have hb1 := z_sure_rng (X := X) hF (k := D.gN.toNat) (by omega)
      have hb2 := z_own_rng (X := X) hF (k := D.gN.toNat) (by omega) k
      have etw := z_wv_eq (X := X) (D := D) (F := F) (w := k)
      have ebw : z_bw X D lean t r k = z_wv X D F k := by unfold z_bw; rw [hFF]
      have hst : z_bs (fun w => decide (z_bw X D lean t r w = v)) (k + 1) = z_bs (fun w => decide (z_bw X D lean t r w = v)) k + if z_wv X D F k = v then ((2 ^ k : Nat) : Int) else 0 := by
        rw [← ebw]
        show z_bs _ k + (if decide (z_bw X D lean t r k = v) = true then _ else _) = _
        simp only [decide_eq_true_eq]
      have hr := z_bs_rng (P := fun w => decide (z_bw X D lean t r w = v)) (n := k)
      have hp : 2 ^ k ≤ 2 ^ 9 := Nat.pow_le_pow_right (by omega) (by omega)
      have hor := z_or_bit (m := z_bs (fun w => decide (z_bw X D lean t r w = v)) k) (k := (k : Int)) hr.1 (by omega) (by omega) (by rw [Int.toNat_natCast]; exact hr.2)
      rw [Int.toNat_natCast] at hor
      have hor0 := z_or_0 (x := z_bs (fun w => decide (z_bw X D lean t r w = v)) k) hr.1 (by omega)
      by_cases c : z_wv X D F k = v
      · rw [if_pos c] at hst
        rw [z_B917_76, hst]
        simp (disch := omega) only [if_neg, if_pos, e71, etw, c, z_ns, hor, z_fdC, z_pdC, z_adC, z_sdC, z_lkC, z_ndC, z_gdC, z_mdC, z_cI_some', z_cV_some', z_w_ok, Int.reduceAdd, Int.reduceSub, Int.reduceMul, Int.reduceNeg, Int.reduceEq, Int.reduceLT, Int.reduceLE, Int.reduceNe, reduceIte, true_and, and_true, false_and, and_false, if_true, if_false, ne_eq, not_true_eq_false, not_false_eq_true]
      · rw [if_neg c, Int.add_zero] at hst
        rw [z_B917_76, hst]
        simp (disch := omega) only [if_neg, if_pos, e71, etw, c, z_ns, hor0, z_fdC, z_pdC, z_adC, z_sdC, z_lkC, z_ndC, z_gdC, z_mdC, z_cI_some', z_cV_some', z_w_ok, Int.reduceAdd, Int.reduceSub, Int.reduceMul, Int.reduceNeg, Int.reduceEq, Int.reduceLT, Int.reduceLE, Int.reduceNe, reduceIte, true_and, and_true, false_and, and_false, if_true, if_false, ne_eq, not_true_eq_false, not_false_eq_true]
    · rw [z_B917_76]
      simp (disch := omega) only [if_pos, z_fdC, z_pdC, z_adC, z_sdC, z_lkC, z_ndC, z_gdC, z_mdC, z_cI_some', z_cV_some', z_w_ok, Int.reduceAdd, Int.reduceSub, Int.reduceMul, Int.reduceNeg, Int.reduceEq, Int.reduceLT, Int.reduceLE, Int.reduceNe, reduceIte, true_and, and_true, false_and, and_false, if_true, if_false, ne_eq, not_true_eq_false, not_false_eq_true]
  refine ⟨σ2, ?_, o2⟩
  simp (disch := omega) only [z_E917, e1, z_fdC, z_pdC, z_adC, z_sdC, z_lkC, z_ndC, z_gdC, z_mdC, z_cI_some', z_cV_some', z_w_ok, Int.reduceAdd, Int.reduceSub, Int.reduceMul, Int.reduceNeg, Int.reduceEq, Int.reduceLT, Int.reduceLE, Int.reduceNe, reduceIte, true_and, and_true, false_and, and_false, if_true, if_false, ne_eq, not_true_eq_false, not_false_eq_true]
  exact e2.trans e3
end
