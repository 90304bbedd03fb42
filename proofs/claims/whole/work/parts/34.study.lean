/-! Study: bound, given, above. -/
def z_mx (f : Nat → Int) : Nat → Int
  | 0 => 0
  | n + 1 => if z_mx f n < f n then f n else z_mx f n
theorem z_mx_rng {f : Nat → Int} {b : Int} (hb : 0 ≤ b) : ∀ {n : Nat}, (∀ i, i < n → f i ≤ b) → 0 ≤ z_mx f n ∧ z_mx f n ≤ b
  | 0, _ => by unfold z_mx; omega
  | n + 1, h => by
    have ih := z_mx_rng (f := f) hb (n := n) (fun i hi => h i (by omega))
    have := h n (by omega)
    unfold z_mx
    split <;> omega
theorem z_sm_s (k : Nat) (f : Int → Int) : z_sm (k + 1) f = z_sm k f + f k := rfl
section
variable {σ X : z_S} {L s lean : Int} {D : z_D} {share : Int → Int}
/-- what a goer pays a side -/
noncomputable def z_gp (D : z_D) (lean side : Int) (t : Int → Int) (g : Int) : Int := z_pay t (z_and (z_ch (D.op g) t lean) side)
/-- Study.boundOf -/
theorem c_boundOf (h : c_rd σ X L s D lean share) (d : Nat) {w : Int} (hf : z_tot (z_side X w s) (X 0 3) ≤ 20000) :
    ∃ σ', z_ev z_hcC (d + 5) 901 [z_R 65, z_I w] z_hdC σ = some (z_I (z_sm D.gN.toNat (fun g => D.mn g * z_mx (fun i => z_gp D lean (z_side X w s) (z_ti (z_side X w s) (X 0 3) (X 7) i) g) (z_tot (z_side X w s) (X 0 3)))), z_hdC, σ') ∧ z_off 59 75 σ σ' ∧ c_rd σ' X L s D lean share := by
  have hsd := h.side (d + 1) w
  have hsr := h.sr w
  have hgn := h.gn
  have hcp := h.cp
  generalize z_side X w s = side at hf hsd hsr ⊢
  have hti := z_ti_cap (mv := side) (Int.le_refl (X 0 3)) hcp.1 h.tc
  have hN : ((D.gN.toNat : Nat) : Int) = D.gN := by omega
  -- all at 0
  obtain ⟨σ1, e1, o1, f1⟩ := z_for (fun k x => z_go (z_ev z_hcC (d + 4)) z_hcC 901 14 [z_R 65, z_I w, z_I side, z_I k, z_U, z_U] [] z_hdC x) (fun x => z_cI (z_ev z_hcC (d + 4) 405 [z_R 58, z_R (L + 3), z_I side, z_I (X 0 3)] z_hdC x) (fun v h1 s2 => z_go (z_ev z_hcC (d + 4)) z_hcC 901 68 [z_R 65, z_I w, z_I side, z_I v, z_I 0, z_U] [] h1 s2))
    (fun k x => z_off 69 69 σ x ∧ ∀ g : Int, 0 ≤ g → g < k → x 69 g = 0) 48 (s := σ) ⟨z_off_refl, fun g a b => by omega⟩ (fun k x hk ⟨ho, hz⟩ => by
      refine ⟨z_upd x 69 k 0, ?_, z_off_trans ho (z_off_upd (by omega) (by omega)), fun g g0 g1 => ?_⟩
      · rw [z_B901_14]
        simp (disch := omega) only [if_neg, z_ns, z_fdC, z_pdC, z_adC, z_sdC, z_lkC, z_ndC, z_gdC, z_mdC, z_cI_some', z_cV_some', z_w_ok, Int.reduceAdd, Int.reduceSub, Int.reduceMul, Int.reduceNeg, Int.reduceEq, Int.reduceLT, Int.reduceLE, Int.reduceNe, reduceIte, true_and, and_true, false_and, and_false, if_true, if_false, ne_eq, not_true_eq_false, not_false_eq_true]
      · by_cases hg : g = k
        · subst hg; exact z_upd_same
        · rw [z_upd_ne (Or.inr hg)]; exact hz g g0 (by omega)) (fun x ⟨ho, hz⟩ => by
      have hr := c_rd_off ho (by omega) h
      rw [z_B901_14]
      simp (disch := omega) only [if_pos, hr.roads, hr.capv, c_LC hr.hL, z_ns, z_fdC, z_pdC, z_adC, z_sdC, z_lkC, z_ndC, z_gdC, z_mdC, z_cI_some', z_cV_some', z_w_ok, Int.reduceAdd, Int.reduceSub, Int.reduceMul, Int.reduceNeg, Int.reduceEq, Int.reduceLT, Int.reduceLE, Int.reduceNe, reduceIte, true_and, and_true, false_and, and_false, if_true, if_false, ne_eq, not_true_eq_false, not_false_eq_true])
  have h1 := c_rd_off o1 (by omega) h
  obtain ⟨σ2, e2, o2, h2⟩ := h1.begin (mv := side) (cp := X 0 3) (d + 1) h1.a5 h1.tc hsr ⟨hcp.1, Int.le_refl _⟩ (fun i => h1.tolls)
  let A : Int → Nat → Int := fun g i => z_mx (fun i => z_gp D lean side (z_ti side (X 0 3) (X 7) i) g) i
  have hA : ∀ g i, 0 ≤ A g i ∧ A g i ≤ 100 := fun g i => z_mx_rng (by omega) (fun i _ => (c_t20_pay (z_tcap_20 hcp.2 (hti i)) _).2)
  obtain ⟨u3, σ3, e3, o3, h3, f3⟩ := z_foru (fun i u x => z_go (z_ev z_hcC (d + 4)) z_hcC 901 68 [z_R 65, z_I w, z_I side, z_I (z_tot side (X 0 3)), z_I i, u] [] z_hdC x) (fun u x => z_go (z_ev z_hcC (d + 4)) z_hcC 901 165 [z_R 65, z_I w, z_I side, z_I (z_tot side (X 0 3)), z_I 0, z_I 0] [] z_hdC x)
    (fun i x => z_off 59 75 σ x ∧ c_at x X L s D lean share (z_ti side (X 0 3) (X 7) i) side (X 0 3) ∧ ∀ g, 0 ≤ g → g < D.gN → x 69 g = A g i) (z_tot side (X 0 3)) (u := z_U) (s := σ2) ⟨z_off_trans (z_off_le o1 (by omega) (by omega)) (z_off_le o2 (by omega) (by omega)), h2, fun g g0 g1 => by
      show σ2 69 g = 0
      rw [z_oat o2 (by omega)]; exact f1 g g0 (by omega)⟩ (fun i u s1 hi ⟨ho, ha, hz⟩ => by
      obtain ⟨s2, k1, k2, k3, k4⟩ := z_for (fun k x => z_go (z_ev z_hcC (d + 4)) z_hcC 901 77 [z_R 65, z_I w, z_I side, z_I (z_tot side (X 0 3)), z_I i, z_I k] [] z_hdC x) (fun x => z_cV (z_ev z_hcC (d + 4) 802 [z_R 59] z_hdC x) (fun h x => z_go (z_ev z_hcC (d + 4)) z_hcC 901 68 [z_R 65, z_I w, z_I side, z_I (z_tot side (X 0 3)), z_I ((i : Int) + 1), z_I D.gN] [] h x))
        (fun k x => z_off 69 69 s1 x ∧ (∀ g, 0 ≤ g → g < (k : Int) → x 69 g = A g (i + 1)) ∧ ∀ g, (k : Int) ≤ g → g < D.gN → x 69 g = A g i) D.gN.toNat (s := s1) ⟨z_off_refl, fun g a b => by omega, fun g g0 g1 => hz g (by omega) g1⟩ (fun k s2 hk ⟨p1, p2, p3⟩ => by
          have hb := c_at_off p1 (by omega) ha
          have q1 := hb.choice (d + 1) (g := k) (by omega) (by omega)
          have q2 := hb.paySide (d + 3) (g := k) (side := side) (by omega) (by omega) hsr
          have q3 := p3 k (by omega) (by omega)
          refine ⟨z_upd s2 69 k (A k (i + 1)), ?_, z_off_trans p1 (z_off_upd (by omega) (by omega)), fun g g0 g1 => ?_, fun g g0 g1 => ?_⟩
          · rw [z_B901_77]
            simp (disch := omega) only [if_neg, hb.rd.gz, q1, q2, q3, z_ns, z_fdC, z_pdC, z_adC, z_sdC, z_lkC, z_ndC, z_gdC, z_mdC, z_cI_some', z_cV_some', z_w_ok, Int.reduceAdd, Int.reduceSub, Int.reduceMul, Int.reduceNeg, Int.reduceEq, Int.reduceLT, Int.reduceLE, Int.reduceNe, reduceIte, true_and, and_true, false_and, and_false, if_true, if_false, ne_eq, not_true_eq_false, not_false_eq_true]
            rfl
          · by_cases hg : g = k
            · subst hg; exact z_upd_same
            · rw [z_upd_ne (Or.inr hg)]; exact p2 g g0 (by omega)
          · rw [z_upd_ne (Or.inr (by omega))]; exact p3 g (by omega) g1) (fun s2 ⟨p1, p2, p3⟩ => by
          have hb := c_at_off p1 (by omega) ha
          rw [z_B901_77]
          simp (disch := omega) only [if_pos, hb.rd.gz, hN, z_fdC, z_pdC, z_adC, z_sdC, z_lkC, z_ndC, z_gdC, z_mdC, z_cI_some', z_cV_some', z_w_ok, Int.reduceAdd, Int.reduceSub, Int.reduceMul, Int.reduceNeg, Int.reduceEq, Int.reduceLT, Int.reduceLE, Int.reduceNe, reduceIte, true_and, and_true, false_and, and_false, if_true, if_false, ne_eq, not_true_eq_false, not_false_eq_true])
      have hb := c_at_off k2 (by omega) ha
      obtain ⟨s3, n1, n2, n3⟩ := hb.next (Int.le_refl _) (d + 2)
      refine ⟨z_I D.gN, s3, ?_, z_off_trans ho (z_off_trans (z_off_le k2 (by omega) (by omega)) (z_off_le n2 (by omega) (by omega))), n3, fun g g0 g1 => by rw [z_oat n2 (by omega)]; exact k3 g g0 (by omega)⟩
      rw [z_B901_68, if_neg (by omega)]
      refine k1.trans ?_
      simp (disch := omega) only [n1, z_ns, z_fdC, z_pdC, z_adC, z_sdC, z_lkC, z_ndC, z_gdC, z_mdC, z_cI_some', z_cV_some', z_w_ok, Int.reduceAdd, Int.reduceSub, Int.reduceMul, Int.reduceNeg, Int.reduceEq, Int.reduceLT, Int.reduceLE, Int.reduceNe, reduceIte, true_and, and_true, false_and, and_false, if_true, if_false, ne_eq, not_true_eq_false, not_false_eq_true]) (fun u s1 ⟨ho, ha, hz⟩ => by
      rw [z_B901_68]
      simp (disch := omega) only [if_pos, z_fdC, z_pdC, z_adC, z_sdC, z_lkC, z_ndC, z_gdC, z_mdC, z_cI_some', z_cV_some', z_w_ok, Int.reduceAdd, Int.reduceSub, Int.reduceMul, Int.reduceNeg, Int.reduceEq, Int.reduceLT, Int.reduceLE, Int.reduceNe, reduceIte, true_and, and_true, false_and, and_false, if_true, if_false, ne_eq, not_true_eq_false, not_false_eq_true])
  refine ⟨σ3, ?_, o3, h3.rd⟩
  have hsum : ∀ k : Nat, (k : Int) ≤ D.gN → 0 ≤ z_sm k (fun g => D.mn g * A g (z_tot side (X 0 3))) ∧ z_sm k (fun g => D.mn g * A g (z_tot side (X 0 3))) ≤ k * 9900 := fun k hk => z_sm_rng (fun g g0 g1 => by
    have h1 := (h3.goer g0 (by omega)).2.2.1
    have h2 := hA g (z_tot side (X 0 3))
    exact z_mul_rng (by omega) h1.2 h2.1 h2.2)
  have e4 := z_forv (S := Unit) (fun k _ => z_go (z_ev z_hcC (d + 4)) z_hcC 901 165 [z_R 65, z_I w, z_I side, z_I (z_tot side (X 0 3)), z_I (z_sm k (fun g => D.mn g * A g (z_tot side (X 0 3)))), z_I k] [] z_hdC σ3) (some (z_I (z_sm D.gN.toNat (fun g => D.mn g * A g (z_tot side (X 0 3)))), z_hdC, σ3)) D.gN.toNat () (fun k _ hk => ⟨(), by
    have q1 := h3.manyOf (d + 2) (g := k) (by omega) (by omega)
    have q2 := f3 k (by omega) (by omega)
    have hs := hsum k (by omega)
    have hs1 := hsum (k + 1) (by omega)
    rw [z_sm_s] at hs1
    have h1 := (h3.goer (g := k) (by omega) (by omega)).2.2.1
    have h2 := hA k (z_tot side (X 0 3))
    have h4 := z_mul_rng (by omega) h1.2 h2.1 h2.2
    rw [z_B901_165]
    simp (disch := omega) only [if_neg, h3.rd.gz, q1, q2, z_ns, z_sm_s, z_fdC, z_pdC, z_adC, z_sdC, z_lkC, z_ndC, z_gdC, z_mdC, z_cI_some', z_cV_some', z_w_ok, Int.reduceAdd, Int.reduceSub, Int.reduceMul, Int.reduceNeg, Int.reduceEq, Int.reduceLT, Int.reduceLE, Int.reduceNe, reduceIte, true_and, and_true, false_and, and_false, if_true, if_false, ne_eq, not_true_eq_false, not_false_eq_true]⟩) (fun _ => by
    rw [z_B901_165]
    simp (disch := omega) only [if_pos, h3.rd.gz, z_fdC, z_pdC, z_adC, z_sdC, z_lkC, z_ndC, z_gdC, z_mdC, z_cI_some', z_cV_some', z_w_ok, Int.reduceAdd, Int.reduceSub, Int.reduceMul, Int.reduceNeg, Int.reduceEq, Int.reduceLT, Int.reduceLE, Int.reduceNe, reduceIte, true_and, and_true, false_and, and_false, if_true, if_false, ne_eq, not_true_eq_false, not_false_eq_true])
  simp (disch := omega) only [z_E901, h.roads, c_LC h.hL, hsd, z_fdC, z_pdC, z_adC, z_sdC, z_lkC, z_ndC, z_gdC, z_mdC, z_cI_some', z_cV_some', z_w_ok, Int.reduceAdd, Int.reduceSub, Int.reduceMul, Int.reduceNeg, Int.reduceEq, Int.reduceLT, Int.reduceLE, Int.reduceNe, reduceIte, true_and, and_true, false_and, and_false, if_true, if_false, ne_eq, not_true_eq_false, not_false_eq_true]
  refine e1.trans ?_
  simp (disch := omega) only [e2, z_fdC, z_pdC, z_adC, z_sdC, z_lkC, z_ndC, z_gdC, z_mdC, z_cI_some', z_cV_some', z_w_ok, Int.reduceAdd, Int.reduceSub, Int.reduceMul, Int.reduceNeg, Int.reduceEq, Int.reduceLT, Int.reduceLE, Int.reduceNe, reduceIte, true_and, and_true, false_and, and_false, if_true, if_false, ne_eq, not_true_eq_false, not_false_eq_true]
  exact e3.trans e4
end
