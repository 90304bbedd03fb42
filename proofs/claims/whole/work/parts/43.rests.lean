/-! Duel: rests. -/
def z_pl (S cp : Int) (t : Int → Int) : Nat → Int
  | 0 => 0
  | n + 1 => if z_bt S n then z_pl S cp t n * (cp + 1) + t n else z_pl S cp t n
def z_cnt (S : Int) : Nat → Nat
  | 0 => 0
  | n + 1 => z_cnt S n + if z_bt S n then 1 else 0
theorem z_cnt_pc : ∀ x : Nat, x < 32 → (z_cnt x 5 : Int) = z_pc x := by decide +kernel
theorem z_pl_rng {S cp : Int} {t : Int → Int} (hc : 0 ≤ cp) (ht : z_tcap cp t) : ∀ {n : Nat}, n ≤ 5 → 0 ≤ z_pl S cp t n ∧ z_pl S cp t n < (cp + 1) ^ z_cnt S n
  | 0, _ => by unfold z_pl z_cnt; simp
  | n + 1, h => by
    have ih := z_pl_rng (S := S) hc ht (n := n) (by omega)
    have h1 := ht n (by omega) (by omega)
    unfold z_pl z_cnt
    split
    · rw [Int.pow_succ]
      have h2 : 0 ≤ z_pl S cp t n * (cp + 1) := Int.mul_nonneg ih.1 (by omega)
      have h3 : (z_pl S cp t n + 1) * (cp + 1) ≤ (cp + 1) ^ z_cnt S n * (cp + 1) := Int.mul_le_mul_of_nonneg_right (by omega) (by omega)
      rw [Int.add_mul, Int.one_mul] at h3
      omega
    · exact ih
theorem z_pl_eq {S cp : Int} {t t' : Int → Int} (hc : 0 ≤ cp) (ht : z_tcap cp t) (ht' : z_tcap cp t') : ∀ {n : Nat}, n ≤ 5 → (z_pl S cp t n = z_pl S cp t' n ↔ ∀ k : Int, 0 ≤ k → k < n → z_bt S k = true → t k = t' k)
  | 0, _ => ⟨fun _ k k0 k1 => by omega, fun _ => rfl⟩
  | n + 1, h => by
    have ih := z_pl_eq (S := S) hc ht ht' (n := n) (by omega)
    have h1 := ht n (by omega) (by omega)
    have h2 := ht' n (by omega) (by omega)
    unfold z_pl
    by_cases hb : z_bt S n = true
    · rw [if_pos hb, if_pos hb]
      constructor
      · intro e
        have hq : z_pl S cp t n = z_pl S cp t' n ∧ t n = t' n := by
          have e1 : (z_pl S cp t n * (cp + 1) + t n) / (cp + 1) = z_pl S cp t n := by
            rw [Int.add_comm, Int.add_mul_ediv_right _ _ (by omega), Int.ediv_eq_zero_of_lt h1.1 (by omega)]; omega
          have e2 : (z_pl S cp t' n * (cp + 1) + t' n) / (cp + 1) = z_pl S cp t' n := by
            rw [Int.add_comm, Int.add_mul_ediv_right _ _ (by omega), Int.ediv_eq_zero_of_lt h2.1 (by omega)]; omega
          rw [e, e2] at e1
          refine ⟨e1.symm, ?_⟩
          rw [e1] at e
          omega
        intro k k0 k1 hk
        by_cases hkn : k = n
        · subst hkn; exact hq.2
        · exact ih.mp hq.1 k k0 (by omega) hk
      · intro e
        rw [ih.mpr (fun k k0 k1 => e k k0 (by omega)), e n (by omega) (by omega) hb]
    · rw [if_neg hb, if_neg hb, ih]
      constructor
      · intro e k k0 k1 hk
        by_cases hkn : k = n
        · subst hkn; exact absurd hk hb
        · exact e k k0 (by omega) hk
      · intro e k k0 k1
        exact e k k0 (by omega)
section
variable {σ X : z_S} {L s lean : Int} {D : z_D} {share t : Int → Int} {mv cp : Int}
theorem z_cnt_le (S : Int) : ∀ n, z_cnt S n ≤ n
  | 0 => Nat.le_refl 0
  | n + 1 => by
    have := z_cnt_le S n
    unfold z_cnt
    split <;> omega
/-- Sets.placeOf -/
theorem c_at.placeOf (h : c_at σ X L s D lean share t mv cp) (d : Nat) {S : Int} (hS : 0 ≤ S ∧ S < 32) (ht : z_tcap cp t) : z_ev z_hcC (d + 1) 805 [z_R 59, z_I S] z_hdC σ = some (z_I (z_pl S cp t 5), z_hdC, σ) := by
  obtain ⟨s3, s4, s5, s6, sT, sS, sT20, sf, sn, smv, scp⟩ := h.sets
  rw [z_E805]
  refine z_forv (S := Unit) (fun i _ => z_go (z_ev z_hcC d) z_hcC 805 4 [z_R 59, z_I S, z_I (z_pl S cp t i), z_I i] [] z_hdC σ) _ 5 () (fun i _ hi => ⟨(), ?_⟩) (fun _ => ?_)
  · have hbit := z_bit (m := S) (k := i) hS.1 (by omega) (by omega) (by omega)
    have hTi := sT i (by omega) (by omega)
    have hr := z_pl_rng (S := S) scp.1 ht (n := i) (by omega)
    have hr1 := z_pl_rng (S := S) scp.1 ht (n := i + 1) (by omega)
    have hp := z_pow21 (b := cp + 1) (by omega) (by omega) (n := z_cnt S i) (by have := z_cnt_le S i; omega)
    have hp1 := z_pow21 (b := cp + 1) (by omega) (by omega) (n := z_cnt S (i + 1)) (by have := z_cnt_le S (i + 1); omega)
    have hti := ht i (by omega) (by omega)
    by_cases c : z_bt S i = true
    · have e : z_pl S cp t (i + 1) = z_pl S cp t i * (cp + 1) + t i := if_pos c
      have hm : 0 ≤ z_pl S cp t i * (cp + 1) := Int.mul_nonneg hr.1 (by omega)
      rw [if_pos c] at hbit
      rw [e] at hr1 ⊢
      rw [z_B805_4]
      simp (disch := omega) only [if_neg, hbit, hTi, s5, z_ns, z_fdC, z_pdC, z_adC, z_sdC, z_lkC, z_ndC, z_gdC, z_mdC, z_cI_some', z_cV_some', z_w_ok, Int.reduceAdd, Int.reduceSub, Int.reduceMul, Int.reduceNeg, Int.reduceEq, Int.reduceLT, Int.reduceLE, Int.reduceNe, reduceIte, true_and, and_true, false_and, and_false, if_true, if_false, ne_eq, not_true_eq_false, not_false_eq_true]
    · have e : z_pl S cp t (i + 1) = z_pl S cp t i := if_neg c
      rw [if_neg c] at hbit
      rw [e, z_B805_4]
      simp (disch := omega) only [if_neg, if_pos, hbit, z_ns, z_fdC, z_pdC, z_adC, z_sdC, z_lkC, z_ndC, z_gdC, z_mdC, z_cI_some', z_cV_some', z_w_ok, Int.reduceAdd, Int.reduceSub, Int.reduceMul, Int.reduceNeg, Int.reduceEq, Int.reduceLT, Int.reduceLE, Int.reduceNe, reduceIte, true_and, and_true, false_and, and_false, if_true, if_false, ne_eq, not_true_eq_false, not_false_eq_true]
  · rw [z_B805_4]
    simp (disch := omega) only [if_pos, z_fdC, z_pdC, z_adC, z_sdC, z_lkC, z_ndC, z_gdC, z_mdC, z_cI_some', z_cV_some', z_w_ok, Int.reduceAdd, Int.reduceSub, Int.reduceMul, Int.reduceNeg, Int.reduceEq, Int.reduceLT, Int.reduceLE, Int.reduceNe, reduceIte, true_and, and_true, false_and, and_false, if_true, if_false, ne_eq, not_true_eq_false, not_false_eq_true]
/-- the greatest A among the first n with p = q -/
def z_mxp (p A : Nat → Int) (q : Int) : Nat → Int
  | 0 => 0
  | n + 1 => if p n = q ∧ z_mxp p A q n < A n then A n else z_mxp p A q n
theorem z_mxp_rng {p A : Nat → Int} {q b : Int} (hb : 0 ≤ b) (hA : ∀ i, A i ≤ b) : ∀ n, 0 ≤ z_mxp p A q n ∧ z_mxp p A q n ≤ b
  | 0 => by unfold z_mxp; omega
  | n + 1 => by
    have ih := z_mxp_rng (p := p) (q := q) hb hA n
    have := hA n
    unfold z_mxp
    split <;> omega
/-- the first with P -/
def z_ff (P : Nat → Bool) : Nat → Nat
  | 0 => 0
  | n + 1 => if 0 < z_ct P n then z_ff P n else n
theorem z_raise {σ : z_S} (d : Nat) {k v : Int} (h0 : 0 ≤ k) (h1 : k < 2001) : z_ev z_hcC (d + 1) 6 [z_R 72, z_I k, z_I v] z_hdC σ = some (z_U, z_hdC, z_upd σ 75 k (if σ 75 k < v then v else σ 75 k)) := by
  simp (disch := omega) only [z_E6, if_neg, z_fdC, z_pdC, z_adC, z_sdC, z_lkC, z_ndC, z_gdC, z_mdC, z_cI_some', z_cV_some', z_w_ok, Int.reduceAdd, Int.reduceSub, Int.reduceMul, Int.reduceNeg, Int.reduceEq, Int.reduceLT, Int.reduceLE, Int.reduceNe, reduceIte, true_and, and_true, false_and, and_false, if_true, if_false, ne_eq, not_true_eq_false, not_false_eq_true]
theorem z_topAt {σ : z_S} (d : Nat) {k : Int} (h0 : 0 ≤ k) (h1 : k < 2001) : z_ev z_hcC (d + 1) 7 [z_R 72, z_I k] z_hdC σ = some (z_I (σ 75 k), z_hdC, σ) := by
  simp (disch := omega) only [z_E7, if_neg, z_fdC, z_pdC, z_adC, z_sdC, z_lkC, z_ndC, z_gdC, z_mdC, z_cI_some', z_cV_some', z_w_ok, Int.reduceAdd, Int.reduceSub, Int.reduceMul, Int.reduceNeg, Int.reduceEq, Int.reduceLT, Int.reduceLE, Int.reduceNe, reduceIte, true_and, and_true, false_and, and_false, if_true, if_false, ne_eq, not_true_eq_false, not_false_eq_true]
theorem z_or_pc : ∀ x : Nat, x < 32 → ∀ y : Nat, y < 32 → z_and x y = 0 → z_pc (z_or x y) = z_pc x + z_pc y := by decide +kernel
theorem z_and_eq0 : ∀ x : Nat, x < 32 → ∀ y : Nat, y < 32 → (∀ k : Nat, k < 5 → (z_bt x k && z_bt y k) = false) → z_and x y = 0 := by decide +kernel
theorem z_sides (hw : z_wf X) : z_and (z_side X 0 s) (z_side X 1 s) = 0 ∧ (0 ≤ z_or (z_side X 0 s) (z_side X 1 s) ∧ z_or (z_side X 0 s) (z_side X 1 s) < 32) ∧ z_pc (z_or (z_side X 0 s) (z_side X 1 s)) = z_pc (z_side X 0 s) + z_pc (z_side X 1 s) := by
  have h0 := z_side_rng hw 0 s
  have h1 := z_side_rng hw 1 s
  have e0 : ((z_side X 0 s).toNat : Int) = z_side X 0 s := Int.toNat_of_nonneg h0.1
  have e1 : ((z_side X 1 s).toNat : Int) = z_side X 1 s := Int.toNat_of_nonneg h1.1
  have ha := z_and_eq0 (z_side X 0 s).toNat (by omega) (z_side X 1 s).toNat (by omega) (fun k hk => by
    rw [e0, e1]
    cases c : z_bt (z_side X 0 s) k with
    | false => rfl
    | true =>
      cases c2 : z_bt (z_side X 1 s) k with
      | false => rfl
      | true =>
        have a := ((z_side_bt hw (by omega)).mp c).2.1
        have b := ((z_side_bt hw (by omega)).mp c2).2.1
        omega)
  have ho := z_or_32 (z_side X 0 s).toNat (by omega) (z_side X 1 s).toNat (by omega)
  have hp := z_or_pc (z_side X 0 s).toNat (by omega) (z_side X 1 s).toNat (by omega)
  rw [e0, e1] at ha ho hp
  exact ⟨ha, ⟨ho.1, ho.2.1⟩, hp ha⟩
/-- what house w gets by the i-th set of all -/
noncomputable def z_Ri (X : z_S) (s : Int) (D : z_D) (lean : Int) (share : Int → Int) (w : Int) (i : Nat) : Int := z_brt D.op share D.gN lean (z_side X w s) (z_ti (z_or (z_side X 0 s) (z_side X 1 s)) (X 0 3) (X 7) i)
def z_Pi (X : z_S) (s w : Int) (i : Nat) : Int := z_pl (z_side X w s) (X 0 3) (z_ti (z_or (z_side X 0 s) (z_side X 1 s)) (X 0 3) (X 7) i) 5
/-- is the i-th set of all a rest -/
noncomputable def z_rest (X : z_S) (s : Int) (D : z_D) (lean : Int) (share : Int → Int) (i : Nat) : Bool :=
  decide (z_mxp (z_Pi X s 1) (z_Ri X s D lean share 0) (z_Pi X s 1 i) (z_tot (z_or (z_side X 0 s) (z_side X 1 s)) (X 0 3)) = z_Ri X s D lean share 0 i) &&
  decide (z_mxp (z_Pi X s 0) (z_Ri X s D lean share 1) (z_Pi X s 0 i) (z_tot (z_or (z_side X 0 s) (z_side X 1 s)) (X 0 3)) = z_Ri X s D lean share 1 i)
/-- Duel.countRests -/
theorem c_countRests (h : c_rd σ X L s D lean share) (d : Nat) (hf : z_tot (z_or (z_side X 0 s) (z_side X 1 s)) (X 0 3) ≤ 2000) :
    ∃ σ', z_ev z_hcC (d + 5) 5 [z_R 72, z_R (L + 1)] z_hdC σ = some (z_I (z_ct (z_rest X s D lean share) (z_tot (z_or (z_side X 0 s) (z_side X 1 s)) (X 0 3))), z_hdC, σ') ∧ z_off 59 75 σ σ' ∧ c_rd σ' X L s D lean share ∧
      (0 < z_ct (z_rest X s D lean share) (z_tot (z_or (z_side X 0 s) (z_side X 1 s)) (X 0 3)) → ∀ k : Int, 0 ≤ k → k < 5 → σ' 73 k = z_ti (z_or (z_side X 0 s) (z_side X 1 s)) (X 0 3) (X 7) (z_ff (z_rest X s D lean share) (z_tot (z_or (z_side X 0 s) (z_side X 1 s)) (X 0 3))) k) := by
  have hs0 := h.side (d + 1) 0
  have hs1 := h.side (d + 1) 1
  have hr0 := h.sr 0
  have hr1 := h.sr 1
  have hcp := h.cp
  obtain ⟨-, hor, hpc⟩ := z_sides (s := s) h.wf
  have hRi : ∀ w i, z_brt D.op share D.gN lean (z_side X w s) (z_ti (z_or (z_side X 0 s) (z_side X 1 s)) (X 0 3) (X 7) i) = z_Ri X s D lean share w i := fun w i => rfl
  have hPi : ∀ w i, z_pl (z_side X w s) (X 0 3) (z_ti (z_or (z_side X 0 s) (z_side X 1 s)) (X 0 3) (X 7) i) 5 = z_Pi X s w i := fun w i => rfl
  have hti := z_ti_cap (mv := z_or (z_side X 0 s) (z_side X 1 s)) (Int.le_refl (X 0 3)) hcp.1 h.tc
  have hRb : ∀ w i, 0 ≤ z_Ri X s D lean share w i ∧ z_Ri X s D lean share w i ≤ 480000000 := fun w i => h.brt (hti i) _
  have hc0 := z_cnt_pc (z_side X 0 s).toNat (by omega)
  have hc1 := z_cnt_pc (z_side X 1 s).toNat (by omega)
  rw [Int.toNat_of_nonneg hr0.1] at hc0
  rw [Int.toNat_of_nonneg hr1.1] at hc1
  -- widths
  have hw0 : 1 ≤ (X 0 3 + 1) ^ z_cnt (z_side X 0 s) 5 := Int.pow_pos (by omega)
  have hw1 : 1 ≤ (X 0 3 + 1) ^ z_cnt (z_side X 1 s) 5 := Int.pow_pos (by omega)
  have hmul : (X 0 3 + 1) ^ z_cnt (z_side X 0 s) 5 * (X 0 3 + 1) ^ z_cnt (z_side X 1 s) 5 = (z_tot (z_or (z_side X 0 s) (z_side X 1 s)) (X 0 3) : Int) := by
    rw [← z_tot_i hcp.1, ← Int.pow_add]
    congr 1
    omega
  have hsum : (X 0 3 + 1) ^ z_cnt (z_side X 0 s) 5 + (X 0 3 + 1) ^ z_cnt (z_side X 1 s) 5 ≤ 2001 := by
    generalize (X 0 3 + 1) ^ z_cnt (z_side X 0 s) 5 = a at *
    generalize (X 0 3 + 1) ^ z_cnt (z_side X 1 s) 5 = b at *
    have h1 : 0 ≤ (a - 1) * (b - 1) := Int.mul_nonneg (by omega) (by omega)
    have h2 : (a - 1) * (b - 1) = a * b - a - b + 1 := by
      rw [Int.sub_mul, Int.mul_sub, Int.one_mul, Int.mul_one]; omega
    omega
  have hP : ∀ w i, (w = 0 ∨ w = 1) → 0 ≤ z_Pi X s w i ∧ z_Pi X s w i < (X 0 3 + 1) ^ z_cnt (z_side X w s) 5 := fun w i _ => z_pl_rng hcp.1 (hti i) (Nat.le_refl 5)
  have hbc := c_bitCount (hc := z_hcC) (hd := z_hdC) (σ := σ) (d + 3) hr1.1 hr1.2
  have hpl := z_pc_le (z_side X 1 s)
  have hpo := c_powerOf (hc := z_hcC) (hd := z_hdC) (σ := σ) (d + 3) (b := X 0 3 + 1) (n := z_pc (z_side X 1 s)) (by omega) (by omega) hpl.1 hpl.2
  have hpe : (X 0 3 + 1) ^ (z_pc (z_side X 1 s)).toNat = (X 0 3 + 1) ^ z_cnt (z_side X 1 s) 5 := by congr 1; omega
  rw [hpe] at hpo
  generalize hW : (X 0 3 + 1) ^ z_cnt (z_side X 1 s) 5 = W at hpo hsum hw1 hmul
  have hP1 : ∀ i, 0 ≤ z_Pi X s 1 i ∧ z_Pi X s 1 i < W := fun i => by have := hP 1 i (Or.inr rfl); rw [hW] at this; exact this
  have hP0 : ∀ i, 0 ≤ z_Pi X s 0 i ∧ W + z_Pi X s 0 i < 2001 := fun i => by have := hP 0 i (Or.inl rfl); omega
  -- all tops at 0
  obtain ⟨σ1, e1, o1, f1⟩ := z_for (fun k x => z_go (z_ev z_hcC (d + 4)) z_hcC 5 30 [z_R 72, z_R (L + 1), z_I (z_side X 0 s), z_I (z_side X 1 s), z_I W, z_I k, z_U, z_U] [] z_hdC x) (fun x => z_cI (z_ev z_hcC (d + 4) 405 [z_R 58, z_R (L + 3), z_I (z_or (z_side X 0 s) (z_side X 1 s)), z_I (X 0 3)] z_hdC x) (fun v h1 s2 => z_go (z_ev z_hcC (d + 4)) z_hcC 5 77 [z_R 72, z_R (L + 1), z_I (z_side X 0 s), z_I (z_side X 1 s), z_I W, z_I v, z_I 0, z_U] [] h1 s2))
    (fun k x => z_off 75 75 σ x ∧ ∀ p : Int, 0 ≤ p → p < k → x 75 p = 0) 2001 (s := σ) ⟨z_off_refl, fun g a b => by omega⟩ (fun k x hk ⟨ho, hz⟩ => by
      refine ⟨z_upd x 75 k 0, ?_, z_off_trans ho (z_off_upd (by omega) (by omega)), fun g g0 g1 => ?_⟩
      · rw [z_B5_30]
        simp (disch := omega) only [if_neg, z_ns, z_fdC, z_pdC, z_adC, z_sdC, z_lkC, z_ndC, z_gdC, z_mdC, z_cI_some', z_cV_some', z_w_ok, Int.reduceAdd, Int.reduceSub, Int.reduceMul, Int.reduceNeg, Int.reduceEq, Int.reduceLT, Int.reduceLE, Int.reduceNe, reduceIte, true_and, and_true, false_and, and_false, if_true, if_false, ne_eq, not_true_eq_false, not_false_eq_true]
      · by_cases hg : g = k
        · subst hg; exact z_upd_same
        · rw [z_upd_ne (Or.inr hg)]; exact hz g g0 (by omega)) (fun x ⟨ho, hz⟩ => by
      have hr := c_rd_off ho (by omega) h
      rw [z_B5_30]
      simp (disch := omega) only [if_pos, hr.capv, c_LC hr.hL, z_fdC, z_pdC, z_adC, z_sdC, z_lkC, z_ndC, z_gdC, z_mdC, z_cI_some', z_cV_some', z_w_ok, Int.reduceAdd, Int.reduceSub, Int.reduceMul, Int.reduceNeg, Int.reduceEq, Int.reduceLT, Int.reduceLE, Int.reduceNe, reduceIte, true_and, and_true, false_and, and_false, if_true, if_false, ne_eq, not_true_eq_false, not_false_eq_true])
  have h1 := c_rd_off o1 (by omega) h
  obtain ⟨σ2, e2, o2, h2⟩ := h1.begin (mv := z_or (z_side X 0 s) (z_side X 1 s)) (cp := X 0 3) (d + 1) h1.a5 h1.tc hor ⟨hcp.1, Int.le_refl _⟩ (fun i => h1.tolls)
  -- the tops
  obtain ⟨σ3, e3, o3, h3, f3, f4⟩ := z_for (fun i x => z_go (z_ev z_hcC (d + 4)) z_hcC 5 77 [z_R 72, z_R (L + 1), z_I (z_side X 0 s), z_I (z_side X 1 s), z_I W, z_I (z_tot (z_or (z_side X 0 s) (z_side X 1 s)) (X 0 3)), z_I i, z_U] [] z_hdC x) (fun x => z_cI (z_ev z_hcC (d + 4) 405 [z_R 58, z_R (L + 3), z_I (z_or (z_side X 0 s) (z_side X 1 s)), z_I (X 0 3)] z_hdC x) (fun v h1 s2 => z_go (z_ev z_hcC (d + 4)) z_hcC 5 175 [z_R 72, z_R (L + 1), z_I (z_side X 0 s), z_I (z_side X 1 s), z_I W, z_I v, z_I 0, z_I 0] [] h1 s2))
    (fun i x => z_off 59 75 σ x ∧ c_at x X L s D lean share (z_ti (z_or (z_side X 0 s) (z_side X 1 s)) (X 0 3) (X 7) i) (z_or (z_side X 0 s) (z_side X 1 s)) (X 0 3) ∧ (∀ p, 0 ≤ p → p < W → x 75 p = z_mxp (z_Pi X s 1) (z_Ri X s D lean share 0) p i) ∧ (∀ p, 0 ≤ p → W + p < 2001 → x 75 (W + p) = z_mxp (z_Pi X s 0) (z_Ri X s D lean share 1) p i)) (z_tot (z_or (z_side X 0 s) (z_side X 1 s)) (X 0 3)) (s := σ2) ⟨z_off_trans (z_off_le o1 (by omega) (by omega)) (z_off_le o2 (by omega) (by omega)), h2, fun p p0 p1 => by rw [z_oat o2 (by omega)]; exact f1 p p0 (by omega), fun p p0 p1 => by rw [z_oat o2 (by omega)]; exact f1 _ (by omega) (by omega)⟩ (fun i x hi ⟨ho, ha, hz1, hz0⟩ => by
      have q1 := ha.placeOf (d + 3) (S := z_side X 1 s) hr1 (hti i)
      have q2 := ha.brought (d + 1) (side := z_side X 0 s) hr0
      rw [hPi] at q1
      rw [hRi] at q2
      have p1 := hP1 i
      have p0 := hP0 i
      have b0 := hRb 0 i
      have b1 := hRb 1 i
      have m1 := z_mxp_rng (p := z_Pi X s 1) (A := z_Ri X s D lean share 0) (q := z_Pi X s 1 i) (b := 480000000) (by omega) (fun i => (hRb 0 i).2) i
      have r1 := z_raise (σ := x) (d + 3) (k := z_Pi X s 1 i) (v := z_Ri X s D lean share 0 i) p1.1 (by omega)
      rw [hz1 _ p1.1 p1.2] at r1
      generalize hv1 : (if z_mxp (z_Pi X s 1) (z_Ri X s D lean share 0) (z_Pi X s 1 i) i < z_Ri X s D lean share 0 i then z_Ri X s D lean share 0 i else z_mxp (z_Pi X s 1) (z_Ri X s D lean share 0) (z_Pi X s 1 i) i) = v1 at r1
      have u1 : z_off 75 75 x (z_upd x 75 (z_Pi X s 1 i) v1) := z_off_upd (by omega) (by omega)
      have ha2 := c_at_off u1 (by omega) ha
      have q3 := ha2.placeOf (d + 3) (S := z_side X 0 s) hr0 (hti i)
      have q4 := ha2.brought (d + 1) (side := z_side X 1 s) hr1
      rw [hPi] at q3
      rw [hRi] at q4
      have r2 := z_raise (σ := z_upd x 75 (z_Pi X s 1 i) v1) (d + 3) (k := W + z_Pi X s 0 i) (v := z_Ri X s D lean share 1 i) (by omega) p0.2
      rw [z_upd_ne (Or.inr (by omega)), hz0 _ p0.1 p0.2] at r2
      generalize hv2 : (if z_mxp (z_Pi X s 0) (z_Ri X s D lean share 1) (z_Pi X s 0 i) i < z_Ri X s D lean share 1 i then z_Ri X s D lean share 1 i else z_mxp (z_Pi X s 0) (z_Ri X s D lean share 1) (z_Pi X s 0 i) i) = v2 at r2
      have u2 : z_off 75 75 (z_upd x 75 (z_Pi X s 1 i) v1) (z_upd (z_upd x 75 (z_Pi X s 1 i) v1) 75 (W + z_Pi X s 0 i) v2) := z_off_upd (by omega) (by omega)
      obtain ⟨s3, n1, n2, n3⟩ := (c_at_off u2 (by omega) ha2).next (Int.le_refl _) (d + 2)
      refine ⟨s3, ?_, z_off_trans ho (z_off_trans (z_off_le u1 (lo' := 59) (hi' := 75) (by omega) (by omega)) (z_off_trans (z_off_le u2 (lo' := 59) (hi' := 75) (by omega) (by omega)) (z_off_le n2 (by omega) (by omega)))), n3, fun p p0 p1 => ?_, fun p p0 p1 => ?_⟩
      · rw [z_B5_77]
        simp (disch := omega) only [if_neg, q1, q2, r1, q3, q4, r2, n1, z_ns, z_fdC, z_pdC, z_adC, z_sdC, z_lkC, z_ndC, z_gdC, z_mdC, z_cI_some', z_cV_some', z_w_ok, Int.reduceAdd, Int.reduceSub, Int.reduceMul, Int.reduceNeg, Int.reduceEq, Int.reduceLT, Int.reduceLE, Int.reduceNe, reduceIte, true_and, and_true, false_and, and_false, if_true, if_false, ne_eq, not_true_eq_false, not_false_eq_true]
      · rw [z_oat n2 (by omega), z_upd_ne (Or.inr (by omega))]
        show _ = if _ then _ else _
        by_cases hp : p = z_Pi X s 1 i
        · subst hp
          rw [z_upd_same, ← hv1]
          simp only [true_and]
        · rw [z_upd_ne (Or.inr hp), hz1 p p0 (by omega), if_neg (fun z => hp z.1.symm)]
      · rw [z_oat n2 (by omega)]
        show _ = if _ then _ else _
        by_cases hp : p = z_Pi X s 0 i
        · subst hp
          rw [z_upd_same, ← hv2]
          simp only [true_and]
        · rw [z_upd_ne (Or.inr (by omega)), z_upd_ne (Or.inr (by omega)), hz0 p p0 (by omega), if_neg (fun z => hp z.1.symm)]) (fun x ⟨ho, hr, _⟩ => by
      rw [z_B5_77]
      simp (disch := omega) only [if_pos, hr.rd.capv, c_LC h.hL, z_fdC, z_pdC, z_adC, z_sdC, z_lkC, z_ndC, z_gdC, z_mdC, z_cI_some', z_cV_some', z_w_ok, Int.reduceAdd, Int.reduceSub, Int.reduceMul, Int.reduceNeg, Int.reduceEq, Int.reduceLT, Int.reduceLE, Int.reduceNe, reduceIte, true_and, and_true, false_and, and_false, if_true, if_false, ne_eq, not_true_eq_false, not_false_eq_true])
  obtain ⟨σ4, e4, o4, h4⟩ := h3.rd.begin (mv := z_or (z_side X 0 s) (z_side X 1 s)) (cp := X 0 3) (d + 1) h1.a5 h1.tc hor ⟨hcp.1, Int.le_refl _⟩ (fun i => h3.rd.tolls)
  -- the rests
  have hct : ∀ n, 0 ≤ z_ct (z_rest X s D lean share) n ∧ z_ct (z_rest X s D lean share) n ≤ n := fun n => z_ct_rng
  obtain ⟨σ5, e5, o5, h5, f5, f6, f7⟩ := z_for (fun i x => z_go (z_ev z_hcC (d + 4)) z_hcC 5 175 [z_R 72, z_R (L + 1), z_I (z_side X 0 s), z_I (z_side X 1 s), z_I W, z_I (z_tot (z_or (z_side X 0 s) (z_side X 1 s)) (X 0 3)), z_I (z_ct (z_rest X s D lean share) i), z_I i] [] z_hdC x) (fun x => some (z_I (z_ct (z_rest X s D lean share) (z_tot (z_or (z_side X 0 s) (z_side X 1 s)) (X 0 3))), z_hdC, x))
    (fun i x => z_off 59 75 σ x ∧ c_at x X L s D lean share (z_ti (z_or (z_side X 0 s) (z_side X 1 s)) (X 0 3) (X 7) i) (z_or (z_side X 0 s) (z_side X 1 s)) (X 0 3) ∧ (∀ p, 0 ≤ p → p < W → x 75 p = z_mxp (z_Pi X s 1) (z_Ri X s D lean share 0) p (z_tot (z_or (z_side X 0 s) (z_side X 1 s)) (X 0 3))) ∧ (∀ p, 0 ≤ p → W + p < 2001 → x 75 (W + p) = z_mxp (z_Pi X s 0) (z_Ri X s D lean share 1) p (z_tot (z_or (z_side X 0 s) (z_side X 1 s)) (X 0 3))) ∧ (0 < z_ct (z_rest X s D lean share) i → ∀ k : Int, 0 ≤ k → k < 5 → x 73 k = z_ti (z_or (z_side X 0 s) (z_side X 1 s)) (X 0 3) (X 7) (z_ff (z_rest X s D lean share) i) k)) (z_tot (z_or (z_side X 0 s) (z_side X 1 s)) (X 0 3)) (s := σ4) ⟨z_off_trans o3 (z_off_le o4 (by omega) (by omega)), h4, fun p p0 p1 => by rw [z_oat o4 (by omega)]; exact f3 p p0 p1, fun p p0 p1 => by rw [z_oat o4 (by omega)]; exact f4 p p0 p1, fun hh => absurd hh (by show ¬ (0 : Int) < 0; omega)⟩ (fun i x hi ⟨ho, ha, hz1, hz0, hff⟩ => by
      have q1 := ha.placeOf (d + 3) (S := z_side X 1 s) hr1 (hti i)
      have q2 := ha.brought (d + 1) (side := z_side X 0 s) hr0
      have q3 := ha.placeOf (d + 3) (S := z_side X 0 s) hr0 (hti i)
      have q4 := ha.brought (d + 1) (side := z_side X 1 s) hr1
      rw [hPi] at q1 q3
      rw [hRi] at q2 q4
      have p1 := hP1 i
      have p0 := hP0 i
      have r1 := z_topAt (σ := x) (d + 3) (k := z_Pi X s 1 i) p1.1 (by omega)
      have r2 := z_topAt (σ := x) (d + 3) (k := W + z_Pi X s 0 i) (by omega) p0.2
      rw [hz1 _ p1.1 p1.2] at r1
      rw [hz0 _ p0.1 p0.2] at r2
      have hci := hct i
      have est : z_ct (z_rest X s D lean share) (i + 1) = z_ct (z_rest X s D lean share) i + if z_rest X s D lean share i then 1 else 0 := rfl
      have eff : z_ff (z_rest X s D lean share) (i + 1) = if 0 < z_ct (z_rest X s D lean share) i then z_ff (z_rest X s D lean share) i else i := rfl
      have hrest : z_rest X s D lean share i = true ↔ z_mxp (z_Pi X s 1) (z_Ri X s D lean share 0) (z_Pi X s 1 i) (z_tot (z_or (z_side X 0 s) (z_side X 1 s)) (X 0 3)) = z_Ri X s D lean share 0 i ∧ z_mxp (z_Pi X s 0) (z_Ri X s D lean share 1) (z_Pi X s 0 i) (z_tot (z_or (z_side X 0 s) (z_side X 1 s)) (X 0 3)) = z_Ri X s D lean share 1 i := by
        unfold z_rest
        simp only [Bool.and_eq_true, decide_eq_true_eq]
      by_cases c : z_rest X s D lean share i = true
      · rw [if_pos c] at est
        obtain ⟨c1, c2⟩ := hrest.mp c
        by_cases c3 : z_ct (z_rest X s D lean share) i = 0
        · have hoff : z_off 73 73 x (z_cpy x 60 0 73 0 5) := fun a b h => by rw [z_cpy_at, if_neg (by omega)]
          have hcq : ∀ {β : Type} {σ : z_S} {k : z_S → Option β}, z_cp z_hdC σ 60 0 73 0 5 k = k (z_cpy σ 60 0 73 0 5) := fun {_ _ _} => if_pos ⟨rfl, rfl, by decide, by decide, by decide, by decide, by decide⟩
          obtain ⟨s3, n1, n2, n3⟩ := (c_at_off hoff (by omega) ha).next (Int.le_refl _) (d + 2)
          refine ⟨s3, ?_, z_off_trans ho (z_off_trans (z_off_le hoff (by omega) (by omega)) (z_off_le n2 (by omega) (by omega))), n3, fun p p0 p1 => by rw [z_oat n2 (by omega), z_oat hoff (by omega)]; exact hz1 p p0 p1, fun p p0 p1 => by rw [z_oat n2 (by omega), z_oat hoff (by omega)]; exact hz0 p p0 p1, fun _ k k0 k1 => ?_⟩
          · rw [est, z_B5_175]
            simp (disch := omega) only [z_B5_269, if_neg, if_pos, q1, q2, q3, q4, r1, r2, c1, c2, hcq, n1, z_ns, z_fdC, z_pdC, z_adC, z_sdC, z_lkC, z_ndC, z_gdC, z_mdC, z_cI_some', z_cV_some', z_w_ok, Int.reduceAdd, Int.reduceSub, Int.reduceMul, Int.reduceNeg, Int.reduceEq, Int.reduceLT, Int.reduceLE, Int.reduceNe, reduceIte, true_and, and_true, false_and, and_false, if_true, if_false, ne_eq, not_true_eq_false, not_false_eq_true]
          · rw [z_oat n2 (by omega), eff, if_neg (by omega), z_cpy_at, if_pos (by omega), show 0 + (k - 0) = k by omega]
            exact ha.sets.2.2.2.2.1 k k0 k1
        · obtain ⟨s3, n1, n2, n3⟩ := ha.next (Int.le_refl _) (d + 2)
          refine ⟨s3, ?_, z_off_trans ho (z_off_le n2 (by omega) (by omega)), n3, fun p p0 p1 => by rw [z_oat n2 (by omega)]; exact hz1 p p0 p1, fun p p0 p1 => by rw [z_oat n2 (by omega)]; exact hz0 p p0 p1, fun _ k k0 k1 => ?_⟩
          · rw [est, z_B5_175]
            simp (disch := omega) only [z_B5_269, if_neg, if_pos, q1, q2, q3, q4, r1, r2, c1, c2, n1, z_ns, z_fdC, z_pdC, z_adC, z_sdC, z_lkC, z_ndC, z_gdC, z_mdC, z_cI_some', z_cV_some', z_w_ok, Int.reduceAdd, Int.reduceSub, Int.reduceMul, Int.reduceNeg, Int.reduceEq, Int.reduceLT, Int.reduceLE, Int.reduceNe, reduceIte, true_and, and_true, false_and, and_false, if_true, if_false, ne_eq, not_true_eq_false, not_false_eq_true]
          · rw [z_oat n2 (by omega), eff, if_pos (by omega)]; exact hff (by omega) k k0 k1
      · rw [if_neg c, Int.add_zero] at est
        obtain ⟨s3, n1, n2, n3⟩ := ha.next (Int.le_refl _) (d + 2)
        refine ⟨s3, ?_, z_off_trans ho (z_off_le n2 (by omega) (by omega)), n3, fun p p0 p1 => by rw [z_oat n2 (by omega)]; exact hz1 p p0 p1, fun p p0 p1 => by rw [z_oat n2 (by omega)]; exact hz0 p p0 p1, fun hh k k0 k1 => ?_⟩
        · rw [est, z_B5_175]
          by_cases c1 : z_mxp (z_Pi X s 1) (z_Ri X s D lean share 0) (z_Pi X s 1 i) (z_tot (z_or (z_side X 0 s) (z_side X 1 s)) (X 0 3)) = z_Ri X s D lean share 0 i
          · have c2 : ¬ z_mxp (z_Pi X s 0) (z_Ri X s D lean share 1) (z_Pi X s 0 i) (z_tot (z_or (z_side X 0 s) (z_side X 1 s)) (X 0 3)) = z_Ri X s D lean share 1 i := fun z => c (hrest.mpr ⟨c1, z⟩)
            simp (disch := omega) only [z_B5_269, if_neg, if_pos, q1, q2, q3, q4, r1, r2, c1, c2, n1, z_ns, z_fdC, z_pdC, z_adC, z_sdC, z_lkC, z_ndC, z_gdC, z_mdC, z_cI_some', z_cV_some', z_w_ok, Int.reduceAdd, Int.reduceSub, Int.reduceMul, Int.reduceNeg, Int.reduceEq, Int.reduceLT, Int.reduceLE, Int.reduceNe, reduceIte, true_and, and_true, false_and, and_false, if_true, if_false, ne_eq, not_true_eq_false, not_false_eq_true]
          · simp (disch := omega) only [z_B5_269, if_neg, if_pos, q1, q2, r1, c1, n1, z_ns, z_fdC, z_pdC, z_adC, z_sdC, z_lkC, z_ndC, z_gdC, z_mdC, z_cI_some', z_cV_some', z_w_ok, Int.reduceAdd, Int.reduceSub, Int.reduceMul, Int.reduceNeg, Int.reduceEq, Int.reduceLT, Int.reduceLE, Int.reduceNe, reduceIte, true_and, and_true, false_and, and_false, if_true, if_false, ne_eq, not_true_eq_false, not_false_eq_true]
        · rw [z_oat n2 (by omega), eff]
          rw [est] at hh
          rw [if_pos hh]
          exact hff hh k k0 k1) (fun x _ => by
      rw [z_B5_175]
      simp (disch := omega) only [if_pos, z_fdC, z_pdC, z_adC, z_sdC, z_lkC, z_ndC, z_gdC, z_mdC, z_cI_some', z_cV_some', z_w_ok, Int.reduceAdd, Int.reduceSub, Int.reduceMul, Int.reduceNeg, Int.reduceEq, Int.reduceLT, Int.reduceLE, Int.reduceNe, reduceIte, true_and, and_true, false_and, and_false, if_true, if_false, ne_eq, not_true_eq_false, not_false_eq_true])
  refine ⟨σ5, ?_, o5, h5.rd, f7⟩
  have hcv := h.capv
  simp (disch := omega) only [z_E5, z_B5_269, c_LC h.hL, hs0, hs1, hbc, hcv, hpo, z_fdC, z_pdC, z_adC, z_sdC, z_lkC, z_ndC, z_gdC, z_mdC, z_cI_some', z_cV_some', z_w_ok, Int.reduceAdd, Int.reduceSub, Int.reduceMul, Int.reduceNeg, Int.reduceEq, Int.reduceLT, Int.reduceLE, Int.reduceNe, reduceIte, true_and, and_true, false_and, and_false, if_true, if_false, ne_eq, not_true_eq_false, not_false_eq_true]
  refine e1.trans ?_
  simp (disch := omega) only [e2, z_fdC, z_pdC, z_adC, z_sdC, z_lkC, z_ndC, z_gdC, z_mdC, z_cI_some', z_cV_some', z_w_ok, Int.reduceAdd, Int.reduceSub, Int.reduceMul, Int.reduceNeg, Int.reduceEq, Int.reduceLT, Int.reduceLE, Int.reduceNe, reduceIte, true_and, and_true, false_and, and_false, if_true, if_false, ne_eq, not_true_eq_false, not_false_eq_true]
  refine e3.trans ?_
  simp (disch := omega) only [e4, z_fdC, z_pdC, z_adC, z_sdC, z_lkC, z_ndC, z_gdC, z_mdC, z_cI_some', z_cV_some', z_w_ok, Int.reduceAdd, Int.reduceSub, Int.reduceMul, Int.reduceNeg, Int.reduceEq, Int.reduceLT, Int.reduceLE, Int.reduceNe, reduceIte, true_and, and_true, false_and, and_false, if_true, if_false, ne_eq, not_true_eq_false, not_false_eq_true]
  exact e5
end
