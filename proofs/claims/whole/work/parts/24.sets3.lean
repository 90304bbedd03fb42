def c_sets (σ : z_S) (t : Int → Int) (n mv cp fac : Int) : Prop :=
  σ 59 3 = n ∧ σ 59 4 = mv ∧ σ 59 5 = cp ∧ σ 59 6 = fac ∧ (∀ k : Int, 0 ≤ k → k < 5 → σ 60 k = t k) ∧ c_sums σ t fac ((2 ^ n.toNat : Nat) : Int) ∧ c_t20 t ∧ (fac = 255 ∨ fac = 257) ∧ (0 ≤ n ∧ n ≤ 5) ∧ (0 ≤ mv ∧ mv < 32) ∧ (0 ≤ cp ∧ cp ≤ 20)
theorem z_pay_lt {t t' : Int → Int} {m s : Int} (h0 : 0 ≤ m) (h1 : m < ((2 ^ s.toNat : Nat) : Int)) (h : ∀ k : Int, 0 ≤ k → k < s → t k = t' k) : z_pay t m = z_pay t' m := by
  unfold z_pay
  refine z_sm_congr (fun k k0 k1 => ?_)
  by_cases hk : k < s
  · rw [h k k0 hk]
  · have : z_bt m k = false := by
      unfold z_bt
      refine Nat.testBit_lt_two_pow (Nat.lt_of_lt_of_le (show m.toNat < 2 ^ s.toNat by omega) (Nat.pow_le_pow_right (by omega) (by omega)))
    rw [this]
    simp
def z_arr5 (a : Int) : Prop := a = 9 ∨ a = 29 ∨ a = 63 ∨ a = 66 ∨ a = 67 ∨ a = 73
/-- the first set: moved slots stand at 0 -/
def z_t0 (mv : Int) (t : Int → Int) : Int → Int := fun k => if 0 ≤ k ∧ z_bt mv k = true then 0 else t k
theorem z_t0_20 {mv : Int} {t : Int → Int} (h : c_t20 t) : c_t20 (z_t0 mv t) := fun k h0 h1 => by
  have := h k h0 h1
  unfold z_t0
  split <;> omega
theorem z_bt_cond {mv k : Int} (h0 : 0 ≤ mv) (h1 : mv < 32) (h2 : 0 ≤ k) (h3 : k < 5) : z_and (z_shr mv k) 1 = if z_bt mv k then 1 else 0 := z_bit h0 (by omega) h2 (by omega)
theorem c_begin_go {d : Nat} {x3 ln a1 mv cp fac n : Int} {t : Int → Int} (ha : z_arr5 a1) (ht : c_t20 t) (hf : fac = 255 ∨ fac = 257) (hn : 0 ≤ n ∧ n ≤ 5) (hmv : 0 ≤ mv ∧ mv < 32) (hcp : 0 ≤ cp ∧ cp ≤ 20) :
    ∀ (j : Nat) (k : Int) (σ : z_S), 0 ≤ k → k + j = 5 → σ 59 3 = n → σ 59 4 = mv → σ 59 5 = cp → σ 59 6 = fac → σ 61 0 = 0 → σ 62 0 = 0 → (∀ i : Int, 0 ≤ i → i < 5 → σ a1 i = t i) → (∀ i : Int, 0 ≤ i → i < k → σ 60 i = z_t0 mv t i) →
      ∃ σ', z_go (z_ev z_hcC (d + 1)) z_hcC 801 31 [z_R 59, z_R a1, z_I mv, z_I x3, z_I ln, z_I k] [] z_hdC σ = some (z_I ((cp + 1) ^ (z_pc mv).toNat), z_hdC, σ') ∧ z_off 60 62 σ σ' ∧ c_sets σ' (z_t0 mv t) n mv cp fac := by
  intro j
  induction j with
  | zero =>
    intro k σ hk hj h3 h4 h5 h6 h61 h62 hA hT
    have hk5 : k = 5 := by omega
    subst hk5
    obtain ⟨σ', g1, g2, g3⟩ := c_reckon (σ := σ) d (z_t0_20 ht) hf hn.1 hn.2 (s := 0) (by omega) (by omega) h3 h6 (fun i i0 i1 => hT i i0 i1) (fun m m0 m1 => by
      have hm : m = 0 := by
        have : ((2 ^ (0 : Int).toNat : Nat) : Int) = 1 := rfl
        omega
      subst hm
      rw [z_pay_0, h61, h62]; simp)
    have hk : ∀ a i : Int, (a < 61 ∨ 62 < a) → σ' a i = σ a i := g2
    have h31 : z_and mv 31 = mv := by
      rw [z_and_nat hmv.1 (by omega) (by omega) (by omega), show (31 : Int).toNat = 31 from rfl, show 31 = 2 ^ 5 - 1 from rfl, Nat.and_two_pow_sub_one_eq_mod, Nat.mod_eq_of_lt (by omega)]
      omega
    have hpc := z_pc_le mv
    have e1 := c_bitCount (hc := z_hcC) (hd := z_hdC) (σ := σ') d hmv.1 hmv.2
    have e2 := c_powerOf (hc := z_hcC) (hd := z_hdC) (σ := σ') d (b := cp + 1) (n := z_pc mv) (by omega) (by omega) hpc.1 hpc.2
    have k4 : σ' 59 4 = mv := by rw [hk _ _ (by omega)]; exact h4
    have k5 : σ' 59 5 = cp := by rw [hk _ _ (by omega)]; exact h5
    refine ⟨σ', ?_, z_off_le g2 (by omega) (by omega), by rw [hk _ _ (by omega)]; exact h3, k4, k5, by rw [hk _ _ (by omega)]; exact h6, fun i i0 i1 => by rw [hk _ _ (by omega)]; exact hT i i0 i1, g3, z_t0_20 ht, hf, hn, hmv, hcp⟩
    rw [z_B801_31]
    simp (disch := omega) only [if_pos, g1, k4, k5, h31, e1, e2, z_fdC, z_pdC, z_adC, z_sdC, z_lkC, z_ndC, z_gdC, z_mdC, z_cI_some', z_cV_some', z_w_ok, Int.reduceAdd, Int.reduceSub, Int.reduceMul, Int.reduceNeg, Int.reduceEq, Int.reduceLT, Int.reduceLE, Int.reduceNe, reduceIte, true_and, and_true, false_and, and_false, if_true, if_false, ne_eq, not_true_eq_false, not_false_eq_true]
  | succ j ih =>
    intro k σ hk hj h3 h4 h5 h6 h61 h62 hA hT
    have hbt := z_bt_cond hmv.1 hmv.2 hk (show k < 5 by omega)
    have step : ∀ v, v = z_t0 mv t k → ∃ σ', z_go (z_ev z_hcC (d + 1)) z_hcC 801 31 [z_R 59, z_R a1, z_I mv, z_I x3, z_I ln, z_I (k + 1)] [] z_hdC (z_upd σ 60 k v) = some (z_I ((cp + 1) ^ (z_pc mv).toNat), z_hdC, σ') ∧ z_off 60 62 σ σ' ∧ c_sets σ' (z_t0 mv t) n mv cp fac := by
      intro v hv
      have ha60 : a1 ≠ 60 := by rcases ha with h | h | h | h | h | h <;> omega
      obtain ⟨σ', g1, g2, g3⟩ := ih (k + 1) (z_upd σ 60 k v) (by omega) (by omega) (by rw [z_upd_at, if_neg (by omega)]; exact h3) (by rw [z_upd_at, if_neg (by omega)]; exact h4) (by rw [z_upd_at, if_neg (by omega)]; exact h5) (by rw [z_upd_at, if_neg (by omega)]; exact h6) (by rw [z_upd_at, if_neg (by omega)]; exact h61) (by rw [z_upd_at, if_neg (by omega)]; exact h62) (fun i i0 i1 => by rw [z_upd_at, if_neg (by omega)]; exact hA i i0 i1) (fun i i0 i1 => by
        rw [z_upd_at]
        by_cases hi : i = k
        · rw [if_pos ⟨rfl, hi⟩, hi]; exact hv
        · rw [if_neg (by omega)]; exact hT i i0 (by omega))
      exact ⟨σ', g1, z_off_trans (z_off_upd (by omega) (by omega)) g2, g3⟩
    rw [z_B801_31]
    by_cases hb : z_bt mv k = true
    · obtain ⟨σ', g1, g2, g3⟩ := step 0 (by unfold z_t0; rw [if_pos ⟨hk, hb⟩])
      refine ⟨σ', ?_, g2, g3⟩
      rw [hb] at hbt
      simp (disch := omega) only [if_neg, h4, hbt, z_fdC, z_pdC, z_adC, z_sdC, z_lkC, z_ndC, z_gdC, z_mdC, z_cI_some', z_cV_some', z_w_ok, Int.reduceAdd, Int.reduceSub, Int.reduceMul, Int.reduceNeg, Int.reduceEq, Int.reduceLT, Int.reduceLE, Int.reduceNe, reduceIte, true_and, and_true, false_and, and_false, if_true, if_false, ne_eq, not_true_eq_false, not_false_eq_true]
      exact g1
    · obtain ⟨σ', g1, g2, g3⟩ := step (t k) (by unfold z_t0; rw [if_neg (fun z => hb z.2)])
      refine ⟨σ', ?_, g2, g3⟩
      rw [if_neg hb] at hbt
      have hAk := hA k hk (by omega)
      rcases ha with rfl | rfl | rfl | rfl | rfl | rfl <;> (simp (disch := omega) only [if_neg, if_pos, h4, hbt, hAk, z_fdC, z_pdC, z_adC, z_sdC, z_lkC, z_ndC, z_gdC, z_mdC, z_cI_some', z_cV_some', z_w_ok, Int.reduceAdd, Int.reduceSub, Int.reduceMul, Int.reduceNeg, Int.reduceEq, Int.reduceLT, Int.reduceLE, Int.reduceNe, reduceIte, true_and, and_true, false_and, and_false, if_true, if_false, ne_eq, not_true_eq_false, not_false_eq_true]; exact g1)
/-- Sets.begin -/
theorem c_begin {σ : z_S} (d : Nat) {ln a1 mv cp n : Int} {t : Int → Int} (ha : z_arr5 a1) (ht : c_t20 t) (hln : ln = 0 ∨ ln = 1) (hn : 0 ≤ n ∧ n ≤ 5) (hmv : 0 ≤ mv ∧ mv < 32) (hcp : 0 ≤ cp ∧ cp ≤ 20) (h3 : σ 59 3 = n) (h61 : σ 61 0 = 0) (h62 : σ 62 0 = 0) (hA : ∀ i : Int, 0 ≤ i → i < 5 → σ a1 i = t i) :
    ∃ σ', z_ev z_hcC (d + 2) 801 [z_R 59, z_R a1, z_I mv, z_I cp, z_I ln] z_hdC σ = some (z_I ((cp + 1) ^ (z_pc mv).toNat), z_hdC, σ') ∧ z_off 59 62 σ σ' ∧ c_sets σ' (z_t0 mv t) n mv cp (if ln = 0 then 255 else 257) := by
  have ha59 : a1 ≠ 59 := by rcases ha with h | h | h | h | h | h <;> omega
  have hf : (if ln = 0 then (255 : Int) else 257) = 255 ∨ (if ln = 0 then (255 : Int) else 257) = 257 := by split <;> simp
  obtain ⟨σ', g1, g2, g3⟩ := c_begin_go (d := d) (x3 := cp) (ln := ln) ha ht hf hn hmv hcp 5 0 (z_upd (z_upd (z_upd σ 59 4 mv) 59 5 cp) 59 6 (if ln = 0 then 255 else 257)) (by omega) (by omega)
    (by simp only [z_upd_at]; simpa using h3) (by simp [z_upd_at]) (by simp [z_upd_at]) (by simp [z_upd_at]) (by simp only [z_upd_at]; simpa using h61) (by simp only [z_upd_at]; simpa using h62) (fun i i0 i1 => by simp only [z_upd_at]; rw [if_neg (by omega), if_neg (by omega), if_neg (by omega)]; exact hA i i0 i1) (fun i i0 i1 => by omega)
  refine ⟨σ', ?_, z_off_trans (z_off_trans (z_off_upd (by omega) (by omega)) (z_off_trans (z_off_upd (by omega) (by omega)) (z_off_upd (by omega) (by omega)))) (z_off_le g2 (by omega) (by omega)), g3⟩
  rw [← g1]
  rcases hln with rfl | rfl <;> simp (disch := omega) only [z_E801, z_fdC, z_pdC, z_adC, z_sdC, z_lkC, z_ndC, z_gdC, z_mdC, z_cI_some', z_cV_some', z_w_ok, Int.reduceAdd, Int.reduceSub, Int.reduceMul, Int.reduceNeg, Int.reduceEq, Int.reduceLT, Int.reduceLE, Int.reduceNe, reduceIte, true_and, and_true, false_and, and_false, if_true, if_false, ne_eq, not_true_eq_false, not_false_eq_true]
