/-! The world X: 0: counts (0 roads, 1 tolled, 2 journeys, 3 cap, 4 lean, 5 signs, 6 row); roads 1 from, 2 to, 3 cost, 4 hours, 5 house; 6 tolled roads, 7 tolls; journeys 8 from .. 16 time; 17 weights; 18 signs; 19 row. -/
def z_wf (X : z_S) : Prop :=
  (0 ≤ X 0 0 ∧ X 0 0 ≤ 14) ∧ (0 ≤ X 0 1 ∧ X 0 1 ≤ 5) ∧ (0 ≤ X 0 2 ∧ X 0 2 ≤ 8) ∧ (0 ≤ X 0 3 ∧ X 0 3 ≤ 20) ∧ (X 0 4 = 0 ∨ X 0 4 = 1) ∧ (0 ≤ X 0 5 ∧ X 0 5 ≤ 100) ∧ (0 ≤ X 0 6 ∧ X 0 6 ≤ 24) ∧
  (∀ r, 0 ≤ r → r < X 0 0 → (0 ≤ X 1 r ∧ X 1 r ≤ 7) ∧ (0 ≤ X 2 r ∧ X 2 r ≤ 7) ∧ X 1 r ≠ X 2 r ∧ (0 ≤ X 3 r ∧ X 3 r ≤ 99) ∧ (0 ≤ X 4 r ∧ X 4 r ≤ 9) ∧ (X 5 r = -1 ∨ X 5 r = 0 ∨ X 5 r = 1)) ∧
  (∀ k, 0 ≤ k → k < X 0 1 → 0 ≤ X 6 k ∧ X 6 k < X 0 0 ∧ X 5 (X 6 k) ≠ -1) ∧ (∀ k k', 0 ≤ k → k < k' → k' < X 0 1 → X 6 k < X 6 k') ∧
  (∀ r, 0 ≤ r → r < X 0 0 → X 5 r ≠ -1 → ∃ k, 0 ≤ k ∧ k < X 0 1 ∧ X 6 k = r) ∧
  (∀ k, 0 ≤ k → k < 5 → 0 ≤ X 7 k ∧ X 7 k ≤ X 0 3) ∧ (∀ k, X 0 1 ≤ k → k < 5 → X 7 k = 0) ∧
  (∀ j, 0 ≤ j → j < X 0 2 → (0 ≤ X 8 j ∧ X 8 j ≤ 7) ∧ (0 ≤ X 9 j ∧ X 9 j ≤ 7) ∧ X 8 j ≠ X 9 j ∧ (1 ≤ X 10 j ∧ X 10 j ≤ 99) ∧ (0 ≤ X 11 j ∧ X 11 j ≤ X 12 j ∧ X 12 j ≤ 9 ∧ X 12 j ≤ X 11 j + 5) ∧ (X 13 j = 0 ∧ X 11 j = X 12 j ∨ X 13 j = 1) ∧ (0 ≤ X 14 j ∧ X 14 j ≤ 14) ∧ (-1 ≤ X 15 j ∧ X 15 j ≤ 999) ∧ (0 ≤ X 16 j ∧ X 16 j ≤ 3)) ∧
  (∀ w, 0 ≤ w → w < 10 → 0 ≤ X 17 w ∧ X 17 w ≤ 99) ∧ (∀ i, 0 ≤ i → i < X 0 5 → 0 ≤ X 18 i ∧ X 18 i ≤ 255)
/-- a road's slot among the first n -/
def z_slot (X : z_S) : Nat → Int → Int
  | 0, _ => -1
  | n + 1, r => if X 6 n = r then n else z_slot X n r
theorem z_slot_some {X : z_S} {r : Int} : ∀ {n : Nat}, (z_slot X n r = -1 ∧ ∀ k : Int, 0 ≤ k → k < n → X 6 k ≠ r) ∨ (0 ≤ z_slot X n r ∧ z_slot X n r < n ∧ X 6 (z_slot X n r) = r)
  | 0 => Or.inl ⟨rfl, fun k h0 h1 => by omega⟩
  | n + 1 => by
    unfold z_slot
    split
    · next h => right; exact ⟨by omega, by omega, h⟩
    · next h =>
      rcases z_slot_some (X := X) (r := r) (n := n) with ⟨h1, h2⟩ | ⟨h1, h2, h3⟩
      · left
        refine ⟨h1, fun k k0 k1 => ?_⟩
        by_cases hk : k = (n : Int)
        · rw [hk]; exact h
        · exact h2 k k0 (by omega)
      · right; exact ⟨h1, by omega, h3⟩
/-- the class's land at L tells X's roads and journeys -/
def c_land (σ : z_S) (L : Int) (X : z_S) : Prop :=
  σ (L + 1) 0 = X 0 0 ∧ σ (L + 1) 1 = X 0 1 ∧ σ (L + 1) 2 = X 0 3 ∧ σ (L + 10) 0 = X 0 2 ∧
  (∀ r, 0 ≤ r → r < X 0 0 → σ (L + 4) r = X 1 r ∧ σ (L + 5) r = X 2 r ∧ σ (L + 6) r = X 3 r ∧ σ (L + 7) r = X 4 r ∧ σ (L + 2) r = X 5 r ∧ σ (L + 8) r = z_slot X (X 0 1).toNat r) ∧
  (∀ k, 0 ≤ k → k < X 0 1 → σ (L + 9) k = X 6 k) ∧ (∀ k, 0 ≤ k → k < 5 → σ (L + 3) k = X 7 k) ∧
  (∀ j, 0 ≤ j → j < X 0 2 → σ (L + 11) j = X 8 j ∧ σ (L + 12) j = X 9 j ∧ σ (L + 13) j = X 10 j ∧ σ (L + 14) j = X 11 j ∧ σ (L + 15) j = X 12 j ∧ (σ (L + 16) j = X 13 j) ∧ σ (L + 17) j = X 14 j ∧ σ (L + 18) j = X 15 j ∧ σ (L + 19) j = X 16 j)
/-- road s of the roads q is shut (none: -1) -/
def c_shut (σ : z_S) (q s : Int) : Prop := (s = -1 ∧ σ q 3 = 0) ∨ (0 ≤ s ∧ s < 14 ∧ σ q 3 = z_shl 1 s)
theorem z_bt_pow {s r : Int} (h0 : 0 ≤ s) (h1 : 0 ≤ r) : z_bt ((2 ^ s.toNat : Nat) : Int) r = decide (r = s) := by
  unfold z_bt
  rw [Int.toNat_natCast, Nat.testBit_two_pow]
  by_cases h : s = r
  · subst h; simp
  · have : s.toNat ≠ r.toNat := by omega
    simp [this, Ne.symm h]
theorem c_shut_open {σ : z_S} {q s r : Int} (h : c_shut σ q s) (h0 : 0 ≤ r) (h1 : r < 14) : z_and (z_shr (σ q 3) r) 1 = 0 ↔ r ≠ s := by
  rcases h with ⟨rfl, h⟩ | ⟨s0, s1, h⟩
  · rw [h, z_bit (by omega) (by omega) h0 (by omega)]
    have : z_bt 0 r = false := by unfold z_bt; simp
    rw [this]
    simp; omega
  · have hp : 2 ^ s.toNat < 2 ^ 14 := Nat.pow_lt_pow_right (by omega) (by omega)
    rw [h, z_shl1 s0 (by omega), z_bit (Int.natCast_nonneg _) (by omega) h0 (by omega), z_bt_pow s0 h0]
    by_cases hr : r = s
    · simp [hr]
    · simp [hr]
theorem c_isOpen' {σ : z_S} {q s r : Int} (hq : q = 7 ∨ q = 27) (d : Nat) (h : c_shut σ q s) (h0 : 0 ≤ r) (h1 : r < 14) : z_ev z_hcC (d + 1) 612 [z_R q, z_I r] z_hdC σ = some (z_I (if r ≠ s then 1 else 0), z_hdC, σ) := by
  rw [c_isOpen hq]
  simp only [c_shut_open h h0 h1]
/-- bits of the k below n with P -/
def z_bs (P : Int → Bool) : Nat → Int
  | 0 => 0
  | n + 1 => z_bs P n + if P n then ((2 ^ n : Nat) : Int) else 0
theorem z_bs_rng {P : Int → Bool} : ∀ {n : Nat}, 0 ≤ z_bs P n ∧ z_bs P n < ((2 ^ n : Nat) : Int)
  | 0 => by unfold z_bs; decide
  | n + 1 => by
    have ih := z_bs_rng (P := P) (n := n)
    have hp : 2 ^ (n + 1) = 2 ^ n * 2 := Nat.pow_succ ..
    unfold z_bs
    split <;> omega
theorem z_bs_bit {P : Int → Bool} {k : Nat} : ∀ {n : Nat}, z_bt (z_bs P n) k = (decide (k < n) && P k)
  | 0 => by unfold z_bs z_bt; simp
  | n + 1 => by
    have ih := z_bs_bit (P := P) (k := k) (n := n)
    have hr := z_bs_rng (P := P) (n := n)
    unfold z_bs
    unfold z_bt at *
    have hlt : (z_bs P n).toNat < 2 ^ n := by omega
    by_cases hP : P n = true
    · rw [if_pos hP, show (z_bs P n + ((2 ^ n : Nat) : Int)).toNat = 2 ^ n + (z_bs P n).toNat by omega]
      rcases Nat.lt_trichotomy k n with h | h | h
      · rw [Int.toNat_natCast, Nat.testBit_two_pow_add_gt h]
        rw [Int.toNat_natCast] at ih
        rw [ih]
        simp [h, Nat.lt_succ_of_lt h]
      · subst h
        rw [Int.toNat_natCast, Nat.testBit_two_pow_add_eq, Nat.testBit_lt_two_pow hlt]
        simp [hP]
      · have h2 : 2 ^ n + (z_bs P n).toNat < 2 ^ k := by
          have : 2 ^ (n + 1) ≤ 2 ^ k := Nat.pow_le_pow_right (by omega) h
          have h5 : 2 ^ (n + 1) = 2 ^ n * 2 := Nat.pow_succ ..
          omega
        rw [Int.toNat_natCast, Nat.testBit_lt_two_pow h2]
        have : ¬ k < n + 1 := by omega
        simp [this]
    · rw [if_neg hP, Int.add_zero, ih]
      by_cases h : k = n
      · subst h
        simp [hP]
      · by_cases h2 : k < n
        · simp [h2, Nat.lt_succ_of_lt h2]
        · have : ¬ k < n + 1 := by omega
          simp [h2, this]
/-- the slots of a house's roads, but for a shut one -/
def z_side (X : z_S) (h s : Int) : Int := z_bs (fun k => decide (X 5 (X 6 k) = h) && decide (X 6 k ≠ s)) (X 0 1).toNat
theorem z_side_rng {X : z_S} (hw : z_wf X) (h s : Int) : 0 ≤ z_side X h s ∧ z_side X h s < 32 ∧ z_side X h s < ((2 ^ (X 0 1).toNat : Nat) : Int) := by
  have := z_bs_rng (P := fun k => decide (X 5 (X 6 k) = h) && decide (X 6 k ≠ s)) (n := (X 0 1).toNat)
  have h5 : 2 ^ (X 0 1).toNat ≤ 2 ^ 5 := Nat.pow_le_pow_right (by omega) (by have := hw.2.1; omega)
  unfold z_side
  omega
theorem c_sideOf {σ : z_S} {X : z_S} {L s : Int} (d : Nat) (hL : L = 6 ∨ L = 26) (hw : z_wf X) (hl : c_land σ L X) (hs : c_shut σ (L + 1) s) (h : Int) :
    z_ev z_hcC (d + 3) 613 [z_R (L + 1), z_I h] z_hdC σ = some (z_I (z_side X h s), z_hdC, σ) := by
  have hq : L + 1 = 7 ∨ L + 1 = 27 := by omega
  obtain ⟨l1, l2, l3, l4, l5, l6, l7, l8⟩ := hl
  have hnT := hw.2.1
  have hnR := hw.1
  have htol := hw.2.2.2.2.2.2.2.2.1
  have go : ∀ (j k : Nat) (u : z_V), (k : Int) + j = X 0 1 → z_go (z_ev z_hcC (d + 2)) z_hcC 613 4 [z_R (L + 1), z_I h, z_I (z_bs (fun k => decide (X 5 (X 6 k) = h) && decide (X 6 k ≠ s)) k), z_I k, u] [] z_hdC σ = some (z_I (z_side X h s), z_hdC, σ) := by
    intro j
    induction j with
    | zero =>
      intro k u hk
      have hkn : (X 0 1).toNat = k := by omega
      rw [z_B613_4]
      unfold z_side
      rw [hkn]
      rcases hL with rfl | rfl <;> (simp only [Int.reduceAdd] at *; simp (disch := omega) only [if_pos, l2, z_fdC, z_pdC, z_adC, z_sdC, z_lkC, z_ndC, z_gdC, z_mdC, z_cI_some', z_cV_some', z_w_ok, Int.reduceAdd, Int.reduceSub, Int.reduceMul, Int.reduceNeg, Int.reduceEq, Int.reduceLT, Int.reduceLE, Int.reduceNe, reduceIte, true_and, and_true, false_and, and_false, if_true, if_false, ne_eq, not_true_eq_false, not_false_eq_true])
    | succ j ih =>
      intro k u hk
      have ht := htol k (by omega) (by omega)
      have e6 := l6 k (by omega) (by omega)
      have e5 := (l5 (X 6 k) ht.1 ht.2.1).2.2.2.2.1
      have h1 := c_houseOf (σ := σ) hq d (X 6 k)
      rw [if_pos (by rw [l1]; omega), show L + 1 + 1 = L + 2 by omega, e5] at h1
      have h2 := c_isOpen' hq (d + 1) hs ht.1 (show X 6 k < 14 by omega)
      have hr := z_bs_rng (P := fun k => decide (X 5 (X 6 k) = h) && decide (X 6 k ≠ s)) (n := k)
      have hor := z_or_bit (m := z_bs (fun k => decide (X 5 (X 6 k) = h) && decide (X 6 k ≠ s)) k) (k := (k : Int)) hr.1 (by omega) (by omega) (by rw [Int.toNat_natCast]; exact hr.2)
      rw [Int.toNat_natCast] at hor
      have next := ih (k + 1)
      have e1 : ((k + 1 : Nat) : Int) = (k : Int) + 1 := by omega
      have hbs : z_bs (fun k => decide (X 5 (X 6 k) = h) && decide (X 6 k ≠ s)) (k + 1) = z_bs (fun k => decide (X 5 (X 6 k) = h) && decide (X 6 k ≠ s)) k + if (decide (X 5 (X 6 k) = h) && decide (X 6 k ≠ s)) = true then ((2 ^ k : Nat) : Int) else 0 := rfl
      rw [hbs, e1] at next
      rw [z_B613_4]
      by_cases c1 : X 5 (X 6 k) = h
      · by_cases c2 : X 6 k = s
        · have hb : (decide (X 5 (X 6 k) = h) && decide (X 6 k ≠ s)) = false := by simp [c2]
          rw [hb] at next
          simp only [Bool.false_eq_true, if_false, Int.add_zero] at next
          rw [if_neg (by simpa using c2)] at h2
          have nx := next (z_I (X 6 k)) (by omega)
          rcases hL with rfl | rfl <;> (simp only [Int.reduceAdd] at *; simp (disch := omega) only [if_pos, if_neg, l2, e6, h1, h2, c1, z_fdC, z_pdC, z_adC, z_sdC, z_lkC, z_ndC, z_gdC, z_mdC, z_cI_some', z_cV_some', z_w_ok, Int.reduceAdd, Int.reduceSub, Int.reduceMul, Int.reduceNeg, Int.reduceEq, Int.reduceLT, Int.reduceLE, Int.reduceNe, reduceIte, true_and, and_true, false_and, and_false, if_true, if_false, ne_eq, not_true_eq_false, not_false_eq_true]; exact nx)
        · have hb : (decide (X 5 (X 6 k) = h) && decide (X 6 k ≠ s)) = true := by simp [c1, c2]
          rw [hb] at next
          simp only [if_true] at next
          rw [if_pos c2] at h2
          have nx := next (z_I (X 6 k)) (by omega)
          rw [← hor] at nx
          rcases hL with rfl | rfl <;> (simp only [Int.reduceAdd] at *; simp (disch := omega) only [if_pos, if_neg, l2, e6, h1, h2, c1, z_fdC, z_pdC, z_adC, z_sdC, z_lkC, z_ndC, z_gdC, z_mdC, z_cI_some', z_cV_some', z_w_ok, Int.reduceAdd, Int.reduceSub, Int.reduceMul, Int.reduceNeg, Int.reduceEq, Int.reduceLT, Int.reduceLE, Int.reduceNe, reduceIte, true_and, and_true, false_and, and_false, if_true, if_false, ne_eq, not_true_eq_false, not_false_eq_true]; exact nx)
      · have hb : (decide (X 5 (X 6 k) = h) && decide (X 6 k ≠ s)) = false := by simp [c1]
        rw [hb] at next
        simp only [Bool.false_eq_true, if_false, Int.add_zero] at next
        have nx := next (z_I (X 6 k)) (by omega)
        rcases hL with rfl | rfl <;> (simp only [Int.reduceAdd] at *; simp (disch := omega) only [if_pos, if_neg, l2, e6, h1, c1, z_fdC, z_pdC, z_adC, z_sdC, z_lkC, z_ndC, z_gdC, z_mdC, z_cI_some', z_cV_some', z_w_ok, Int.reduceAdd, Int.reduceSub, Int.reduceMul, Int.reduceNeg, Int.reduceEq, Int.reduceLT, Int.reduceLE, Int.reduceNe, reduceIte, true_and, and_true, false_and, and_false, if_true, if_false, ne_eq, not_true_eq_false, not_false_eq_true]; exact nx)
  have h0 := go (X 0 1).toNat 0 z_U (by omega)
  rcases hL with rfl | rfl <;> (simp only [Int.reduceAdd] at *; simp (disch := omega) only [z_E613, z_fdC, z_pdC, z_adC, z_sdC, z_lkC, z_ndC, z_gdC, z_mdC, z_cI_some', z_cV_some', z_w_ok, Int.reduceAdd, Int.reduceSub, Int.reduceMul, Int.reduceNeg, Int.reduceEq, Int.reduceLT, Int.reduceLE, Int.reduceNe, reduceIte, true_and, and_true, false_and, and_false, if_true, if_false, ne_eq, not_true_eq_false, not_false_eq_true]; exact h0)
