/-- how many bits below the fifth -/
def z_pc (m : Int) : Int := z_sm 5 (fun k => if z_bt m k then 1 else 0)
theorem z_pc_le (m : Int) : 0 ≤ z_pc m ∧ z_pc m ≤ 5 := by
  unfold z_pc
  constructor
  · have h := z_sm_le (n := 5) (f := fun _ => 0) (g := fun k => if z_bt m k then 1 else 0) (fun k _ _ => by split <;> omega)
    rw [z_sm_const] at h
    simpa using h
  · have h := z_sm_le (n := 5) (f := fun k => if z_bt m k then 1 else 0) (g := fun _ => 1) (fun k _ _ => by split <;> omega)
    rw [z_sm_const] at h
    simpa using h
theorem c_bitCount0 : ∃ F : Int → Int, (∀ {hc : z_C} {d : Nat} {hd : z_H} {σ : z_S} (x : Int), z_ev hc (d + 1) 1300 [z_I x] hd σ = some (z_I (F x), hd, σ)) ∧ ∀ n : Nat, n < 32 → F (n : Int) = z_pc n := by
  refine ⟨_, fun x => z_E1300 x, ?_⟩
  decide +kernel
theorem c_bitCount {hc : z_C} {hd : z_H} {σ : z_S} (d : Nat) {m : Int} (h0 : 0 ≤ m) (h1 : m < 32) : z_ev hc (d + 1) 1300 [z_I m] hd σ = some (z_I (z_pc m), hd, σ) := by
  obtain ⟨F, hF, hP⟩ := c_bitCount0
  have := hP m.toNat (by omega)
  rw [Int.toNat_of_nonneg h0] at this
  rw [hF, this]
theorem z_pow21 {b : Int} (h0 : 0 ≤ b) (h1 : b ≤ 21) {n : Nat} (h : n ≤ 5) : 0 ≤ b ^ n ∧ b ^ n ≤ 4084101 := by
  have hb : ∀ k : Nat, k ≤ 21 → ∀ n : Nat, n ≤ 5 → 0 ≤ (k : Int) ^ n ∧ (k : Int) ^ n ≤ 4084101 := by decide +kernel
  have := hb b.toNat (by omega) n h
  rwa [Int.toNat_of_nonneg h0] at this
theorem c_powerOf_go {hc : z_C} {c : z_Call} {b n : Int} (h0 : 0 ≤ b) (h1 : b ≤ 21) (hn0 : 0 ≤ n) (hn : n ≤ 5) {hd : z_H} {σ : z_S} : ∀ (j : Nat) (i : Int), 0 ≤ i → i + j = n → z_go c hc 617 4 [z_I b, z_I n, z_I (b ^ i.toNat), z_I i] [] hd σ = some (z_I (b ^ n.toNat), hd, σ) := by
  intro j
  induction j with
  | zero =>
    intro i hi hj
    have : i = n := by omega
    subst this
    rw [z_B617_4]
    simp (disch := omega) only [if_pos]
  | succ j ih =>
    intro i hi hj
    rw [z_B617_4]
    have hp := z_pow21 h0 h1 (n := i.toNat + 1) (by omega)
    have e : b ^ i.toNat * b = b ^ (i + 1).toNat := by rw [show (i + 1).toNat = i.toNat + 1 by omega, Int.pow_succ]
    rw [Int.pow_succ] at hp
    have := ih (i + 1) (by omega) (by omega)
    rw [← e] at this
    simp (disch := omega) only [if_neg, z_w_ok]
    exact this
theorem c_powerOf {hc : z_C} {hd : z_H} {σ : z_S} (d : Nat) {b n : Int} (h0 : 0 ≤ b) (h1 : b ≤ 21) (hn0 : 0 ≤ n) (hn : n ≤ 5) : z_ev hc (d + 1) 617 [z_I b, z_I n] hd σ = some (z_I (b ^ n.toNat), hd, σ) := by
  rw [z_E617]
  have h := c_powerOf_go (hc := hc) (c := z_ev hc d) h0 h1 hn0 hn (hd := hd) (σ := σ) n.toNat 0 (by omega) (by omega)
  simpa using h
