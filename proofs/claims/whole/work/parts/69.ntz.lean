/-! The reference: its land; what masks of slots are asked. -/
def z_nt2 (x0 x1 : Int) : Int := if x0 ≤ 4 then z_w (x1 + z_ushr x0 1) else z_w (z_w (x1 + 2) + z_ushr (z_ushr x0 2) 1)
def z_nt1 (x0 x1 : Int) : Int := if x0 ≤ 256 then (if x0 ≤ 16 then z_nt2 x0 x1 else z_nt2 (z_ushr x0 4) (z_w (x1 + 4))) else (if z_ushr x0 8 ≤ 16 then z_nt2 (z_ushr x0 8) (z_w (x1 + 8)) else z_nt2 (z_ushr (z_ushr x0 8) 4) (z_w (z_w (x1 + 8) + 4)))
def z_nt (x0 : Int) : Int := if 0 < z_and (z_xor x0 (-1)) (z_w (x0 - 1)) then (if z_and (z_xor x0 (-1)) (z_w (x0 - 1)) ≤ 65536 then z_nt1 (z_and (z_xor x0 (-1)) (z_w (x0 - 1))) 1 else z_nt1 (z_ushr (z_and (z_xor x0 (-1)) (z_w (x0 - 1))) 16) (z_w (1 + 16))) else z_and (z_and (z_xor x0 (-1)) (z_w (x0 - 1))) 32
section
variable {hc : z_C} {hd : z_H} {σ : z_S}
theorem c_nt2 {c : z_Call} (x0 x1 : Int) : z_go c hc 1301 62 [z_I x0, z_I x1] [] hd σ = some (z_I (z_nt2 x0 x1), hd, σ) := by
  rw [z_B1301_62]; unfold z_nt2
  by_cases h : x0 ≤ 4
  · rw [if_pos h, if_pos h]
  · rw [if_neg h, if_neg h]
theorem c_nt1 {c : z_Call} (x0 x1 : Int) : z_go c hc 1301 34 [z_I x0, z_I x1] [] hd σ = some (z_I (z_nt1 x0 x1), hd, σ) := by
  rw [z_B1301_34]; unfold z_nt1
  simp only [c_nt2]
  by_cases h : x0 ≤ 256
  · simp only [if_pos h]
    by_cases h2 : x0 ≤ 16
    · simp only [if_pos h2]
    · simp only [if_neg h2]
  · simp only [if_neg h]
    by_cases h2 : z_ushr x0 8 ≤ 16
    · simp only [if_pos h2]
    · simp only [if_neg h2]
theorem c_nt (d : Nat) (x : Int) : z_ev hc (d + 1) 1301 [z_I x] hd σ = some (z_I (z_nt x), hd, σ) := by
  rw [z_E1301]; unfold z_nt
  simp only [c_nt1]
  generalize z_and (z_xor x (-1)) (z_w (x - 1)) = y
  by_cases h : 0 < y
  · simp only [if_pos h]
    by_cases h2 : y ≤ 65536
    · simp only [if_pos h2]
    · simp only [if_neg h2]
  · simp only [if_neg h]
end
theorem z_nt_all : ∀ n : Nat, n < 32 → 1 ≤ n → (0 ≤ z_nt n ∧ z_nt n < 5) ∧ (0 ≤ z_and n (z_w (n - 1)) ∧ z_and n (z_w (n - 1)) < n) ∧ (((2 ^ (z_nt n).toNat : Nat) : Int) ≤ n) ∧ ∀ k : Nat, k < 5 → z_bt n k = (decide ((k : Int) = z_nt n) || z_bt (z_and n (z_w (n - 1))) k) ∧ (z_bt (z_and n (z_w (n - 1))) k = true → (k : Int) ≠ z_nt n) := by decide +kernel
/-- a mask without its lowest slot -/
theorem z_nt_ok {m : Int} (h0 : 1 ≤ m) (h1 : m < 32) (t : Int → Int) : (0 ≤ z_nt m ∧ z_nt m < 5) ∧ (0 ≤ z_and m (m - 1) ∧ z_and m (m - 1) < m) ∧ ((2 ^ (z_nt m).toNat : Nat) : Int) ≤ m ∧ z_pay t (z_and m (m - 1)) + t (z_nt m) = z_pay t m := by
  have h := z_nt_all m.toNat (by omega) (by omega)
  rw [Int.toNat_of_nonneg (by omega), z_w_ok (by omega) (by omega)] at h
  obtain ⟨a, b, c, e⟩ := h
  refine ⟨a, b, c, ?_⟩
  unfold z_pay
  rw [← z_sm_one (f := fun k => if z_bt (z_and m (m - 1)) k then t k else 0) (s := z_nt m) (v := t (z_nt m)) a.1 (by omega)]
  refine z_sm_congr (fun k k0 k1 => ?_)
  have e' := e k.toNat (by omega)
  rw [Int.toNat_of_nonneg k0] at e'
  obtain ⟨e1, e2⟩ := e'
  rw [e1]
  by_cases hk : k = z_nt m
  · have h2 : z_bt (z_and m (m - 1)) k = false := by
      cases hb : z_bt (z_and m (m - 1)) k with
      | false => rfl
      | true => exact absurd hk (e2 hb)
    rw [h2]
    simp [hk]
  · simp [hk]
