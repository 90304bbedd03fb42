/-! Bits of whole numbers. -/
theorem z_bvn {x : Int} (h0 : 0 ≤ x) (h1 : x < 2147483648) : (Int32.ofInt x).toBitVec.toNat = x.toNat := by
  show (BitVec.ofInt 32 x).toNat = _
  rw [BitVec.toNat_ofInt]
  omega
theorem z_toI {y : Int32} {n : Nat} (h : y.toBitVec.toNat = n) (hn : n < 2147483648) : y.toInt = (n : Int) := by
  show y.toBitVec.toInt = _
  rw [BitVec.toInt_eq_toNat_of_lt (by rw [h]; omega), h]
theorem z_and_nat {x y : Int} (h0 : 0 ≤ x) (h1 : x < 2147483648) (h2 : 0 ≤ y) (h3 : y < 2147483648) : z_and x y = ((x.toNat &&& y.toNat : Nat) : Int) := by
  refine z_toI ?_ ?_
  · rw [Int32.toBitVec_and, BitVec.toNat_and, z_bvn h0 h1, z_bvn h2 h3]
  · exact Nat.lt_of_le_of_lt Nat.and_le_left (by omega)
theorem z_or_nat {x y : Int} (h0 : 0 ≤ x) (h1 : x < 2147483648) (h2 : 0 ≤ y) (h3 : y < 2147483648) : z_or x y = ((x.toNat ||| y.toNat : Nat) : Int) := by
  refine z_toI ?_ ?_
  · rw [Int32.toBitVec_or, BitVec.toNat_or, z_bvn h0 h1, z_bvn h2 h3]
  · exact Nat.or_lt_two_pow (n := 31) (by omega) (by omega)
theorem z_xor_nat {x y : Int} (h0 : 0 ≤ x) (h1 : x < 2147483648) (h2 : 0 ≤ y) (h3 : y < 2147483648) : z_xor x y = ((x.toNat ^^^ y.toNat : Nat) : Int) := by
  refine z_toI ?_ ?_
  · rw [Int32.toBitVec_xor, BitVec.toNat_xor, z_bvn h0 h1, z_bvn h2 h3]
  · exact Nat.xor_lt_two_pow (n := 31) (by omega) (by omega)
theorem z_k31 {k : Int} (h0 : 0 ≤ k) (h1 : k < 32) : Int32.ofInt k &&& 31 = Int32.ofInt k := by
  have h : ∀ n : Nat, n < 32 → Int32.ofInt (n : Int) &&& 31 = Int32.ofInt (n : Int) := by decide
  have := h k.toNat (by omega)
  rwa [Int.toNat_of_nonneg h0] at this
theorem z_shl_nat {x k : Int} (h0 : 0 ≤ x) (h2 : 0 ≤ k) (h3 : k < 31) (h4 : x.toNat * 2 ^ k.toNat < 2147483648) : z_shl x k = ((x.toNat * 2 ^ k.toNat : Nat) : Int) := by
  have hp : 1 ≤ 2 ^ k.toNat := Nat.one_le_two_pow
  have hx : x.toNat ≤ x.toNat * 2 ^ k.toNat := Nat.le_mul_of_pos_right _ hp
  have h1 : x < 2147483648 := by omega
  unfold z_shl
  rw [z_k31 h2 (by omega)]
  refine z_toI ?_ h4
  rw [Int32.toBitVec_shiftLeft, BitVec.shiftLeft_eq', BitVec.toNat_shiftLeft, z_bvn h0 h1]
  have hk : ((Int32.ofInt k).toBitVec.smod 32).toNat = k.toNat := by
    have h : ∀ n : Nat, n < 32 → ((Int32.ofInt (n : Int)).toBitVec.smod 32).toNat = n := by decide
    have := h k.toNat (by omega)
    rwa [Int.toNat_of_nonneg h2] at this
  rw [hk, Nat.shiftLeft_eq, Nat.mod_eq_of_lt (by omega)]
theorem z_shr_nat {x k : Int} (h0 : 0 ≤ x) (h1 : x < 2147483648) (h2 : 0 ≤ k) (h3 : k < 32) : z_shr x k = ((x.toNat / 2 ^ k.toNat : Nat) : Int) := by
  unfold z_shr
  rw [z_k31 h2 h3]
  refine z_toI ?_ (Nat.lt_of_le_of_lt (Nat.div_le_self _ _) (by omega))
  have hk : ((Int32.ofInt k).toBitVec.smod 32).toNat = k.toNat := by
    have h : ∀ n : Nat, n < 32 → ((Int32.ofInt (n : Int)).toBitVec.smod 32).toNat = n := by decide
    have := h k.toNat (by omega)
    rwa [Int.toNat_of_nonneg h2] at this
  rw [Int32.toBitVec_shiftRight, BitVec.sshiftRight_eq', hk]
  have hm : (Int32.ofInt x).toBitVec.msb = false := by
    rw [BitVec.msb_eq_false_iff_two_mul_lt, z_bvn h0 h1]; omega
  rw [BitVec.toNat_sshiftRight_of_msb_false hm, z_bvn h0 h1, Nat.shiftRight_eq_div_pow]
/-- bit k of m -/
def z_bt (m k : Int) : Bool := m.toNat.testBit k.toNat
theorem z_bit {m k : Int} (h0 : 0 ≤ m) (h1 : m < 2147483648) (h2 : 0 ≤ k) (h3 : k < 32) : z_and (z_shr m k) 1 = if z_bt m k then 1 else 0 := by
  have hle : m.toNat / 2 ^ k.toNat ≤ m.toNat := Nat.div_le_self _ _
  unfold z_bt
  rw [Nat.testBit_eq_decide_div_mod_eq, z_shr_nat h0 h1 h2 h3]
  generalize m.toNat / 2 ^ k.toNat = N at hle ⊢
  rw [z_and_nat (by omega) (by omega) (by omega) (by omega), Int.toNat_natCast, show ((1 : Int)).toNat = 1 from rfl, Nat.and_one_is_mod]
  by_cases h : N % 2 = 1
  · simp [h]
  · have : N % 2 = 0 := by omega
    simp [this]
theorem z_shl1 {k : Int} (h2 : 0 ≤ k) (h3 : k < 31) : z_shl 1 k = ((2 ^ k.toNat : Nat) : Int) := by
  have h : 2 ^ k.toNat < 2147483648 := Nat.pow_lt_pow_right (a := 2) (by omega) (show k.toNat < 31 by omega)
  rw [z_shl_nat (by omega) h2 h3 (by show 1 * _ < _; omega)]
  show ((1 * 2 ^ k.toNat : Nat) : Int) = _
  rw [Nat.one_mul]
/-- a bit above is set -/
theorem z_or_bit {m k : Int} (h0 : 0 ≤ m) (h2 : 0 ≤ k) (h3 : k < 30) (h1 : m < ((2 ^ k.toNat : Nat) : Int)) : z_or m (z_shl 1 k) = m + ((2 ^ k.toNat : Nat) : Int) := by
  have h : 2 ^ k.toNat < 1073741824 := Nat.pow_lt_pow_right (a := 2) (by omega) (show k.toNat < 30 by omega)
  rw [z_shl1 h2 (by omega), z_or_nat h0 (by omega) (by omega) (by omega)]
  have h5 : (((2 ^ k.toNat : Nat) : Int)).toNat = 2 ^ k.toNat := by omega
  rw [h5, Nat.or_comm]
  have h4 := Nat.two_pow_add_eq_or_of_lt (i := k.toNat) (b := m.toNat) (by omega) 1
  rw [Nat.mul_one] at h4
  rw [← h4]
  omega
