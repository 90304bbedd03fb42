/-! The reference: orders. -/
/-- what the orders from a on add up to; f slots are left -/
def z_og (W : Nat → Int) (mine k : Nat) : Nat → Nat → Int
  | 0, _ => 0
  | f + 1, a => z_sm 5 (fun i => if mine.testBit i.toNat && !a.testBit i.toNat then z_og W mine k f (a ||| 2 ^ i.toNat) + (if i.toNat = k then z_fc f * (W (a ||| 2 ^ k) - W a) else 0) else 0)
/-- how often b is met ahead of slot k -/
def z_oc (b mine k : Nat) : Nat → Nat → Int
  | 0, _ => 0
  | f + 1, a => z_sm 5 (fun i => if mine.testBit i.toNat && !a.testBit i.toNat then z_oc b mine k f (a ||| 2 ^ i.toNat) + (if i.toNat = k ∧ a = b then z_fc f else 0) else 0)
def z_pcn (m : Nat) : Nat := (if m.testBit 0 then 1 else 0) + (if m.testBit 1 then 1 else 0) + (if m.testBit 2 then 1 else 0) + (if m.testBit 3 then 1 else 0) + (if m.testBit 4 then 1 else 0)
theorem z_oc_all : ∀ mine : Nat, mine < 32 → ∀ k : Nat, k < 5 → mine.testBit k = true → ∀ b : Nat, b < 32 → z_oc b mine k (z_pcn mine) 0 = if b ||| mine = mine ∧ b.testBit k = false then z_fc (z_pcn b) * z_fc (z_pcn mine - z_pcn b - 1) else 0 := by decide +kernel
