/-! Study: one road's line, the climb. -/
/-- tolls with one of them set -/
def z_ts (t : Int → Int) (s v : Int) : Int → Int := fun k => if k = s then v else t k
theorem z_pc_pow : ∀ n : Nat, n < 5 → z_pc ((2 ^ n : Nat) : Int) = 1 := by decide +kernel
theorem z_tot_one {s cp : Int} (h0 : 0 ≤ s) (h1 : s < 5) (hc : 0 ≤ cp) : (z_tot ((2 ^ s.toNat : Nat) : Int) cp : Int) = cp + 1 := by
  unfold z_tot
  rw [z_pc_pow s.toNat (by omega)]
  rw [show (1 : Int).toNat = 1 from rfl, Int.pow_one]; omega
theorem z_inc_one {s cp : Int} {t : Int → Int} (h0 : 0 ≤ s) : ∀ {n : Nat}, s < n → t s < cp → z_inc ((2 ^ s.toNat : Nat) : Int) cp n t = z_ts t s (t s + 1)
  | 0, h, _ => by omega
  | n + 1, h, hc => by
    unfold z_inc
    rw [z_bt_pow h0 (by omega)]
    by_cases hn : (n : Int) = s
    · subst hn
      rw [if_pos (by simp), if_pos hc]
      rfl
    · rw [if_neg (by simpa using hn)]
      exact z_inc_one h0 (by omega) hc
theorem z_ti_one {s cp : Int} {t : Int → Int} (h0 : 0 ≤ s) (h1 : s < 5) : ∀ {v : Nat}, (v : Int) ≤ cp → z_ti ((2 ^ s.toNat : Nat) : Int) cp t v = z_ts t s v
  | 0, _ => by
    funext k
    show z_t0 _ t k = _
    unfold z_t0 z_ts
    by_cases hk : 0 ≤ k
    · rw [z_bt_pow h0 hk]
      by_cases hs : k = s <;> simp [hs, h0]
    · rw [if_neg (fun z => hk z.1), if_neg (by omega)]
  | v + 1, h => by
    show z_inc _ cp 5 (z_ti _ cp t v) = _
    rw [z_ti_one h0 h1 (by omega), z_inc_one h0 (by omega) (by unfold z_ts; rw [if_pos rfl]; omega)]
    funext k
    unfold z_ts
    split
    · rw [if_pos rfl]; omega
    · rfl
