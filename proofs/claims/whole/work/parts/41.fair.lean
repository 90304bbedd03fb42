/-! Study: a road's fair part. -/
def z_fc : Nat → Int
  | 0 => 1
  | n + 1 => z_fc n * (n + 1)
theorem c_orders {hc : z_C} {hd : z_H} {σ : z_S} (d : Nat) {n : Int} (h0 : 0 ≤ n) (h1 : n ≤ 5) : z_ev hc (d + 1) 921 [z_I n] hd σ = some (z_I (z_fc n.toNat), hd, σ) := by
  have hf : ∀ k : Nat, k ≤ 5 → 1 ≤ z_fc k ∧ z_fc k ≤ 120 := by decide
  have e : z_fc n.toNat = z_fc ((n - 1).toNat + 1) := by
    by_cases c : n = 0
    · subst c; rfl
    · rw [show n.toNat = (n - 1).toNat + 1 by omega]
  rw [z_E921, e]
  refine z_forv (S := Unit) (fun i _ => z_go (z_ev hc d) hc 921 4 [z_I n, z_I (z_fc (i + 1)), z_I ((i : Int) + 2)] [] hd σ) _ (n - 1).toNat () (fun i _ hi => ⟨(), ?_⟩) (fun _ => ?_)
  · have h2 := hf (i + 1) (by omega)
    have h3 := hf (i + 1 + 1) (by omega)
    have e2 : z_fc (i + 1) * ((i : Int) + 2) = z_fc (i + 1 + 1) := by
      show _ = z_fc (i + 1) * (((i + 1 : Nat) : Int) + 1)
      rw [show ((i + 1 : Nat) : Int) + 1 = (i : Int) + 2 by omega]
    rw [z_B921_4, if_neg (by omega), if_neg (by omega), e2, z_w_ok (by omega) (by omega), z_w_ok (by omega) (by omega)]
    rw [show (i : Int) + 2 + 1 = ((i + 1 : Nat) : Int) + 2 by omega]
  · rw [z_B921_4, if_pos (by omega)]
theorem z_fc_2 : ∀ p : Nat, p ≤ 4 → ∀ q : Nat, q ≤ 4 → p + q ≤ 4 → 1 ≤ z_fc p * z_fc q ∧ z_fc p * z_fc q ≤ 24 := by decide
theorem z_i32v {x : Int} (h0 : -2147483648 ≤ x) (h1 : x ≤ 2147483647) : (Int32.ofInt x).toInt = x := by
  have := z_w_ok h0 h1
  exact this
theorem z_div_ok {x y : Int} (h0 : 0 ≤ x) (h1 : x < 2147483648) (h2 : 0 < y) (h3 : y < 2147483648) : z_div x y = x / y := by
  unfold z_div
  have hle : x / y ≤ x := Int.ediv_le_self _ h0
  have hge : 0 ≤ x / y := Int.ediv_nonneg h0 (by omega)
  rw [Int32.toInt_div, z_i32v (by omega) (by omega), z_i32v (by omega) (by omega), Int.tdiv_eq_ediv_of_nonneg h0]
  exact Int.bmod_eq_of_le (by omega) (by omega)
theorem z_rem_ok {x y : Int} (h0 : 0 ≤ x) (h1 : x < 2147483648) (h2 : 0 < y) (h3 : y < 2147483648) : z_rem x y = x % y := by
  have hd := z_div_ok h0 h1 h2 h3
  unfold z_div at hd
  unfold z_rem
  have hle : x / y ≤ x := Int.ediv_le_self _ h0
  have hge : 0 ≤ x / y := Int.ediv_nonneg h0 (by omega)
  have hm := Int.emod_def x y
  have h4 := Int.emod_nonneg x (show y ≠ 0 by omega)
  have h5 := Int.emod_lt_of_pos x h2
  have hmul : 0 ≤ y * (x / y) := Int.mul_nonneg (by omega) hge
  rw [Int32.toInt_sub, Int32.toInt_mul, hd, z_i32v (by omega) (by omega), z_i32v (by omega) (by omega), Int.mul_comm (x / y) y]
  have e1 : (y * (x / y)).bmod (2 ^ 32) = y * (x / y) := Int.bmod_eq_of_le (by omega) (by omega)
  rw [e1, hm]
  exact Int.bmod_eq_of_le (by omega) (by omega)
/-- Euclid: y below 2 ^ n ends in 2 n steps -/
theorem c_commonPart_go {c : z_Call} {hc : z_C} {hd : z_H} {σ : z_S} {a b : Int} : ∀ (n : Nat) (x y i : Nat) (u : z_V), y < 2 ^ n → x < 2147483648 → y < 2147483648 → (i : Int) + 2 * n ≤ 99 →
    z_go c hc 922 13 [z_I a, z_I b, z_I x, z_I y, z_I i, u] [] hd σ = some (z_I (Nat.gcd x y), hd, σ) := by
  have stop : ∀ (x i : Nat) (u : z_V), (i : Int) < 100 → z_go c hc 922 13 [z_I a, z_I b, z_I x, z_I ((0 : Nat) : Int), z_I i, u] [] hd σ = some (z_I (Nat.gcd x 0), hd, σ) := by
    intro x i u hi
    rw [z_B922_13, Nat.gcd_zero_right]
    simp (disch := omega) only [if_neg, if_pos]
  have step : ∀ (x y i : Nat) (u : z_V), 0 < y → x < 2147483648 → y < 2147483648 → (i : Int) < 100 → z_go c hc 922 13 [z_I a, z_I b, z_I x, z_I y, z_I i, u] [] hd σ = z_go c hc 922 13 [z_I a, z_I b, z_I y, z_I ((x % y : Nat) : Int), z_I ((i + 1 : Nat) : Int), z_I ((x % y : Nat) : Int)] [] hd σ := by
    intro x y i u hy hx hy2 hi
    have hr := z_rem_ok (x := x) (y := y) (by omega) (by omega) (by omega) (by omega)
    have e : (x : Int) % (y : Int) = ((x % y : Nat) : Int) := by norm_cast
    rw [e] at hr
    rw [z_B922_13]
    simp (disch := omega) only [if_neg, hr, z_w_ok, z_ns]
  intro n
  induction n with
  | zero =>
    intro x y i u h1 h2 h3 h4
    have : y = 0 := by simpa using h1
    subst this
    exact stop x i u (by omega)
  | succ n ih =>
    intro x y i u h1 h2 h3 h4
    rcases Nat.eq_zero_or_pos y with h | h
    · subst h; exact stop x i u (by omega)
    · rw [step x y i u h h2 h3 (by omega), Nat.gcd_comm, Nat.gcd_rec, Nat.gcd_comm]
      have hlt := Nat.mod_lt x h
      rcases Nat.eq_zero_or_pos (x % y) with h5 | h5
      · rw [h5]; exact stop y (i + 1) _ (by omega)
      · rw [step y (x % y) (i + 1) _ h5 h3 (by omega) (by omega), Nat.gcd_comm y, Nat.gcd_rec (x % y) y, Nat.gcd_comm (y % (x % y))]
        have h6 := Nat.mod_lt y h5
        have h7 := Nat.div_add_mod y (x % y)
        have h8 : 1 ≤ y / (x % y) := Nat.div_pos (by omega) h5
        have h9 : x % y ≤ (x % y) * (y / (x % y)) := Nat.le_mul_of_pos_right _ h8
        have hp : 2 ^ (n + 1) = 2 ^ n * 2 := Nat.pow_succ ..
        exact ih (x % y) (y % (x % y)) (i + 1 + 1) _ (by omega) (by omega) (by omega) (by omega)
theorem c_commonPart {hc : z_C} {hd : z_H} {σ : z_S} (d : Nat) {x y : Int} (h0 : 0 ≤ x) (h1 : x < 2147483648) (h2 : 0 ≤ y) (h3 : y < 128) : z_ev hc (d + 1) 922 [z_I x, z_I y] hd σ = some (z_I (Nat.gcd x.toNat y.toNat), hd, σ) := by
  have := c_commonPart_go (c := z_ev hc d) (hc := hc) (hd := hd) (σ := σ) (a := x) (b := y) 7 x.toNat y.toNat 0 z_U (by omega) (by omega) (by omega) (by omega)
  rw [Int.toNat_of_nonneg h0, Int.toNat_of_nonneg h2] at this
  rw [z_E922, if_pos h0, if_pos h2]
  exact this
theorem z_or_32 : ∀ x : Nat, x < 32 → ∀ y : Nat, y < 32 → 0 ≤ z_or x y ∧ z_or x y < 32 ∧ 0 ≤ z_and x y ∧ z_and x y < 32 ∧ ∀ k : Nat, k < 5 → z_bt (z_or x y) k = (z_bt x k || z_bt y k) ∧ z_bt (z_and x y) k = (z_bt x k && z_bt y k) := by decide +kernel
theorem z_sub_pc : ∀ s : Nat, s < 32 → ∀ a : Nat, a < 32 → ∀ k : Nat, k < 5 → (z_dm a s = 0 ∧ z_and a ((2 ^ k : Nat) : Int) = 0 ∧ z_bt s k = true) → z_pc a + 1 ≤ z_pc s := by decide +kernel
section
variable {σ X : z_S} {L s lean : Int} {D : z_D} {share t : Int → Int} {mv cp : Int}
/-- the best when the slots of a can be moved, the side's others are free of toll -/
noncomputable def z_Wm (D : z_D) (lean : Int) (share : Int → Int) (side cap : Int) (t : Int → Int) (a : Int) : Int := z_xv D lean share side cap t (z_dm side a)
/-- what slot k adds behind the slots of a -/
noncomputable def z_add1 (D : z_D) (lean side cap : Int) (t : Int → Int) (k a : Int) : Int :=
  if z_dm a side = 0 ∧ z_and a ((2 ^ k.toNat : Nat) : Int) = 0 then z_fc (z_pc a).toNat * z_fc (z_pc side - z_pc a - 1).toNat * (z_Wm D lean D.mn side cap t (z_or a ((2 ^ k.toNat : Nat) : Int)) - z_Wm D lean D.mn side cap t a) else 0
theorem c_rd.W (h : c_rd σ X L s D lean D.mn) (side a : Int) : 0 ≤ z_Wm D lean D.mn side (X 0 3) (X 7) a ∧ z_Wm D lean D.mn side (X 0 3) (X 7) a ≤ 475200 :=
  z_brt_475 h.gn (fun g a b => by have := (h.tab.2.2.2.2 g a b).2.2.2.2.1; omega) (z_tcap_20 h.cp.2 (h.htc (z_t0_cap h.cp.1 h.tc) (Int.le_refl _)))
theorem z_mul_abs {a b c : Int} (h0 : 1 ≤ a) (h1 : a ≤ 24) (hb : -c ≤ b) (hc : b ≤ c) : -(24 * c) ≤ a * b ∧ a * b ≤ 24 * c := by
  have hc0 : 0 ≤ c := by omega
  have h2 : a * b ≤ a * c := Int.mul_le_mul_of_nonneg_left hc (by omega)
  have h3 : a * c ≤ 24 * c := Int.mul_le_mul_of_nonneg_right h1 hc0
  have h4 : a * (-c) ≤ a * b := Int.mul_le_mul_of_nonneg_left hb (by omega)
  rw [Int.mul_neg] at h4
  omega
theorem c_rd.add1 (h : c_rd σ X L s D lean D.mn) {side k : Int} (hs : 0 ≤ side ∧ side < 32) (hk : 0 ≤ k ∧ k < 5) (hb : z_bt side k = true) {a : Int} (ha : 0 ≤ a ∧ a < 32) : -11404800 ≤ z_add1 D lean side (X 0 3) (X 7) k a ∧ z_add1 D lean side (X 0 3) (X 7) k a ≤ 11404800 := by
  unfold z_add1
  split
  · next c =>
    have h1 := h.W side a
    have h2 := h.W side (z_or a ((2 ^ k.toNat : Nat) : Int))
    have h3 := z_sub_pc side.toNat (by omega) a.toNat (by omega) k.toNat (by omega)
    rw [Int.toNat_of_nonneg hs.1, Int.toNat_of_nonneg ha.1, Int.toNat_of_nonneg hk.1] at h3
    have h4 := h3 ⟨c.1, c.2, hb⟩
    have h5 := z_pc_le a
    have h6 := z_pc_le side
    have h7 := z_fc_2 (z_pc a).toNat (by omega) (z_pc side - z_pc a - 1).toNat (by omega) (by omega)
    have := z_mul_abs (c := 475200) h7.1 h7.2 (show -475200 ≤ z_Wm D lean D.mn side (X 0 3) (X 7) (z_or a ((2 ^ k.toNat : Nat) : Int)) - z_Wm D lean D.mn side (X 0 3) (X 7) a by omega) (by omega)
    omega
  · omega
theorem z_sm_abs {f : Int → Int} {b : Int} {n : Nat} (h : ∀ k : Int, 0 ≤ k → k < n → -b ≤ f k ∧ f k ≤ b) : -(n * b) ≤ z_sm n f ∧ z_sm n f ≤ n * b := by
  have h1 := z_sm_le (n := n) (f := fun _ => -b) (g := f) (fun k a b => (h k a b).1)
  have h2 := z_sm_le (n := n) (f := f) (g := fun _ => b) (fun k a b => (h k a b).2)
  rw [z_sm_const] at h1 h2
  rw [Int.mul_neg] at h1
  exact ⟨h1, h2⟩
/-- Study.growths -/
theorem c_growths (h : c_rd σ X L s D lean D.mn) (d : Nat) {w k : Int} (hk : 0 ≤ k ∧ k < 5) (hb : z_bt (z_side X w s) k = true) (htot : z_tot (z_side X w s) (X 0 3) ≤ 20000) :
    ∃ σ', z_ev z_hcC (d + 6) 920 [z_R 65, z_I w, z_I k] z_hdC σ = some (z_I (z_sm 32 (z_add1 D lean (z_side X w s) (X 0 3) (X 7) k)), z_hdC, σ') ∧ z_off 59 75 σ σ' ∧ c_rd σ' X L s D lean D.mn := by
  have hsd := h.side (d + 2) w
  have hsr := h.sr w
  have hcp := h.cp
  generalize z_side X w s = side at htot hsd hsr hb ⊢
  have hpk : 2 ^ k.toNat ≤ 2 ^ 4 := Nat.pow_le_pow_right (by omega) (by omega)
  have hpk0 := Int.natCast_nonneg (2 ^ k.toNat)
  have hshl := z_shl1 hk.1 (by omega)
  have hbc := fun (m : Int) (h0 : 0 ≤ m) (h1 : m < 32) (x : z_S) => c_bitCount (hc := z_hcC) (hd := z_hdC) (σ := x) (d + 4) h0 h1
  obtain ⟨σ1, e1, o1, h1, f1⟩ := z_for (fun n x => z_go (z_ev z_hcC (d + 5)) z_hcC 920 26 [z_R 65, z_I w, z_I k, z_I side, z_I ((2 ^ k.toNat : Nat) : Int), z_I (z_pc side), z_I n, z_U, z_U] [] z_hdC x) (fun x => z_go (z_ev z_hcC (d + 5)) z_hcC 920 79 [z_R 65, z_I w, z_I k, z_I side, z_I ((2 ^ k.toNat : Nat) : Int), z_I (z_pc side), z_I 0, z_I 0, z_U] [] z_hdC x)
    (fun n x => z_off 59 75 σ x ∧ c_rd x X L s D lean D.mn ∧ ∀ a, 0 ≤ a → a < (n : Int) → z_dm a side = 0 → x 70 a = z_Wm D lean D.mn side (X 0 3) (X 7) a) 32 (s := σ) ⟨z_off_refl, h, fun a a0 a1 => by omega⟩ (fun n x hn ⟨ho, hr, hz⟩ => by
      have hdm : z_and (n : Int) (z_xor side (-1)) = z_dm n side := rfl
      have hdm2 : z_and side (z_xor (n : Int) (-1)) = z_dm side n := rfl
      by_cases c : z_dm n side = 0
      · obtain ⟨hdn, -, -⟩ := z_dm_ok hsr (y := n) ⟨by omega, by omega⟩
        obtain ⟨x2, l1, l2, l3, l4, l5⟩ := c_huntWithFree hr d (side := side) hsr hdn htot
        have hoff : z_off 70 70 x2 (z_upd x2 70 n (z_xv D lean D.mn side (X 0 3) (X 7) (z_dm side n))) := z_off_upd (by omega) (by omega)
        refine ⟨_, ?_, z_off_trans ho (z_off_trans (z_off_le l2 (by omega) (by omega)) (z_off_le hoff (by omega) (by omega))), c_rd_off hoff (by omega) l5, fun a a0 a1 ha => ?_⟩
        · rw [z_B920_26]
          simp (disch := omega) only [if_neg, hdm, c, hdm2, l1, z_ns, z_fdC, z_pdC, z_adC, z_sdC, z_lkC, z_ndC, z_gdC, z_mdC, z_cI_some', z_cV_some', z_w_ok, Int.reduceAdd, Int.reduceSub, Int.reduceMul, Int.reduceNeg, Int.reduceEq, Int.reduceLT, Int.reduceLE, Int.reduceNe, reduceIte, true_and, and_true, false_and, and_false, if_true, if_false, ne_eq, not_true_eq_false, not_false_eq_true]
        · by_cases hj : a = n
          · subst hj; exact z_upd_same
          · rw [z_upd_ne (Or.inr hj), z_oat l2 (by omega)]; exact hz a a0 (by omega) ha
      · have hoff : z_off 70 70 x (z_upd x 70 n 0) := z_off_upd (by omega) (by omega)
        refine ⟨z_upd x 70 n 0, ?_, z_off_trans ho (z_off_le hoff (by omega) (by omega)), c_rd_off hoff (by omega) hr, fun a a0 a1 ha => ?_⟩
        · rw [z_B920_26]
          simp (disch := omega) only [if_neg, if_pos, hdm, c, z_ns, z_fdC, z_pdC, z_adC, z_sdC, z_lkC, z_ndC, z_gdC, z_mdC, z_cI_some', z_cV_some', z_w_ok, Int.reduceAdd, Int.reduceSub, Int.reduceMul, Int.reduceNeg, Int.reduceEq, Int.reduceLT, Int.reduceLE, Int.reduceNe, reduceIte, true_and, and_true, false_and, and_false, if_true, if_false, ne_eq, not_true_eq_false, not_false_eq_true]
        · by_cases hj : a = n
          · subst hj; exact absurd ha c
          · rw [z_upd_ne (Or.inr hj)]; exact hz a a0 (by omega) ha) (fun x ⟨ho, hr, hz⟩ => by
      rw [z_B920_26]
      simp (disch := omega) only [if_pos, z_fdC, z_pdC, z_adC, z_sdC, z_lkC, z_ndC, z_gdC, z_mdC, z_cI_some', z_cV_some', z_w_ok, Int.reduceAdd, Int.reduceSub, Int.reduceMul, Int.reduceNeg, Int.reduceEq, Int.reduceLT, Int.reduceLE, Int.reduceNe, reduceIte, true_and, and_true, false_and, and_false, if_true, if_false, ne_eq, not_true_eq_false, not_false_eq_true])
  refine ⟨σ1, ?_, o1, h1⟩
  have hbs := hbc side hsr.1 hsr.2 σ
  simp (disch := omega) only [z_E920, h.roads, c_LC h.hL, hsd, hbs, hshl, z_fdC, z_pdC, z_adC, z_sdC, z_lkC, z_ndC, z_gdC, z_mdC, z_cI_some', z_cV_some', z_w_ok, Int.reduceAdd, Int.reduceSub, Int.reduceMul, Int.reduceNeg, Int.reduceEq, Int.reduceLT, Int.reduceLE, Int.reduceNe, reduceIte, true_and, and_true, false_and, and_false, if_true, if_false, ne_eq, not_true_eq_false, not_false_eq_true]
  refine e1.trans ?_
  obtain ⟨u2, e2⟩ : ∃ u : z_V, z_go (z_ev z_hcC (d + 5)) z_hcC 920 79 [z_R 65, z_I w, z_I k, z_I side, z_I ((2 ^ k.toNat : Nat) : Int), z_I (z_pc side), z_I 0, z_I 0, z_U] [] z_hdC σ1 = some (z_I (z_sm 32 (z_add1 D lean side (X 0 3) (X 7) k)), z_hdC, σ1) := by
    refine ⟨z_U, ?_⟩
    refine z_forv (S := z_V) (fun n u => z_go (z_ev z_hcC (d + 5)) z_hcC 920 79 [z_R 65, z_I w, z_I k, z_I side, z_I ((2 ^ k.toNat : Nat) : Int), z_I (z_pc side), z_I (z_sm n (z_add1 D lean side (X 0 3) (X 7) k)), z_I n, u] [] z_hdC σ1) _ 32 z_U (fun n u hn => ?_) (fun u => ?_)
    · have hdm : z_and (n : Int) (z_xor side (-1)) = z_dm n side := rfl
      have hst := z_sm_s n (z_add1 D lean side (X 0 3) (X 7) k)
      have hab := z_sm_abs (n := n) (b := 11404800) (f := z_add1 D lean side (X 0 3) (X 7) k) (fun a a0 a1 => h1.add1 hsr hk hb ⟨a0, by omega⟩)
      by_cases c : z_dm n side = 0
      · by_cases c2 : z_and (n : Int) ((2 ^ k.toNat : Nat) : Int) = 0
        · have ho32 := z_or_32 n hn (2 ^ k.toNat) (by omega)
          have h3 := z_sub_pc side.toNat (by omega) n hn k.toNat (by omega)
          rw [Int.toNat_of_nonneg hsr.1, Int.toNat_of_nonneg hk.1] at h3
          have h4 := h3 ⟨c, c2, hb⟩
          have h5 := z_pc_le n
          have h6 := z_pc_le side
          have h7 := z_fc_2 (z_pc n).toNat (by omega) (z_pc side - z_pc n - 1).toNat (by omega) (by omega)
          have hbn := hbc n (by omega) (by omega) σ1
          have hb1 := c_orders (hc := z_hcC) (hd := z_hdC) (σ := σ1) (d + 4) (n := z_pc n) h5.1 h5.2
          have hb2 := c_orders (hc := z_hcC) (hd := z_hdC) (σ := σ1) (d + 4) (n := z_pc side - z_pc n - 1) (by omega) (by omega)
          have hd2 : z_dm (z_or (n : Int) ((2 ^ k.toNat : Nat) : Int)) side = 0 := by
            have key : ∀ s : Nat, s < 32 → ∀ a : Nat, a < 32 → ∀ k : Nat, k < 5 → (z_dm a s = 0 ∧ z_bt s k = true) → z_dm (z_or a ((2 ^ k : Nat) : Int)) s = 0 := by decide +kernel
            have := key side.toNat (by omega) n hn k.toNat (by omega)
            rw [Int.toNat_of_nonneg hsr.1, Int.toNat_of_nonneg hk.1] at this
            exact this ⟨c, hb⟩
          have r1 := f1 n (by omega) (by omega) c
          have r2 := f1 (z_or (n : Int) ((2 ^ k.toNat : Nat) : Int)) ho32.1 (by omega) hd2
          have b1 := h1.W side n
          have b2 := h1.W side (z_or (n : Int) ((2 ^ k.toNat : Nat) : Int))
          have hm := z_mul_abs (c := 475200) h7.1 h7.2 (show -475200 ≤ z_Wm D lean D.mn side (X 0 3) (X 7) (z_or (n : Int) ((2 ^ k.toNat : Nat) : Int)) - z_Wm D lean D.mn side (X 0 3) (X 7) n by omega) (by omega)
          have ha : z_add1 D lean side (X 0 3) (X 7) k n = z_fc (z_pc n).toNat * z_fc (z_pc side - z_pc n - 1).toNat * (z_Wm D lean D.mn side (X 0 3) (X 7) (z_or n ((2 ^ k.toNat : Nat) : Int)) - z_Wm D lean D.mn side (X 0 3) (X 7) n) := by unfold z_add1; rw [if_pos ⟨c, c2⟩]
          refine ⟨z_I (z_pc n), ?_⟩
          rw [hst, ha, z_B920_79]
          have hlo : ¬ (32 : Int) ≤ z_or (n : Int) ((2 ^ k.toNat : Nat) : Int) := by omega
          have hld := ho32.1
          have hld2 := ho32.2.1
          simp (disch := omega) only [if_neg, if_pos, hdm, c, c2, hbn, hb1, hb2, r1, r2, z_ns, z_fdC, z_pdC, z_adC, z_sdC, z_lkC, z_ndC, z_gdC, z_mdC, z_cI_some', z_cV_some', z_w_ok, Int.reduceAdd, Int.reduceSub, Int.reduceMul, Int.reduceNeg, Int.reduceEq, Int.reduceLT, Int.reduceLE, Int.reduceNe, reduceIte, true_and, and_true, false_and, and_false, if_true, if_false, ne_eq, not_true_eq_false, not_false_eq_true]
        · have ha : z_add1 D lean side (X 0 3) (X 7) k n = 0 := by unfold z_add1; rw [if_neg (fun z => c2 z.2)]
          refine ⟨u, ?_⟩
          rw [hst, ha, Int.add_zero, z_B920_79]
          simp (disch := omega) only [if_neg, if_pos, hdm, c, c2, z_ns, z_fdC, z_pdC, z_adC, z_sdC, z_lkC, z_ndC, z_gdC, z_mdC, z_cI_some', z_cV_some', z_w_ok, Int.reduceAdd, Int.reduceSub, Int.reduceMul, Int.reduceNeg, Int.reduceEq, Int.reduceLT, Int.reduceLE, Int.reduceNe, reduceIte, true_and, and_true, false_and, and_false, if_true, if_false, ne_eq, not_true_eq_false, not_false_eq_true]
      · have ha : z_add1 D lean side (X 0 3) (X 7) k n = 0 := by unfold z_add1; rw [if_neg (fun z => c z.1)]
        refine ⟨u, ?_⟩
        rw [hst, ha, Int.add_zero, z_B920_79]
        simp (disch := omega) only [if_neg, if_pos, hdm, c, z_ns, z_fdC, z_pdC, z_adC, z_sdC, z_lkC, z_ndC, z_gdC, z_mdC, z_cI_some', z_cV_some', z_w_ok, Int.reduceAdd, Int.reduceSub, Int.reduceMul, Int.reduceNeg, Int.reduceEq, Int.reduceLT, Int.reduceLE, Int.reduceNe, reduceIte, true_and, and_true, false_and, and_false, if_true, if_false, ne_eq, not_true_eq_false, not_false_eq_true]
    · rw [z_B920_79]
      simp (disch := omega) only [if_pos, z_fdC, z_pdC, z_adC, z_sdC, z_lkC, z_ndC, z_gdC, z_mdC, z_cI_some', z_cV_some', z_w_ok, Int.reduceAdd, Int.reduceSub, Int.reduceMul, Int.reduceNeg, Int.reduceEq, Int.reduceLT, Int.reduceLE, Int.reduceNe, reduceIte, true_and, and_true, false_and, and_false, if_true, if_false, ne_eq, not_true_eq_false, not_false_eq_true]
  exact e2
end
