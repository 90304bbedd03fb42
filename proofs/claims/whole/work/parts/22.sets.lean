/-! The class's Sets: tolls gone through set by set, their sums. -/
def z_sm : Nat → (Int → Int) → Int
  | 0, _ => 0
  | n + 1, f => z_sm n f + f n
theorem z_sm_congr {f g : Int → Int} : ∀ {n : Nat}, (∀ k : Int, 0 ≤ k → k < n → f k = g k) → z_sm n f = z_sm n g
  | 0, _ => rfl
  | n + 1, h => by
    show z_sm n f + f n = z_sm n g + g n
    rw [z_sm_congr (fun k h0 h1 => h k h0 (by omega)), h n (by omega) (by omega)]
theorem z_sm_le {f g : Int → Int} : ∀ {n : Nat}, (∀ k : Int, 0 ≤ k → k < n → f k ≤ g k) → z_sm n f ≤ z_sm n g
  | 0, _ => Int.le_refl _
  | n + 1, h => by
    have h1 := z_sm_le (n := n) (fun k h0 h1 => h k h0 (by omega))
    have h2 := h n (by omega) (by omega)
    show z_sm n f + f n ≤ z_sm n g + g n
    omega
theorem z_sm_const {c : Int} : ∀ {n : Nat}, z_sm n (fun _ => c) = n * c
  | 0 => by simp [z_sm]
  | n + 1 => by
    show z_sm n (fun _ => c) + c = _
    rw [z_sm_const (n := n)]
    push_cast
    rw [Int.add_mul, Int.one_mul]
/-- what a set of slots costs -/
def z_pay (t : Int → Int) (m : Int) : Int := z_sm 5 (fun k => if z_bt m k then t k else 0)
theorem z_pay_0 (t : Int → Int) : z_pay t 0 = 0 := by
  unfold z_pay
  rw [z_sm_congr (g := fun _ => 0) (fun k _ _ => by unfold z_bt; simp), z_sm_const]
  simp
theorem z_pay_pos {t : Int → Int} {m : Int} (h : ∀ k : Int, 0 ≤ k → k < 5 → 0 ≤ t k) : 0 ≤ z_pay t m := by
  unfold z_pay
  have h0 := z_sm_le (n := 5) (f := fun _ => 0) (g := fun k => if z_bt m k then t k else 0) (fun k h0 h1 => by
    have := h k h0 h1
    split <;> omega)
  rw [z_sm_const] at h0
  simpa using h0
theorem z_pay_le {t : Int → Int} {m c : Int} (hc : 0 ≤ c) (h : ∀ k : Int, 0 ≤ k → k < 5 → t k ≤ c) : z_pay t m ≤ 5 * c := by
  unfold z_pay
  have h0 := z_sm_le (n := 5) (f := fun k => if z_bt m k then t k else 0) (g := fun _ => c) (fun k h0 h1 => by
    have := h k h0 h1
    split <;> omega)
  rw [z_sm_const] at h0
  simpa using h0
theorem z_pay_congr {t t' : Int → Int} {m : Int} (h : ∀ k : Int, 0 ≤ k → k < 5 → t k = t' k) : z_pay t m = z_pay t' m := by
  unfold z_pay
  exact z_sm_congr (fun k h0 h1 => by rw [h k h0 h1])
theorem z_sm_one {f : Int → Int} {s v : Int} : ∀ {n : Nat}, 0 ≤ s → s < n → z_sm n (fun k => f k + (if k = s then v else 0)) = z_sm n f + v
  | 0, h0, h1 => by omega
  | n + 1, h0, h1 => by
    show z_sm n (fun k => f k + (if k = s then v else 0)) + (f n + if (n : Int) = s then v else 0) = z_sm n f + f n + v
    by_cases h : (n : Int) = s
    · rw [if_pos h, z_sm_congr (n := n) (g := f) (fun k h2 h3 => by rw [if_neg (by omega)]; omega)]
      omega
    · rw [if_neg h, z_sm_one h0 (by omega)]
      omega
theorem z_pay_add {t : Int → Int} {m s : Int} (h0 : 0 ≤ s) (h1 : s < 5) (h2 : 0 ≤ m) (h3 : m < ((2 ^ s.toNat : Nat) : Int)) : z_pay t (((2 ^ s.toNat : Nat) : Int) + m) = z_pay t m + t s := by
  unfold z_pay
  rw [← z_sm_one (n := 5) h0 h1]
  refine z_sm_congr (fun k g0 g1 => ?_)
  unfold z_bt
  have hm : m.toNat < 2 ^ s.toNat := by omega
  have e : (((2 ^ s.toNat : Nat) : Int) + m).toNat = 2 ^ s.toNat + m.toNat := by omega
  rw [e]
  rcases Nat.lt_trichotomy k.toNat s.toNat with h | h | h
  · rw [Nat.testBit_two_pow_add_gt h, if_neg (show ¬ k = s by omega)]
    omega
  · rw [h, Nat.testBit_two_pow_add_eq, Nat.testBit_lt_two_pow hm, if_pos (show k = s by omega)]
    have : k = s := by omega
    subst this
    simp
  · have hlt : 2 ^ s.toNat + m.toNat < 2 ^ k.toNat := by
      have : 2 ^ (s.toNat + 1) ≤ 2 ^ k.toNat := Nat.pow_le_pow_right (by omega) h
      have h5 : 2 ^ (s.toNat + 1) = 2 ^ s.toNat * 2 := Nat.pow_succ ..
      omega
    rw [Nat.testBit_lt_two_pow hlt, Nat.testBit_lt_two_pow (Nat.lt_trans (by omega) hlt), if_neg (show ¬ k = s by omega)]
    simp
def z_off (lo hi : Int) (σ σ' : z_S) : Prop := ∀ a i : Int, (a < lo ∨ hi < a) → σ' a i = σ a i
theorem z_off_refl {lo hi : Int} {σ : z_S} : z_off lo hi σ σ := fun _ _ _ => rfl
theorem z_off_trans {lo hi : Int} {σ σ' σ'' : z_S} (h : z_off lo hi σ σ') (h' : z_off lo hi σ' σ'') : z_off lo hi σ σ'' := fun a i ha => (h' a i ha).trans (h a i ha)
theorem z_off_le {lo hi lo' hi' : Int} {σ σ' : z_S} (h : z_off lo hi σ σ') (h1 : lo' ≤ lo) (h2 : hi ≤ hi') : z_off lo' hi' σ σ' := fun a i ha => h a i (by omega)
theorem z_off_upd {lo hi a i v : Int} {σ : z_S} (h1 : lo ≤ a) (h2 : a ≤ hi) : z_off lo hi σ (z_upd σ a i v) := fun b j hb => by
  rw [z_upd_at, if_neg (by omega)]
/-- the sums of a set of tolls stand, over the masks below P -/
def c_sums (σ : z_S) (t : Int → Int) (fac P : Int) : Prop := ∀ m : Int, 0 ≤ m → m < P → σ 61 m = z_pay t m ∧ σ 62 m = z_pay t m * fac
def c_t20 (t : Int → Int) : Prop := ∀ k : Int, 0 ≤ k → k < 5 → 0 ≤ t k ∧ t k ≤ 20
theorem c_t20_pay {t : Int → Int} (h : c_t20 t) (m : Int) : 0 ≤ z_pay t m ∧ z_pay t m ≤ 100 := ⟨z_pay_pos fun k h0 h1 => (h k h0 h1).1, by have := z_pay_le (t := t) (m := m) (c := 20) (by omega) (fun k h0 h1 => (h k h0 h1).2); omega⟩
theorem c_reckon_in {c : z_Call} {t : Int → Int} {fac P s x1 : Int} (ht : c_t20 t) (hf : fac = 255 ∨ fac = 257) (h0 : 0 ≤ s) (h1 : s < 5) (hP : P = ((2 ^ s.toNat : Nat) : Int)) :
    ∀ (j : Nat) (m : Int) (σ : z_S), 0 ≤ m → m + j = P → σ 59 6 = fac → (∀ k : Int, 0 ≤ k → k < 5 → σ 60 k = t k) → c_sums σ t fac (P + m) →
      ∃ σ', z_go c z_hcC 803 30 [z_R 59, z_I x1, z_I s, z_I P, z_I m] [] z_hdC σ = z_go c z_hcC 803 2 [z_R 59, z_I x1, z_I (s + 1), z_I P, z_I P] [] z_hdC σ' ∧ z_off 61 62 σ σ' ∧ c_sums σ' t fac (P + P) := by
  have hP16 : P ≤ 16 := by
    have : 2 ^ s.toNat ≤ 2 ^ 4 := Nat.pow_le_pow_right (by omega) (by omega)
    omega
  intro j
  induction j with
  | zero =>
    intro m σ hm hj hfac htl hs
    refine ⟨σ, ?_, z_off_refl, by rw [show P + P = P + m by omega]; exact hs⟩
    rw [z_B803_30, if_pos (by omega), z_w_ok (by omega) (by omega)]
    rw [show m = P by omega]
  | succ j ih =>
    intro m σ hm hj hfac htl hs
    have hp := c_t20_pay ht m
    have hts := ht s h0 h1
    have e1 := (hs m hm (by omega)).1
    have e2 := htl s h0 h1
    have hv : -2147483648 ≤ (z_pay t m + t s) * fac ∧ (z_pay t m + t s) * fac ≤ 2147483647 := by rcases hf with rfl | rfl <;> omega
    obtain ⟨σ', g1, g2, g3⟩ := ih (m + 1) (z_upd (z_upd σ 61 (P + m) (z_pay t m + t s)) 62 (P + m) ((z_pay t m + t s) * fac)) (by omega) (by omega) (by rw [z_upd_at, if_neg (by omega), z_upd_at, if_neg (by omega)]; exact hfac)
      (fun k k0 k1 => by rw [z_upd_at, if_neg (by omega), z_upd_at, if_neg (by omega)]; exact htl k k0 k1) (fun i i0 i1 => by
        by_cases hi : i = P + m
        · subst hi
          have ha := z_pay_add (t := t) h0 h1 hm (by omega)
          rw [← hP] at ha
          constructor
          · rw [z_upd_at, if_neg (by omega), z_upd_at, if_pos ⟨rfl, rfl⟩, ha]
          · rw [z_upd_at, if_pos ⟨rfl, rfl⟩, ha]
        · have := hs i i0 (by omega)
          rw [z_upd_at, if_neg (by omega), z_upd_at, if_neg (by omega), z_upd_at, if_neg (by omega), z_upd_at, if_neg (by omega)]
          exact this)
    refine ⟨σ', ?_, z_off_trans (z_off_trans (z_off_upd (by omega) (by omega)) (z_off_upd (by omega) (by omega))) g2, g3⟩
    rw [z_B803_30, if_neg (by omega)]
    simp (disch := omega) only [if_neg, z_upd_at, e1, e2, hfac, if_pos, z_fdC, z_pdC, z_adC, z_sdC, z_lkC, z_ndC, z_gdC, z_mdC, z_cI_some', z_cV_some', z_w_ok, Int.reduceAdd, Int.reduceSub, Int.reduceMul, Int.reduceNeg, Int.reduceEq, Int.reduceLT, Int.reduceLE, Int.reduceNe, reduceIte, true_and, and_true, false_and, and_false, if_true, if_false, ne_eq, not_true_eq_false, not_false_eq_true]
    rw [← g1]
theorem c_reckon_go {c : z_Call} {t : Int → Int} {fac n x1 : Int} (ht : c_t20 t) (hf : fac = 255 ∨ fac = 257) (hn0 : 0 ≤ n) (hn : n ≤ 5) :
    ∀ (j : Nat) (s : Int) (u v : z_V) (σ : z_S), 0 ≤ s → s ≤ 5 → (s < n → s + j = n) → (n ≤ s → j = 0) → σ 59 3 = n → σ 59 6 = fac → (∀ k : Int, 0 ≤ k → k < 5 → σ 60 k = t k) → c_sums σ t fac ((2 ^ s.toNat : Nat) : Int) →
      ∃ σ', z_go c z_hcC 803 2 [z_R 59, z_I x1, z_I s, u, v] [] z_hdC σ = some (z_U, z_hdC, σ') ∧ z_off 61 62 σ σ' ∧ c_sums σ' t fac ((2 ^ n.toNat : Nat) : Int) := by
  intro j
  induction j with
  | zero =>
    intro s u v σ h0 h5 hs hj hsl hfac htl hsum
    have hns : n ≤ s := by
      rcases Int.lt_or_le s n with g | g
      · have := hs g; omega
      · exact g
    refine ⟨σ, ?_, z_off_refl, fun m h0 h1 => hsum m h0 ?_⟩
    · rw [z_B803_2]
      simp (disch := omega) only [if_neg, hsl, if_pos, z_fdC, z_pdC, z_adC, z_sdC, z_lkC, z_ndC, z_gdC, z_mdC, z_cI_some', z_cV_some', z_w_ok, Int.reduceAdd, Int.reduceSub, Int.reduceMul, Int.reduceNeg, Int.reduceEq, Int.reduceLT, Int.reduceLE, Int.reduceNe, reduceIte, true_and, and_true, false_and, and_false, if_true, if_false, ne_eq, not_true_eq_false, not_false_eq_true]
    · have : 2 ^ n.toNat ≤ 2 ^ s.toNat := Nat.pow_le_pow_right (by omega) (by omega)
      omega
  | succ j ih =>
    intro s u v σ h0 h5 hs hj hsl hfac htl hsum
    have hns : s < n := by
      rcases Int.lt_or_le s n with g | g
      · exact g
      · have := hj g; omega
    obtain ⟨σ', g1, g2, g3⟩ := c_reckon_in (c := c) (x1 := x1) ht hf h0 (by omega) rfl (2 ^ s.toNat) 0 σ (by omega) (by omega) hfac htl (by rw [Int.add_zero]; exact hsum)
    have hpow : ((2 ^ s.toNat : Nat) : Int) + ((2 ^ s.toNat : Nat) : Int) = ((2 ^ (s + 1).toNat : Nat) : Int) := by
      rw [show (s + 1).toNat = s.toNat + 1 by omega, Nat.pow_succ]; omega
    rw [hpow] at g3
    have hk : ∀ a i : Int, (a < 61 ∨ 62 < a) → σ' a i = σ a i := g2
    obtain ⟨σ2, k1, k2, k3⟩ := ih (s + 1) (z_I ((2 ^ s.toNat : Nat) : Int)) (z_I ((2 ^ s.toNat : Nat) : Int)) σ' (by omega) (by omega) (fun _ => by have := hs hns; omega) (fun _ => by have := hs hns; omega) (by rw [hk _ _ (by omega)]; exact hsl) (by rw [hk _ _ (by omega)]; exact hfac) (fun k k0 k1 => by rw [hk _ _ (by omega)]; exact htl k k0 k1) g3
    refine ⟨σ2, ?_, z_off_trans g2 k2, k3⟩
    rw [z_B803_2]
    simp (disch := omega) only [if_neg, hsl, z_shl1, z_fdC, z_pdC, z_adC, z_sdC, z_lkC, z_ndC, z_gdC, z_mdC, z_cI_some', z_cV_some', z_w_ok, Int.reduceAdd, Int.reduceSub, Int.reduceMul, Int.reduceNeg, Int.reduceEq, Int.reduceLT, Int.reduceLE, Int.reduceNe, reduceIte, true_and, and_true, false_and, and_false, if_true, if_false, ne_eq, not_true_eq_false, not_false_eq_true]
    rw [g1, k1]
/-- Sets.reckon: the sums of masks below the first changed slot stand -/
theorem c_reckon {t : Int → Int} {fac n s : Int} {σ : z_S} (d : Nat) (ht : c_t20 t) (hf : fac = 255 ∨ fac = 257) (hn0 : 0 ≤ n) (hn : n ≤ 5) (h0 : 0 ≤ s) (h5 : s ≤ 5) (hsl : σ 59 3 = n) (hfac : σ 59 6 = fac) (htl : ∀ k : Int, 0 ≤ k → k < 5 → σ 60 k = t k) (hsum : c_sums σ t fac ((2 ^ s.toNat : Nat) : Int)) :
    ∃ σ', z_ev z_hcC (d + 1) 803 [z_R 59, z_I s] z_hdC σ = some (z_U, z_hdC, σ') ∧ z_off 61 62 σ σ' ∧ c_sums σ' t fac ((2 ^ n.toNat : Nat) : Int) := by
  rw [z_E803]
  exact c_reckon_go ht hf hn0 hn (n - s).toNat s _ _ σ h0 h5 (fun _ => by omega) (fun _ => by omega) hsl hfac htl hsum
theorem c_sumOf {σ : z_S} (d : Nat) {m : Int} (h0 : 0 ≤ m) (h1 : m < 32) : z_ev z_hcC (d + 1) 804 [z_R 59, z_I m] z_hdC σ = some (z_I (σ 61 m), z_hdC, σ) := by
  have h31 : z_and m 31 = m := by
    rw [z_and_nat h0 (by omega) (by omega) (by omega), show (31 : Int).toNat = 31 from rfl, show 31 = 2 ^ 5 - 1 from rfl, Nat.and_two_pow_sub_one_eq_mod, Nat.mod_eq_of_lt (by omega)]
    omega
  simp (disch := omega) only [z_E804, h31, z_fdC, z_pdC, z_adC, z_sdC, z_lkC, z_ndC, z_gdC, z_mdC, z_cI_some', z_cV_some', z_w_ok, Int.reduceAdd, Int.reduceSub, Int.reduceMul, Int.reduceNeg, Int.reduceEq, Int.reduceLT, Int.reduceLE, Int.reduceNe, reduceIte, true_and, and_true, false_and, and_false, if_true, if_false, ne_eq, not_true_eq_false, not_false_eq_true]
