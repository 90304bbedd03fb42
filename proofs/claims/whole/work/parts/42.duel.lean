/-! Duel: two houses answer each other. -/
theorem z_or_shift {x v k : Int} (h0 : 0 ≤ x) (h2 : 0 ≤ k) (h3 : k < 31) (hv0 : 0 ≤ v) (hv : v < ((2 ^ k.toNat : Nat) : Int)) (h4 : x * ((2 ^ k.toNat : Nat) : Int) + v < 2147483648) : z_or (z_shl x k) v = x * ((2 ^ k.toNat : Nat) : Int) + v := by
  have hx : x = (x.toNat : Int) := by omega
  have e : x * ((2 ^ k.toNat : Nat) : Int) = ((x.toNat * 2 ^ k.toNat : Nat) : Int) := by rw [Int.natCast_mul, ← hx]
  rw [e] at h4 ⊢
  rw [z_shl_nat h0 h2 h3 (by omega), z_or_nat (by omega) (by omega) hv0 (by omega), Int.toNat_natCast, Nat.mul_comm]
  have := Nat.two_pow_add_eq_or_of_lt (i := k.toNat) (b := v.toNat) (by omega) x.toNat
  rw [← this]
  omega
/-- tolls in one number -/
def z_pk (t : Int → Int) : Nat → Int
  | 0 => 0
  | n + 1 => z_pk t n * 32 + t n
theorem z_pk_rng {t : Int → Int} (ht : c_t20 t) : ∀ {n : Nat}, n ≤ 5 → 0 ≤ z_pk t n ∧ z_pk t n < ((32 ^ n : Nat) : Int)
  | 0, _ => by unfold z_pk; decide
  | n + 1, h => by
    have ih := z_pk_rng ht (n := n) (by omega)
    have h1 := ht n (by omega) (by omega)
    have hp : 32 ^ (n + 1) = 32 ^ n * 32 := Nat.pow_succ ..
    unfold z_pk
    omega
theorem z_pk_eq {t t' : Int → Int} (ht : c_t20 t) (ht' : c_t20 t') : ∀ {n : Nat}, n ≤ 5 → (z_pk t n = z_pk t' n ↔ ∀ k : Int, 0 ≤ k → k < n → t k = t' k)
  | 0, _ => ⟨fun _ k k0 k1 => by omega, fun _ => rfl⟩
  | n + 1, h => by
    have ih := z_pk_eq ht ht' (n := n) (by omega)
    have h1 := ht n (by omega) (by omega)
    have h2 := ht' n (by omega) (by omega)
    show z_pk t n * 32 + t n = z_pk t' n * 32 + t' n ↔ _
    constructor
    · intro e k k0 k1
      by_cases hk : k = n
      · subst hk; omega
      · exact ih.mp (by omega) k k0 (by omega)
    · intro e
      rw [ih.mpr (fun k k0 k1 => e k k0 (by omega)), e n (by omega) (by omega)]
theorem c_packed {σ : z_S} (d : Nat) {t : Int → Int} (ht : c_t20 t) (hA : ∀ k : Int, 0 ≤ k → k < 5 → σ 73 k = t k) : z_ev z_hcC (d + 1) 3 [z_R 72] z_hdC σ = some (z_I (z_pk t 5), z_hdC, σ) := by
  rw [z_E3]
  refine z_forv (S := Unit) (fun i _ => z_go (z_ev z_hcC d) z_hcC 3 4 [z_R 72, z_I (z_pk t i), z_I i] [] z_hdC σ) _ 5 () (fun i _ hi => ⟨(), ?_⟩) (fun _ => ?_)
  · have hr := z_pk_rng ht (n := i) (by omega)
    have hp : 32 ^ i ≤ 32 ^ 4 := Nat.pow_le_pow_right (by omega) (by omega)
    have h1 := ht i (by omega) (by omega)
    have hA1 := hA i (by omega) (by omega)
    have hs : z_or (z_shl (z_pk t i) 5) (t i) = z_pk t i * 32 + t i := z_or_shift (k := 5) hr.1 (by omega) (by omega) h1.1 (by show t i < 32; omega) (by show z_pk t i * 32 + t i < _; omega)
    have e : z_pk t (i + 1) = z_pk t i * 32 + t i := rfl
    rw [e, z_B3_4]
    simp (disch := omega) only [if_neg, hA1, hs, z_ns, z_fdC, z_pdC, z_adC, z_sdC, z_lkC, z_ndC, z_gdC, z_mdC, z_cI_some', z_cV_some', z_w_ok, Int.reduceAdd, Int.reduceSub, Int.reduceMul, Int.reduceNeg, Int.reduceEq, Int.reduceLT, Int.reduceLE, Int.reduceNe, reduceIte, true_and, and_true, false_and, and_false, if_true, if_false, ne_eq, not_true_eq_false, not_false_eq_true]
  · rw [z_B3_4]
    simp (disch := omega) only [if_pos, z_fdC, z_pdC, z_adC, z_sdC, z_lkC, z_ndC, z_gdC, z_mdC, z_cI_some', z_cV_some', z_w_ok, Int.reduceAdd, Int.reduceSub, Int.reduceMul, Int.reduceNeg, Int.reduceEq, Int.reduceLT, Int.reduceLE, Int.reduceNe, reduceIte, true_and, and_true, false_and, and_false, if_true, if_false, ne_eq, not_true_eq_false, not_false_eq_true]
/-- after i answers -/
noncomputable def z_an (D : z_D) (lean : Int) (share : Int → Int) (S : Int → Int) (cap : Int) (t : Int → Int) : Nat → Int → Int
  | 0 => t
  | i + 1 => z_ht D lean share (S ((i % 2 : Nat) : Int)) (S ((i % 2 : Nat) : Int)) cap (z_an D lean share S cap t i)
def z_ringP (T : Nat → Int) (i : Nat) : Prop := ∃ k, k < i ∧ k % 2 = i % 2 ∧ T (k + 1) = T (i + 1)
noncomputable def z_ring (T : Nat → Int) (i : Nat) : Bool := @decide (z_ringP T i) (Classical.propDecidable _)
theorem z_ring_t {T : Nat → Int} {i : Nat} : z_ring T i = true ↔ z_ringP T i := by unfold z_ring; exact @decide_eq_true_iff _ (Classical.propDecidable _)
/-- what is told of the answers, and how many there were: T: the packed tolls -/
noncomputable def z_ao (T : Nat → Int) : Nat → Nat → Int → Int × Nat
  | 0, i, _ => (-3, i)
  | f + 1, i, c => if (if T (i + 1) = T i then c + 1 else 0) = 2 then ((i : Int) - 1, i + 1) else if z_ring T i = true then (-2, i + 1) else z_ao T f (i + 1) (if T (i + 1) = T i then c + 1 else 0)
theorem c_wasBehind {σ : z_S} (d : Nat) {T : Nat → Int} {i : Nat} (hi : i < 60) (hA : ∀ k : Nat, k ≤ i → σ 74 k = T (k + 1)) : z_ev z_hcC (d + 1) 4 [z_R 72, z_I i] z_hdC σ = some (z_I (if z_ring T i then 1 else 0), z_hdC, σ) := by
  have hAi := hA i (by omega)
  -- m steps back
  have go : ∀ (j m : Nat) (f : Bool), m + j = i / 2 → (f = true ↔ ∃ k, k < i ∧ k % 2 = i % 2 ∧ i ≤ k + 2 * m ∧ T (k + 1) = T (i + 1)) → z_go (z_ev z_hcC d) z_hcC 4 6 [z_R 72, z_I i, z_I (if f then 1 else 0), z_I ((i : Int) - 2 * (m + 1))] [] z_hdC σ = some (z_I (if z_ring T i then 1 else 0), z_hdC, σ) := by
    intro j
    induction j with
    | zero =>
      intro m f hm hf
      have e : f = z_ring T i := by
        cases f with
        | true =>
          obtain ⟨k, a, b, c, e⟩ := hf.mp rfl
          exact (z_ring_t.mpr ⟨k, a, b, e⟩).symm
        | false =>
          cases hz : z_ring T i with
          | false => rfl
          | true =>
            obtain ⟨k, a, b, e⟩ := z_ring_t.mp hz
            exact absurd (hf.mpr ⟨k, a, b, by omega, e⟩) (by simp)
      subst e
      rw [z_B4_6]
      cases z_ring T i <;> simp (disch := omega) only [if_pos, Bool.false_eq_true, true_or, or_true, z_fdC, z_pdC, z_adC, z_sdC, z_lkC, z_ndC, z_gdC, z_mdC, z_cI_some', z_cV_some', z_w_ok, Int.reduceAdd, Int.reduceSub, Int.reduceMul, Int.reduceNeg, Int.reduceEq, Int.reduceLT, Int.reduceLE, Int.reduceNe, reduceIte, true_and, and_true, false_and, and_false, if_true, if_false, ne_eq, not_true_eq_false, not_false_eq_true]
    | succ j ih =>
      intro m f hm hf
      have e2 : (i : Int) - 2 * (m + 1) + -2 = (i : Int) - 2 * (((m + 1 : Nat) : Int) + 1) := by omega
      obtain ⟨k, hk⟩ : ∃ k : Nat, (k : Int) = (i : Int) - 2 * (m + 1) := ⟨i - 2 * (m + 1), by omega⟩
      have hAk := hA k (by omega)
      rw [z_B4_6]
      cases f with
      | true =>
        have := ih (m + 1) true (by omega) ⟨fun _ => by obtain ⟨k, a, b, c, e⟩ := hf.mp rfl; exact ⟨k, a, b, by omega, e⟩, fun _ => rfl⟩
        rw [← e2] at this
        simp only [if_true] at this ⊢
        simp (disch := omega) only [if_neg, z_fdC, z_pdC, z_adC, z_sdC, z_lkC, z_ndC, z_gdC, z_mdC, z_cI_some', z_cV_some', z_w_ok, Int.reduceAdd, Int.reduceSub, Int.reduceMul, Int.reduceNeg, Int.reduceEq, Int.reduceLT, Int.reduceLE, Int.reduceNe, reduceIte, true_and, and_true, false_and, and_false, if_true, if_false, ne_eq, not_true_eq_false, not_false_eq_true]
        exact this
      | false =>
        by_cases c : T (k + 1) = T (i + 1)
        · have := ih (m + 1) true (by omega) ⟨fun _ => ⟨k, by omega, by omega, by omega, c⟩, fun _ => rfl⟩
          rw [← e2] at this
          rw [← hk] at this ⊢
          simp only [if_true] at this ⊢
          simp (disch := omega) only [if_neg, Bool.false_eq_true, hAk, hAi, c, z_fdC, z_pdC, z_adC, z_sdC, z_lkC, z_ndC, z_gdC, z_mdC, z_cI_some', z_cV_some', z_w_ok, Int.reduceAdd, Int.reduceSub, Int.reduceMul, Int.reduceNeg, Int.reduceEq, Int.reduceLT, Int.reduceLE, Int.reduceNe, reduceIte, true_and, and_true, false_and, and_false, if_true, if_false, ne_eq, not_true_eq_false, not_false_eq_true]
          exact this
        · have := ih (m + 1) false (by omega) ⟨fun h => absurd h (by simp), fun ⟨k', a, b, c', e⟩ => by
            by_cases h : k' = k
            · subst h; exact absurd e c
            · exact hf.mpr ⟨k', a, b, by omega, e⟩⟩
          rw [← e2] at this
          rw [← hk] at this ⊢
          simp only [Bool.false_eq_true, if_false] at this ⊢
          simp (disch := omega) only [if_neg, Bool.false_eq_true, hAk, hAi, if_pos, c, z_fdC, z_pdC, z_adC, z_sdC, z_lkC, z_ndC, z_gdC, z_mdC, z_cI_some', z_cV_some', z_w_ok, Int.reduceAdd, Int.reduceSub, Int.reduceMul, Int.reduceNeg, Int.reduceEq, Int.reduceLT, Int.reduceLE, Int.reduceNe, reduceIte, true_and, and_true, false_and, and_false, if_true, if_false, ne_eq, not_true_eq_false, not_false_eq_true]
          exact this
  have := go (i / 2) 0 false (by omega) ⟨fun h => absurd h (by simp), fun ⟨k, a, b, c, e⟩ => by omega⟩
  simp only [Bool.false_eq_true, if_false] at this
  rw [z_E4, z_w_ok (by omega) (by omega)]
  have e : (i : Int) - 2 = (i : Int) - 2 * (((0 : Nat) : Int) + 1) := by omega
  rw [e]
  exact this
section
variable {σ X : z_S} {L s lean : Int} {D : z_D} {share t : Int → Int} {mv cp : Int}
theorem c_duelBrought (h : c_rd σ X L s D lean share) (d : Nat) {w : Int} (ht : z_tcap (X 0 3) t) (hA : ∀ k : Int, 0 ≤ k → k < 5 → σ 73 k = t k) :
    ∃ σ', z_ev z_hcC (d + 4) 1 [z_R 72, z_I w, z_R 73, z_R (L + 1)] z_hdC σ = some (z_I (z_brt D.op share D.gN lean (z_side X w s) t), z_hdC, σ') ∧ z_off 59 62 σ σ' ∧ c_rd σ' X L s D lean share := by
  obtain ⟨σ1, e1, o1, h1⟩ := h.fix d (a1 := 73) (by unfold z_arr5; omega) ht hA
  have hsd := h1.rd.side d w
  have q := h1.brought d (h.sr w)
  refine ⟨σ1, ?_, o1, h1.rd⟩
  simp (disch := omega) only [z_E1, e1, hsd, q, c_LC h.hL, z_fdC, z_pdC, z_adC, z_sdC, z_lkC, z_ndC, z_gdC, z_mdC, z_cI_some', z_cV_some', z_w_ok, Int.reduceAdd, Int.reduceSub, Int.reduceMul, Int.reduceNeg, Int.reduceEq, Int.reduceLT, Int.reduceLE, Int.reduceNe, reduceIte, true_and, and_true, false_and, and_false, if_true, if_false, ne_eq, not_true_eq_false, not_false_eq_true]
/-- Duel.answer -/
theorem c_answer (h : c_rd σ X L s D lean share) (d : Nat) {n : Nat} (hn : n ≤ 60) (hf : z_tot (z_side X 0 s) (X 0 3) ≤ 20000 ∧ z_tot (z_side X 1 s) (X 0 3) ≤ 20000) :
    ∃ σ', z_ev z_hcC (d + 5) 2 [z_R 72, z_I n, z_R (L + 1)] z_hdC σ = some (z_I (z_ao (fun i => z_pk (z_an D lean share (fun w => z_side X w s) (X 0 3) (X 7) i) 5) n 0 0).1, z_hdC, σ') ∧ z_off 59 75 σ σ' ∧ c_rd σ' X L s D lean share ∧ ∀ k : Int, 0 ≤ k → k < 5 → σ' 73 k = z_an D lean share (fun w => z_side X w s) (X 0 3) (X 7) (z_ao (fun i => z_pk (z_an D lean share (fun w => z_side X w s) (X 0 3) (X 7) i) 5) n 0 0).2 k := by
  have hcp := h.cp
  have hz : ∀ i, z_tcap (X 0 3) (z_an D lean share (fun w => z_side X w s) (X 0 3) (X 7) i) := by
    intro i
    induction i with
    | zero => exact h.tc
    | succ i ih => exact h.htc ih (Int.le_refl _)
  have go : ∀ (f i : Nat) (c : Int) (x : z_S) (u v : z_V), i + f = n → (0 ≤ c ∧ c ≤ i) → z_off 59 75 σ x → c_rd x X L s D lean share → (∀ k : Int, 0 ≤ k → k < 5 → x 73 k = z_an D lean share (fun w => z_side X w s) (X 0 3) (X 7) i k) → (∀ k : Nat, k < i → x 74 k = z_pk (z_an D lean share (fun w => z_side X w s) (X 0 3) (X 7) (k + 1)) 5) →
      ∃ σ', z_go (z_ev z_hcC (d + 4)) z_hcC 2 23 [z_R 72, z_I n, z_R (L + 1), z_I c, z_I i, u, v] [] z_hdC x = some (z_I (z_ao (fun i => z_pk (z_an D lean share (fun w => z_side X w s) (X 0 3) (X 7) i) 5) f i c).1, z_hdC, σ') ∧ z_off 59 75 σ σ' ∧ c_rd σ' X L s D lean share ∧ ∀ k : Int, 0 ≤ k → k < 5 → σ' 73 k = z_an D lean share (fun w => z_side X w s) (X 0 3) (X 7) (z_ao (fun i => z_pk (z_an D lean share (fun w => z_side X w s) (X 0 3) (X 7) i) 5) f i c).2 k := by
    intro f
    induction f with
    | zero =>
      intro i c x u v hi hc ho hr hT hB
      refine ⟨x, ?_, ho, hr, hT⟩
      rw [z_B2_23, if_pos (by omega)]
      rfl
    | succ f ih =>
      intro i c x u v hi hc ho hr hT hB
      have hp := c_packed (σ := x) (d + 3) (z_tcap_20 hcp.2 (hz i)) hT
      have hand : z_and (i : Int) 1 = ((i % 2 : Nat) : Int) := by
        rw [z_and_nat (by omega) (by omega) (by omega) (by omega), Int.toNat_natCast, show (1 : Int).toNat = 1 from rfl, Nat.and_one_is_mod]
      have hsd := hr.side (d + 1) ((i % 2 : Nat) : Int)
      have hsr := h.sr ((i % 2 : Nat) : Int)
      have htot : z_tot (z_side X ((i % 2 : Nat) : Int) s) (X 0 3) ≤ 20000 := by
        have : i % 2 = 0 ∨ i % 2 = 1 := by omega
        rcases this with e | e <;> rw [e]
        · exact hf.1
        · exact hf.2
      obtain ⟨x1, k1, k2, k3, k4⟩ := hr.hunt d (a1 := 73) (side := z_side X ((i % 2 : Nat) : Int) s) (mv := z_side X ((i % 2 : Nat) : Int) s) (cp := X 0 3) (by unfold z_arr5; omega) (hz i) hsr hsr ⟨hcp.1, Int.le_refl _⟩ htot hT
      have hoff : z_off 73 73 x1 (z_cpy x1 63 0 73 0 5) := fun a b h => by rw [z_cpy_at, if_neg (by omega)]
      have hcpy : ∀ k : Int, 0 ≤ k → k < 5 → (z_cpy x1 63 0 73 0 5) 73 k = z_an D lean share (fun w => z_side X w s) (X 0 3) (X 7) (i + 1) k := fun k k0 k1 => by
        rw [z_cpy_at, if_pos (by omega), show 0 + (k - 0) = k by omega]
        exact k3 k k0 k1
      have hp2 := c_packed (σ := z_cpy x1 63 0 73 0 5) (d + 3) (z_tcap_20 hcp.2 (hz (i + 1))) hcpy
      have hcq : ∀ {β : Type} {σ : z_S} {k : z_S → Option β}, z_cp z_hdC σ 63 0 73 0 5 k = k (z_cpy σ 63 0 73 0 5) := fun {_ _ _} => if_pos ⟨rfl, rfl, by decide, by decide, by decide, by decide, by decide⟩
      have hoff2 : z_off 74 74 (z_cpy x1 63 0 73 0 5) (z_upd (z_cpy x1 63 0 73 0 5) 74 i (z_pk (z_an D lean share (fun w => z_side X w s) (X 0 3) (X 7) (i + 1)) 5)) := z_off_upd (by omega) (by omega)
      have hx2 : c_rd (z_upd (z_cpy x1 63 0 73 0 5) 74 i (z_pk (z_an D lean share (fun w => z_side X w s) (X 0 3) (X 7) (i + 1)) 5)) X L s D lean share := c_rd_off hoff2 (by omega) (c_rd_off hoff (by omega) k4.rd)
      have hT2 : ∀ k : Int, 0 ≤ k → k < 5 → (z_upd (z_cpy x1 63 0 73 0 5) 74 i (z_pk (z_an D lean share (fun w => z_side X w s) (X 0 3) (X 7) (i + 1)) 5)) 73 k = z_an D lean share (fun w => z_side X w s) (X 0 3) (X 7) (i + 1) k := fun k k0 k1 => by
        rw [z_oat hoff2 (by omega)]; exact hcpy k k0 k1
      have hB2 : ∀ k : Nat, k ≤ i → (z_upd (z_cpy x1 63 0 73 0 5) 74 i (z_pk (z_an D lean share (fun w => z_side X w s) (X 0 3) (X 7) (i + 1)) 5)) 74 k = z_pk (z_an D lean share (fun w => z_side X w s) (X 0 3) (X 7) (k + 1)) 5 := fun k hk => by
        by_cases hki : k = i
        · subst hki; exact z_upd_same
        · rw [z_upd_ne (Or.inr (by omega)), z_oat hoff (by omega), z_oat k2 (by omega)]; exact hB k (by omega)
      have ho2 := z_off_trans ho (z_off_trans (z_off_le k2 (lo' := 59) (hi' := 75) (by omega) (by omega)) (z_off_trans (z_off_le hoff (lo' := 59) (hi' := 75) (by omega) (by omega)) (z_off_le hoff2 (lo' := 59) (hi' := 75) (by omega) (by omega))))
      have hw := c_wasBehind (T := fun i => z_pk (z_an D lean share (fun w => z_side X w s) (X 0 3) (X 7) i) 5) (d + 3) (i := i) (by omega) hB2
      have hr73 : (z_upd (z_cpy x1 63 0 73 0 5) 74 i (z_pk (z_an D lean share (fun w => z_side X w s) (X 0 3) (X 7) (i + 1)) 5)) 74 i = z_pk (z_an D lean share (fun w => z_side X w s) (X 0 3) (X 7) (i + 1)) 5 := z_upd_same
      -- the end of a round
      have tail : ∀ c' : Int, (0 ≤ c' ∧ c' ≤ i + 1) → c' = (if z_pk (z_an D lean share (fun w => z_side X w s) (X 0 3) (X 7) (i + 1)) 5 = z_pk (z_an D lean share (fun w => z_side X w s) (X 0 3) (X 7) i) 5 then c + 1 else 0) →
          ∃ σ', z_go (z_ev z_hcC (d + 4)) z_hcC 2 126 [z_R 72, z_I n, z_R (L + 1), z_I c, z_I i, z_I (z_pk (z_an D lean share (fun w => z_side X w s) (X 0 3) (X 7) i) 5), z_I (z_side X ((i % 2 : Nat) : Int) s)] [z_I c'] z_hdC (z_upd (z_cpy x1 63 0 73 0 5) 74 i (z_pk (z_an D lean share (fun w => z_side X w s) (X 0 3) (X 7) (i + 1)) 5)) = some (z_I (z_ao (fun i => z_pk (z_an D lean share (fun w => z_side X w s) (X 0 3) (X 7) i) 5) (f + 1) i c).1, z_hdC, σ') ∧ z_off 59 75 σ σ' ∧ c_rd σ' X L s D lean share ∧ ∀ k : Int, 0 ≤ k → k < 5 → σ' 73 k = z_an D lean share (fun w => z_side X w s) (X 0 3) (X 7) (z_ao (fun i => z_pk (z_an D lean share (fun w => z_side X w s) (X 0 3) (X 7) i) 5) (f + 1) i c).2 k := by
        intro c' hc' he
        have hao : z_ao (fun i => z_pk (z_an D lean share (fun w => z_side X w s) (X 0 3) (X 7) i) 5) (f + 1) i c = if c' = 2 then ((i : Int) - 1, i + 1) else if z_ring (fun i => z_pk (z_an D lean share (fun w => z_side X w s) (X 0 3) (X 7) i) 5) i = true then (-2, i + 1) else z_ao (fun i => z_pk (z_an D lean share (fun w => z_side X w s) (X 0 3) (X 7) i) 5) f (i + 1) c' := by rw [he]; rfl
        rw [hao]
        by_cases c1 : c' = 2
        · refine ⟨_, ?_, ho2, hx2, ?_⟩
          · rw [z_B2_126, if_pos c1]
            simp (disch := omega) only [if_neg, c1, z_fdC, z_pdC, z_adC, z_sdC, z_lkC, z_ndC, z_gdC, z_mdC, z_cI_some', z_cV_some', z_w_ok, Int.reduceAdd, Int.reduceSub, Int.reduceMul, Int.reduceNeg, Int.reduceEq, Int.reduceLT, Int.reduceLE, Int.reduceNe, reduceIte, true_and, and_true, false_and, and_false, if_true, if_false, ne_eq, not_true_eq_false, not_false_eq_true]
          · rw [if_pos c1]; exact hT2
        · rw [if_neg c1]
          by_cases c2 : z_ring (fun i => z_pk (z_an D lean share (fun w => z_side X w s) (X 0 3) (X 7) i) 5) i = true
          · rw [if_pos c2] at hw
            refine ⟨_, ?_, ho2, hx2, ?_⟩
            · rw [z_B2_126, if_pos c2]
              simp (disch := omega) only [if_neg, if_pos, c1, hw, z_fdC, z_pdC, z_adC, z_sdC, z_lkC, z_ndC, z_gdC, z_mdC, z_cI_some', z_cV_some', z_w_ok, Int.reduceAdd, Int.reduceSub, Int.reduceMul, Int.reduceNeg, Int.reduceEq, Int.reduceLT, Int.reduceLE, Int.reduceNe, reduceIte, true_and, and_true, false_and, and_false, if_true, if_false, ne_eq, not_true_eq_false, not_false_eq_true]
            · rw [if_pos c2]; exact hT2
          · rw [if_neg c2] at hw
            obtain ⟨y, y1, y2⟩ := ih (i + 1) c' _ (z_I (z_pk (z_an D lean share (fun w => z_side X w s) (X 0 3) (X 7) i) 5)) (z_I (z_side X ((i % 2 : Nat) : Int) s)) (by omega) (by omega) ho2 hx2 hT2 (fun k hk => hB2 k (by omega))
            rw [if_neg c2]
            refine ⟨y, ?_, y2⟩
            rw [← y1, z_B2_126]
            simp (disch := omega) only [if_neg, if_pos, c1, hw, z_ns, z_fdC, z_pdC, z_adC, z_sdC, z_lkC, z_ndC, z_gdC, z_mdC, z_cI_some', z_cV_some', z_w_ok, Int.reduceAdd, Int.reduceSub, Int.reduceMul, Int.reduceNeg, Int.reduceEq, Int.reduceLT, Int.reduceLE, Int.reduceNe, reduceIte, true_and, and_true, false_and, and_false, if_true, if_false, ne_eq, not_true_eq_false, not_false_eq_true]
      have hcv := k4.rd.capv
      by_cases c0 : z_pk (z_an D lean share (fun w => z_side X w s) (X 0 3) (X 7) (i + 1)) 5 = z_pk (z_an D lean share (fun w => z_side X w s) (X 0 3) (X 7) i) 5
      · obtain ⟨y, y1, y2⟩ := tail (c + 1) (by omega) (by rw [if_pos c0])
        refine ⟨y, ?_, y2⟩
        rw [← y1, z_B2_23]
        simp (disch := omega) only [if_neg, if_pos, hp, hand, hsd, c_LC h.hL, hr.capv, k1, hcq, hp2, hr73, z_fdC, z_pdC, z_adC, z_sdC, z_lkC, z_ndC, z_gdC, z_mdC, z_cI_some', z_cV_some', z_w_ok, Int.reduceAdd, Int.reduceSub, Int.reduceMul, Int.reduceNeg, Int.reduceEq, Int.reduceLT, Int.reduceLE, Int.reduceNe, reduceIte, true_and, and_true, false_and, and_false, if_true, if_false, ne_eq, not_true_eq_false, not_false_eq_true]
      · obtain ⟨y, y1, y2⟩ := tail 0 (by omega) (by rw [if_neg c0])
        refine ⟨y, ?_, y2⟩
        rw [← y1, z_B2_23]
        simp (disch := omega) only [if_neg, if_pos, hp, hand, hsd, c_LC h.hL, hr.capv, k1, hcq, hp2, hr73, z_fdC, z_pdC, z_adC, z_sdC, z_lkC, z_ndC, z_gdC, z_mdC, z_cI_some', z_cV_some', z_w_ok, Int.reduceAdd, Int.reduceSub, Int.reduceMul, Int.reduceNeg, Int.reduceEq, Int.reduceLT, Int.reduceLE, Int.reduceNe, reduceIte, true_and, and_true, false_and, and_false, if_true, if_false, ne_eq, not_true_eq_false, not_false_eq_true]
  have hoff : z_off 73 73 σ (z_cpy σ (L + 3) 0 73 0 5) := fun a b h => by rw [z_cpy_at, if_neg (by omega)]
  have hl2 : ∀ {β : Type} {σ : z_S} {k : z_S → Option β}, z_cp z_hdC σ (L + 3) 0 73 0 5 k = k (z_cpy σ (L + 3) 0 73 0 5) := fun {_ _ _} => by
    rcases h.hL with rfl | rfl <;> exact if_pos ⟨rfl, rfl, by decide, by decide, by decide, by decide, by decide⟩
  obtain ⟨y, y1, y2⟩ := go n 0 0 (z_cpy σ (L + 3) 0 73 0 5) z_U z_U (by omega) (by omega) (z_off_le hoff (by omega) (by omega)) (c_rd_off hoff (by omega) h) (fun k k0 k1 => by
    rw [z_cpy_at, if_pos (by omega), show 0 + (k - 0) = k by omega]; exact h.tolls k0 k1) (fun k hk => by omega)
  refine ⟨y, ?_, y2⟩
  rw [← y1]
  simp (disch := omega) only [z_E2, z_B2_126, c_LC h.hL, hl2, z_fdC, z_pdC, z_adC, z_sdC, z_lkC, z_ndC, z_gdC, z_mdC, z_cI_some', z_cV_some', z_w_ok, Int.reduceAdd, Int.reduceSub, Int.reduceMul, Int.reduceNeg, Int.reduceEq, Int.reduceLT, Int.reduceLE, Int.reduceNe, reduceIte, true_and, and_true, false_and, and_false, if_true, if_false, ne_eq, not_true_eq_false, not_false_eq_true]
  rfl
end
