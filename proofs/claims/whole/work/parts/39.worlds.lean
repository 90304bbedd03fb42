/-! Study: what isn't known. -/
theorem z_ushr_nat {x k : Int} (h0 : 0 ≤ x) (h1 : x < 2147483648) (h2 : 0 ≤ k) (h3 : k < 32) : z_ushr x k = ((x.toNat / 2 ^ k.toNat : Nat) : Int) := by
  have hx : (Int32.ofInt x).toUInt32.toNat = x.toNat := z_bvn h0 h1
  have hk : ((Int32.ofInt k).toUInt32 &&& 31).toNat = k.toNat := by
    have h : ∀ n : Nat, n < 32 → ((Int32.ofInt (n : Int)).toUInt32 &&& 31).toNat = n := by decide
    have := h k.toNat (by omega)
    rwa [Int.toNat_of_nonneg h2] at this
  unfold z_ushr
  refine z_toI ?_ (Nat.lt_of_le_of_lt (Nat.div_le_self _ _) (by omega))
  show ((Int32.ofInt x).toUInt32 >>> ((Int32.ofInt k).toUInt32 &&& 31)).toNat = _
  rw [UInt32.toNat_shiftRight, hx, hk, Nat.mod_eq_of_lt (by omega), Nat.shiftRight_eq_div_pow]
def z_dg (rk : Int) (i : Nat) : Int := rk / ((16 ^ i : Nat) : Int) % 16
theorem z_dg_ok {rk : Int} {i : Nat} (h0 : 0 ≤ rk) (h1 : rk < 2147483648) (hi : i < 7) : z_and (z_ushr rk (4 * (i : Int))) 15 = z_dg rk i := by
  rw [z_ushr_nat h0 h1 (by omega) (by omega)]
  have hle : rk.toNat / 2 ^ (4 * (i : Int)).toNat ≤ rk.toNat := Nat.div_le_self _ _
  have hnn := Int.natCast_nonneg (rk.toNat / 2 ^ (4 * (i : Int)).toNat)
  rw [z_and_nat hnn (by omega) (by omega) (by omega), Int.toNat_natCast, show (15 : Int).toNat = 2 ^ 4 - 1 from rfl, Nat.and_two_pow_sub_one_eq_mod]
  unfold z_dg
  have e : (4 * (i : Int)).toNat = 4 * i := by omega
  have e2 : 2 ^ (4 * i) = 16 ^ i := by rw [Nat.pow_mul]
  rw [e, e2]
  have : rk = ((rk.toNat : Nat) : Int) := by omega
  rw [this, Int.toNat_natCast]
  norm_cast
theorem z_dg_rng {rk : Int} {i : Nat} : 0 ≤ z_dg rk i ∧ z_dg rk i < 16 := by unfold z_dg; omega
/-- a road is among the first n digits -/
def z_ps (rk r : Int) : Nat → Bool
  | 0 => false
  | n + 1 => decide (z_dg rk n = r) || z_ps rk r n
def z_steps (rk : Int) : Nat := (rk / 268435456).toNat
theorem z_steps_ok {rk : Int} (h0 : 0 ≤ rk) (h1 : rk < 2147483648) : z_ushr rk 28 = (z_steps rk : Int) ∧ z_steps rk ≤ 7 := by
  rw [z_ushr_nat h0 h1 (by omega) (by omega)]
  unfold z_steps
  show ((rk.toNat / 268435456 : Nat) : Int) = _ ∧ _
  omega
theorem c_passes_go {c : z_Call} {g m r rk : Int} {σ : z_S} (h0 : 0 ≤ rk) (h1 : rk < 2147483648) : ∀ (n : Nat) (f : Bool), n ≤ 7 → z_go c z_hcC 120 20 [z_R 46, z_I g, z_I m, z_I r, z_I rk, z_I (if f then 1 else 0), z_I ((n : Int) - 1)] [] z_hdC σ = some (z_I (if f || z_ps rk r n then 1 else 0), z_hdC, σ) := by
  intro n
  induction n with
  | zero =>
    intro f _
    rw [z_B120_20]
    cases f <;> simp (disch := omega) only [if_pos, true_or, or_true, Bool.false_eq_true, Bool.true_or, Bool.false_or, z_ps, z_fdC, z_pdC, z_adC, z_sdC, z_lkC, z_ndC, z_gdC, z_mdC, z_cI_some', z_cV_some', z_w_ok, Int.reduceAdd, Int.reduceSub, Int.reduceMul, Int.reduceNeg, Int.reduceEq, Int.reduceLT, Int.reduceLE, Int.reduceNe, reduceIte, true_and, and_true, false_and, and_false, if_true, if_false, ne_eq, not_true_eq_false, not_false_eq_true] <;> rfl
  | succ n ih =>
    intro f hn
    have hd := z_dg_ok h0 h1 (i := n) (by omega)
    have e1 : ((n + 1 : Nat) : Int) - 1 = (n : Int) := by omega
    have e2 : (n : Int) + -1 = (n : Int) - 1 := by omega
    rw [z_B120_20, e1]
    cases f with
    | true =>
      have := ih true (by omega)
      simp only [if_true, Bool.true_or] at this ⊢
      simp (disch := omega) only [if_neg, e2, z_fdC, z_pdC, z_adC, z_sdC, z_lkC, z_ndC, z_gdC, z_mdC, z_cI_some', z_cV_some', z_w_ok, Int.reduceAdd, Int.reduceSub, Int.reduceMul, Int.reduceNeg, Int.reduceEq, Int.reduceLT, Int.reduceLE, Int.reduceNe, reduceIte, true_and, and_true, false_and, and_false, if_true, if_false, ne_eq, not_true_eq_false, not_false_eq_true]
      exact this
    | false =>
      by_cases hr : z_dg rk n = r
      · have := ih true (by omega)
        have e3 : z_ps rk r (n + 1) = true := by show (decide (z_dg rk n = r) || _) = true; simp [hr]
        rw [e3]
        simp only [if_true, Bool.true_or, Bool.or_true] at this ⊢
        simp (disch := omega) only [if_neg, Bool.false_eq_true, hd, hr, e2, z_fdC, z_pdC, z_adC, z_sdC, z_lkC, z_ndC, z_gdC, z_mdC, z_cI_some', z_cV_some', z_w_ok, Int.reduceAdd, Int.reduceSub, Int.reduceMul, Int.reduceNeg, Int.reduceEq, Int.reduceLT, Int.reduceLE, Int.reduceNe, reduceIte, true_and, and_true, false_and, and_false, if_true, if_false, ne_eq, not_true_eq_false, not_false_eq_true]
        exact this
      · have := ih false (by omega)
        have e3 : z_ps rk r (n + 1) = z_ps rk r n := by show (decide (z_dg rk n = r) || _) = _; simp [hr]
        rw [e3]
        simp only [Bool.false_eq_true, if_false, Bool.false_or] at this ⊢
        simp (disch := omega) only [if_neg, Bool.false_eq_true, hd, if_pos, hr, e2, z_fdC, z_pdC, z_adC, z_sdC, z_lkC, z_ndC, z_gdC, z_mdC, z_cI_some', z_cV_some', z_w_ok, Int.reduceAdd, Int.reduceSub, Int.reduceMul, Int.reduceNeg, Int.reduceEq, Int.reduceLT, Int.reduceLE, Int.reduceNe, reduceIte, true_and, and_true, false_and, and_false, if_true, if_false, ne_eq, not_true_eq_false, not_false_eq_true]
        exact this
/-- the rank of what goer g takes -/
noncomputable def z_rk (D : z_D) (lean : Int) (t : Int → Int) (g : Int) : Int := match D.op g (z_ch (D.op g) t lean) with
  | some q => q.2
  | none => 0
/-- what passes a road -/
noncomputable def z_pass (D : z_D) (lean : Int) (t : Int → Int) (r : Int) (g : Int) : Bool := z_ps (z_rk D lean t g) r (z_steps (z_rk D lean t g))
section
variable {σ X : z_S} {L s lean : Int} {D : z_D} {share t : Int → Int} {mv cp : Int}
theorem c_at.rk (h : c_at σ X L s D lean share t mv cp) (d : Nat) {g : Int} (g0 : 0 ≤ g) (g1 : g < D.gN) : z_ev z_hcC (d + 2) 118 [z_R 46, z_I g, z_I (z_ch (D.op g) t lean)] z_hdC σ = some (z_I (z_rk D lean t g), z_hdC, σ) ∧ 0 ≤ z_rk D lean t g ∧ z_rk D lean t g < 2147483648 := by
  obtain ⟨ho, hr, -⟩ := h.goer g0 g1
  obtain ⟨q, hq, -⟩ := z_ch_tk (t := t) (lean := lean) ho
  have hg := h.rd.tab.2.2.2.2 g g0 g1
  have hh := c_grankOf (σ := σ) d g0 (by rw [h.rd.gz]; exact g1) (by have := h.rd.gn; omega) hr.1 hr.2.1
  rw [(hg.2.2.2.2.2.2 _ q hr.1 hr.2.1 hq).2] at hh
  have e : z_rk D lean t g = q.2 := by unfold z_rk; rw [hq]
  rw [e]
  exact ⟨hh, (ho.1 _ q hr.1 hr.2.1 hq).2.2⟩
/-- Goers.passes -/
theorem c_at.passes (h : c_at σ X L s D lean share t mv cp) (d : Nat) {g : Int} (r : Int) (g0 : 0 ≤ g) (g1 : g < D.gN) : z_ev z_hcC (d + 3) 120 [z_R 46, z_I g, z_I (z_ch (D.op g) t lean), z_I r] z_hdC σ = some (z_I (if z_pass D lean t r g then 1 else 0), z_hdC, σ) := by
  obtain ⟨e, h0, h1⟩ := h.rk d g0 g1
  obtain ⟨e2, hs⟩ := z_steps_ok h0 h1
  have hgo := c_passes_go (c := z_ev z_hcC (d + 2)) (g := g) (m := z_ch (D.op g) t lean) (r := r) (σ := σ) h0 h1 (z_steps (z_rk D lean t g)) false hs
  simp only [Bool.false_eq_true, if_false, Bool.false_or] at hgo
  simp (disch := omega) only [z_E120, e, e2, z_fdC, z_pdC, z_adC, z_sdC, z_lkC, z_ndC, z_gdC, z_mdC, z_cI_some', z_cV_some', z_w_ok, Int.reduceAdd, Int.reduceSub, Int.reduceMul, Int.reduceNeg, Int.reduceEq, Int.reduceLT, Int.reduceLE, Int.reduceNe, reduceIte, true_and, and_true, false_and, and_false, if_true, if_false, ne_eq, not_true_eq_false, not_false_eq_true]
  exact hgo
/-- does goer g count in world w -/
def z_inw (X : z_S) (D : z_D) (w g : Int) : Bool := decide (X 13 (D.gj g) = 0) || decide (D.gw g = w)
theorem c_Q.crowd (h : c_Q σ X L s D) (d : Nat) {g : Int} (g0 : 0 ≤ g) (g1 : g < D.gN) : z_ev z_hcC (d + 3) 115 [z_R 46, z_I g] z_hdC σ = some (z_I (if X 13 (D.gj g) ≠ 0 then 1 else 0), z_hdC, σ) ∧ z_ev z_hcC (d + 3) 113 [z_R 46, z_I g] z_hdC σ = some (z_I (D.gw g), z_hdC, σ) ∧ 0 ≤ D.gw g ∧ D.gw g ≤ 9 := by
  have hq := h.hL
  have hgn : D.gN ≤ 48 := h.tab.2.1.2
  have hz := h.tab.1
  obtain ⟨w1, w2, w3, w4⟩ := h.who.2 g g0 g1
  have hj := h.wf.2.2.2.2.2.2.2.2.2.2.2.2.2.1 (D.gj g) w3.1 w3.2
  have hnJ := h.wf.2.2.1
  have e13 := (h.land.2.2.2.2.2.2.2 (D.gj g) w3.1 w3.2).2.2.2.2.2.1
  have h3 := c_gisOfCrowd (σ := σ) (q := L + 10) (by omega) d g0 (by rw [hz]; exact g1) (by omega) h.who.1 (by rw [w1]; exact w3.1) (by rw [w1, h.land.2.2.2.1]; exact w3.2) (by rw [w1]; omega)
  rw [w1, show L + 10 + 6 = L + 16 by omega, e13] at h3
  have h1 := c_gworthOf (σ := σ) (d + 1) g0 (by rw [hz]; exact g1) (by omega)
  rw [w2] at h1
  exact ⟨h3, h1, by omega, by omega⟩
/-- Study.clearWorlds -/
theorem c_clearWorlds (d : Nat) (σ : z_S) : ∃ σ', z_ev z_hcC (d + 1) 918 [z_R 65] z_hdC σ = some (z_I 0, z_hdC, σ') ∧ z_off 71 71 σ σ' ∧ ∀ w, 0 ≤ w → w < 10 → σ' 71 w = 0 := by
  obtain ⟨σ2, e2, o2, f2⟩ := z_for (fun k x => z_go (z_ev z_hcC d) z_hcC 918 2 [z_R 65, z_I k] [] z_hdC x) (fun x => some (z_I 0, z_hdC, x))
    (fun k x => z_off 71 71 σ x ∧ ∀ j : Int, 0 ≤ j → j < k → x 71 j = 0) 10 (s := σ) ⟨z_off_refl, fun j j0 j1 => by omega⟩ (fun k x hk ⟨ho, hz⟩ => by
      refine ⟨z_upd x 71 k 0, ?_, z_off_trans ho (z_off_upd (by omega) (by omega)), fun j j0 j1 => ?_⟩
      · rw [z_B918_2]
        simp (disch := omega) only [if_neg, z_ns, z_fdC, z_pdC, z_adC, z_sdC, z_lkC, z_ndC, z_gdC, z_mdC, z_cI_some', z_cV_some', z_w_ok, Int.reduceAdd, Int.reduceSub, Int.reduceMul, Int.reduceNeg, Int.reduceEq, Int.reduceLT, Int.reduceLE, Int.reduceNe, reduceIte, true_and, and_true, false_and, and_false, if_true, if_false, ne_eq, not_true_eq_false, not_false_eq_true]
      · by_cases hj : j = k
        · subst hj; exact z_upd_same
        · rw [z_upd_ne (Or.inr hj)]; exact hz j j0 (by omega)) (fun x _ => by
      rw [z_B918_2]
      simp (disch := omega) only [if_pos, z_fdC, z_pdC, z_adC, z_sdC, z_lkC, z_ndC, z_gdC, z_mdC, z_cI_some', z_cV_some', z_w_ok, Int.reduceAdd, Int.reduceSub, Int.reduceMul, Int.reduceNeg, Int.reduceEq, Int.reduceLT, Int.reduceLE, Int.reduceNe, reduceIte, true_and, and_true, false_and, and_false, if_true, if_false, ne_eq, not_true_eq_false, not_false_eq_true])
  refine ⟨σ2, ?_, o2, f2⟩
  rw [z_E918]
  exact e2
/-- what of F the first k goers bring surely, and in a world of its own -/
def z_sure (X : z_S) (D : z_D) (F : Int → Int) (k : Nat) : Int := z_sm k (fun g => if X 13 (D.gj g) = 0 then F g else 0)
def z_own (X : z_S) (D : z_D) (F : Int → Int) (w : Int) (k : Nat) : Int := z_sm k (fun g => if X 13 (D.gj g) ≠ 0 ∧ D.gw g = w then F g else 0)
def z_wv (X : z_S) (D : z_D) (F : Int → Int) (w : Int) : Int := z_sm D.gN.toNat (fun g => if z_inw X D w g then F g else 0)
theorem z_sm_add {f g : Int → Int} : ∀ {n : Nat}, z_sm n (fun k => f k + g k) = z_sm n f + z_sm n g
  | 0 => rfl
  | n + 1 => by
    rw [z_sm_s, z_sm_s, z_sm_s, z_sm_add]
    omega
theorem z_wv_eq {X : z_S} {D : z_D} {F : Int → Int} {w : Int} : z_sure X D F D.gN.toNat + z_own X D F w D.gN.toNat = z_wv X D F w := by
  unfold z_sure z_own z_wv z_inw
  rw [← z_sm_add]
  refine z_sm_congr (fun g _ _ => ?_)
  by_cases c : X 13 (D.gj g) = 0
  · simp [c]
  · by_cases c2 : D.gw g = w <;> simp [c, c2]
theorem z_if_rng {p : Prop} [Decidable p] {x b : Int} (h0 : 0 ≤ x) (h1 : x ≤ b) : 0 ≤ (if p then x else 0) ∧ (if p then x else 0) ≤ b := by split <;> omega
/-- Study.addTo -/
theorem c_addTo (h : c_Q σ X L s D) (d : Nat) {k : Nat} {F : Int → Int} (hk : (k : Int) < D.gN) (hF : ∀ g, 0 ≤ g → g < D.gN → 0 ≤ F g ∧ F g ≤ 100000) (hw : ∀ w, 0 ≤ w → w < 10 → σ 71 w = z_own X D F w k) :
    ∃ σ' v, z_ev z_hcC (d + 4) 919 [z_R 65, z_I k, z_I (F k)] z_hdC σ = some (z_I v, z_hdC, σ') ∧ z_off 71 71 σ σ' ∧ z_sure X D F k + v = z_sure X D F (k + 1) ∧ 0 ≤ v ∧ v ≤ 100000 ∧ ∀ w, 0 ≤ w → w < 10 → σ' 71 w = z_own X D F w (k + 1) := by
  obtain ⟨e1, e2, w0, w9⟩ := h.crowd d (g := k) (by omega) hk
  have hf := hF k (by omega) hk
  have es : z_sure X D F (k + 1) = z_sure X D F k + (if X 13 (D.gj k) = 0 then F k else 0) := rfl
  have eo : ∀ w, z_own X D F w (k + 1) = z_own X D F w k + (if X 13 (D.gj k) ≠ 0 ∧ D.gw k = w then F k else 0) := fun w => rfl
  by_cases c : X 13 (D.gj k) = 0
  · rw [if_neg (by simpa using c)] at e1
    refine ⟨σ, F k, ?_, z_off_refl, by rw [es, if_pos c], hf.1, hf.2, fun w w0 w1 => by rw [hw w w0 w1, eo, if_neg (fun z => z.1 c)]; omega⟩
    simp (disch := omega) only [z_E919, e1, e2, z_fdC, z_pdC, z_adC, z_sdC, z_lkC, z_ndC, z_gdC, z_mdC, z_cI_some', z_cV_some', z_w_ok, Int.reduceAdd, Int.reduceSub, Int.reduceMul, Int.reduceNeg, Int.reduceEq, Int.reduceLT, Int.reduceLE, Int.reduceNe, reduceIte, true_and, and_true, false_and, and_false, if_true, if_false, ne_eq, not_true_eq_false, not_false_eq_true]
  · rw [if_pos c] at e1
    have hb : 0 ≤ z_own X D F (D.gw k) k ∧ z_own X D F (D.gw k) k ≤ k * 100000 := z_sm_rng (fun g g0 g1 => z_if_rng (hF g g0 (by omega)).1 (hF g g0 (by omega)).2)
    have hgn : D.gN ≤ 48 := h.tab.2.1.2
    have hww := hw (D.gw k) w0 (by omega)
    refine ⟨z_upd σ 71 (D.gw k) (z_own X D F (D.gw k) k + F k), 0, ?_, z_off_upd (by omega) (by omega), by rw [es, if_neg c], by omega, by omega, fun w w0 w1 => ?_⟩
    · simp (disch := omega) only [z_E919, e1, e2, if_neg, hww, z_fdC, z_pdC, z_adC, z_sdC, z_lkC, z_ndC, z_gdC, z_mdC, z_cI_some', z_cV_some', z_w_ok, Int.reduceAdd, Int.reduceSub, Int.reduceMul, Int.reduceNeg, Int.reduceEq, Int.reduceLT, Int.reduceLE, Int.reduceNe, reduceIte, true_and, and_true, false_and, and_false, if_true, if_false, ne_eq, not_true_eq_false, not_false_eq_true]
    · rw [eo]
      by_cases hj : w = D.gw k
      · subst hj; rw [z_upd_same, if_pos ⟨c, rfl⟩]
      · rw [z_upd_ne (Or.inr hj), if_neg (fun z => hj z.2.symm), hw w w0 w1]; omega
theorem z_sure_rng {X : z_S} {D : z_D} {F : Int → Int} (hF : ∀ g, 0 ≤ g → g < D.gN → 0 ≤ F g ∧ F g ≤ 100000) {k : Nat} (hk : (k : Int) ≤ D.gN) : 0 ≤ z_sure X D F k ∧ z_sure X D F k ≤ k * 100000 := z_sm_rng (fun g g0 g1 => z_if_rng (hF g g0 (by omega)).1 (hF g g0 (by omega)).2)
theorem z_own_rng {X : z_S} {D : z_D} {F : Int → Int} (hF : ∀ g, 0 ≤ g → g < D.gN → 0 ≤ F g ∧ F g ≤ 100000) {k : Nat} (hk : (k : Int) ≤ D.gN) (w : Int) : 0 ≤ z_own X D F w k ∧ z_own X D F w k ≤ k * 100000 := z_sm_rng (fun g g0 g1 => z_if_rng (hF g g0 (by omega)).1 (hF g g0 (by omega)).2)
/-- the least f of those with P, -1: none -/
def z_lm (P : Nat → Bool) (f : Nat → Int) : Nat → Int
  | 0 => -1
  | n + 1 => if P n = true ∧ (z_lm P f n < 0 ∨ f n < z_lm P f n) then f n else z_lm P f n
/-- what is sure of a set of tolls -/
noncomputable def z_lt (X : z_S) (D : z_D) (lean side : Int) (t : Int → Int) : Int := z_lm (fun w => decide (0 < X 17 w)) (fun w => z_wv X D (fun g => D.mn g * z_gp D lean side t g) w) 10
theorem c_at.mgp (h : c_at σ X L s D lean share t mv cp) (side : Int) : ∀ g, 0 ≤ g → g < D.gN → 0 ≤ D.mn g * z_gp D lean side t g ∧ D.mn g * z_gp D lean side t g ≤ 100000 := fun g g0 g1 => by
  have h1 := (h.goer g0 g1).2.2.1
  have h2 := h.payr (z_and (z_ch (D.op g) t lean) side)
  have := z_mul_rng (show 0 ≤ D.mn g by omega) h1.2 h2.1 h2.2
  unfold z_gp
  omega
/-- Study.leastTake -/
theorem c_leastTake (h : c_at σ X L s D lean share t mv cp) (d : Nat) {side : Int} (hs : 0 ≤ side ∧ side < 32) (h76 : ∀ w, 0 ≤ w → w < 10 → σ 76 w = X 17 w) :
    ∃ σ', z_ev z_hcC (d + 5) 916 [z_R 65, z_I side, z_R 76] z_hdC σ = some (z_I (z_lt X D lean side t), z_hdC, σ') ∧ z_off 71 71 σ σ' := by
  have hgn := h.rd.gn
  have hF := h.mgp side
  obtain ⟨σ1, e1, o1, f1⟩ := c_clearWorlds (d + 3) σ
  obtain ⟨σ2, e2, o2, f2⟩ := z_for (fun k x => z_go (z_ev z_hcC (d + 4)) z_hcC 916 8 [z_R 65, z_I side, z_R 76, z_I (z_sure X D (fun g => D.mn g * z_gp D lean side t g) k), z_I k, z_U, z_U] [] z_hdC x) (fun x => z_go (z_ev z_hcC (d + 4)) z_hcC 916 72 [z_R 65, z_I side, z_R 76, z_I (z_sure X D (fun g => D.mn g * z_gp D lean side t g) D.gN.toNat), z_I (-1), z_I 0, z_U] [] z_hdC x)
    (fun k x => z_off 71 71 σ x ∧ ∀ w, 0 ≤ w → w < 10 → x 71 w = z_own X D (fun g => D.mn g * z_gp D lean side t g) w k) D.gN.toNat (s := σ1) ⟨o1, fun w w0 w1 => f1 w w0 w1⟩ (fun k x hk ⟨ho, hz⟩ => by
      have ha := c_at_off ho (by omega) h
      have q1 := ha.choice (d + 1) (g := k) (by omega) (by omega)
      have q2 := ha.manyOf (d + 2) (g := k) (by omega) (by omega)
      have q3 := ha.paySide (d + 3) (g := k) (side := side) (by omega) (by omega) hs
      obtain ⟨x2, v, q4, q5, q6, q7, q8, q9⟩ := c_addTo ha.rd.Q d (k := k) (by omega) hF hz
      have hb := z_sure_rng (X := X) hF (k := k) (by omega)
      have hk1 := hF k (by omega) (by omega)
      refine ⟨x2, ?_, z_off_trans ho q5, q9⟩
      have e : D.mn k * z_pay t (z_and (z_ch (D.op k) t lean) side) = D.mn k * z_gp D lean side t k := rfl
      rw [← q6, z_B916_8]
      simp (disch := omega) only [if_neg, ha.rd.gz, q1, q2, q3, e, q4, z_ns, z_fdC, z_pdC, z_adC, z_sdC, z_lkC, z_ndC, z_gdC, z_mdC, z_cI_some', z_cV_some', z_w_ok, Int.reduceAdd, Int.reduceSub, Int.reduceMul, Int.reduceNeg, Int.reduceEq, Int.reduceLT, Int.reduceLE, Int.reduceNe, reduceIte, true_and, and_true, false_and, and_false, if_true, if_false, ne_eq, not_true_eq_false, not_false_eq_true]) (fun x ⟨ho, hz⟩ => by
      have ha := c_at_off ho (by omega) h
      rw [z_B916_8]
      simp (disch := omega) only [if_pos, ha.rd.gz, z_fdC, z_pdC, z_adC, z_sdC, z_lkC, z_ndC, z_gdC, z_mdC, z_cI_some', z_cV_some', z_w_ok, Int.reduceAdd, Int.reduceSub, Int.reduceMul, Int.reduceNeg, Int.reduceEq, Int.reduceLT, Int.reduceLE, Int.reduceNe, reduceIte, true_and, and_true, false_and, and_false, if_true, if_false, ne_eq, not_true_eq_false, not_false_eq_true])
  obtain ⟨u3, e3⟩ : ∃ u, z_go (z_ev z_hcC (d + 4)) z_hcC 916 72 [z_R 65, z_I side, z_R 76, z_I (z_sure X D (fun g => D.mn g * z_gp D lean side t g) D.gN.toNat), z_I (-1), z_I 0, z_U] [] z_hdC σ2 = some (z_I (z_lt X D lean side t), z_hdC, u) ∧ u = σ2 := by
    refine ⟨σ2, ?_, rfl⟩
    refine z_forv (S := z_V) (fun k u => z_go (z_ev z_hcC (d + 4)) z_hcC 916 72 [z_R 65, z_I side, z_R 76, z_I (z_sure X D (fun g => D.mn g * z_gp D lean side t g) D.gN.toNat), z_I (z_lm (fun w => decide (0 < X 17 w)) (fun w => z_wv X D (fun g => D.mn g * z_gp D lean side t g) w) k), z_I k, u] [] z_hdC σ2) _ 10 z_U (fun k u hk => ?_) (fun u => ?_)
    · refine ⟨z_I (z_wv X D (fun g => D.mn g * z_gp D lean side t g) k), ?_⟩
      have e71 := f2 k (by omega) (by omega)
      have e76 := h76 k (by omega) (by omega)
      rw [← z_oat o2 (show (76 : Int) < 71 ∨ 71 < 76 by omega)] at e76
      have hb1 := z_sure_rng (X := X) hF (k := D.gN.toNat) (by omega)
      have hb2 := z_own_rng (X := X) hF (k := D.gN.toNat) (by omega) k
      have etw := z_wv_eq (X := X) (D := D) (F := fun g => D.mn g * z_gp D lean side t g) (w := k)
      generalize hG : z_lm (fun w => decide (0 < X 17 w)) (fun w => z_wv X D (fun g => D.mn g * z_gp D lean side t g) w) = G
      have hst : G (k + 1) = if 0 < X 17 k ∧ (G k < 0 ∨ z_wv X D (fun g => D.mn g * z_gp D lean side t g) k < G k) then z_wv X D (fun g => D.mn g * z_gp D lean side t g) k else G k := by
        rw [← hG]
        show (if _ then _ else _) = _
        simp only [decide_eq_true_eq]
      by_cases c1 : X 17 k ≤ 0
      · rw [if_neg (by omega)] at hst
        rw [z_B916_72, hst]
        simp (disch := omega) only [if_neg, if_pos, e71, e76, z_ns, etw, z_fdC, z_pdC, z_adC, z_sdC, z_lkC, z_ndC, z_gdC, z_mdC, z_cI_some', z_cV_some', z_w_ok, Int.reduceAdd, Int.reduceSub, Int.reduceMul, Int.reduceNeg, Int.reduceEq, Int.reduceLT, Int.reduceLE, Int.reduceNe, reduceIte, true_and, and_true, false_and, and_false, if_true, if_false, ne_eq, not_true_eq_false, not_false_eq_true]
      · by_cases c2 : G k < 0
        · rw [if_pos (by omega)] at hst
          rw [z_B916_72, hst]
          simp (disch := omega) only [if_neg, if_pos, e71, e76, z_ns, etw, z_fdC, z_pdC, z_adC, z_sdC, z_lkC, z_ndC, z_gdC, z_mdC, z_cI_some', z_cV_some', z_w_ok, Int.reduceAdd, Int.reduceSub, Int.reduceMul, Int.reduceNeg, Int.reduceEq, Int.reduceLT, Int.reduceLE, Int.reduceNe, reduceIte, true_and, and_true, false_and, and_false, if_true, if_false, ne_eq, not_true_eq_false, not_false_eq_true]
        · by_cases c3 : G k ≤ z_wv X D (fun g => D.mn g * z_gp D lean side t g) k
          · rw [if_neg (by omega)] at hst
            rw [z_B916_72, hst]
            simp (disch := omega) only [if_neg, if_pos, e71, e76, z_ns, etw, z_fdC, z_pdC, z_adC, z_sdC, z_lkC, z_ndC, z_gdC, z_mdC, z_cI_some', z_cV_some', z_w_ok, Int.reduceAdd, Int.reduceSub, Int.reduceMul, Int.reduceNeg, Int.reduceEq, Int.reduceLT, Int.reduceLE, Int.reduceNe, reduceIte, true_and, and_true, false_and, and_false, if_true, if_false, ne_eq, not_true_eq_false, not_false_eq_true]
          · rw [if_pos (by omega)] at hst
            rw [z_B916_72, hst]
            simp (disch := omega) only [if_neg, if_pos, e71, e76, z_ns, etw, z_fdC, z_pdC, z_adC, z_sdC, z_lkC, z_ndC, z_gdC, z_mdC, z_cI_some', z_cV_some', z_w_ok, Int.reduceAdd, Int.reduceSub, Int.reduceMul, Int.reduceNeg, Int.reduceEq, Int.reduceLT, Int.reduceLE, Int.reduceNe, reduceIte, true_and, and_true, false_and, and_false, if_true, if_false, ne_eq, not_true_eq_false, not_false_eq_true]
    · rw [z_B916_72]
      simp (disch := omega) only [if_pos, z_fdC, z_pdC, z_adC, z_sdC, z_lkC, z_ndC, z_gdC, z_mdC, z_cI_some', z_cV_some', z_w_ok, Int.reduceAdd, Int.reduceSub, Int.reduceMul, Int.reduceNeg, Int.reduceEq, Int.reduceLT, Int.reduceLE, Int.reduceNe, reduceIte, true_and, and_true, false_and, and_false, if_true, if_false, ne_eq, not_true_eq_false, not_false_eq_true]
      rfl
  refine ⟨σ2, ?_, o2⟩
  simp (disch := omega) only [z_E916, e1, z_fdC, z_pdC, z_adC, z_sdC, z_lkC, z_ndC, z_gdC, z_mdC, z_cI_some', z_cV_some', z_w_ok, Int.reduceAdd, Int.reduceSub, Int.reduceMul, Int.reduceNeg, Int.reduceEq, Int.reduceLT, Int.reduceLE, Int.reduceNe, reduceIte, true_and, and_true, false_and, and_false, if_true, if_false, ne_eq, not_true_eq_false, not_false_eq_true]
  refine e2.trans ?_
  rw [e3.1, e3.2]
end
