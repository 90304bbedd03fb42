/-! Study: the climb. -/
/-- the first n slots, one after the other -/
noncomputable def z_rn (D : z_D) (lean : Int) (share : Int → Int) (side cap : Int) : Nat → (Int → Int) × Int → (Int → Int) × Int
  | 0, q => q
  | n + 1, q => z_st1 D lean share side cap n (z_rn D lean share side cap n q)
/-- after n rounds -/
noncomputable def z_it (D : z_D) (lean : Int) (share : Int → Int) (side cap : Int) (t : Int → Int) : Nat → (Int → Int) × Int
  | 0 => (t, 0)
  | n + 1 => z_rn D lean share side cap 5 (z_it D lean share side cap t n)
/-- round n is the first with no change -/
def z_stops (D : z_D) (lean : Int) (share : Int → Int) (side cap : Int) (t : Int → Int) (n : Nat) : Prop := n ≤ 475200 ∧ (z_it D lean share side cap t (n + 1)).2 = (z_it D lean share side cap t n).2 ∧ ∀ i, i < n → (z_it D lean share side cap t i).2 < (z_it D lean share side cap t (i + 1)).2
section
variable {D : z_D} {lean side cap : Int} {share : Int → Int}
theorem z_st1_ok {k : Int} {q : (Int → Int) × Int} (hk : 0 ≤ k ∧ k < 5) (hc : 0 ≤ cap) (ht : z_tcap cap q.1) : z_tcap cap (z_st1 D lean share side cap k q).1 ∧ q.2 ≤ (z_st1 D lean share side cap k q).2 ∧ (z_st1 D lean share side cap k q).2 - q.2 ≤ z_brt D.op share D.gN lean side (z_st1 D lean share side cap k q).1 - z_brt D.op share D.gN lean side q.1 ∧ ((z_st1 D lean share side cap k q).2 = q.2 → z_st1 D lean share side cap k q = q) := by
  unfold z_st1
  have htk := ht k hk.1 hk.2
  have hN : (cap + 1).toNat = cap.toNat + 1 := by omega
  split
  · next c =>
    have ham := z_am_lt (F := z_Ln D lean share side q.1 k) (n := (cap + 1).toNat) (by omega)
    have hgr : z_gr (z_Ln D lean share side q.1 k) (cap + 1).toNat = z_Ln D lean share side q.1 k (z_am (z_Ln D lean share side q.1 k) (cap + 1).toNat) := by rw [hN]; rfl
    have hle := (z_am_first (F := z_Ln D lean share side q.1 k) (n := (cap + 1).toNat) (i := (q.1 k).toNat) (by omega)).1
    rw [hgr] at c
    refine ⟨z_ts_cap ht (by omega) (by omega), by show q.2 ≤ q.2 + 1; omega, ?_, fun h => absurd h (by show ¬ q.2 + 1 = q.2; omega)⟩
    have e : z_brt D.op share D.gN lean side q.1 = z_Ln D lean share side q.1 k (q.1 k).toNat := by
      unfold z_Ln
      have : z_ts q.1 k ((q.1 k).toNat : Int) = q.1 := by
        funext i
        unfold z_ts
        split
        · next hi => subst hi; omega
        · rfl
      rw [this]
    rw [e]
    show q.2 + 1 - q.2 ≤ z_Ln D lean share side q.1 k (z_am (z_Ln D lean share side q.1 k) (cap + 1).toNat) - _
    have := c.2
    omega
  · exact ⟨ht, Int.le_refl _, by omega, fun _ => rfl⟩
theorem z_rn_ok (hc : 0 ≤ cap) : ∀ {n : Nat} {q : (Int → Int) × Int}, n ≤ 5 → z_tcap cap q.1 → z_tcap cap (z_rn D lean share side cap n q).1 ∧ q.2 ≤ (z_rn D lean share side cap n q).2 ∧ (z_rn D lean share side cap n q).2 - q.2 ≤ z_brt D.op share D.gN lean side (z_rn D lean share side cap n q).1 - z_brt D.op share D.gN lean side q.1 ∧ ((z_rn D lean share side cap n q).2 = q.2 → z_rn D lean share side cap n q = q)
  | 0, q, _, ht => ⟨ht, Int.le_refl _, by unfold z_rn; omega, fun _ => rfl⟩
  | n + 1, q, hn, ht => by
    obtain ⟨a1, a2, a3, a4⟩ := z_rn_ok hc (n := n) (q := q) (by omega) ht
    obtain ⟨b1, b2, b3, b4⟩ := z_st1_ok (D := D) (lean := lean) (share := share) (side := side) (k := n) (q := z_rn D lean share side cap n q) ⟨by omega, by omega⟩ hc a1
    show z_tcap cap (z_st1 D lean share side cap n (z_rn D lean share side cap n q)).1 ∧ q.2 ≤ (z_st1 D lean share side cap n (z_rn D lean share side cap n q)).2 ∧ (z_st1 D lean share side cap n (z_rn D lean share side cap n q)).2 - q.2 ≤ z_brt D.op share D.gN lean side (z_st1 D lean share side cap n (z_rn D lean share side cap n q)).1 - z_brt D.op share D.gN lean side q.1 ∧ ((z_st1 D lean share side cap n (z_rn D lean share side cap n q)).2 = q.2 → z_st1 D lean share side cap n (z_rn D lean share side cap n q) = q)
    refine ⟨b1, by omega, by omega, fun h => ?_⟩
    rw [b4 (by omega), a4 (by omega)]
variable {t : Int → Int}
theorem z_it_ok (hc : 0 ≤ cap) (ht : z_tcap cap t) : ∀ n : Nat, z_tcap cap (z_it D lean share side cap t n).1 ∧ 0 ≤ (z_it D lean share side cap t n).2 ∧ (z_it D lean share side cap t n).2 ≤ z_brt D.op share D.gN lean side (z_it D lean share side cap t n).1 - z_brt D.op share D.gN lean side t
  | 0 => ⟨ht, by unfold z_it; omega, by show (0 : Int) ≤ z_brt D.op share D.gN lean side t - z_brt D.op share D.gN lean side t; omega⟩
  | n + 1 => by
    obtain ⟨a1, a2, a3⟩ := z_it_ok hc ht n
    obtain ⟨b1, b2, b3, -⟩ := z_rn_ok (D := D) (lean := lean) (share := share) (side := side) hc (n := 5) (Nat.le_refl 5) a1
    show z_tcap cap (z_rn D lean share side cap 5 (z_it D lean share side cap t n)).1 ∧ 0 ≤ (z_rn D lean share side cap 5 (z_it D lean share side cap t n)).2 ∧ (z_rn D lean share side cap 5 (z_it D lean share side cap t n)).2 ≤ z_brt D.op share D.gN lean side (z_rn D lean share side cap 5 (z_it D lean share side cap t n)).1 - z_brt D.op share D.gN lean side t
    exact ⟨b1, by omega, by omega⟩
theorem z_brt_475 (hg : 0 ≤ D.gN ∧ D.gN ≤ 48) (hs : ∀ g, 0 ≤ g → g < D.gN → 0 ≤ share g ∧ share g ≤ 99) (ht : c_t20 t) : 0 ≤ z_brt D.op share D.gN lean side t ∧ z_brt D.op share D.gN lean side t ≤ 475200 := by
  have h := z_sm_rng (n := D.gN.toNat) (f := fun g => share g * z_pay t (z_and (z_ch (D.op g) t lean) side)) (b := 9900) (fun g g0 g1 => by
    have h1 := hs g g0 (by omega)
    have h2 := c_t20_pay ht (z_and (z_ch (D.op g) t lean) side)
    exact z_mul_rng h1.1 h1.2 h2.1 h2.2)
  unfold z_brt
  omega
theorem z_stops_ex (hg : 0 ≤ D.gN ∧ D.gN ≤ 48) (hs : ∀ g, 0 ≤ g → g < D.gN → 0 ≤ share g ∧ share g ≤ 99) (hc : 0 ≤ cap ∧ cap ≤ 20) (ht : z_tcap cap t) : ∃ n, z_stops D lean share side cap t n := by
  have mono : ∀ i, (z_it D lean share side cap t i).2 ≤ (z_it D lean share side cap t (i + 1)).2 := fun i => (z_rn_ok hc.1 (Nat.le_refl 5) (z_it_ok hc.1 ht i).1).2.1
  have go : ∀ (j k : Nat), k + j = 475201 → (∀ i, i < k → (z_it D lean share side cap t i).2 < (z_it D lean share side cap t (i + 1)).2) → ∃ n, z_stops D lean share side cap t n := by
    intro j
    induction j with
    | zero =>
      intro k hk hi
      have lo : ∀ i : Nat, i ≤ k → (i : Int) ≤ (z_it D lean share side cap t i).2 := by
        intro i
        induction i with
        | zero => intro _; exact Int.le_refl 0
        | succ i ih =>
          intro h
          have h1 := ih (by omega)
          have h2 := hi i (by omega)
          omega
      have h1 := lo k (Nat.le_refl k)
      have h2 := z_it_ok (D := D) (lean := lean) (share := share) (side := side) hc.1 ht k
      have h3 := z_brt_475 (lean := lean) (side := side) hg hs (z_tcap_20 hc.2 h2.1)
      have h4 := z_brt_475 (lean := lean) (side := side) hg hs (z_tcap_20 hc.2 ht)
      omega
    | succ j ih =>
      intro k hk hi
      by_cases c : (z_it D lean share side cap t (k + 1)).2 = (z_it D lean share side cap t k).2
      · exact ⟨k, by omega, c, hi⟩
      · refine ih (k + 1) (by omega) (fun i h => ?_)
        by_cases hik : i = k
        · subst hik; have := mono i; omega
        · exact hi i (by omega)
  exact go 475201 0 (by omega) (fun i h => by omega)
end
section
variable {σ X : z_S} {L s lean : Int} {D : z_D} {share : Int → Int}
/-- a round of climbOf -/
theorem c_round (h : c_rd σ X L s D lean share) (d : Nat) {w side i : Int} {q : (Int → Int) × Int} (hs : 0 ≤ side ∧ side < 32) (ht : z_tcap (X 0 3) q.1) (hq : 0 ≤ q.2 ∧ q.2 ≤ 480000000) (hi : 0 ≤ i ∧ i < 1000000) (hA : ∀ k : Int, 0 ≤ k → k < 5 → σ 66 k = q.1 k) (u v : z_V) :
    ∃ σ' u' v', z_go (z_ev z_hcC (d + 5)) z_hcC 909 44 [z_R 65, z_I w, z_I side, z_I q.2, z_I 1, z_I i, u, v] [] z_hdC σ = z_go (z_ev z_hcC (d + 5)) z_hcC 909 44 [z_R 65, z_I w, z_I side, z_I (z_rn D lean share side (X 0 3) 5 q).2, z_I (if (z_rn D lean share side (X 0 3) 5 q).2 = q.2 then 0 else 1), z_I (i + 1), u', v'] [] z_hdC σ' ∧ z_off 59 75 σ σ' ∧ c_rd σ' X L s D lean share ∧ ∀ k : Int, 0 ≤ k → k < 5 → σ' 66 k = (z_rn D lean share side (X 0 3) 5 q).1 k := by
  have hcp := h.cp
  obtain ⟨σ2, e2, o2, h2, f2⟩ := z_for (fun k x => z_go (z_ev z_hcC (d + 5)) z_hcC 909 62 [z_R 65, z_I w, z_I side, z_I (z_rn D lean share side (X 0 3) k q).2, z_I 1, z_I i, z_I q.2, z_I k] [] z_hdC x) (fun x => z_go (z_ev z_hcC (d + 5)) z_hcC 909 44 [z_R 65, z_I w, z_I side, z_I (z_rn D lean share side (X 0 3) 5 q).2, z_I (if (z_rn D lean share side (X 0 3) 5 q).2 = q.2 then 0 else 1), z_I (i + 1), z_I q.2, z_I 5] [] z_hdC x)
    (fun k x => z_off 59 75 σ x ∧ c_rd x X L s D lean share ∧ ∀ j : Int, 0 ≤ j → j < 5 → x 66 j = (z_rn D lean share side (X 0 3) k q).1 j) 5 (s := σ) ⟨z_off_refl, h, hA⟩ (fun k x hk ⟨ho, hr, hz⟩ => by
      obtain ⟨a1, a2, a3, -⟩ := z_rn_ok (D := D) (lean := lean) (share := share) (side := side) hcp.1 (n := k) (q := q) (by omega) ht
      have hb1 := h.brt a1 side
      have hb2 := h.brt ht side
      have hbit := z_bit (m := side) (k := k) hs.1 (by omega) (by omega) (by omega)
      have hst : z_rn D lean share side (X 0 3) (k + 1) q = z_st1 D lean share side (X 0 3) k (z_rn D lean share side (X 0 3) k q) := rfl
      by_cases c : z_bt side k = true
      · obtain ⟨s2, l1, l2, l3, l4⟩ := c_lift hr d (k := k) (side := side) a1 ⟨by omega, by omega⟩ hs hz
        rw [if_pos c] at hbit
        by_cases c2 : z_Ln D lean share side (z_rn D lean share side (X 0 3) k q).1 k ((z_rn D lean share side (X 0 3) k q).1 k).toNat ≠ z_gr (z_Ln D lean share side (z_rn D lean share side (X 0 3) k q).1 k) (X 0 3 + 1).toNat
        · have e : z_st1 D lean share side (X 0 3) k (z_rn D lean share side (X 0 3) k q) = (z_ts (z_rn D lean share side (X 0 3) k q).1 k (z_am (z_Ln D lean share side (z_rn D lean share side (X 0 3) k q).1 k) (X 0 3 + 1).toNat), (z_rn D lean share side (X 0 3) k q).2 + 1) := if_pos ⟨c, c2⟩
          rw [if_pos c2] at l1
          refine ⟨s2, ?_, z_off_trans ho l2, l3, fun j j0 j1 => by rw [l4 j j0 j1, if_pos c2, hst, e]⟩
          rw [hst, e, z_B909_62]
          simp (disch := omega) only [hbit, if_neg, l1, z_ns, z_fdC, z_pdC, z_adC, z_sdC, z_lkC, z_ndC, z_gdC, z_mdC, z_cI_some', z_cV_some', z_w_ok, Int.reduceAdd, Int.reduceSub, Int.reduceMul, Int.reduceNeg, Int.reduceEq, Int.reduceLT, Int.reduceLE, Int.reduceNe, reduceIte, true_and, and_true, false_and, and_false, if_true, if_false, ne_eq, not_true_eq_false, not_false_eq_true]
        · have e : z_st1 D lean share side (X 0 3) k (z_rn D lean share side (X 0 3) k q) = z_rn D lean share side (X 0 3) k q := if_neg (fun z => c2 z.2)
          rw [if_neg c2] at l1
          refine ⟨s2, ?_, z_off_trans ho l2, l3, fun j j0 j1 => by rw [l4 j j0 j1, if_neg c2, hst, e]⟩
          rw [hst, e, z_B909_62]
          simp (disch := omega) only [hbit, if_neg, if_pos, l1, z_ns, Int.add_zero, z_fdC, z_pdC, z_adC, z_sdC, z_lkC, z_ndC, z_gdC, z_mdC, z_cI_some', z_cV_some', z_w_ok, Int.reduceAdd, Int.reduceSub, Int.reduceMul, Int.reduceNeg, Int.reduceEq, Int.reduceLT, Int.reduceLE, Int.reduceNe, reduceIte, true_and, and_true, false_and, and_false, if_true, if_false, ne_eq, not_true_eq_false, not_false_eq_true]
      · rw [if_neg c] at hbit
        have e : z_st1 D lean share side (X 0 3) k (z_rn D lean share side (X 0 3) k q) = z_rn D lean share side (X 0 3) k q := if_neg (fun z => c z.1)
        refine ⟨x, ?_, ho, hr, fun j j0 j1 => by rw [hz j j0 j1, hst, e]⟩
        rw [hst, e, z_B909_62]
        simp (disch := omega) only [hbit, if_neg, if_pos, z_ns, Int.add_zero, z_fdC, z_pdC, z_adC, z_sdC, z_lkC, z_ndC, z_gdC, z_mdC, z_cI_some', z_cV_some', z_w_ok, Int.reduceAdd, Int.reduceSub, Int.reduceMul, Int.reduceNeg, Int.reduceEq, Int.reduceLT, Int.reduceLE, Int.reduceNe, reduceIte, true_and, and_true, false_and, and_false, if_true, if_false, ne_eq, not_true_eq_false, not_false_eq_true]) (fun x ⟨ho, hr, hz⟩ => by
      rw [z_B909_62]
      by_cases c : (z_rn D lean share side (X 0 3) 5 q).2 = q.2
      · simp (disch := omega) only [if_pos, c, z_fdC, z_pdC, z_adC, z_sdC, z_lkC, z_ndC, z_gdC, z_mdC, z_cI_some', z_cV_some', z_w_ok, Int.reduceAdd, Int.reduceSub, Int.reduceMul, Int.reduceNeg, Int.reduceEq, Int.reduceLT, Int.reduceLE, Int.reduceNe, reduceIte, true_and, and_true, false_and, and_false, if_true, if_false, ne_eq, not_true_eq_false, not_false_eq_true]
        rfl
      · simp (disch := omega) only [if_pos, if_neg, c, z_fdC, z_pdC, z_adC, z_sdC, z_lkC, z_ndC, z_gdC, z_mdC, z_cI_some', z_cV_some', z_w_ok, Int.reduceAdd, Int.reduceSub, Int.reduceMul, Int.reduceNeg, Int.reduceEq, Int.reduceLT, Int.reduceLE, Int.reduceNe, reduceIte, true_and, and_true, false_and, and_false, if_true, if_false, ne_eq, not_true_eq_false, not_false_eq_true]
        rfl)
  refine ⟨σ2, z_I q.2, z_I 5, ?_, o2, h2, f2⟩
  rw [z_B909_44]
  simp (disch := omega) only [if_neg, z_fdC, z_pdC, z_adC, z_sdC, z_lkC, z_ndC, z_gdC, z_mdC, z_cI_some', z_cV_some', z_w_ok, Int.reduceAdd, Int.reduceSub, Int.reduceMul, Int.reduceNeg, Int.reduceEq, Int.reduceLT, Int.reduceLE, Int.reduceNe, reduceIte, true_and, and_true, false_and, and_false, if_true, if_false, ne_eq, not_true_eq_false, not_false_eq_true]
  exact e2
/-- Study.climbOf -/
theorem c_climbOf (h : c_rd σ X L s D lean share) (d : Nat) {w : Int} {n : Nat} (hn : z_stops D lean share (z_side X w s) (X 0 3) (X 7) n) :
    ∃ σ', z_ev z_hcC (d + 6) 909 [z_R 65, z_I w] z_hdC σ = some (z_I (z_it D lean share (z_side X w s) (X 0 3) (X 7) n).2, z_hdC, σ') ∧ z_off 59 75 σ σ' ∧ c_rd σ' X L s D lean share ∧ (∀ k : Int, 0 ≤ k → k < 5 → σ' 66 k = (z_it D lean share (z_side X w s) (X 0 3) (X 7) n).1 k) ∧ σ' 65 2 = z_brt D.op share D.gN lean (z_side X w s) (z_it D lean share (z_side X w s) (X 0 3) (X 7) n).1 := by
  have hoff : z_off 66 66 σ (z_cpy σ (L + 3) 0 66 0 5) := fun a b h => by rw [z_cpy_at, if_neg (by omega)]
  have h0 := c_rd_off hoff (by omega) h
  have hsd := h0.side (d + 2) w
  have hsr := h.sr w
  have hcp := h.cp
  generalize z_side X w s = side at hn hsd hsr ⊢
  obtain ⟨hn1, hn2, hn3⟩ := hn
  have hit : ∀ i, z_tcap (X 0 3) (z_it D lean share side (X 0 3) (X 7) i).1 ∧ 0 ≤ (z_it D lean share side (X 0 3) (X 7) i).2 ∧ (z_it D lean share side (X 0 3) (X 7) i).2 ≤ 480000000 := fun i => by
    obtain ⟨a1, a2, a3⟩ := z_it_ok (D := D) (lean := lean) (share := share) (side := side) hcp.1 h.tc i
    have h1 := h.brt a1 side
    have h2 := h.brt h.tc side
    exact ⟨a1, a2, by omega⟩
  obtain ⟨u1, σ1, e1, o1, h1, f1⟩ := z_foru (U := z_V × z_V) (fun i u x => z_go (z_ev z_hcC (d + 5)) z_hcC 909 44 [z_R 65, z_I w, z_I side, z_I (z_it D lean share side (X 0 3) (X 7) i).2, z_I 1, z_I i, u.1, u.2] [] z_hdC x) (fun u x => z_go (z_ev z_hcC (d + 5)) z_hcC 909 44 [z_R 65, z_I w, z_I side, z_I (z_it D lean share side (X 0 3) (X 7) n).2, z_I 1, z_I n, u.1, u.2] [] z_hdC x)
    (fun i x => z_off 59 75 σ x ∧ c_rd x X L s D lean share ∧ ∀ j : Int, 0 ≤ j → j < 5 → x 66 j = (z_it D lean share side (X 0 3) (X 7) i).1 j) n (u := (z_U, z_U)) (s := z_cpy σ (L + 3) 0 66 0 5) ⟨z_off_le hoff (by omega) (by omega), h0, fun j j0 j1 => by
      rw [z_cpy_at, if_pos (by omega), show 0 + (j - 0) = j by omega]; exact h.tolls j0 j1⟩ (fun i u x hi ⟨ho, hr, hz⟩ => by
      obtain ⟨x', u', v', k1, k2, k3, k4⟩ := c_round hr d (w := w) (side := side) (i := i) (q := z_it D lean share side (X 0 3) (X 7) i) hsr (hit i).1 (hit i).2 (by omega) hz u.1 u.2
      refine ⟨(u', v'), x', ?_, z_off_trans ho k2, k3, k4⟩
      rw [if_neg (by have := hn3 i hi; show ¬ (z_it D lean share side (X 0 3) (X 7) (i + 1)).2 = _; omega)] at k1
      rw [z_ns]
      exact k1) (fun u x _ => rfl)
  obtain ⟨σ2, u', v', k1, k2, k3, k4⟩ := c_round h1 d (w := w) (side := side) (i := n) (q := z_it D lean share side (X 0 3) (X 7) n) hsr (hit n).1 (hit n).2 (by omega) f1 u1.1 u1.2
  have hrn : z_rn D lean share side (X 0 3) 5 (z_it D lean share side (X 0 3) (X 7) n) = z_it D lean share side (X 0 3) (X 7) n := (z_rn_ok hcp.1 (Nat.le_refl 5) (hit n).1).2.2.2 hn2
  rw [hrn, if_pos rfl] at k1
  rw [hrn] at k4
  obtain ⟨σ3, m1, m2, m3⟩ := k3.fix (d + 2) (a1 := 66) (by unfold z_arr5; omega) (hit n).1 k4
  have q1 := m3.brought (d + 2) hsr
  have hoff2 : z_off 65 65 σ3 (z_upd σ3 65 2 (z_brt D.op share D.gN lean side (z_it D lean share side (X 0 3) (X 7) n).1)) := z_off_upd (by omega) (by omega)
  refine ⟨_, ?_, z_off_trans o1 (z_off_trans k2 (z_off_trans (z_off_le m2 (by omega) (by omega)) (z_off_le hoff2 (by omega) (by omega)))), c_rd_off hoff2 (by omega) m3.rd, fun k k0 k1 => by rw [z_oat hoff2 (by omega), z_oat m2 (by omega)]; exact k4 k k0 k1, z_upd_same⟩
  have hl2 : ∀ {β : Type} {σ : z_S} {k : z_S → Option β}, z_cp z_hdC σ (L + 3) 0 66 0 5 k = k (z_cpy σ (L + 3) 0 66 0 5) := fun {_ _ _} => by
    rcases h.hL with rfl | rfl <;> exact if_pos ⟨rfl, rfl, by decide, by decide, by decide, by decide, by decide⟩
  simp (disch := omega) only [z_E909, z_B909_124, h.roads, c_LC h.hL, hl2, h0.roads, hsd, z_fdC, z_pdC, z_adC, z_sdC, z_lkC, z_ndC, z_gdC, z_mdC, z_cI_some', z_cV_some', z_w_ok, Int.reduceAdd, Int.reduceSub, Int.reduceMul, Int.reduceNeg, Int.reduceEq, Int.reduceLT, Int.reduceLE, Int.reduceNe, reduceIte, true_and, and_true, false_and, and_false, if_true, if_false, ne_eq, not_true_eq_false, not_false_eq_true]
  refine e1.trans ?_
  refine k1.trans ?_
  rw [z_B909_44]
  simp (disch := omega) only [z_B909_124, if_pos, m1, q1, ite_self, z_fdC, z_pdC, z_adC, z_sdC, z_lkC, z_ndC, z_gdC, z_mdC, z_cI_some', z_cV_some', z_w_ok, Int.reduceAdd, Int.reduceSub, Int.reduceMul, Int.reduceNeg, Int.reduceEq, Int.reduceLT, Int.reduceLE, Int.reduceNe, reduceIte, true_and, and_true, false_and, and_false, if_true, if_false, ne_eq, not_true_eq_false, not_false_eq_true]
  try rfl
end
