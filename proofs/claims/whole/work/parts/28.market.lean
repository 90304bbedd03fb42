/-! The class's Market: what all bring. -/
theorem z_and_le {x y : Int} (h0 : 0 ≤ x) (h1 : x < 2147483648) (h2 : 0 ≤ y) (h3 : y < 2147483648) : 0 ≤ z_and x y ∧ z_and x y ≤ x := by
  rw [z_and_nat h0 h1 h2 h3]
  have : x.toNat &&& y.toNat ≤ x.toNat := Nat.and_le_left
  omega
theorem z_and_assoc (x y z : Int) : z_and (z_and x y) z = z_and x (z_and y z) := by
  unfold z_and
  rw [Int32.ofInt_toInt, Int32.ofInt_toInt, Int32.and_assoc]
theorem z_and_z (x : Int) : z_and x 0 = 0 := by
  unfold z_and
  rw [show Int32.ofInt 0 = 0 from rfl, Int32.and_zero]
  rfl
/-- the goers' tables: options, lists, how many -/
def c_tab (σ : z_S) (op : Int → z_Opt) (mn : Int → Int) (gN cap n : Int) : Prop :=
  σ 46 0 = gN ∧ (0 ≤ gN ∧ gN ≤ 48) ∧ (0 ≤ n ∧ n ≤ 5) ∧ (0 ≤ cap ∧ cap ≤ 20) ∧ ∀ g, 0 ≤ g → g < gN →
    z_opok (op g) ∧ c_list σ (op g) g cap ∧ (∀ m q, 0 ≤ m → m < 32 → op g m = some q → m < ((2 ^ n.toNat : Nat) : Int)) ∧ σ 50 g = mn g ∧ (1 ≤ mn g ∧ mn g ≤ 99) ∧
    (∀ m, 0 ≤ m → m < 32 → op g m = none → σ 53 (g * 32 + m) = -1) ∧ (∀ m q, 0 ≤ m → m < 32 → op g m = some q → σ 53 (g * 32 + m) = q.1 ∧ σ 54 (g * 32 + m) = q.2)
theorem c_list_off {σ σ' : z_S} {op : z_Opt} {g cap lo hi : Int} (ho : z_off lo hi σ σ') (hlo : 58 ≤ lo) (h : c_list σ op g cap) : c_list σ' op g cap := by
  obtain ⟨l1, l2, l3, l4, l5, l6⟩ := h
  have e55 : ∀ i, σ' 55 i = σ 55 i := fun i => ho 55 i (by omega)
  have e56 : ∀ i, σ' 56 i = σ 56 i := fun i => ho 56 i (by omega)
  have e57 : ∀ i, σ' 57 i = σ 57 i := fun i => ho 57 i (by omega)
  unfold c_list c_ent at *
  simp only [e55, e56, e57]
  exact ⟨l1, l2, l3, l4, l5, l6⟩
theorem c_tab_off {σ σ' : z_S} {op : Int → z_Opt} {mn : Int → Int} {gN cap n lo hi : Int} (ho : z_off lo hi σ σ') (hlo : 58 ≤ lo) (h : c_tab σ op mn gN cap n) : c_tab σ' op mn gN cap n := by
  obtain ⟨h1, h2, h3, h4, h5⟩ := h
  refine ⟨by rw [ho _ _ (by omega)]; exact h1, h2, h3, h4, fun g g0 g1 => ?_⟩
  obtain ⟨a, b, c, d, e, f, k⟩ := h5 g g0 g1
  refine ⟨a, c_list_off ho hlo b, c, by rw [ho _ _ (by omega)]; exact d, e, fun m m0 m1 hm => by rw [ho _ _ (by omega)]; exact f m m0 m1 hm, fun m q m0 m1 hm => ?_⟩
  rw [ho _ _ (by omega), ho _ _ (by omega)]
  exact k m q m0 m1 hm
def z_lf (lean : Int) : Int := if lean = 0 then 255 else 257
/-- the pains of what is taken -/
noncomputable def z_pn (op : z_Opt) (t : Int → Int) (lean : Int) : Int := match op (z_ch op t lean) with
  | some q => q.1 + z_pay t (z_ch op t lean)
  | none => 0
theorem z_ch_rng {op : z_Opt} {t : Int → Int} {lean n : Int} (ho : z_opok op) (hm2 : ∀ m q, 0 ≤ m → m < 32 → op m = some q → m < ((2 ^ n.toNat : Nat) : Int)) : 0 ≤ z_ch op t lean ∧ z_ch op t lean < 32 ∧ z_ch op t lean < ((2 ^ n.toNat : Nat) : Int) ∧ ∃ q, op (z_ch op t lean) = some q ∧ 0 ≤ q.1 ∧ q.1 ≤ 2000 ∧ 0 ≤ q.2 := by
  obtain ⟨q, h1, h2, h3, -⟩ := z_ch_tk (t := t) (lean := lean) ho
  have := ho.1 _ q h2 h3 h1
  exact ⟨h2, h3, hm2 _ q h2 h3 h1, q, h1, this.1, this.2.1, this.2.2.1⟩
theorem c_ch_listed {σ : z_S} {op : z_Opt} {g cap lean : Int} {t : Int → Int} (ho : z_opok op) (hL : c_list σ op g cap) (ht : z_tcap cap t) : z_and (z_ch op t lean) (σ 57 g) = z_ch op t lean := by
  obtain ⟨l1, l2, l3, l4, l5, l6⟩ := hL
  obtain ⟨q, h1, h2, h3, h4⟩ := z_ch_tk (t := t) (lean := lean) ho
  rcases l6 t lean _ q ht h2 h3 h1 with ⟨i, i0, i1, hi⟩ | ⟨i, m', q', i0, i1, hi, hah⟩
  · obtain ⟨m2, q2, he, hr⟩ := l4 i i0 i1
    have : m2 = z_ch op t lean := by
      have e1 := hi.2.2.2
      have e2 := he.2.2.2
      have e3 := hi.2.1
      have e4 := hi.2.2.1
      have e5 := he.2.1
      have e6 := he.2.2.1
      omega
    rw [this] at hr; exact hr
  · exact absurd hah (h4 m' q' hi.2.1 hi.2.2.1 hi.1)
theorem c_mchoice {σ : z_S} (d : Nat) {op : z_Opt} {g cap n mv cp lean : Int} {t : Int → Int} (ho : z_opok op) (hg0 : 0 ≤ g) (hgN : g < σ 46 0) (hg : g < 48) (hL : c_list σ op g cap) (hs : c_sets σ t n mv cp (z_lf lean)) (htc : z_tcap cap t) (hm2 : ∀ m q, 0 ≤ m → m < 32 → op m = some q → m < ((2 ^ n.toNat : Nat) : Int)) :
    z_ev z_hcC (d + 3) 406 [z_R 58, z_I g] z_hdC σ = some (z_I (z_ch op t lean), z_hdC, σ) := by
  have h := c_choice d ho hg0 hgN hg hL hs htc hm2
  simp (disch := omega) only [z_E406, h, z_fdC, z_pdC, z_adC, z_sdC, z_lkC, z_ndC, z_gdC, z_mdC, z_cI_some', z_cV_some', z_w_ok, Int.reduceAdd, Int.reduceSub, Int.reduceMul, Int.reduceNeg, Int.reduceEq, Int.reduceLT, Int.reduceLE, Int.reduceNe, reduceIte, true_and, and_true, false_and, and_false, if_true, if_false, ne_eq, not_true_eq_false, not_false_eq_true]
theorem c_painsOf {σ : z_S} (d : Nat) {op : z_Opt} {g m n mv cp fac v : Int} {t : Int → Int} (hg0 : 0 ≤ g) (hgN : g < σ 46 0) (hg : g < 48) (hs : c_sets σ t n mv cp fac) (hm0 : 0 ≤ m) (hm1 : m < 32) (hmn : m < ((2 ^ n.toNat : Nat) : Int)) (hb : σ 53 (g * 32 + m) = v) (hv0 : 0 ≤ v) (hv : v ≤ 2000) :
    z_ev z_hcC (d + 3) 407 [z_R 58, z_I g, z_I m] z_hdC σ = some (z_I (v + z_pay t m), z_hdC, σ) := by
  obtain ⟨s3, s4, s5, s6, sT, sS, sT20, sf, sn, smv, scp⟩ := hs
  have hp := c_t20_pay sT20 m
  have h1 := c_gbaseOf (σ := σ) d hg0 hgN hg hm0 hm1
  have h2 := c_sumOf (σ := σ) (d + 1) hm0 hm1
  rw [(sS m hm0 hmn).1] at h2
  rw [hb] at h1
  simp (disch := omega) only [z_E407, h1, h2, z_fdC, z_pdC, z_adC, z_sdC, z_lkC, z_ndC, z_gdC, z_mdC, z_cI_some', z_cV_some', z_w_ok, Int.reduceAdd, Int.reduceSub, Int.reduceMul, Int.reduceNeg, Int.reduceEq, Int.reduceLT, Int.reduceLE, Int.reduceNe, reduceIte, true_and, and_true, false_and, and_false, if_true, if_false, ne_eq, not_true_eq_false, not_false_eq_true]
/-- the least pains by a mask that lacks a part of own, of the first n masks; -1: none -/
def z_lw (op : z_Opt) (t : Int → Int) (own : Int) : Nat → Int
  | 0 => -1
  | n + 1 => match op n with
    | none => z_lw op t own n
    | some q => if z_and n own = own then z_lw op t own n else if z_lw op t own n < 0 ∨ q.1 + z_pay t n < z_lw op t own n then q.1 + z_pay t n else z_lw op t own n
theorem z_lw_rng {op : z_Opt} {t : Int → Int} {own : Int} (ho : z_opok op) (ht : c_t20 t) : ∀ {n : Nat}, n ≤ 32 → -1 ≤ z_lw op t own n ∧ z_lw op t own n ≤ 2100
  | 0, _ => by unfold z_lw; omega
  | n + 1, h => by
    have ih := z_lw_rng (own := own) ho ht (n := n) (by omega)
    unfold z_lw
    split
    · exact ih
    · next q hq =>
      have h1 := ho.1 n q (by omega) (by omega) hq
      have h2 := c_t20_pay ht n
      split
      · exact ih
      · split
        · omega
        · exact ih
theorem c_leastWithout {σ : z_S} (d : Nat) {op : z_Opt} {g n mv cp fac own : Int} {t : Int → Int} (ho : z_opok op) (hg0 : 0 ≤ g) (hgN : g < σ 46 0) (hg : g < 48) (hs : c_sets σ t n mv cp fac) (hm2 : ∀ m q, 0 ≤ m → m < 32 → op m = some q → m < ((2 ^ n.toNat : Nat) : Int))
    (hnone : ∀ m, 0 ≤ m → m < 32 → op m = none → σ 53 (g * 32 + m) = -1) (hsome : ∀ m q, 0 ≤ m → m < 32 → op m = some q → σ 53 (g * 32 + m) = q.1 ∧ σ 54 (g * 32 + m) = q.2) :
    z_ev z_hcC (d + 4) 408 [z_R 58, z_I g, z_I own] z_hdC σ = some (z_I (z_lw op t own 32), z_hdC, σ) := by
  have ht20 := hs.2.2.2.2.2.2.1
  have go : ∀ (j k : Nat) (u : z_V), k + j = 32 → z_go (z_ev z_hcC (d + 3)) z_hcC 408 5 [z_R 58, z_I g, z_I own, z_I (z_lw op t own k), z_I k, u] [] z_hdC σ = some (z_I (z_lw op t own 32), z_hdC, σ) := by
    intro j
    induction j with
    | zero =>
      intro k u hk
      have : k = 32 := by omega
      subst this
      rw [z_B408_5]
      simp (disch := omega) only [if_pos, z_fdC, z_pdC, z_adC, z_sdC, z_lkC, z_ndC, z_gdC, z_mdC, z_cI_some', z_cV_some', z_w_ok, Int.reduceAdd, Int.reduceSub, Int.reduceMul, Int.reduceNeg, Int.reduceEq, Int.reduceLT, Int.reduceLE, Int.reduceNe, reduceIte, true_and, and_true, false_and, and_false, if_true, if_false, ne_eq, not_true_eq_false, not_false_eq_true]
    | succ j ih =>
      intro k u hk
      have hb := c_gbaseOf (σ := σ) (d + 1) (m := (k : Int)) hg0 hgN hg (by omega) (by omega)
      have next : ∀ v u, v = z_lw op t own (k + 1) → z_go (z_ev z_hcC (d + 3)) z_hcC 408 5 [z_R 58, z_I g, z_I own, z_I v, z_I ((k : Int) + 1), u] [] z_hdC σ = some (z_I (z_lw op t own 32), z_hdC, σ) := by
        intro v u hv
        have := ih (k + 1) u (by omega)
        rw [hv]
        exact_mod_cast this
      rw [z_B408_5]
      by_cases hown : z_and (k : Int) own = own
      · simp (disch := omega) only [if_neg, hown, z_fdC, z_pdC, z_adC, z_sdC, z_lkC, z_ndC, z_gdC, z_mdC, z_cI_some', z_cV_some', z_w_ok, Int.reduceAdd, Int.reduceSub, Int.reduceMul, Int.reduceNeg, Int.reduceEq, Int.reduceLT, Int.reduceLE, Int.reduceNe, reduceIte, true_and, and_true, false_and, and_false, if_true, if_false, ne_eq, not_true_eq_false, not_false_eq_true]
        refine next _ _ ?_
        show _ = (match op (k : Int) with | none => _ | some q => _)
        cases hq : op (k : Int) with
        | none => rfl
        | some q => dsimp only; rw [if_pos hown]
      · cases hq : op (k : Int) with
        | none =>
          rw [hnone k (by omega) (by omega) hq] at hb
          simp (disch := omega) only [if_neg, hown, hb, z_fdC, z_pdC, z_adC, z_sdC, z_lkC, z_ndC, z_gdC, z_mdC, z_cI_some', z_cV_some', z_w_ok, Int.reduceAdd, Int.reduceSub, Int.reduceMul, Int.reduceNeg, Int.reduceEq, Int.reduceLT, Int.reduceLE, Int.reduceNe, reduceIte, true_and, and_true, false_and, and_false, if_true, if_false, ne_eq, not_true_eq_false, not_false_eq_true]
          refine next _ _ ?_
          show _ = (match op (k : Int) with | none => _ | some q => _)
          rw [hq]
        | some q =>
          have hr := ho.1 k q (by omega) (by omega) hq
          have hp := c_painsOf (σ := σ) d (op := op) hg0 hgN hg hs (m := (k : Int)) (by omega) (by omega) (hm2 k q (by omega) (by omega) hq) (hsome k q (by omega) (by omega) hq).1 hr.1 hr.2.1
          rw [(hsome k q (by omega) (by omega) hq).1] at hb
          have hlw : z_lw op t own (k + 1) = if z_lw op t own k < 0 ∨ q.1 + z_pay t k < z_lw op t own k then q.1 + z_pay t k else z_lw op t own k := by
            show (match op (k : Int) with | none => _ | some q => _) = _
            rw [hq]; dsimp only; rw [if_neg hown]
          by_cases c1 : z_lw op t own k < 0
          · simp (disch := omega) only [if_neg, if_pos, hown, hb, hp, z_fdC, z_pdC, z_adC, z_sdC, z_lkC, z_ndC, z_gdC, z_mdC, z_cI_some', z_cV_some', z_w_ok, Int.reduceAdd, Int.reduceSub, Int.reduceMul, Int.reduceNeg, Int.reduceEq, Int.reduceLT, Int.reduceLE, Int.reduceNe, reduceIte, true_and, and_true, false_and, and_false, if_true, if_false, ne_eq, not_true_eq_false, not_false_eq_true]
            refine next _ _ ?_
            rw [hlw, if_pos (Or.inl c1)]
          · by_cases c2 : q.1 + z_pay t k < z_lw op t own k
            · simp (disch := omega) only [if_neg, if_pos, hown, hb, hp, z_fdC, z_pdC, z_adC, z_sdC, z_lkC, z_ndC, z_gdC, z_mdC, z_cI_some', z_cV_some', z_w_ok, Int.reduceAdd, Int.reduceSub, Int.reduceMul, Int.reduceNeg, Int.reduceEq, Int.reduceLT, Int.reduceLE, Int.reduceNe, reduceIte, true_and, and_true, false_and, and_false, if_true, if_false, ne_eq, not_true_eq_false, not_false_eq_true]
              refine next _ _ ?_
              rw [hlw, if_pos (Or.inr c2)]
            · simp (disch := omega) only [if_neg, if_pos, hown, hb, hp, z_fdC, z_pdC, z_adC, z_sdC, z_lkC, z_ndC, z_gdC, z_mdC, z_cI_some', z_cV_some', z_w_ok, Int.reduceAdd, Int.reduceSub, Int.reduceMul, Int.reduceNeg, Int.reduceEq, Int.reduceLT, Int.reduceLE, Int.reduceNe, reduceIte, true_and, and_true, false_and, and_false, if_true, if_false, ne_eq, not_true_eq_false, not_false_eq_true]
              refine next _ _ ?_
              rw [hlw, if_neg (by omega)]
  simp (disch := omega) only [z_E408, z_fdC, z_pdC, z_adC, z_sdC, z_lkC, z_ndC, z_gdC, z_mdC, z_cI_some', z_cV_some', z_w_ok, Int.reduceAdd, Int.reduceSub, Int.reduceMul, Int.reduceNeg, Int.reduceEq, Int.reduceLT, Int.reduceLE, Int.reduceNe, reduceIte, true_and, and_true, false_and, and_false, if_true, if_false, ne_eq, not_true_eq_false, not_false_eq_true]
  exact go 32 0 _ (by omega)
