/-! The reference: what goers choose, and what the houses take. -/
/-- goer g's table: the options, with their order in the list of ways; or nothing, for want of ways -/
def m_gr (σ : z_S) (op : z_Opt) (g : Int) (nw : Bool) : Prop :=
  (nw = false ∧ (∀ m, 0 ≤ m → m < 32 → op m = none → σ 38 (32 * g + m) = -1) ∧ (∀ m q, 0 ≤ m → m < 32 → op m = some q → (0 ≤ σ 38 (32 * g + m) ∧ σ 38 (32 * g + m) < 1600) ∧ σ 39 (32 * g + m) = q.1) ∧
    (∀ m m' q q', 0 ≤ m → m < 32 → 0 ≤ m' → m' < 32 → op m = some q → op m' = some q' → (σ 38 (32 * g + m) < σ 38 (32 * g + m') ↔ q.2 < q'.2))) ∨
  (nw = true ∧ (∀ m, 0 ≤ m → m < 32 → σ 38 (32 * g + m) = -1) ∧ (∀ m q, 0 ≤ m → m < 32 → op m = some q → m = 0 ∧ q.1 = 0))
theorem m_gr_off {σ σ' : z_S} {op : z_Opt} {g b lo hi : Int} {nw : Bool} (ho : m_off b lo hi σ σ') (hlo : 40 ≤ lo ∨ hi ≤ 37) (h : m_gr σ op g nw) : m_gr σ' op g nw := by
  have e8 : ∀ i, σ' 38 i = σ 38 i := fun i => m_at ho (by omega)
  have e9 : ∀ i, σ' 39 i = σ 39 i := fun i => m_at ho (by omega)
  unfold m_gr at *
  simp only [e8, e9]
  exact h
/-- the goers that were gathered -/
def m_tab (σ X : z_S) (op : Int → z_Opt) (mn : Int → Int) (gN : Int) (gj : Int → Int) (nw : Int → Bool) : Prop :=
  σ 1 48 = gN ∧ (0 ≤ gN ∧ gN ≤ 48) ∧ ∀ g, 0 ≤ g → g < gN → z_opok (op g) ∧ (∀ m q, 0 ≤ m → m < 32 → op g m = some q → m < ((2 ^ (X 0 1).toNat : Nat) : Int)) ∧ m_gr σ (op g) g (nw g) ∧ σ 36 g = gj g ∧ (0 ≤ gj g ∧ gj g < X 0 2) ∧ mn g = X 10 (gj g)
theorem m_tab_off {σ σ' X : z_S} {op : Int → z_Opt} {mn gj : Int → Int} {gN b lo hi : Int} {nw : Int → Bool} (ho : m_off b lo hi σ σ') (hb : 49 ≤ b) (hlo : 40 ≤ lo) (h : m_tab σ X op mn gN gj nw) : m_tab σ' X op mn gN gj nw := by
  obtain ⟨h1, h2, h3⟩ := h
  refine ⟨by rw [m_at ho (by omega)]; exact h1, h2, fun g g0 g1 => ?_⟩
  obtain ⟨a1, a2, a3, a4, a5, a6⟩ := h3 g g0 g1
  exact ⟨a1, a2, m_gr_off ho (Or.inl hlo) a3, by rw [m_at ho (by omega)]; exact a4, a5, a6⟩
/-- what a goer takes for want of ways is nothing -/
theorem m_nw_ch {op : z_Opt} {t : Int → Int} {lean : Int} (ho : z_opok op) (h : ∀ m q, 0 ≤ m → m < 32 → op m = some q → m = 0 ∧ q.1 = 0) : z_ch op t lean = 0 ∧ z_pn op t lean = 0 := by
  obtain ⟨q, h1, h2, h3, -⟩ := z_ch_tk (t := t) (lean := lean) ho
  obtain ⟨e1, e2⟩ := h _ q h2 h3 h1
  refine ⟨e1, ?_⟩
  unfold z_pn
  rw [h1]
  dsimp only
  rw [e1, e2, z_pay_0]
  rfl
section
variable {σ X : z_S} {t : Int → Int} {op : z_Opt} {g : Int}
theorem m_isAhead (d : Nat) (hg : 0 ≤ g ∧ g < 48) (hw : z_wf X) (h : m_gr σ op g false) (ho : z_opok op) (hm2 : ∀ m q, 0 ≤ m → m < 32 → op m = some q → m < ((2 ^ (X 0 1).toNat : Nat) : Int)) (ha : m_ask σ X t) (ht : c_t20 t)
    {m m' : Int} {q q' : Int × Int} (h0 : 0 ≤ m) (h1 : m < 32) (h0' : 0 ≤ m') (h1' : m' < 32) (hq : op m = some q) (hq' : op m' = some q') :
    (z_ah t (σ 1 10) m q m' q' → z_ev z_hcM (d + 1) 1232 [z_R 1, z_I (32 * g + m), z_I m, z_I (32 * g + m'), z_I m'] z_hdM σ = some (z_I 1, z_hdM, σ)) ∧ (¬ z_ah t (σ 1 10) m q m' q' → z_ev z_hcM (d + 1) 1232 [z_R 1, z_I (32 * g + m), z_I m, z_I (32 * g + m'), z_I m'] z_hdM σ = some (z_I 0, z_hdM, σ)) := by
  have hP := z_pow_n hw
  rcases h with ⟨-, k1, k2, k3⟩ | ⟨h, -⟩
  · obtain ⟨w1, p1⟩ := k2 m q h0 h1 hq
    obtain ⟨w2, p2⟩ := k2 m' q' h0' h1' hq'
    have hlt := k3 m m' q q' h0 h1 h0' h1' hq hq'
    have a1 := ha.1 m h0 (hm2 m q h0 h1 hq)
    have a2 := ha.1 m' h0' (hm2 m' q' h0' h1' hq')
    have y1 := c_t20_pay ht m
    have y2 := c_t20_pay ht m'
    have r1 := ho.1 m q h0 h1 hq
    have r2 := ho.1 m' q' h0' h1' hq'
    have hE := z_E1232 (hc := z_hcM) (d := d) 1 (32 * g + m) m (32 * g + m') m' (hd := z_hdM) (σ := σ)
    unfold z_ah
    constructor
    · intro hh
      rw [hE]
      rcases Int.lt_trichotomy (q.1 + z_pay t m) (q'.1 + z_pay t m') with c | c | c
      · simp (disch := omega) only [p1, p2, a1, a2, if_neg, if_pos, z_fdM, z_pdM, z_adM, z_sdM, z_lkM, z_ndM, z_gdM, z_cI_some', z_cV_some', z_w_ok, Int.reduceAdd, Int.reduceSub, Int.reduceMul, Int.reduceNeg, Int.reduceEq, Int.reduceLT, Int.reduceLE, Int.reduceNe, reduceIte, true_and, and_true, false_and, and_false, if_true, if_false, ne_eq, not_true_eq_false, not_false_eq_true]
      · rcases Int.lt_trichotomy (z_pay t m) (z_pay t m') with c2 | c2 | c2
        · have hl : σ 1 10 ≠ 0 := fun e => by rw [if_pos e] at hh; omega
          simp (disch := omega) only [p1, p2, a1, a2, if_neg, if_pos, z_B1232_77, z_fdM, z_pdM, z_adM, z_sdM, z_lkM, z_ndM, z_gdM, z_cI_some', z_cV_some', z_w_ok, Int.reduceAdd, Int.reduceSub, Int.reduceMul, Int.reduceNeg, Int.reduceEq, Int.reduceLT, Int.reduceLE, Int.reduceNe, reduceIte, true_and, and_true, false_and, and_false, if_true, if_false, ne_eq, not_true_eq_false, not_false_eq_true]
        · have hr : q.2 < q'.2 := by
            split at hh <;> omega
          have := hlt.mpr hr
          simp (disch := omega) only [p1, p2, a1, a2, if_neg, if_pos, z_fdM, z_pdM, z_adM, z_sdM, z_lkM, z_ndM, z_gdM, z_cI_some', z_cV_some', z_w_ok, Int.reduceAdd, Int.reduceSub, Int.reduceMul, Int.reduceNeg, Int.reduceEq, Int.reduceLT, Int.reduceLE, Int.reduceNe, reduceIte, true_and, and_true, false_and, and_false, if_true, if_false, ne_eq, not_true_eq_false, not_false_eq_true]
        · have hl : σ 1 10 = 0 := Classical.byContradiction fun e => by rw [if_neg e] at hh; omega
          simp (disch := omega) only [p1, p2, a1, a2, if_neg, if_pos, z_B1232_77, z_fdM, z_pdM, z_adM, z_sdM, z_lkM, z_ndM, z_gdM, z_cI_some', z_cV_some', z_w_ok, Int.reduceAdd, Int.reduceSub, Int.reduceMul, Int.reduceNeg, Int.reduceEq, Int.reduceLT, Int.reduceLE, Int.reduceNe, reduceIte, true_and, and_true, false_and, and_false, if_true, if_false, ne_eq, not_true_eq_false, not_false_eq_true]
      · omega
    · intro hh
      rw [hE]
      rcases Int.lt_trichotomy (q.1 + z_pay t m) (q'.1 + z_pay t m') with c | c | c
      · omega
      · rcases Int.lt_trichotomy (z_pay t m) (z_pay t m') with c2 | c2 | c2
        · have hl : σ 1 10 = 0 := Classical.byContradiction fun e => by rw [if_neg e] at hh; omega
          simp (disch := omega) only [p1, p2, a1, a2, if_neg, if_pos, z_B1232_77, z_fdM, z_pdM, z_adM, z_sdM, z_lkM, z_ndM, z_gdM, z_cI_some', z_cV_some', z_w_ok, Int.reduceAdd, Int.reduceSub, Int.reduceMul, Int.reduceNeg, Int.reduceEq, Int.reduceLT, Int.reduceLE, Int.reduceNe, reduceIte, true_and, and_true, false_and, and_false, if_true, if_false, ne_eq, not_true_eq_false, not_false_eq_true]
        · have hr : ¬ q.2 < q'.2 := fun hr => hh (Or.inr ⟨c, Or.inr ⟨c2, hr⟩⟩)
          have : ¬ σ 38 (32 * g + m) < σ 38 (32 * g + m') := fun e => hr (hlt.mp e)
          simp (disch := omega) only [p1, p2, a1, a2, if_neg, if_pos, z_fdM, z_pdM, z_adM, z_sdM, z_lkM, z_ndM, z_gdM, z_cI_some', z_cV_some', z_w_ok, Int.reduceAdd, Int.reduceSub, Int.reduceMul, Int.reduceNeg, Int.reduceEq, Int.reduceLT, Int.reduceLE, Int.reduceNe, reduceIte, true_and, and_true, false_and, and_false, if_true, if_false, ne_eq, not_true_eq_false, not_false_eq_true]
        · have hl : σ 1 10 ≠ 0 := fun e => by rw [if_pos e] at hh; omega
          simp (disch := omega) only [p1, p2, a1, a2, if_neg, if_pos, z_B1232_77, z_fdM, z_pdM, z_adM, z_sdM, z_lkM, z_ndM, z_gdM, z_cI_some', z_cV_some', z_w_ok, Int.reduceAdd, Int.reduceSub, Int.reduceMul, Int.reduceNeg, Int.reduceEq, Int.reduceLT, Int.reduceLE, Int.reduceNe, reduceIte, true_and, and_true, false_and, and_false, if_true, if_false, ne_eq, not_true_eq_false, not_false_eq_true]
      · simp (disch := omega) only [p1, p2, a1, a2, if_neg, if_pos, z_fdM, z_pdM, z_adM, z_sdM, z_lkM, z_ndM, z_gdM, z_cI_some', z_cV_some', z_w_ok, Int.reduceAdd, Int.reduceSub, Int.reduceMul, Int.reduceNeg, Int.reduceEq, Int.reduceLT, Int.reduceLE, Int.reduceNe, reduceIte, true_and, and_true, false_and, and_false, if_true, if_false, ne_eq, not_true_eq_false, not_false_eq_true]
  · cases h
theorem m_choose (d : Nat) {nw : Bool} (hg : 0 ≤ g ∧ g < 48) (hw : z_wf X) (hl : m_land σ X) (h : m_gr σ op g nw) (ho : z_opok op) (hm2 : ∀ m q, 0 ≤ m → m < 32 → op m = some q → m < ((2 ^ (X 0 1).toNat : Nat) : Int)) (ha : m_ask σ X t) (ht : c_t20 t) :
    z_ev z_hcM (d + 2) 1231 [z_R 1, z_I g] z_hdM σ = some (z_I (if nw = true then -1 else z_ch op t (σ 1 10)), z_hdM, σ) := by
  have hP := z_pow_n hw
  have hsh := z_shl_n hw
  obtain ⟨⟨l1, l2, l3, l4⟩, l5, l6, l7⟩ := hl
  rw [z_E1231]
  cases nw with
  | true =>
    rw [if_pos rfl]
    rcases h with ⟨h, -⟩ | ⟨-, h38, hno⟩
    · cases h
    · have go : ∀ (j : Nat) (m : Int) (u : z_V), m + j = ((2 ^ (X 0 1).toNat : Nat) : Int) → 0 ≤ m → z_go (z_ev z_hcM (d + 1)) z_hcM 1231 4 [z_R 1, z_I g, z_I (-1), z_I m, u] [] z_hdM σ = some (z_I (-1), z_hdM, σ) := by
        intro j
        induction j with
        | zero =>
          intro m u hm h0
          rw [z_B1231_4]
          simp (disch := omega) only [if_pos, l2, hsh, z_fdM, z_pdM, z_adM, z_sdM, z_lkM, z_ndM, z_gdM, z_cI_some', z_cV_some', z_w_ok, Int.reduceAdd, Int.reduceSub, Int.reduceMul, Int.reduceNeg, Int.reduceEq, Int.reduceLT, Int.reduceLE, Int.reduceNe, reduceIte, true_and, and_true, false_and, and_false, if_true, if_false, ne_eq, not_true_eq_false, not_false_eq_true]
        | succ j ih =>
          intro m u hm h0
          have e := h38 m h0 (by omega)
          rw [z_B1231_4]
          simp (disch := omega) only [if_neg, l2, hsh, e, z_fdM, z_pdM, z_adM, z_sdM, z_lkM, z_ndM, z_gdM, z_cI_some', z_cV_some', z_w_ok, Int.reduceAdd, Int.reduceSub, Int.reduceMul, Int.reduceNeg, Int.reduceEq, Int.reduceLT, Int.reduceLE, Int.reduceNe, reduceIte, true_and, and_true, false_and, and_false, if_true, if_false, ne_eq, not_true_eq_false, not_false_eq_true]
          exact ih (m + 1) _ (by omega) (by omega)
      exact go ((2 ^ (X 0 1).toNat : Nat) : Int).toNat 0 _ (by omega) (by omega)
  | false =>
    rw [if_neg (by simp)]
    have h0 := h
    rcases h with ⟨-, k1, k2, k3⟩ | ⟨h, -⟩
    · have go : ∀ (j : Nat) (m b : Int) (u : z_V), m + j = ((2 ^ (X 0 1).toNat : Nat) : Int) → 0 ≤ m → ((b = -1 ∧ ∀ m', 0 ≤ m' → m' < m → op m' = none) ∨ (0 ≤ b ∧ b < m ∧ ∃ q, op b = some q ∧ ∀ m' q', 0 ≤ m' → m' < m → op m' = some q' → ¬ z_ah t (σ 1 10) m' q' b q)) →
          z_go (z_ev z_hcM (d + 1)) z_hcM 1231 4 [z_R 1, z_I g, z_I b, z_I m, u] [] z_hdM σ = some (z_I (z_ch op t (σ 1 10)), z_hdM, σ) := by
        intro j
        induction j with
        | zero =>
          intro m b u hm h0 hb
          have hr : b = z_ch op t (σ 1 10) := by
            rcases hb with ⟨-, hb⟩ | ⟨b0, b1, q, hq, hb⟩
            · obtain ⟨m', q', h1, h2, h3⟩ := ho.2.2
              have := hm2 m' q' h1 h2 h3
              rw [hb m' h1 (by omega)] at h3
              cases h3
            · exact (z_ch_eq ho ⟨q, hq, b0, by omega, fun m' q' h1 h2 h3 => hb m' q' h1 (by have := hm2 m' q' h1 h2 h3; omega) h3⟩).symm
          rw [z_B1231_4]
          simp (disch := omega) only [if_pos, l2, hsh, z_fdM, z_pdM, z_adM, z_sdM, z_lkM, z_ndM, z_gdM, z_cI_some', z_cV_some', z_w_ok, Int.reduceAdd, Int.reduceSub, Int.reduceMul, Int.reduceNeg, Int.reduceEq, Int.reduceLT, Int.reduceLE, Int.reduceNe, reduceIte, true_and, and_true, false_and, and_false, if_true, if_false, ne_eq, not_true_eq_false, not_false_eq_true]
          rw [hr]
        | succ j ih =>
          intro m b u hm m0 hb
          rw [z_B1231_4]
          cases hq : op m with
          | none =>
            have e := k1 m m0 (by omega) hq
            simp (disch := omega) only [if_neg, l2, hsh, e, z_fdM, z_pdM, z_adM, z_sdM, z_lkM, z_ndM, z_gdM, z_cI_some', z_cV_some', z_w_ok, Int.reduceAdd, Int.reduceSub, Int.reduceMul, Int.reduceNeg, Int.reduceEq, Int.reduceLT, Int.reduceLE, Int.reduceNe, reduceIte, true_and, and_true, false_and, and_false, if_true, if_false, ne_eq, not_true_eq_false, not_false_eq_true]
            refine ih (m + 1) b _ (by omega) (by omega) ?_
            rcases hb with ⟨e1, hb⟩ | ⟨b0, b1, q, hq1, hb⟩
            · exact Or.inl ⟨e1, fun m' h1 h2 => by
                by_cases c : m' = m
                · rw [c]; exact hq
                · exact hb m' h1 (by omega)⟩
            · refine Or.inr ⟨b0, by omega, q, hq1, fun m' q' h1 h2 h3 => ?_⟩
              by_cases c : m' = m
              · rw [c, hq] at h3; cases h3
              · exact hb m' q' h1 (by omega) h3
          | some qm =>
            obtain ⟨e, -⟩ := k2 m qm m0 (by omega) hq
            rcases hb with ⟨e1, hb⟩ | ⟨b0, b1, q, hq1, hb⟩
            · subst e1
              simp (disch := omega) only [if_neg, if_pos, l2, hsh, z_fdM, z_pdM, z_adM, z_sdM, z_lkM, z_ndM, z_gdM, z_cI_some', z_cV_some', z_w_ok, Int.reduceAdd, Int.reduceSub, Int.reduceMul, Int.reduceNeg, Int.reduceEq, Int.reduceLT, Int.reduceLE, Int.reduceNe, reduceIte, true_and, and_true, false_and, and_false, if_true, if_false, ne_eq, not_true_eq_false, not_false_eq_true]
              refine ih (m + 1) m _ (by omega) (by omega) (Or.inr ⟨m0, by omega, qm, hq, fun m' q' h1 h2 h3 hh => ?_⟩)
              by_cases c : m' = m
              · rw [c, hq] at h3; cases h3; rw [c] at hh; exact z_ah_irr hh
              · rw [hb m' h1 (by omega)] at h3; cases h3
            · obtain ⟨i1, i2⟩ := m_isAhead d hg hw h0 ho hm2 ha ht (m := m) (m' := b) m0 (by omega) b0 (by omega) hq hq1
              rcases Classical.em (z_ah t (σ 1 10) m qm b q) with c | c
              · have i := i1 c
                simp (disch := omega) only [if_neg, if_pos, l2, hsh, i, z_fdM, z_pdM, z_adM, z_sdM, z_lkM, z_ndM, z_gdM, z_cI_some', z_cV_some', z_w_ok, Int.reduceAdd, Int.reduceSub, Int.reduceMul, Int.reduceNeg, Int.reduceEq, Int.reduceLT, Int.reduceLE, Int.reduceNe, reduceIte, true_and, and_true, false_and, and_false, if_true, if_false, ne_eq, not_true_eq_false, not_false_eq_true]
                refine ih (m + 1) m _ (by omega) (by omega) (Or.inr ⟨m0, by omega, qm, hq, fun m' q' h1 h2 h3 hh => ?_⟩)
                by_cases c2 : m' = m
                · rw [c2, hq] at h3; cases h3; rw [c2] at hh; exact z_ah_irr hh
                · exact hb m' q' h1 (by omega) h3 (z_ah_trans hh c)
              · have i := i2 c
                simp (disch := omega) only [if_neg, if_pos, l2, hsh, i, z_fdM, z_pdM, z_adM, z_sdM, z_lkM, z_ndM, z_gdM, z_cI_some', z_cV_some', z_w_ok, Int.reduceAdd, Int.reduceSub, Int.reduceMul, Int.reduceNeg, Int.reduceEq, Int.reduceLT, Int.reduceLE, Int.reduceNe, reduceIte, true_and, and_true, false_and, and_false, if_true, if_false, ne_eq, not_true_eq_false, not_false_eq_true]
                refine ih (m + 1) b _ (by omega) (by omega) (Or.inr ⟨b0, by omega, q, hq1, fun m' q' h1 h2 h3 => ?_⟩)
                by_cases c2 : m' = m
                · rw [c2, hq] at h3; cases h3; rw [c2]; exact c
                · exact hb m' q' h1 (by omega) h3
      exact go ((2 ^ (X 0 1).toNat : Nat) : Int).toNat 0 (-1) _ (by omega) (by omega) (Or.inl ⟨rfl, fun m' h1 h2 => absurd h2 (by omega)⟩)
    · cases h
end
