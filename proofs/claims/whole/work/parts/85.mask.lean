/-! The reference: ways, and what is told of them. -/
section
variable {σ0 σ σ' X : z_S} {D : z_D} {nw : Int → Bool} {t : Int → Int}
/-- what goer g takes -/
theorem m_on.tk (h : m_inv σ0 X) (q : m_on σ0 σ X D nw t) {g : Int} (g0 : 0 ≤ g) (g1 : g < D.gN) (hn : nw g = false) : ∃ p, D.op g (z_ch (D.op g) t (X 0 4)) = some p ∧ (0 ≤ z_ch (D.op g) t (X 0 4) ∧ z_ch (D.op g) t (X 0 4) < 32 ∧ z_ch (D.op g) t (X 0 4) < ((2 ^ (X 0 1).toNat : Nat) : Int)) ∧ (0 ≤ p.1 ∧ p.1 ≤ 2000) ∧ (0 ≤ σ 38 (32 * g + z_ch (D.op g) t (X 0 4)) ∧ σ 38 (32 * g + z_ch (D.op g) t (X 0 4)) < 1600) ∧ σ 39 (32 * g + z_ch (D.op g) t (X 0 4)) = p.1 ∧ z_pn (D.op g) t (X 0 4) = p.1 + z_pay t (z_ch (D.op g) t (X 0 4)) := by
  obtain ⟨a, b, c, e, f, i⟩ := q.2.1.2.2 g g0 g1
  obtain ⟨c0, c1, c2, p, hp, p0, p1, -⟩ := z_ch_rng (t := t) (lean := X 0 4) a b
  rw [hn] at c
  rcases c with ⟨-, -, c, -⟩ | ⟨c, -⟩
  · obtain ⟨k1, k2⟩ := c _ p c0 c1 hp
    refine ⟨p, hp, ⟨c0, c1, c2⟩, ⟨p0, p1⟩, k1, k2, ?_⟩
    unfold z_pn
    rw [hp]
  · cases c
/-- the way that goer g takes, by its rank -/
theorem m_on.wy (h : m_inv σ0 X) (q : m_on σ0 σ X D nw t) {g : Int} (g0 : 0 ≤ g) (g1 : g < D.gN) : ∃ l : List Int, z_dgs l ∧ l.length ≤ 7 ∧ z_rk D (X 0 4) t g = z_rnk l ∧ (nw g = true → l = []) ∧ (nw g = false → (0 ≤ σ 38 (32 * g + z_ch (D.op g) t (X 0 4)) ∧ σ 38 (32 * g + z_ch (D.op g) t (X 0 4)) < 1600) ∧ m_way σ (σ 38 (32 * g + z_ch (D.op g) t (X 0 4))) l) := by
  obtain ⟨a, b, c, e, f, i⟩ := q.2.1.2.2 g g0 g1
  obtain ⟨c0, c1, c2, p, hp, p0, p1, -⟩ := z_ch_rng (t := t) (lean := X 0 4) a b
  obtain ⟨l, l1, l2, l3, l4, l5⟩ := (q.2.2.1 g g0 g1).2 _ p c0 c1 hp
  refine ⟨l, l1, l2, ?_, l4, l5⟩
  unfold z_rk
  rw [hp]
  exact l3
theorem m_on.wayOf (h : m_inv σ0 X) (q : m_on σ0 σ X D nw t) (d : Nat) (ha : m_ask σ X t) (ht : c_t20 t) {g : Int} (g0 : 0 ≤ g) (g1 : g < D.gN) : z_ev z_hcM (d + 3) 1237 [z_R 1, z_I g] z_hdM σ = some (z_I (if nw g = true then -1 else σ 38 (32 * g + z_ch (D.op g) t (X 0 4))), z_hdM, σ) := by
  have hc := q.choose h d ha ht g0 g1
  have hgn := q.gn
  cases hn : nw g with
  | true =>
    rw [hn, if_pos rfl] at hc
    rw [if_pos rfl]
    simp (disch := omega) only [z_E1237, hc, z_fdM, z_pdM, z_adM, z_sdM, z_lkM, z_ndM, z_gdM, z_cI_some', z_cV_some', z_w_ok, Int.reduceAdd, Int.reduceSub, Int.reduceMul, Int.reduceNeg, Int.reduceEq, Int.reduceLT, Int.reduceLE, Int.reduceNe, reduceIte, true_and, and_true, false_and, and_false, if_true, if_false, ne_eq, not_true_eq_false, not_false_eq_true]
  | false =>
    rw [hn, if_neg (by simp)] at hc
    rw [if_neg (by simp)]
    obtain ⟨p, h1, h2, h3, h4, h5, h6⟩ := q.tk h g0 g1 hn
    simp (disch := omega) only [z_E1237, hc, if_pos, z_fdM, z_pdM, z_adM, z_sdM, z_lkM, z_ndM, z_gdM, z_cI_some', z_cV_some', z_w_ok, Int.reduceAdd, Int.reduceSub, Int.reduceMul, Int.reduceNeg, Int.reduceEq, Int.reduceLT, Int.reduceLE, Int.reduceNe, reduceIte, true_and, and_true, false_and, and_false, if_true, if_false, ne_eq, not_true_eq_false, not_false_eq_true]
theorem z_fg_neg (hw : z_wf X) {j w : Int} (c : z_fg X j w < 0) : z_fg X j w = -1 := by
  unfold z_fg at c ⊢
  split
  · next c2 =>
    rw [if_pos c2] at c
    have hnJ := hw.2.2.1
    have := (z_gs_rng hw (n := j.toNat) (by omega)).1
    omega
  · rfl
theorem z_fg_iff (hw : z_wf X) {g : Int} (g0 : 0 ≤ g) (g1 : g < (z_Dm X (-1)).gN) (j w : Int) : ((z_Dm X (-1)).gj g = j ∧ (z_Dm X (-1)).gw g = w) ↔ z_fg X j w = g := by
  have hnJ := hw.2.2.1
  constructor
  · rintro ⟨e1, e2⟩
    obtain ⟨r1, r2, r3⟩ := z_gjw_rng hw g0 g1
    have e1' : z_gj X g = j := e1
    have e2' : z_gw X g = w := e2
    have e3 : z_gw X g = X 11 (z_gj X g) + (g - z_gs X (z_gj X g).toNat) := rfl
    rw [e1'] at e3 r1 r2
    unfold z_fg
    rw [if_pos ⟨r1, by omega⟩]
    omega
  · intro e
    have c : (0 ≤ j ∧ j < X 0 2) ∧ X 11 j ≤ w ∧ w ≤ X 12 j := by
      unfold z_fg at e
      split at e
      · next c => exact c
      · omega
    have e' : z_gs X j.toNat + w - X 11 j = g := by
      unfold z_fg at e
      rw [if_pos c] at e
      exact e
    have ej : ((j.toNat : Nat) : Int) = j := Int.toNat_of_nonneg c.1.1
    have hs := z_gs_s (X := X) j.toNat
    rw [ej] at hs
    obtain ⟨a, b⟩ := z_gj_at hw (j := j.toNat) (g := g) (by omega) (by omega) (by omega)
    rw [ej] at a b
    exact ⟨a, by show z_gw X g = w; rw [b]; omega⟩
theorem m_goerOf (h : m_inv σ0 X) (q : m_on σ0 σ X (z_Dm X (-1)) nw t) (d : Nat) (j w : Int) : z_ev z_hcM (d + 1) 1236 [z_R 1, z_I j, z_I w] z_hdM σ = some (z_I (z_fg X j w), z_hdM, σ) := by
  have hgn := q.gn
  have go : ∀ (n k : Nat), (k : Int) + n = (z_Dm X (-1)).gN → (∀ i : Int, 0 ≤ i → i < k → z_fg X j w ≠ i) → z_go (z_ev z_hcM d) z_hcM 1236 2 [z_R 1, z_I j, z_I w, z_I k] [] z_hdM σ = some (z_I (z_fg X j w), z_hdM, σ) := by
    intro n
    induction n with
    | zero =>
      intro k hk hno
      have e : z_fg X j w = -1 := by
        by_cases c : z_fg X j w < 0
        · exact z_fg_neg h.1 c
        · have := z_fg_rng h.1 c
          exact absurd rfl (hno _ this.1 (by omega))
      rw [z_B1236_2, e]
      simp (disch := omega) only [hgn.2, if_pos, z_fdM, z_pdM, z_adM, z_sdM, z_lkM, z_ndM, z_gdM, z_cI_some', z_cV_some', z_w_ok, Int.reduceAdd, Int.reduceSub, Int.reduceMul, Int.reduceNeg, Int.reduceEq, Int.reduceLT, Int.reduceLE, Int.reduceNe, reduceIte, true_and, and_true, false_and, and_false, if_true, if_false, ne_eq, not_true_eq_false, not_false_eq_true]
    | succ n ih =>
      intro k hk hno
      have hiff := z_fg_iff h.1 (g := (k : Int)) (by omega) (by omega) j w
      have e36 := (q.goer h (g := (k : Int)) (by omega) (by omega)).2.2.1
      have e37 := (q.2.2.1 k (by omega) (by omega)).1
      rw [z_B1236_2]
      by_cases c1 : (z_Dm X (-1)).gj k = j
      · by_cases c2 : (z_Dm X (-1)).gw k = w
        · rw [hiff.mp ⟨c1, c2⟩]
          simp (disch := omega) only [hgn.2, if_neg, e36, e37, c1, c2, z_fdM, z_pdM, z_adM, z_sdM, z_lkM, z_ndM, z_gdM, z_cI_some', z_cV_some', z_w_ok, Int.reduceAdd, Int.reduceSub, Int.reduceMul, Int.reduceNeg, Int.reduceEq, Int.reduceLT, Int.reduceLE, Int.reduceNe, reduceIte, true_and, and_true, false_and, and_false, if_true, if_false, ne_eq, not_true_eq_false, not_false_eq_true]
        · simp (disch := omega) only [hgn.2, if_neg, if_pos, e36, e37, c1, z_fdM, z_pdM, z_adM, z_sdM, z_lkM, z_ndM, z_gdM, z_cI_some', z_cV_some', z_w_ok, Int.reduceAdd, Int.reduceSub, Int.reduceMul, Int.reduceNeg, Int.reduceEq, Int.reduceLT, Int.reduceLE, Int.reduceNe, reduceIte, true_and, and_true, false_and, and_false, if_true, if_false, ne_eq, not_true_eq_false, not_false_eq_true]
          rw [← z_ns]
          exact ih (k + 1) (by omega) (fun i i0 i1 => by
            by_cases ci : i = k
            · rw [ci]; exact fun e => c2 (hiff.mpr e).2
            · exact hno i i0 (by omega))
      · simp (disch := omega) only [hgn.2, if_neg, if_pos, e36, z_fdM, z_pdM, z_adM, z_sdM, z_lkM, z_ndM, z_gdM, z_cI_some', z_cV_some', z_w_ok, Int.reduceAdd, Int.reduceSub, Int.reduceMul, Int.reduceNeg, Int.reduceEq, Int.reduceLT, Int.reduceLE, Int.reduceNe, reduceIte, true_and, and_true, false_and, and_false, if_true, if_false, ne_eq, not_true_eq_false, not_false_eq_true]
        rw [← z_ns]
        exact ih (k + 1) (by omega) (fun i i0 i1 => by
          by_cases ci : i = k
          · rw [ci]; exact fun e => c1 (hiff.mpr e).1
          · exact hno i i0 (by omega))
  rw [z_E1236]
  exact go (z_Dm X (-1)).gN.toNat 0 (by omega) (fun i i0 i1 => absurd i1 (by omega))
theorem m_asks (h : m_inv σ0 X) (d : Nat) (j w : Int) : ∃ σ', z_ev z_hcM (d + 6) 1238 [z_R 1, z_I j, z_I w] z_hdM σ0 = some (z_I (z_fg X j w), z_hdM, σ') ∧ (m_inv σ' X ∧ σ' 1 26 = σ0 1 26) ∧ (¬ z_fg X j w < 0 → m_on σ0 σ' X (z_Dm X (-1)) (z_nwD X (-1)) (X 7) ∧ m_ask σ' X (X 7)) := by
  have k := m_isJourney (d + 3) h.1 h.2.1 j
  by_cases c : 0 ≤ j ∧ j < X 0 2
  · rw [if_pos c] at k
    obtain ⟨σ1, e1, q1⟩ := m_gat0 h d
    obtain ⟨σ2, e2, o2, q2, a2⟩ := q1.ask h (d + 3) h.t20
    have e3 := m_goerOf h q2 (d + 4) j w
    refine ⟨σ2, ?_, q2.fin h, fun _ => ⟨q2, a2⟩⟩
    simp (disch := omega) only [z_E1238, k, if_pos, e1, e2, e3, z_fdM, z_pdM, z_adM, z_sdM, z_lkM, z_ndM, z_gdM, z_cI_some', z_cV_some', z_w_ok, Int.reduceAdd, Int.reduceSub, Int.reduceMul, Int.reduceNeg, Int.reduceEq, Int.reduceLT, Int.reduceLE, Int.reduceNe, reduceIte, true_and, and_true, false_and, and_false, if_true, if_false, ne_eq, not_true_eq_false, not_false_eq_true]
  · rw [if_neg c] at k
    have e : z_fg X j w = -1 := if_neg (fun z => c z.1)
    rw [e]
    refine ⟨σ0, ?_, ⟨h, rfl⟩, fun z => absurd (show (-1 : Int) < 0 by omega) z⟩
    simp (disch := omega) only [z_E1238, k, z_fdM, z_pdM, z_adM, z_sdM, z_lkM, z_ndM, z_gdM, z_cI_some', z_cV_some', z_w_ok, Int.reduceAdd, Int.reduceSub, Int.reduceMul, Int.reduceNeg, Int.reduceEq, Int.reduceLT, Int.reduceLE, Int.reduceNe, reduceIte, true_and, and_true, false_and, and_false, if_true, if_false, ne_eq, not_true_eq_false, not_false_eq_true]
theorem M_pains (h : m_inv σ X) (d : Nat) (j w : Int) : m_does (z_ev z_hcM (d + 20) 1240 [z_R 1, z_I j, z_I w] z_hdM σ) (s_pains X j w) := by
  have hi := m_inv_thr h
  obtain ⟨σ1, e1, ⟨i1, k1⟩, f1⟩ := m_asks hi (d + 13) j w
  rw [z_upd_same] at k1
  unfold s_pains
  by_cases c : z_fg X j w < 0
  · rw [if_pos c]
    rw [z_fg_neg h.1 c] at e1
    refine ⟨σ1, ?_, i1, k1⟩
    simp (disch := omega) only [z_E1240, e1, if_neg, z_fdM, z_pdM, z_adM, z_sdM, z_lkM, z_ndM, z_gdM, z_cI_some', z_cV_some', z_w_ok, Int.reduceAdd, Int.reduceSub, Int.reduceMul, Int.reduceNeg, Int.reduceEq, Int.reduceLT, Int.reduceLE, Int.reduceNe, reduceIte, true_and, and_true, false_and, and_false, if_true, if_false, ne_eq, not_true_eq_false, not_false_eq_true]
  · rw [if_neg c]
    obtain ⟨q, ha⟩ := f1 c
    obtain ⟨g0, g1, g2⟩ := z_fg_rng h.1 c
    have hc := q.choose hi (d + 17) ha h.t20 g0 g1
    refine ⟨σ1, ?_, i1, k1⟩
    cases hn : z_nwD X (-1) (z_fg X j w) with
    | true =>
      rw [hn, if_pos rfl] at hc
      rw [(q.nw0 g0 g1 hn (X 7) (X 0 4)).2]
      simp (disch := omega) only [z_E1240, e1, hc, if_pos, if_neg, z_fdM, z_pdM, z_adM, z_sdM, z_lkM, z_ndM, z_gdM, z_cI_some', z_cV_some', z_w_ok, Int.reduceAdd, Int.reduceSub, Int.reduceMul, Int.reduceNeg, Int.reduceEq, Int.reduceLT, Int.reduceLE, Int.reduceNe, reduceIte, true_and, and_true, false_and, and_false, if_true, if_false, ne_eq, not_true_eq_false, not_false_eq_true]
    | false =>
      rw [hn, if_neg (by simp)] at hc
      obtain ⟨p, h1, h2, h3, h4, h5, h6⟩ := q.tk hi g0 g1 hn
      have hk := ha.1 _ h2.1 h2.2.2
      have hp := c_t20_pay h.t20 (z_ch ((z_Dm X (-1)).op (z_fg X j w)) (X 7) (X 0 4))
      rw [h6]
      simp (disch := omega) only [z_E1240, e1, hc, if_pos, if_neg, h5, hk, z_fdM, z_pdM, z_adM, z_sdM, z_lkM, z_ndM, z_gdM, z_cI_some', z_cV_some', z_w_ok, Int.reduceAdd, Int.reduceSub, Int.reduceMul, Int.reduceNeg, Int.reduceEq, Int.reduceLT, Int.reduceLE, Int.reduceNe, reduceIte, true_and, and_true, false_and, and_false, if_true, if_false, ne_eq, not_true_eq_false, not_false_eq_true]
theorem z_lw_top {op : z_Opt} {own : Int} {n : Nat} (hm : ∀ m p, 0 ≤ m → m < 32 → op m = some p → m < (n : Int)) : ∀ j : Nat, n + j ≤ 32 → z_lw op t own (n + j) = z_lw op t own n
  | 0, _ => rfl
  | j + 1, h => by
    have ih := z_lw_top (own := own) hm j (by omega)
    have e : op ((n + j : Nat) : Int) = none := by
      cases ho : op ((n + j : Nat) : Int) with
      | none => rfl
      | some p => have := hm _ p (by omega) (by omega) ho; omega
    show (match op ((n + j : Nat) : Int) with | none => _ | some p => _) = _
    rw [e]
    exact ih
theorem M_room (h : m_inv σ X) (d : Nat) (j w : Int) : m_does (z_ev z_hcM (d + 20) 1241 [z_R 1, z_I j, z_I w] z_hdM σ) (s_room X j w) := by
  have hi := m_inv_thr h
  obtain ⟨σ1, e1, ⟨i1, k1⟩, f1⟩ := m_asks hi (d + 13) j w
  rw [z_upd_same] at k1
  unfold s_room
  by_cases c : z_fg X j w < 0
  · rw [if_pos c]
    rw [z_fg_neg h.1 c] at e1
    refine ⟨σ1, ?_, i1, k1⟩
    simp (disch := omega) only [z_E1241, e1, if_neg, z_fdM, z_pdM, z_adM, z_sdM, z_lkM, z_ndM, z_gdM, z_cI_some', z_cV_some', z_w_ok, Int.reduceAdd, Int.reduceSub, Int.reduceMul, Int.reduceNeg, Int.reduceEq, Int.reduceLT, Int.reduceLE, Int.reduceNe, reduceIte, true_and, and_true, false_and, and_false, if_true, if_false, ne_eq, not_true_eq_false, not_false_eq_true]
  · rw [if_neg c]
    obtain ⟨q, ha⟩ := f1 c
    obtain ⟨g0, g1, g2⟩ := z_fg_rng h.1 c
    have hc := q.choose hi (d + 17) ha h.t20 g0 g1
    refine ⟨σ1, ?_, i1, k1⟩
    cases hn : z_nwD X (-1) (z_fg X j w) with
    | true =>
      rw [hn, if_pos rfl] at hc
      rw [if_pos (Or.inl (q.nw0 g0 g1 hn (X 7) (X 0 4)).1)]
      simp (disch := omega) only [z_E1241, e1, hc, if_pos, if_neg, z_fdM, z_pdM, z_adM, z_sdM, z_lkM, z_ndM, z_gdM, z_cI_some', z_cV_some', z_w_ok, Int.reduceAdd, Int.reduceSub, Int.reduceMul, Int.reduceNeg, Int.reduceEq, Int.reduceLT, Int.reduceLE, Int.reduceNe, reduceIte, true_and, and_true, false_and, and_false, if_true, if_false, ne_eq, not_true_eq_false, not_false_eq_true]
    | false =>
      rw [hn, if_neg (by simp)] at hc
      obtain ⟨p, h1, h2, h3, h4, h5, h6⟩ := q.tk hi g0 g1 hn
      obtain ⟨ho, hm2, -⟩ := q.goer hi g0 g1
      have hgr := (q.2.1.2.2 _ g0 g1).2.2.1
      rw [hn] at hgr
      obtain ⟨-, r1, r2, -⟩ := hgr.resolve_right (fun z => absurd z.1 (by simp))
      have hP := z_pow_n h.1
      have hsh := z_shl_n h.1
      have l2 := (q.land hi).1.2.1
      have hk := ha.1 _ h2.1 h2.2.2
      have hp := c_t20_pay h.t20 (z_ch ((z_Dm X (-1)).op (z_fg X j w)) (X 7) (X 0 4))
      rw [h6]
      generalize z_fg X j w = g at *
      generalize hop : (z_Dm X (-1)).op g = op at *
      generalize hm : z_ch op (X 7) (X 0 4) = m at *
      by_cases cm : m = 0
      · rw [if_pos (Or.inl cm)]
        simp (disch := omega) only [z_E1241, e1, hc, if_pos, if_neg, z_fdM, z_pdM, z_adM, z_sdM, z_lkM, z_ndM, z_gdM, z_cI_some', z_cV_some', z_w_ok, Int.reduceAdd, Int.reduceSub, Int.reduceMul, Int.reduceNeg, Int.reduceEq, Int.reduceLT, Int.reduceLE, Int.reduceNe, reduceIte, true_and, and_true, false_and, and_false, if_true, if_false, ne_eq, not_true_eq_false, not_false_eq_true]
      · have hlwr : ∀ n : Nat, n ≤ 32 → -1 ≤ z_lw op (X 7) m n ∧ z_lw op (X 7) m n ≤ 2100 := fun n hn => z_lw_rng ho h.t20 hn
        have htop : z_lw op (X 7) m 32 = z_lw op (X 7) m (2 ^ (X 0 1).toNat) := by
          have := z_lw_top (t := X 7) (own := m) hm2 (32 - 2 ^ (X 0 1).toNat) (by omega)
          rw [show 2 ^ (X 0 1).toNat + (32 - 2 ^ (X 0 1).toNat) = 32 by omega] at this
          exact this
        have go : ∀ (n k : Nat) (u : z_V), k + n = 2 ^ (X 0 1).toNat → z_go (z_ev z_hcM (d + 19)) z_hcM 1241 46 [z_R 1, z_I j, z_I w, z_I g, z_I m, z_I (z_lw op (X 7) m k), z_I k, u] [] z_hdM σ1 = some (z_I (if m = 0 ∨ z_lw op (X 7) m 32 < 0 then -2 else z_lw op (X 7) m 32 - (p.1 + z_pay (X 7) m)), z_hdM, σ1) := by
          intro n
          induction n with
          | zero =>
            intro k u hk0
            have ek : k = 2 ^ (X 0 1).toNat := by omega
            have hlk := hlwr 32 (Nat.le_refl _)
            rw [z_B1241_46, ek, ← htop]
            by_cases cl : z_lw op (X 7) m 32 < 0
            · rw [if_pos (Or.inr cl)]
              simp (disch := omega) only [l2, hsh, if_pos, if_neg, z_fdM, z_pdM, z_adM, z_sdM, z_lkM, z_ndM, z_gdM, z_cI_some', z_cV_some', z_w_ok, Int.reduceAdd, Int.reduceSub, Int.reduceMul, Int.reduceNeg, Int.reduceEq, Int.reduceLT, Int.reduceLE, Int.reduceNe, reduceIte, true_and, and_true, false_and, and_false, if_true, if_false, ne_eq, not_true_eq_false, not_false_eq_true]
            · rw [if_neg (show ¬ (m = 0 ∨ z_lw op (X 7) m 32 < 0) by omega)]
              simp (disch := omega) only [l2, hsh, if_pos, if_neg, h5, hk, z_fdM, z_pdM, z_adM, z_sdM, z_lkM, z_ndM, z_gdM, z_cI_some', z_cV_some', z_w_ok, Int.reduceAdd, Int.reduceSub, Int.reduceMul, Int.reduceNeg, Int.reduceEq, Int.reduceLT, Int.reduceLE, Int.reduceNe, reduceIte, true_and, and_true, false_and, and_false, if_true, if_false, ne_eq, not_true_eq_false, not_false_eq_true]
              rw [show z_lw op (X 7) m 32 - p.1 - z_pay (X 7) m = z_lw op (X 7) m 32 - (p.1 + z_pay (X 7) m) by omega]
          | succ n ih =>
            intro k u hk'
            have hlk := hlwr k (by omega)
            have hkk := ha.1 (k : Int) (by omega) (by omega)
            have hpk := c_t20_pay h.t20 (k : Int)
            have hs : z_lw op (X 7) m (k + 1) = match op (k : Int) with | none => z_lw op (X 7) m k | some q => if z_and k m = m then z_lw op (X 7) m k else if z_lw op (X 7) m k < 0 ∨ q.1 + z_pay (X 7) k < z_lw op (X 7) m k then q.1 + z_pay (X 7) k else z_lw op (X 7) m k := rfl
            have next := fun u => ih (k + 1) u (by omega)
            rw [z_ns] at next
            rw [z_B1241_46]
            by_cases ca : z_and (k : Int) m = m
            · have es : z_lw op (X 7) m (k + 1) = z_lw op (X 7) m k := by
                rw [hs]
                split
                · rfl
                · rw [if_pos ca]
              rw [es] at next
              simp (disch := omega) only [l2, hsh, if_pos, if_neg, z_fdM, z_pdM, z_adM, z_sdM, z_lkM, z_ndM, z_gdM, z_cI_some', z_cV_some', z_w_ok, Int.reduceAdd, Int.reduceSub, Int.reduceMul, Int.reduceNeg, Int.reduceEq, Int.reduceLT, Int.reduceLE, Int.reduceNe, reduceIte, true_and, and_true, false_and, and_false, if_true, if_false, ne_eq, not_true_eq_false, not_false_eq_true]
              exact next _
            · cases hok : op (k : Int) with
              | none =>
                have e38 := r1 k (by omega) (by omega) hok
                rw [hok] at hs
                rw [hs] at next
                simp (disch := omega) only [l2, hsh, if_pos, if_neg, e38, z_fdM, z_pdM, z_adM, z_sdM, z_lkM, z_ndM, z_gdM, z_cI_some', z_cV_some', z_w_ok, Int.reduceAdd, Int.reduceSub, Int.reduceMul, Int.reduceNeg, Int.reduceEq, Int.reduceLT, Int.reduceLE, Int.reduceNe, reduceIte, true_and, and_true, false_and, and_false, if_true, if_false, ne_eq, not_true_eq_false, not_false_eq_true]
                exact next _
              | some pk =>
                obtain ⟨e38, e39⟩ := r2 k pk (by omega) (by omega) hok
                have p1 := ho.1 _ pk (by omega) (by omega) hok
                rw [hok] at hs
                dsimp only at hs
                rw [if_neg ca] at hs
                by_cases cl : z_lw op (X 7) m k < 0
                · rw [if_pos (Or.inl cl)] at hs
                  rw [hs] at next
                  simp (disch := omega) only [l2, hsh, if_pos, if_neg, z_B1241_116, e39, hkk, z_fdM, z_pdM, z_adM, z_sdM, z_lkM, z_ndM, z_gdM, z_cI_some', z_cV_some', z_w_ok, Int.reduceAdd, Int.reduceSub, Int.reduceMul, Int.reduceNeg, Int.reduceEq, Int.reduceLT, Int.reduceLE, Int.reduceNe, reduceIte, true_and, and_true, false_and, and_false, if_true, if_false, ne_eq, not_true_eq_false, not_false_eq_true]
                  exact next _
                · by_cases cl2 : pk.1 + z_pay (X 7) k < z_lw op (X 7) m k
                  · rw [if_pos (Or.inr cl2)] at hs
                    rw [hs] at next
                    simp (disch := omega) only [l2, hsh, if_pos, if_neg, z_B1241_116, e39, hkk, z_fdM, z_pdM, z_adM, z_sdM, z_lkM, z_ndM, z_gdM, z_cI_some', z_cV_some', z_w_ok, Int.reduceAdd, Int.reduceSub, Int.reduceMul, Int.reduceNeg, Int.reduceEq, Int.reduceLT, Int.reduceLE, Int.reduceNe, reduceIte, true_and, and_true, false_and, and_false, if_true, if_false, ne_eq, not_true_eq_false, not_false_eq_true]
                    exact next _
                  · rw [if_neg (show ¬ (z_lw op (X 7) m k < 0 ∨ pk.1 + z_pay (X 7) k < z_lw op (X 7) m k) by omega)] at hs
                    rw [hs] at next
                    simp (disch := omega) only [l2, hsh, if_pos, if_neg, e39, hkk, z_fdM, z_pdM, z_adM, z_sdM, z_lkM, z_ndM, z_gdM, z_cI_some', z_cV_some', z_w_ok, Int.reduceAdd, Int.reduceSub, Int.reduceMul, Int.reduceNeg, Int.reduceEq, Int.reduceLT, Int.reduceLE, Int.reduceNe, reduceIte, true_and, and_true, false_and, and_false, if_true, if_false, ne_eq, not_true_eq_false, not_false_eq_true]
                    exact next _
        have g0' := go (2 ^ (X 0 1).toNat) 0 z_U (by omega)
        have e0 : z_lw op (X 7) m 0 = -1 := rfl
        rw [e0] at g0'
        have g0'' : z_go (z_ev z_hcM (d + 19)) z_hcM 1241 46 [z_R 1, z_I j, z_I w, z_I g, z_I m, z_I (-1), z_I 0, z_U] [] z_hdM σ1 = _ := g0'
        rw [← g0'']
        simp (disch := omega) only [z_E1241, e1, hc, if_pos, if_neg, z_fdM, z_pdM, z_adM, z_sdM, z_lkM, z_ndM, z_gdM, z_cI_some', z_cV_some', z_w_ok, Int.reduceAdd, Int.reduceSub, Int.reduceMul, Int.reduceNeg, Int.reduceEq, Int.reduceLT, Int.reduceLE, Int.reduceNe, reduceIte, true_and, and_true, false_and, and_false, if_true, if_false, ne_eq, not_true_eq_false, not_false_eq_true]
end
