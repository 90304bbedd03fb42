/-! The reference: answers, a round and all. -/
section
variable {σ0 σ σ' σ'' X : z_S} {D : z_D} {nw : Int → Bool} {t t' T : Int → Int} {l : List Int}
theorem m_mv (d : Nat) (hw : z_wf X) (h8 : σ 1 8 = X 0 1) {n f c i : Int} (hc : 0 ≤ c ∧ c ≤ 60) (ht : ∀ k, 0 ≤ k → k < 5 → σ 8 k = t k) (hb : ∀ k, 0 ≤ k → k < 5 → σ 45 k = t' k) :
    ∃ (σ' : z_S) (b : Int), z_go (z_ev z_hcM d) z_hcM 1270 102 [z_R 1, z_I n, z_I f, z_I c, z_I i, z_I 0, z_I 0] [] z_hdM σ = z_go (z_ev z_hcM d) z_hcM 1270 172 [z_R 1, z_I n, z_I f, z_I c, z_I i, z_I b, z_I (X 0 1)] [z_I (if b = 0 then c + 1 else 0)] z_hdM σ' ∧ (b = 0 ↔ ∀ j, 0 ≤ j → j < X 0 1 → t j = t' j) ∧ (∀ a j, a ≠ 8 → σ' a j = σ a j) ∧ ∀ k, 0 ≤ k → k < 5 → σ' 8 k = if k < X 0 1 then t' k else t k := by
  have hn := hw.2.1
  have go : ∀ (m k : Nat) (b : Int) (x : z_S), (k : Int) + m = X 0 1 → (b = 0 ∨ b = 1) → (b = 0 ↔ ∀ j, 0 ≤ j → j < (k : Int) → t j = t' j) → (∀ a j, a ≠ 8 → x a j = σ a j) → (∀ j, 0 ≤ j → j < 5 → x 8 j = if j < (k : Int) then t' j else t j) →
      ∃ (σ' : z_S) (b' : Int), z_go (z_ev z_hcM d) z_hcM 1270 102 [z_R 1, z_I n, z_I f, z_I c, z_I i, z_I b, z_I k] [] z_hdM x = z_go (z_ev z_hcM d) z_hcM 1270 172 [z_R 1, z_I n, z_I f, z_I c, z_I i, z_I b', z_I (X 0 1)] [z_I (if b' = 0 then c + 1 else 0)] z_hdM σ' ∧ (b' = 0 ↔ ∀ j, 0 ≤ j → j < X 0 1 → t j = t' j) ∧ (∀ a j, a ≠ 8 → σ' a j = σ a j) ∧ ∀ k, 0 ≤ k → k < 5 → σ' 8 k = if k < X 0 1 then t' k else t k := by
    intro m
    induction m with
    | zero =>
      intro k b x hk hb2 hiff xo x8
      have hk' : (k : Int) = X 0 1 := by omega
      rw [hk'] at hiff x8
      have e8 : x 1 8 = X 0 1 := by rw [xo _ _ (by omega)]; exact h8
      refine ⟨x, b, ?_, hiff, xo, x8⟩
      rw [z_B1270_102, hk']
      rcases hb2 with rfl | rfl
      · simp (disch := omega) only [e8, if_pos, z_fdM, z_pdM, z_adM, z_sdM, z_lkM, z_ndM, z_gdM, z_cI_some', z_cV_some', z_w_ok, Int.reduceAdd, Int.reduceSub, Int.reduceMul, Int.reduceNeg, Int.reduceEq, Int.reduceLT, Int.reduceLE, Int.reduceNe, reduceIte, true_and, and_true, false_and, and_false, if_true, if_false, ne_eq, not_true_eq_false, not_false_eq_true]
      · simp (disch := omega) only [e8, if_pos, if_neg, z_fdM, z_pdM, z_adM, z_sdM, z_lkM, z_ndM, z_gdM, z_cI_some', z_cV_some', z_w_ok, Int.reduceAdd, Int.reduceSub, Int.reduceMul, Int.reduceNeg, Int.reduceEq, Int.reduceLT, Int.reduceLE, Int.reduceNe, reduceIte, true_and, and_true, false_and, and_false, if_true, if_false, ne_eq, not_true_eq_false, not_false_eq_true]
    | succ m ih =>
      intro k b x hk hb2 hiff xo x8
      have e8 : x 1 8 = X 0 1 := by rw [xo _ _ (by omega)]; exact h8
      have et : x 8 k = t k := by rw [x8 k (by omega) (by omega), if_neg (by omega)]
      have eb : x 45 k = t' k := by rw [xo _ _ (by omega)]; exact hb k (by omega) (by omega)
      have e1 : ((k + 1 : Nat) : Int) = (k : Int) + 1 := by omega
      have next : ∀ b2 : Int, (b2 = 0 ∨ b2 = 1) → (b2 = 0 ↔ ∀ j, 0 ≤ j → j < ((k + 1 : Nat) : Int) → t j = t' j) → _ := fun b2 h1 h2 => ih (k + 1) b2 (z_upd x 8 k (t' k)) (by omega) h1 h2 (fun a j ha => by rw [z_upd_ne (by omega)]; exact xo a j ha) (fun j j0 j1 => by
        by_cases cj : j = k
        · rw [cj, z_upd_same, if_pos (by omega)]
        · rw [z_upd_ne (by omega), x8 j j0 j1]
          by_cases c2 : j < (k : Int)
          · rw [if_pos c2, if_pos (by omega)]
          · rw [if_neg c2, if_neg (by omega)])
      by_cases hs : b = 0 ∧ t k = t' k
      · obtain ⟨σ', b', g1, g2⟩ := next 0 (Or.inl rfl) ⟨fun _ j j0 j1 => by
          by_cases cj : j = k
          · rw [cj]; exact hs.2
          · exact hiff.mp hs.1 j j0 (by omega), fun _ => rfl⟩
        refine ⟨σ', b', ?_, g2⟩
        rw [← g1, e1, z_B1270_102, hs.1]
        have := hs.2
        simp (disch := omega) only [e8, if_neg, et, eb, this, z_B1270_138, z_fdM, z_pdM, z_adM, z_sdM, z_lkM, z_ndM, z_gdM, z_cI_some', z_cV_some', z_w_ok, Int.reduceAdd, Int.reduceSub, Int.reduceMul, Int.reduceNeg, Int.reduceEq, Int.reduceLT, Int.reduceLE, Int.reduceNe, reduceIte, true_and, and_true, false_and, and_false, if_true, if_false, ne_eq, not_true_eq_false, not_false_eq_true]
      · obtain ⟨σ', b', g1, g2⟩ := next 1 (Or.inr rfl) ⟨fun h => absurd h (by omega), fun h => absurd ⟨hiff.mpr (fun j j0 j1 => h j j0 (by omega)), h k (by omega) (by omega)⟩ hs⟩
        refine ⟨σ', b', ?_, g2⟩
        rw [← g1, e1, z_B1270_102]
        rcases hb2 with rfl | rfl
        · have : ¬ t k = t' k := fun e => hs ⟨rfl, e⟩
          simp (disch := omega) only [e8, if_neg, et, eb, z_B1270_138, z_fdM, z_pdM, z_adM, z_sdM, z_lkM, z_ndM, z_gdM, z_cI_some', z_cV_some', z_w_ok, Int.reduceAdd, Int.reduceSub, Int.reduceMul, Int.reduceNeg, Int.reduceEq, Int.reduceLT, Int.reduceLE, Int.reduceNe, reduceIte, true_and, and_true, false_and, and_false, if_true, if_false, ne_eq, not_true_eq_false, not_false_eq_true]
        · simp (disch := omega) only [e8, if_neg, eb, z_B1270_138, z_fdM, z_pdM, z_adM, z_sdM, z_lkM, z_ndM, z_gdM, z_cI_some', z_cV_some', z_w_ok, Int.reduceAdd, Int.reduceSub, Int.reduceMul, Int.reduceNeg, Int.reduceEq, Int.reduceLT, Int.reduceLE, Int.reduceNe, reduceIte, true_and, and_true, false_and, and_false, if_true, if_false, ne_eq, not_true_eq_false, not_false_eq_true]
  exact go (X 0 1).toNat 0 0 σ (by omega) (Or.inl rfl) ⟨fun _ j j0 j1 => absurd j1 (by omega), fun _ => rfl⟩ (fun _ _ _ => rfl) (fun j j0 j1 => by rw [if_neg (show ¬ j < ((0 : Nat) : Int) by omega)]; exact ht j j0 j1)
theorem m_beh (d : Nat) (hw : z_wf X) (h8 : σ 1 8 = X 0 1) {n f c i b : Int} (hi : 0 ≤ i ∧ i < 60) (ht : ∀ k, 0 ≤ k → k < 5 → σ 8 k = t k) :
    ∃ σ', z_go (z_ev z_hcM d) z_hcM 1270 201 [z_R 1, z_I n, z_I f, z_I c, z_I i, z_I b, z_I 0] [] z_hdM σ = z_go (z_ev z_hcM d) z_hcM 1270 70 [z_R 1, z_I n, z_I f, z_I c, z_I (i + 1), z_I b, z_I (X 0 1)] [] z_hdM σ' ∧ (∀ a j, (a ≠ 50 ∨ j < 5 * i) → σ' a j = σ a j) ∧ ∀ k, 0 ≤ k → k < X 0 1 → σ' 50 (5 * i + k) = t k := by
  have hn := hw.2.1
  obtain ⟨σ', e, o, f2⟩ := z_for (fun (k : Nat) (x : z_S) => z_go (z_ev z_hcM d) z_hcM 1270 201 [z_R 1, z_I n, z_I f, z_I c, z_I i, z_I b, z_I k] [] z_hdM x) (fun x => z_go (z_ev z_hcM d) z_hcM 1270 70 [z_R 1, z_I n, z_I f, z_I c, z_I (i + 1), z_I b, z_I (X 0 1)] [] z_hdM x) (fun k x => (∀ a j, (a ≠ 50 ∨ j < 5 * i) → x a j = σ a j) ∧ ∀ j, 0 ≤ j → j < (k : Int) → x 50 (5 * i + j) = t j) (X 0 1).toNat (s := σ) ⟨fun _ _ _ => rfl, fun j j0 j1 => absurd j1 (by omega)⟩
    (fun k x hk ⟨xo, xf⟩ => by
      have e8 : x 1 8 = X 0 1 := by rw [xo _ _ (by omega)]; exact h8
      have et : x 8 k = t k := by rw [xo _ _ (by omega)]; exact ht k (by omega) (by omega)
      refine ⟨z_upd x 50 (5 * i + k) (t k), ?_, fun a j ha => by rw [z_upd_ne (by omega)]; exact xo a j ha, fun j j0 j1 => ?_⟩
      · rw [z_B1270_201]
        simp (disch := omega) only [e8, if_neg, et, z_ns, z_fdM, z_pdM, z_adM, z_sdM, z_lkM, z_ndM, z_gdM, z_cI_some', z_cV_some', z_w_ok, Int.reduceAdd, Int.reduceSub, Int.reduceMul, Int.reduceNeg, Int.reduceEq, Int.reduceLT, Int.reduceLE, Int.reduceNe, reduceIte, true_and, and_true, false_and, and_false, if_true, if_false, ne_eq, not_true_eq_false, not_false_eq_true]
      · by_cases cj : j = k
        · rw [cj, z_upd_same]
        · rw [z_upd_ne (by omega)]; exact xf j j0 (by omega)) (fun x ⟨xo, _⟩ => by
      have e8 : x 1 8 = X 0 1 := by rw [xo _ _ (by omega)]; exact h8
      rw [z_B1270_201, Int.toNat_of_nonneg hn.1]
      simp (disch := omega) only [e8, if_pos, z_fdM, z_pdM, z_adM, z_sdM, z_lkM, z_ndM, z_gdM, z_cI_some', z_cV_some', z_w_ok, Int.reduceAdd, Int.reduceSub, Int.reduceMul, Int.reduceNeg, Int.reduceEq, Int.reduceLT, Int.reduceLE, Int.reduceNe, reduceIte, true_and, and_true, false_and, and_false, if_true, if_false, ne_eq, not_true_eq_false, not_false_eq_true])
  exact ⟨σ', e, o, fun k k0 k1 => f2 k k0 (by omega)⟩
/-- the tolls behind i answers -/
noncomputable def z_AN (X : z_S) (i : Nat) : Int → Int := z_an (z_Dm X (-1)) (X 0 4) (z_Dm X (-1)).mn (fun w => (z_side X w (-1))) (X 0 3) (X 7) i
theorem z_AN_cap (h : m_inv σ X) (i : Nat) : z_tcap (X 0 3) (z_AN X i) := z_an_cap h.cp.1 h.tc i
theorem z_AN_top (h : m_inv σ X) : ∀ (i : Nat) (k : Int), X 0 1 ≤ k → k < 5 → z_AN X i k = X 7 k
  | 0, _, _, _ => rfl
  | i + 1, k, k0, k1 => by
    have hn := h.1.2.1
    have hb := z_side_b0 h.1 (w := ((i % 2 : Nat) : Int)) (k := k.toNat) (by omega)
    rw [Int.toNat_of_nonneg (by omega)] at hb
    show z_ht (z_Dm X (-1)) (X 0 4) (z_Dm X (-1)).mn (z_side X ((i % 2 : Nat) : Int) (-1)) (z_side X ((i % 2 : Nat) : Int) (-1)) (X 0 3) (z_AN X i) k = _
    unfold z_ht
    rw [z_ti_keep hb]
    exact z_AN_top h i k k0 k1
theorem z_AN_pk (h : m_inv σ X) (i j : Nat) : (∀ k, 0 ≤ k → k < X 0 1 → z_AN X i k = z_AN X j k) ↔ z_pk (z_AN X i) 5 = z_pk (z_AN X j) 5 := by
  have e := z_pk_eq (z_tcap_20 h.cp.2 (z_AN_cap h i)) (z_tcap_20 h.cp.2 (z_AN_cap h j)) (Nat.le_refl 5)
  rw [e]
  constructor
  · intro hh k k0 k1
    by_cases c : k < X 0 1
    · exact hh k k0 c
    · rw [z_AN_top h i k (by omega) (by omega), z_AN_top h j k (by omega) (by omega)]
  · intro hh k k0 k1
    have hn := h.1.2.1
    exact hh k k0 (by omega)
/-- what stands when i answers are given -/
def m_ai (σ0 x X : z_S) (i : Nat) : Prop := m_on σ0 x X (z_Dm X (-1)) (z_nwD X (-1)) (z_AN X i) ∧ (∀ k, 0 ≤ k → k < 5 → x 49 k = X 7 k) ∧ ∀ e : Nat, e < i → ∀ k, 0 ≤ k → k < X 0 1 → x 50 (5 * e + k) = z_AN X (e + 1) k
theorem m_ansr (h : m_inv σ0 X) (d : Nat) {n : Int} {i : Nat} {c : Int} (hi : i < 60) (hin : (i : Int) < n) (hc : 0 ≤ c ∧ c ≤ 1) (q : m_ai σ0 σ X i) (u5 u6 : z_V) :
    ∃ (σ' : z_S) (v5 v6 : z_V), z_go (z_ev z_hcM (d + 19)) z_hcM 1270 70 [z_R 1, z_I n, z_I (-3), z_I c, z_I i, u5, u6] [] z_hdM σ = z_go (z_ev z_hcM (d + 19)) z_hcM 1270 70 [z_R 1, z_I n, z_I (if (if z_pk (z_AN X (i + 1)) 5 = z_pk (z_AN X i) 5 then c + 1 else 0) = 2 then (i : Int) - 1 else if z_ring (fun i => z_pk (z_AN X i) 5) i = true then -2 else -3), z_I (if z_pk (z_AN X (i + 1)) 5 = z_pk (z_AN X i) 5 then c + 1 else 0), z_I ((i : Int) + 1), v5, v6] [] z_hdM σ' ∧ m_ai σ0 σ' X (i + 1) := by
  obtain ⟨q1, q49, q50⟩ := q
  have hcp := h.cp
  have hn := h.1.2.1
  have l3 := q1.capv h
  have ha := z_and_1 i (by omega)
  have him : ((i % 2 : Nat) : Int) = 0 ∨ ((i % 2 : Nat) : Int) = 1 := by omega
  obtain ⟨σ1, e1, o1, q2, f1, -⟩ := q1.best h (d + 13) (w := ((i % 2 : Nat) : Int)) (cp := X 0 3) him (z_AN_cap h i) ⟨hcp.1, Int.le_refl _⟩
  have h81 := (q2.land h).1.2.1
  have f1' : ∀ k, 0 ≤ k → k < 5 → σ1 45 k = z_AN X (i + 1) k := f1
  obtain ⟨σ2, b, e2, b2, o2, t2⟩ := m_mv (d + 19) h.1 h81 (n := n) (f := -3) (c := c) (i := (i : Int)) (by omega) q2.2.2.2.1 f1'
  have t2' : m_t σ2 (z_AN X (i + 1)) := fun k k0 k1 => by
    rw [t2 k k0 k1]
    by_cases ck : k < X 0 1
    · rw [if_pos ck]
    · rw [if_neg ck, z_AN_top h i k (by omega) k1, z_AN_top h (i + 1) k (by omega) k1]
  have q3 : m_on σ0 σ2 X (z_Dm X (-1)) (z_nwD X (-1)) (z_AN X (i + 1)) := q2.keep (fun a j h1 _ _ => o2 a j h1) t2' (by rw [o2 _ _ (by omega)]; exact q2.2.2.2.2)
  have hb : (if b = 0 then c + 1 else 0) = if z_pk (z_AN X (i + 1)) 5 = z_pk (z_AN X i) 5 then c + 1 else 0 := by
    have := z_AN_pk h i (i + 1)
    by_cases cb : b = 0
    · rw [if_pos cb, if_pos (this.mp (b2.mp cb)).symm]
    · rw [if_neg cb, if_neg (fun e => cb (b2.mpr (this.mpr e.symm)))]
  rw [hb] at e2
  have hcr : 0 ≤ (if z_pk (z_AN X (i + 1)) 5 = z_pk (z_AN X i) 5 then c + 1 else 0) ∧ (if z_pk (z_AN X (i + 1)) 5 = z_pk (z_AN X i) 5 then c + 1 else 0) ≤ 2 := by split <;> omega
  generalize (if z_pk (z_AN X (i + 1)) 5 = z_pk (z_AN X i) 5 then c + 1 else 0) = c' at *
  have h82 := (q3.land h).1.2.1
  have kw := m_was (σ := σ2) (t := z_AN X (i + 1)) (d + 18) h.1 h82 (TT := fun i => z_pk (z_AN X i) 5) hi (fun e => z_AN X (e + 1)) (fun k k0 k1 => t2' k k0 (by omega)) (fun e he k k0 k1 => by rw [o2 _ _ (by omega), m_at o1 (by omega)]; exact q50 e he k k0 k1) (fun e he => z_AN_pk h (e + 1) (i + 1))
  obtain ⟨σ3, e3, o3, f3⟩ := m_beh (σ := σ2) (d + 19) h.1 h82 (n := n) (f := if c' = 2 then (i : Int) - 1 else if z_ring (fun i => z_pk (z_AN X i) 5) i = true then -2 else -3) (c := c') (i := (i : Int)) (b := b) (by omega) t2'
  have q4 : m_on σ0 σ3 X (z_Dm X (-1)) (z_nwD X (-1)) (z_AN X (i + 1)) := q3.keep (fun a j _ h2 _ => o3 a j (by omega)) (fun k k0 k1 => by rw [o3 _ _ (by omega)]; exact t2' k k0 k1) (by rw [o3 _ _ (by omega)]; exact q3.2.2.2.2)
  refine ⟨σ3, z_I b, z_I (X 0 1), ?_, q4, fun k k0 k1 => by rw [o3 _ _ (by omega), o2 _ _ (by omega), m_at o1 (by omega)]; exact q49 k k0 k1, fun e he k k0 k1 => ?_⟩
  · rw [← e3]
    have st : z_go (z_ev z_hcM (d + 19)) z_hcM 1270 70 [z_R 1, z_I n, z_I (-3), z_I c, z_I i, u5, u6] [] z_hdM σ = z_go (z_ev z_hcM (d + 19)) z_hcM 1270 172 [z_R 1, z_I n, z_I (-3), z_I c, z_I i, z_I b, z_I (X 0 1)] [z_I c'] z_hdM σ2 := by
      rw [← e2, z_B1270_70]
      simp (disch := omega) only [if_neg, ha, l3, e1, z_fdM, z_pdM, z_adM, z_sdM, z_lkM, z_ndM, z_gdM, z_cI_some', z_cV_some', z_w_ok, Int.reduceAdd, Int.reduceSub, Int.reduceMul, Int.reduceNeg, Int.reduceEq, Int.reduceLT, Int.reduceLE, Int.reduceNe, reduceIte, true_and, and_true, false_and, and_false, if_true, if_false, ne_eq, not_true_eq_false, not_false_eq_true]
    rw [st, z_B1270_172]
    by_cases c2 : c' = 2
    · rw [if_pos c2]
      simp (disch := omega) only [if_neg, c2, z_fdM, z_pdM, z_adM, z_sdM, z_lkM, z_ndM, z_gdM, z_cI_some', z_cV_some', z_w_ok, Int.reduceAdd, Int.reduceSub, Int.reduceMul, Int.reduceNeg, Int.reduceEq, Int.reduceLT, Int.reduceLE, Int.reduceNe, reduceIte, true_and, and_true, false_and, and_false, if_true, if_false, ne_eq, not_true_eq_false, not_false_eq_true]
    · rw [if_neg c2]
      by_cases c3 : z_ring (fun i => z_pk (z_AN X i) 5) i = true
      · rw [if_pos c3] at kw ⊢
        simp (disch := omega) only [if_pos, kw, z_fdM, z_pdM, z_adM, z_sdM, z_lkM, z_ndM, z_gdM, z_cI_some', z_cV_some', z_w_ok, Int.reduceAdd, Int.reduceSub, Int.reduceMul, Int.reduceNeg, Int.reduceEq, Int.reduceLT, Int.reduceLE, Int.reduceNe, reduceIte, true_and, and_true, false_and, and_false, if_true, if_false, ne_eq, not_true_eq_false, not_false_eq_true]
      · rw [if_neg c3] at kw ⊢
        simp (disch := omega) only [if_pos, kw, z_fdM, z_pdM, z_adM, z_sdM, z_lkM, z_ndM, z_gdM, z_cI_some', z_cV_some', z_w_ok, Int.reduceAdd, Int.reduceSub, Int.reduceMul, Int.reduceNeg, Int.reduceEq, Int.reduceLT, Int.reduceLE, Int.reduceNe, reduceIte, true_and, and_true, false_and, and_false, if_true, if_false, ne_eq, not_true_eq_false, not_false_eq_true]
  · by_cases ce : e = i
    · rw [ce]; exact f3 k k0 k1
    · rw [o3 _ _ (by omega), o2 _ _ (by omega), m_at o1 (by omega)]
      exact q50 e (by omega) k k0 k1
theorem m_ansAll (h : m_inv σ0 X) (d : Nat) {n : Nat} (hn : n ≤ 60) : ∀ (f i : Nat) (c : Int) (σ : z_S) (u5 u6 : z_V), i + f = n → (c = 0 ∨ c = 1) → m_ai σ0 σ X i →
    ∃ (σ' : z_S) (c' : Int) (j : Int) (v5 v6 : z_V), z_go (z_ev z_hcM (d + 19)) z_hcM 1270 70 [z_R 1, z_I n, z_I (-3), z_I c, z_I i, u5, u6] [] z_hdM σ = z_go (z_ev z_hcM (d + 19)) z_hcM 1270 241 [z_R 1, z_I n, z_I (z_ao (fun i => z_pk (z_AN X i) 5) f i c).1, z_I c', z_I j, v5, v6] [] z_hdM σ' ∧ m_ai σ0 σ' X (z_ao (fun i => z_pk (z_AN X i) 5) f i c).2
  | 0, i, c, σ, u5, u6, hi, hc, q => by
    refine ⟨σ, c, i, u5, u6, ?_, q⟩
    rw [z_B1270_70, if_pos (by omega)]
    rfl
  | f + 1, i, c, σ, u5, u6, hi, hc, q => by
    obtain ⟨σ1, v5, v6, e1, q1⟩ := m_ansr h d (n := (n : Int)) (i := i) (c := c) (by omega) (by omega) (by omega) q u5 u6
    have hao : z_ao (fun i => z_pk (z_AN X i) 5) (f + 1) i c = if (if z_pk (z_AN X (i + 1)) 5 = z_pk (z_AN X i) 5 then c + 1 else 0) = 2 then ((i : Int) - 1, i + 1) else if z_ring (fun i => z_pk (z_AN X i) 5) i = true then (-2, i + 1) else z_ao (fun i => z_pk (z_AN X i) 5) f (i + 1) (if z_pk (z_AN X (i + 1)) 5 = z_pk (z_AN X i) 5 then c + 1 else 0) := rfl
    have hcr : (if z_pk (z_AN X (i + 1)) 5 = z_pk (z_AN X i) 5 then c + 1 else 0) = 0 ∨ (if z_pk (z_AN X (i + 1)) 5 = z_pk (z_AN X i) 5 then c + 1 else 0) = c + 1 := by
      split
      · exact Or.inr rfl
      · exact Or.inl rfl
    rw [hao]
    generalize (if z_pk (z_AN X (i + 1)) 5 = z_pk (z_AN X i) 5 then c + 1 else 0) = c' at *
    by_cases c2 : c' = 2
    · rw [if_pos c2] at e1 ⊢
      refine ⟨σ1, c', (i : Int) + 1, v5, v6, e1.trans ?_, q1⟩
      rw [z_B1270_70]
      by_cases c3 : (n : Int) ≤ (i : Int) + 1
      · rw [if_pos c3]
      · rw [if_neg c3, if_pos (show (i : Int) - 1 ≠ -3 by omega)]
    · rw [if_neg c2] at e1 ⊢
      by_cases c3 : z_ring (fun i => z_pk (z_AN X i) 5) i = true
      · rw [if_pos c3] at e1 ⊢
        refine ⟨σ1, c', (i : Int) + 1, v5, v6, e1.trans ?_, q1⟩
        rw [z_B1270_70]
        by_cases c4 : (n : Int) ≤ (i : Int) + 1
        · rw [if_pos c4]
        · rw [if_neg c4, if_pos (show (-2 : Int) ≠ -3 by omega)]
      · rw [if_neg c3] at e1 ⊢
        obtain ⟨σ2, c2', j, w5, w6, e2, q2⟩ := m_ansAll h d hn f (i + 1) c' σ1 v5 v6 (by omega) (by omega) q1
        rw [z_ns] at e2
        exact ⟨σ2, c2', j, w5, w6, e1.trans e2, q2⟩
end
