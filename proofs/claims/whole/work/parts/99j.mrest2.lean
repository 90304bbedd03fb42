/-! The reference: rests, the first going through. -/
section
variable {σ0 σ σ' σ'' X : z_S} {D : z_D} {nw : Int → Bool} {t t' T : Int → Int} {l : List Int}
theorem m_86b (d : Nat) {x s1 : z_S} {all : Int} {at' n0 n1 A0 A1 M0 M1 C : Int} (hat : 0 ≤ at' ∧ at' < 2000) (hn0 : 0 ≤ n0 ∧ n0 < 2000) (hn1 : 0 ≤ n1 ∧ n1 < 2000) (e : z_ev z_hcM d 1233 [z_R 1] z_hdM x = some (z_U, z_hdM, s1)) (a0 : s1 42 0 = A0) (a1 : s1 42 1 = A1) (num : ∀ y : z_S, (∀ a i, a ≠ 51 → a ≠ 52 → a ≠ 53 → a ≠ 54 → y a i = s1 a i) → z_ev z_hcM d 1271 [z_R 1, z_I 0] z_hdM y = some (z_I n0, z_hdM, y) ∧ z_ev z_hcM d 1271 [z_R 1, z_I 1] z_hdM y = some (z_I n1, z_hdM, y)) (m0 : s1 53 n0 = M0) (m1 : s1 54 n1 = M1) (l3 : s1 1 9 = C) (u4 : z_V) :
    z_go (z_ev z_hcM d) z_hcM 1273 86 [z_R 1, z_L all, z_U, z_I at', u4] [] z_hdM x = z_cI (z_ev z_hcM d 1250 [z_R 1, z_I C] z_hdM (z_upd (z_upd (z_upd (z_upd s1 51 at' A0) 52 at' A1) 53 n0 (if M0 < A0 then A0 else M0)) 54 n1 (if M1 < A1 then A1 else M1))) (fun v27 h25 s26 => if v27 ≠ 0 then (z_go (z_ev z_hcM d) z_hcM 1273 86 [z_R 1, z_L all, z_U, z_I (at' + 1), u4] [] h25 s26) else (z_fld h25 1 12 (z_cV (z_ev z_hcM d 1272 [z_R 1] h25 s26) (fun h28 s29 => z_pf h28 s29 12 1 25 0 (fun s30 => z_go (z_ev z_hcM d) z_hcM 1273 200 [z_R 1, z_L all, z_U, z_I 0, z_I 0] [] h28 s30))))) := by
  have p1 := num (z_upd (z_upd s1 51 at' A0) 52 at' A1) (fun a i h1 h2 h3 h4 => by rw [z_upd_ne (by omega), z_upd_ne (by omega)])
  have p2 := num (z_upd (z_upd (z_upd s1 51 at' A0) 52 at' A1) 53 n0 (if M0 < A0 then A0 else M0)) (fun a i h1 h2 h3 h4 => by rw [z_upd_ne (by omega), z_upd_ne (by omega), z_upd_ne (by omega)])
  have kU : z_kill z_U = z_U := rfl
  rw [z_B1273_86]
  simp (disch := omega) only [e, a0, z_upd_ne, a1, p1.1, m0, p2.2, m1, l3, kU, z_fdM, z_pdM, z_adM, z_sdM, z_lkM, z_ndM, z_gdM, z_cI_some', z_cV_some', z_w_ok, Int.reduceAdd, Int.reduceSub, Int.reduceMul, Int.reduceNeg, Int.reduceEq, Int.reduceLT, Int.reduceLE, Int.reduceNe, reduceIte, true_and, and_true, false_and, and_false, if_true, if_false, ne_eq, not_true_eq_false, not_false_eq_true]
theorem m_200b (d : Nat) {x : z_S} {all : Int} {at' n0 n1 A0 A1 M0 M1 n : Int} (hat : 0 ≤ at' ∧ at' < 2000) (hn : 0 ≤ n ∧ n ≤ 2000) (hn0 : 0 ≤ n0 ∧ n0 < 2000) (hn1 : 0 ≤ n1 ∧ n1 < 2000) (num0 : z_ev z_hcM d 1271 [z_R 1, z_I 0] z_hdM x = some (z_I n0, z_hdM, x)) (num1 : z_ev z_hcM d 1271 [z_R 1, z_I 1] z_hdM x = some (z_I n1, z_hdM, x)) (a0 : x 51 at' = A0) (a1 : x 52 at' = A1) (m0 : x 53 n0 = M0) (m1 : x 54 n1 = M1) :
    ((A0 ≠ M0 ∨ A1 ≠ M1) → z_go (z_ev z_hcM d) z_hcM 1273 200 [z_R 1, z_L all, z_U, z_I at', z_I n] [] z_hdM x = z_go (z_ev z_hcM d) z_hcM 1273 275 [z_R 1, z_L all, z_U, z_I at', z_I n] [] z_hdM x) ∧
    ((A0 = M0 ∧ A1 = M1) → n ≠ 0 → z_go (z_ev z_hcM d) z_hcM 1273 200 [z_R 1, z_L all, z_U, z_I at', z_I n] [] z_hdM x = z_go (z_ev z_hcM d) z_hcM 1273 275 [z_R 1, z_L all, z_U, z_I at', z_I (n + 1)] [] z_hdM x) ∧
    (∀ y1 y2 y3 : z_S, (A0 = M0 ∧ A1 = M1) → n = 0 → z_ev z_hcM d 1254 [z_R 1, z_R 8, z_I (-1)] z_hdM x = some (z_U, z_hdM, y1) → y1 51 at' = A0 → z_ev z_hcM d 1204 [z_R 1, z_I A0] z_hdM y1 = some (z_U, z_hdM, y2) → y2 52 at' = A1 → z_ev z_hcM d 1204 [z_R 1, z_I A1] z_hdM y2 = some (z_U, z_hdM, y3) → z_go (z_ev z_hcM d) z_hcM 1273 200 [z_R 1, z_L all, z_U, z_I at', z_I n] [] z_hdM x = z_go (z_ev z_hcM d) z_hcM 1273 275 [z_R 1, z_L all, z_U, z_I at', z_I 1] [] z_hdM y3) := by
  refine ⟨fun h => ?_, fun ⟨h1, h2⟩ h3 => ?_, fun y1 y2 y3 ⟨h1, h2⟩ h3 f1 f2 f3 f4 f5 => ?_⟩
  · rw [z_B1273_200]
    by_cases c : A0 = M0
    · have c2 : A1 ≠ M1 := by omega
      subst c
      simp (disch := omega) only [a0, num0, m0, if_neg, a1, num1, m1, if_pos, z_fdM, z_pdM, z_adM, z_sdM, z_lkM, z_ndM, z_gdM, z_cI_some', z_cV_some', z_w_ok, Int.reduceAdd, Int.reduceSub, Int.reduceMul, Int.reduceNeg, Int.reduceEq, Int.reduceLT, Int.reduceLE, Int.reduceNe, reduceIte, true_and, and_true, false_and, and_false, if_true, if_false, ne_eq, not_true_eq_false, not_false_eq_true]
    · simp (disch := omega) only [a0, num0, m0, if_pos, z_fdM, z_pdM, z_adM, z_sdM, z_lkM, z_ndM, z_gdM, z_cI_some', z_cV_some', z_w_ok, Int.reduceAdd, Int.reduceSub, Int.reduceMul, Int.reduceNeg, Int.reduceEq, Int.reduceLT, Int.reduceLE, Int.reduceNe, reduceIte, true_and, and_true, false_and, and_false, if_true, if_false, ne_eq, not_true_eq_false, not_false_eq_true]
  · subst h1
    subst h2
    rw [z_B1273_200]
    simp (disch := omega) only [a0, num0, m0, a1, num1, m1, if_pos, z_fdM, z_pdM, z_adM, z_sdM, z_lkM, z_ndM, z_gdM, z_cI_some', z_cV_some', z_w_ok, Int.reduceAdd, Int.reduceSub, Int.reduceMul, Int.reduceNeg, Int.reduceEq, Int.reduceLT, Int.reduceLE, Int.reduceNe, reduceIte, true_and, and_true, false_and, and_false, if_true, if_false, ne_eq, not_true_eq_false, not_false_eq_true]
  · subst h1
    subst h2
    subst h3
    rw [z_B1273_200]
    simp (disch := omega) only [a0, num0, m0, a1, num1, m1, f1, f2, f3, f4, f5, z_fdM, z_pdM, z_adM, z_sdM, z_lkM, z_ndM, z_gdM, z_cI_some', z_cV_some', z_w_ok, Int.reduceAdd, Int.reduceSub, Int.reduceMul, Int.reduceNeg, Int.reduceEq, Int.reduceLT, Int.reduceLE, Int.reduceNe, reduceIte, true_and, and_true, false_and, and_false, if_true, if_false, ne_eq, not_true_eq_false, not_false_eq_true]
/-- takes, numbers, tops -/
noncomputable def z_rBr (X : z_S) (w : Int) (i : Nat) : Int := z_brt (z_Dm X (-1)).op (z_Dm X (-1)).mn (z_Dm X (-1)).gN (X 0 4) (z_side X w (-1)) (z_ti (z_all X) (X 0 3) (X 7) i)
def z_rPl (X : z_S) (w : Int) (i : Nat) : Int := z_nmo X w (z_ti (z_all X) (X 0 3) (X 7) i)
noncomputable def z_rMx (X : z_S) (w : Int) (q : Int) (n : Nat) : Int := z_mxp (z_rPl X w) (z_rBr X w) q n
/-- when i sets were gone through -/
def m_r1 (σ0 x X : z_S) (i : Nat) : Prop := m_on σ0 x X (z_Dm X (-1)) (z_nwD X (-1)) (z_ti (z_all X) (X 0 3) (X 7) i) ∧ m_pls x (z_all X) (X 0 1) ∧ (∀ k, 0 ≤ k → k < 5 → x 44 k = X 7 k) ∧ (∀ j : Nat, j < i → x 51 j = z_rBr X 0 j ∧ x 52 j = z_rBr X 1 j) ∧ ∀ q : Int, 0 ≤ q → q < (z_tot (z_all X) (X 0 3) : Int) → x 53 q = z_rMx X 0 q i ∧ x 54 q = z_rMx X 1 q i
theorem m_all_lt (hw : z_wf X) : 0 ≤ z_all X ∧ z_all X < ((2 ^ (X 0 1).toNat : Nat) : Int) := by
  have hn := hw.2.1
  have : 0 < 2 ^ (X 0 1).toNat := Nat.pow_pos (by omega)
  unfold z_all
  generalize 2 ^ (X 0 1).toNat = p at *
  omega
theorem m_pls_tr {mv n : Int} (h1 : σ' 1 56 = σ 1 56) (h2 : ∀ i, σ' 43 i = σ 43 i) (h : m_pls σ mv n) : m_pls σ' mv n := ⟨h1.trans h.1, fun k hk hb => (h2 _).trans (h.2 k hk hb)⟩
theorem m_r1s (h : m_inv σ0 X) (d : Nat) {x : z_S} {i : Nat} (hi : i < z_tot (z_all X) (X 0 3)) (hT : (z_tot (z_all X) (X 0 3) : Int) ≤ 2000) (q : m_r1 σ0 x X i) (u4 : z_V) (all : Int) :
    ∃ x', m_r1 σ0 x' X (i + 1) ∧ (i + 1 ≠ z_tot (z_all X) (X 0 3) → z_go (z_ev z_hcM (d + 19)) z_hcM 1273 86 [z_R 1, z_L all, z_U, z_I i, u4] [] z_hdM x = z_go (z_ev z_hcM (d + 19)) z_hcM 1273 86 [z_R 1, z_L all, z_U, z_I ((i : Int) + 1), u4] [] z_hdM x') ∧
      (i + 1 = z_tot (z_all X) (X 0 3) → z_go (z_ev z_hcM (d + 19)) z_hcM 1273 86 [z_R 1, z_L all, z_U, z_I i, u4] [] z_hdM x = z_cV (z_ev z_hcM (d + 19) 1272 [z_R 1] z_hdM x') (fun h28 s29 => z_pf h28 s29 12 1 25 0 (fun s30 => z_go (z_ev z_hcM (d + 19)) z_hcM 1273 200 [z_R 1, z_L all, z_U, z_I 0, z_I 0] [] h28 s30))) := by
  obtain ⟨q1, qp, qk, qt, qm⟩ := q
  have hcp := h.cp
  have hti := z_ti_cap (mv := z_all X) (Int.le_refl (X 0 3)) hcp.1 h.tc i
  obtain ⟨s1, e1, o1, r1, -, b1, -⟩ := q1.work h (d + 15) (z_tcap_20 hcp.2 hti)
  have b0 : s1 42 0 = z_rBr X 0 i := b1 0 (Or.inl rfl)
  have b1' : s1 42 1 = z_rBr X 1 i := b1 1 (Or.inr rfl)
  have hn0 : 0 ≤ z_rPl X 0 i ∧ z_rPl X 0 i < _ := z_num_rng h.1 0 hti
  have hn1 : 0 ≤ z_rPl X 1 i ∧ z_rPl X 1 i < _ := z_num_rng h.1 1 hti
  have num : ∀ y : z_S, (∀ a j, a ≠ 51 → a ≠ 52 → a ≠ 53 → a ≠ 54 → y a j = s1 a j) → z_ev z_hcM (d + 19) 1271 [z_R 1, z_I 0] z_hdM y = some (z_I (z_rPl X 0 i), z_hdM, y) ∧ z_ev z_hcM (d + 19) 1271 [z_R 1, z_I 1] z_hdM y = some (z_I (z_rPl X 1 i), z_hdM, y) := fun y hy => by
    have hl : m_land y X := m_land_off (b := 99) (lo := 51) (hi := 54) (fun a j _ h2 _ => hy a j (by omega) (by omega) (by omega) (by omega)) (by omega) (by omega) (r1.land h)
    have ht : ∀ k, 0 ≤ k → k < 5 → y 8 k = z_ti (z_all X) (X 0 3) (X 7) i k := fun k k0 k1 => by rw [hy _ _ (by omega) (by omega) (by omega) (by omega)]; exact r1.2.2.2.1 k k0 k1
    exact ⟨m_numOf (d + 18) h.1 hl (Or.inl rfl) ht hti, m_numOf (d + 18) h.1 hl (Or.inr rfl) ht hti⟩
  have m0 : s1 53 (z_rPl X 0 i) = z_rMx X 0 (z_rPl X 0 i) i := by rw [o1 _ _ (by omega) (by omega)]; exact (qm _ hn0.1 hn0.2).1
  have m1 : s1 54 (z_rPl X 1 i) = z_rMx X 1 (z_rPl X 1 i) i := by rw [o1 _ _ (by omega) (by omega)]; exact (qm _ hn1.1 hn1.2).2
  have hb := m_86b (d + 19) (x := x) (all := all) (at' := (i : Int)) (by omega) (by omega) (by omega) e1 b0 b1' num m0 m1 (r1.capv h) u4
  have off2 : m_off 49 40 57 s1 (z_upd (z_upd (z_upd (z_upd s1 51 i (z_rBr X 0 i)) 52 i (z_rBr X 1 i)) 53 (z_rPl X 0 i) (if z_rMx X 0 (z_rPl X 0 i) i < z_rBr X 0 i then z_rBr X 0 i else z_rMx X 0 (z_rPl X 0 i) i)) 54 (z_rPl X 1 i) (if z_rMx X 1 (z_rPl X 1 i) i < z_rBr X 1 i then z_rBr X 1 i else z_rMx X 1 (z_rPl X 1 i) i)) := m_off_trans (m_off_upd (by omega)) (m_off_trans (m_off_upd (by omega)) (m_off_trans (m_off_upd (by omega)) (m_off_upd (by omega))))
  have at2 : ∀ a j, a ≠ 51 → a ≠ 52 → a ≠ 53 → a ≠ 54 → (z_upd (z_upd (z_upd (z_upd s1 51 i (z_rBr X 0 i)) 52 i (z_rBr X 1 i)) 53 (z_rPl X 0 i) (if z_rMx X 0 (z_rPl X 0 i) i < z_rBr X 0 i then z_rBr X 0 i else z_rMx X 0 (z_rPl X 0 i) i)) 54 (z_rPl X 1 i) (if z_rMx X 1 (z_rPl X 1 i) i < z_rBr X 1 i then z_rBr X 1 i else z_rMx X 1 (z_rPl X 1 i) i)) a j = s1 a j := fun a j h1 h2 h3 h4 => by rw [z_upd_ne (by omega), z_upd_ne (by omega), z_upd_ne (by omega), z_upd_ne (by omega)]
  have r2 := r1.keep off2 (t' := z_ti (z_all X) (X 0 3) (X 7) i) (fun k k0 k1 => by rw [at2 _ _ (by omega) (by omega) (by omega) (by omega)]; exact r1.2.2.2.1 k k0 k1) (by rw [at2 _ _ (by omega) (by omega) (by omega) (by omega)]; exact r1.2.2.2.2)
  have p1 : m_pls s1 (z_all X) (X 0 1) := m_pls_tr (o1 _ _ (by omega) (by omega)) (fun j => o1 _ _ (by omega) (by omega)) qp
  have p2 := m_pls_tr (at2 1 56 (by omega) (by omega) (by omega) (by omega)) (fun j => at2 43 j (by omega) (by omega) (by omega) (by omega)) p1
  obtain ⟨s3, e3, o3, r3, p3⟩ := r2.nextI h p2 (d + 18) (m_all_lt h.1) ⟨hcp.1, Int.le_refl _⟩ h.tc hi
  refine ⟨s3, ⟨r3, p3, fun k k0 k1 => by rw [o3 _ _ (by omega), at2 _ _ (by omega) (by omega) (by omega) (by omega), o1 _ _ (by omega) (by omega)]; exact qk k k0 k1, fun j hj => ?_, fun q q0 q1 => ?_⟩, fun hne => ?_, fun heq => ?_⟩
  · rw [o3 _ _ (by omega), o3 _ _ (by omega)]
    by_cases cj : j = i
    · rw [cj]
      exact ⟨by rw [z_upd_ne (by omega), z_upd_ne (by omega), z_upd_ne (by omega), z_upd_same], by rw [z_upd_ne (by omega), z_upd_ne (by omega), z_upd_same]⟩
    · rw [z_upd_ne (by omega), z_upd_ne (by omega), z_upd_ne (by omega), z_upd_ne (by omega), o1 _ _ (by omega) (by omega), z_upd_ne (by omega), z_upd_ne (by omega), z_upd_ne (by omega), z_upd_ne (by omega), o1 _ _ (by omega) (by omega)]
      exact qt j (by omega)
  · obtain ⟨f0, f1⟩ := qm q q0 q1
    have hs : ∀ w, z_rMx X w q (i + 1) = if z_rPl X w i = q ∧ z_rMx X w q i < z_rBr X w i then z_rBr X w i else z_rMx X w q i := fun w => rfl
    rw [o3 _ _ (by omega), o3 _ _ (by omega), hs, hs]
    constructor
    · rw [z_upd_ne (by omega)]
      by_cases cq : q = z_rPl X 0 i
      · subst cq
        rw [z_upd_same]
        by_cases cc : z_rMx X 0 (z_rPl X 0 i) i < z_rBr X 0 i
        · rw [if_pos cc, if_pos ⟨rfl, cc⟩]
        · rw [if_neg cc, if_neg (fun z => cc z.2)]
      · rw [z_upd_ne (by omega), z_upd_ne (by omega), z_upd_ne (by omega), o1 _ _ (by omega) (by omega), if_neg (fun z => cq z.1.symm)]
        exact f0
    · by_cases cq : q = z_rPl X 1 i
      · subst cq
        rw [z_upd_same]
        by_cases cc : z_rMx X 1 (z_rPl X 1 i) i < z_rBr X 1 i
        · rw [if_pos cc, if_pos ⟨rfl, cc⟩]
        · rw [if_neg cc, if_neg (fun z => cc z.2)]
      · rw [z_upd_ne (by omega), z_upd_ne (by omega), z_upd_ne (by omega), z_upd_ne (by omega), o1 _ _ (by omega) (by omega), if_neg (fun z => cq z.1.symm)]
        exact f1
  · rw [if_neg hne] at e3
    rw [hb, e3]
    rfl
  · rw [if_pos heq] at e3
    rw [hb, e3]
    rfl
end
