/-! The reference: a way of the table. -/
def m_way (σ : z_S) (w : Int) (l : List Int) : Prop := σ 33 w = (l.length : Int) ∧ ∀ p : Nat, p < l.length → σ 32 (7 * w + p) = l.getD p 0
theorem m_way_off {σ σ' : z_S} {w b lo hi : Int} {l : List Int} (ho : m_off b lo hi σ σ') (hlo : 34 ≤ lo ∨ hi ≤ 31) (h : m_way σ w l) : m_way σ' w l := ⟨by rw [m_at ho (by omega)]; exact h.1, fun p hp => by rw [m_at ho (by omega)]; exact h.2 p hp⟩
section
variable {σ X : z_S} {w : Int} {l : List Int}
theorem m_has (d : Nat) (hw : 0 ≤ w ∧ w < 1600) (h : m_way σ w l) (h7 : l.length ≤ 7) (r : Int) : z_ev z_hcM (d + 1) 1224 [z_R 1, z_I w, z_I r] z_hdM σ = some (z_I (if r ∈ l then 1 else 0), z_hdM, σ) := by
  obtain ⟨h1, h2⟩ := h
  have go : ∀ (j k : Nat), k + j = l.length → (∀ p : Nat, p < k → l.getD p 0 ≠ r) → z_go (z_ev z_hcM d) z_hcM 1224 2 [z_R 1, z_I w, z_I r, z_I k] [] z_hdM σ = some (z_I (if r ∈ l then 1 else 0), z_hdM, σ) := by
    intro j
    induction j with
    | zero =>
      intro k hk hno
      have hn : r ∉ l := fun hm => by
        obtain ⟨p, hp, e⟩ := List.getElem_of_mem hm
        exact hno p (by omega) (by rw [z_getD hp]; exact e)
      rw [z_B1224_2, if_neg hn]
      simp (disch := omega) only [h1, if_pos, z_fdM, z_pdM, z_adM, z_sdM, z_lkM, z_ndM, z_gdM, z_cI_some', z_cV_some', z_w_ok, Int.reduceAdd, Int.reduceSub, Int.reduceMul, Int.reduceNeg, Int.reduceEq, Int.reduceLT, Int.reduceLE, Int.reduceNe, reduceIte, true_and, and_true, false_and, and_false, if_true, if_false, ne_eq, not_true_eq_false, not_false_eq_true]
    | succ j ih =>
      intro k hk hno
      have e := h2 k (by omega)
      have e1 : ((k + 1 : Nat) : Int) = (k : Int) + 1 := by omega
      rw [z_B1224_2]
      by_cases c : l.getD k 0 = r
      · have hm : r ∈ l := by
          rw [← c, z_getD (show k < l.length by omega)]
          exact List.getElem_mem _
        rw [if_pos hm]
        simp (disch := omega) only [h1, if_neg, e, c, z_fdM, z_pdM, z_adM, z_sdM, z_lkM, z_ndM, z_gdM, z_cI_some', z_cV_some', z_w_ok, Int.reduceAdd, Int.reduceSub, Int.reduceMul, Int.reduceNeg, Int.reduceEq, Int.reduceLT, Int.reduceLE, Int.reduceNe, reduceIte, true_and, and_true, false_and, and_false, if_true, if_false, ne_eq, not_true_eq_false, not_false_eq_true]
      · simp (disch := omega) only [h1, if_neg, if_pos, e, c, z_fdM, z_pdM, z_adM, z_sdM, z_lkM, z_ndM, z_gdM, z_cI_some', z_cV_some', z_w_ok, Int.reduceAdd, Int.reduceSub, Int.reduceMul, Int.reduceNeg, Int.reduceEq, Int.reduceLT, Int.reduceLE, Int.reduceNe, reduceIte, true_and, and_true, false_and, and_false, if_true, if_false, ne_eq, not_true_eq_false, not_false_eq_true]
        rw [← e1]
        exact ih (k + 1) (by omega) (fun p hp => by
          by_cases c2 : p = k
          · rw [c2]; exact c
          · exact hno p (by omega))
  rw [z_E1224]
  exact go l.length 0 (by omega) (fun p hp => absurd hp (by omega))
theorem m_maskOf (d : Nat) (hX : z_wf X) (hl : m_land σ X) (hw : 0 ≤ w ∧ w < 1600) (h : m_way σ w l) (h7 : l.length ≤ 7) : z_ev z_hcM (d + 2) 1226 [z_R 1, z_I w] z_hdM σ = some (z_I (z_msk X l), z_hdM, σ) := by
  have hn := hX.2.1
  obtain ⟨⟨l1, l2, l3, l4⟩, l5, l6, l7⟩ := hl
  have go : ∀ (j k : Nat), (k : Int) + j = X 0 1 → z_go (z_ev z_hcM (d + 1)) z_hcM 1226 4 [z_R 1, z_I w, z_I (z_bs (fun k => decide (X 6 k ∈ l)) k), z_I k] [] z_hdM σ = some (z_I (z_msk X l), z_hdM, σ) := by
    intro j
    induction j with
    | zero =>
      intro k hk
      rw [z_B1226_4]
      unfold z_msk
      rw [show (X 0 1).toNat = k by omega]
      simp (disch := omega) only [l2, if_pos, z_fdM, z_pdM, z_adM, z_sdM, z_lkM, z_ndM, z_gdM, z_cI_some', z_cV_some', z_w_ok, Int.reduceAdd, Int.reduceSub, Int.reduceMul, Int.reduceNeg, Int.reduceEq, Int.reduceLT, Int.reduceLE, Int.reduceNe, reduceIte, true_and, and_true, false_and, and_false, if_true, if_false, ne_eq, not_true_eq_false, not_false_eq_true]
    | succ j ih =>
      intro k hk
      have e6 := l6 k (by omega) (by omega)
      have hh := m_has d hw h h7 (X 6 k)
      have hr := z_bs_rng (P := fun k => decide (X 6 k ∈ l)) (n := k)
      have hor := z_or_bit (m := z_bs (fun k => decide (X 6 k ∈ l)) k) (k := (k : Int)) hr.1 (by omega) (by omega) (by rw [Int.toNat_natCast]; exact hr.2)
      rw [Int.toNat_natCast] at hor
      have e1 : ((k + 1 : Nat) : Int) = (k : Int) + 1 := by omega
      have hbs : z_bs (fun k => decide (X 6 k ∈ l)) (k + 1) = z_bs (fun k => decide (X 6 k ∈ l)) k + if decide (X 6 (k : Int) ∈ l) = true then ((2 ^ k : Nat) : Int) else 0 := rfl
      have next := ih (k + 1) (by omega)
      rw [hbs, e1] at next
      rw [z_B1226_4]
      by_cases c : X 6 k ∈ l
      · rw [if_pos c] at hh
        rw [if_pos (decide_eq_true c)] at next
        simp (disch := omega) only [l2, if_neg, if_pos, e6, hh, hor, z_fdM, z_pdM, z_adM, z_sdM, z_lkM, z_ndM, z_gdM, z_cI_some', z_cV_some', z_w_ok, Int.reduceAdd, Int.reduceSub, Int.reduceMul, Int.reduceNeg, Int.reduceEq, Int.reduceLT, Int.reduceLE, Int.reduceNe, reduceIte, true_and, and_true, false_and, and_false, if_true, if_false, ne_eq, not_true_eq_false, not_false_eq_true]
        exact next
      · rw [if_neg c] at hh
        rw [if_neg (by simpa using c), Int.add_zero] at next
        simp (disch := omega) only [l2, if_neg, if_pos, e6, hh, z_fdM, z_pdM, z_adM, z_sdM, z_lkM, z_ndM, z_gdM, z_cI_some', z_cV_some', z_w_ok, Int.reduceAdd, Int.reduceSub, Int.reduceMul, Int.reduceNeg, Int.reduceEq, Int.reduceLT, Int.reduceLE, Int.reduceNe, reduceIte, true_and, and_true, false_and, and_false, if_true, if_false, ne_eq, not_true_eq_false, not_false_eq_true]
        exact next
  rw [z_E1226]
  exact go (X 0 1).toNat 0 (by omega)
theorem z_take_s {l : List Int} {k : Nat} (h : k < l.length) : l.take (k + 1) = l.take k ++ [l.getD k 0] := by
  rw [z_getD h, List.take_append_getElem h]
theorem m_plainPains (d : Nat) (hX : z_wf X) (hl : m_land σ X) {j v : Int} (hj : 0 ≤ j ∧ j < X 0 2) (hv : 0 ≤ v ∧ v ≤ 9) (hw : 0 ≤ w ∧ w < 1600) (h : m_way σ w l) (h7 : l.length ≤ 7) (hr : ∀ r ∈ l, 0 ≤ r ∧ r < X 0 0) (hh : l = [] → 0 ≤ X 15 j) :
    z_ev z_hcM (d + 1) 1225 [z_R 1, z_I j, z_I w, z_I v] z_hdM σ = some (z_I (z_pnf X j v l), z_hdM, σ) := by
  have hR := hX.2.2.2.2.2.2.2.1
  have hnR := hX.1
  have hnJ := hX.2.2.1
  obtain ⟨⟨l1, l2, l3, l4⟩, l5, l6, l7⟩ := hl
  obtain ⟨h1, h2⟩ := h
  have hf : ∀ r ∈ l, 0 ≤ X 3 r + v * X 4 r ∧ X 3 r + v * X 4 r ≤ 180 := fun r hm => by
    have := hr r hm
    have := hR r this.1 this.2
    have := z_mul_rng (a := v) (b := 9) (c := X 4 r) (d := 9) hv.1 hv.2 (by omega) (by omega)
    omega
  rw [z_E1225]
  by_cases c : l = []
  · subst c
    have e16 := (l7 j hj.1 hj.2).2.2.2.2.2.2.2.1
    have h0 := hh rfl
    have e0 : σ 33 w = 0 := h1
    unfold z_pnf
    rw [if_pos rfl, if_neg (by omega)]
    simp (disch := omega) only [e0, e16, if_neg, z_fdM, z_pdM, z_adM, z_sdM, z_lkM, z_ndM, z_gdM, z_cI_some', z_cV_some', z_w_ok, Int.reduceAdd, Int.reduceSub, Int.reduceMul, Int.reduceNeg, Int.reduceEq, Int.reduceLT, Int.reduceLE, Int.reduceNe, reduceIte, true_and, and_true, false_and, and_false, if_true, if_false, ne_eq, not_true_eq_false, not_false_eq_true]
  · have hlen : 0 < l.length := List.length_pos_iff.mpr c
    have go : ∀ (i k : Nat), k + i = l.length → z_go (z_ev z_hcM d) z_hcM 1225 22 [z_R 1, z_I j, z_I w, z_I v, z_I (z_sml (fun r => X 3 r + v * X 4 r) (l.take k)), z_I k] [] z_hdM σ = some (z_I (z_pnf X j v l), z_hdM, σ) := by
      intro i
      induction i with
      | zero =>
        intro k hk
        have ek : l.take k = l := List.take_of_length_le (by omega)
        rw [ek, z_B1225_22]
        unfold z_pnf
        rw [if_neg c, z_sml_add]
        simp (disch := omega) only [h1, if_pos, z_fdM, z_pdM, z_adM, z_sdM, z_lkM, z_ndM, z_gdM, z_cI_some', z_cV_some', z_w_ok, Int.reduceAdd, Int.reduceSub, Int.reduceMul, Int.reduceNeg, Int.reduceEq, Int.reduceLT, Int.reduceLE, Int.reduceNe, reduceIte, true_and, and_true, false_and, and_false, if_true, if_false, ne_eq, not_true_eq_false, not_false_eq_true]
      | succ i ih =>
        intro k hk
        have hk' : k < l.length := by omega
        have e := h2 k hk'
        have hm : l.getD k 0 ∈ l := by rw [z_getD hk']; exact List.getElem_mem _
        have hrk := hr _ hm
        have e4 := (l5 _ hrk.1 hrk.2).2.2.1
        have e5 := (l5 _ hrk.1 hrk.2).2.2.2.1
        have hRk := hR _ hrk.1 hrk.2
        have hmul := z_mul_rng (a := v) (b := 9) (c := X 4 (l.getD k 0)) (d := 9) hv.1 hv.2 (by omega) (by omega)
        have hs := z_sml_rng (f := fun r => X 3 r + v * X 4 r) (b := 180) (l := l.take k) (fun r hm => hf r (List.mem_of_mem_take hm))
        rw [List.length_take] at hs
        have hmn : ((min k l.length : Nat) : Int) ≤ 7 := by omega
        have next := ih (k + 1) (by omega)
        have e1 : ((k + 1 : Nat) : Int) = (k : Int) + 1 := by omega
        rw [z_take_s hk', z_sml_app, e1] at next
        rw [z_B1225_22]
        simp (disch := omega) only [h1, if_neg, e, e4, e5, z_fdM, z_pdM, z_adM, z_sdM, z_lkM, z_ndM, z_gdM, z_cI_some', z_cV_some', z_w_ok, Int.reduceAdd, Int.reduceSub, Int.reduceMul, Int.reduceNeg, Int.reduceEq, Int.reduceLT, Int.reduceLE, Int.reduceNe, reduceIte, true_and, and_true, false_and, and_false, if_true, if_false, ne_eq, not_true_eq_false, not_false_eq_true]
        exact next
    have h0 := go l.length 0 (by omega)
    simp (disch := omega) only [h1, if_pos, z_fdM, z_pdM, z_adM, z_sdM, z_lkM, z_ndM, z_gdM, z_cI_some', z_cV_some', z_w_ok, Int.reduceAdd, Int.reduceSub, Int.reduceMul, Int.reduceNeg, Int.reduceEq, Int.reduceLT, Int.reduceLE, Int.reduceNe, reduceIte, true_and, and_true, false_and, and_false, if_true, if_false, ne_eq, not_true_eq_false, not_false_eq_true]
    exact h0
end
