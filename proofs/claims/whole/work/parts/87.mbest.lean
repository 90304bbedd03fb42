/-! The reference: what a house may set; the best. -/
theorem z_wl_ok {x : Int} (h1 : -9223372036854775808 ≤ x) (h2 : x ≤ 9223372036854775807) : z_wl x = x := by
  have e1 : (-2 ^ 63 : Int) = -9223372036854775808 := by decide
  have e2 : (2 ^ 63 : Int) = 9223372036854775808 := by decide
  exact Int64.toInt_ofInt_of_le (by omega) (by omega)
theorem z_cnt_top {S : Int} {n : Nat} (hb : ∀ k : Nat, n ≤ k → z_bt S k = false) : ∀ j : Nat, z_cnt S (n + j) = z_cnt S n
  | 0 => rfl
  | j + 1 => by
    have ih := z_cnt_top hb j
    have h : z_cnt S (n + (j + 1)) = z_cnt S (n + j) + if z_bt S ((n + j : Nat) : Int) then 1 else 0 := z_cnt_s (S := S) (n := n + j)
    rw [hb (n + j) (by omega), if_neg (by simp), Nat.add_zero] at h
    exact h.trans ih
section
variable {σ0 σ σ' X : z_S} {D : z_D} {nw : Int → Bool} {t : Int → Int} {l : List Int}
theorem z_side_b0 (hw : z_wf X) {w : Int} {k : Nat} (hk : X 0 1 ≤ k) : z_bt (z_side X w (-1)) k = false := by
  cases hb : z_bt (z_side X w (-1)) k with
  | false => rfl
  | true => have := ((z_side_bt hw (by omega)).mp hb).1; omega
theorem z_side_bk (hw : z_wf X) {w : Int} {k : Nat} (hk : (k : Int) < X 0 1) : z_bt (z_side X w (-1)) k = decide (X 5 (X 6 k) = w) := by
  have h := z_side_bt hw (h := w) (s := -1) (k := (k : Int)) (by omega)
  have ht := hw.2.2.2.2.2.2.2.2.1 k (by omega) hk
  by_cases c : X 5 (X 6 k) = w
  · rw [h.mpr ⟨hk, c, by omega⟩, decide_eq_true c]
  · rw [decide_eq_false c]
    cases hb : z_bt (z_side X w (-1)) k with
    | false => rfl
    | true => exact absurd (h.mp hb).2.1 c
theorem m_areFew (hw : z_wf X) (hl : m_land σ X) (d : Nat) (w : Int) : z_ev z_hcM (d + 1) 1251 [z_R 1, z_I w, z_I (-1)] z_hdM σ = some (z_I (if z_tot (z_side X w (-1)) (X 0 3) ≤ 20000 then 1 else 0), z_hdM, σ) := by
  have hn := hw.2.1
  have hR := hw.1
  have hcp := hw.2.2.2.1
  have htol := hw.2.2.2.2.2.2.2.2.1
  have hsr := z_side_rng hw w (-1)
  have htot : (z_tot (z_side X w (-1)) (X 0 3) : Int) = ((X 0 3) + 1) ^ z_cnt (z_side X w (-1)) (X 0 1).toNat := by
    rw [z_tot_cnt ⟨hsr.1, hsr.2.1⟩ hcp.1]
    have := z_cnt_top (S := (z_side X w (-1))) (n := (X 0 1).toNat) (fun k hk => z_side_b0 hw (by omega)) (5 - (X 0 1).toNat)
    rw [show (X 0 1).toNat + (5 - (X 0 1).toNat) = 5 by omega] at this
    rw [this]
  obtain ⟨⟨l1, l2, l3, l4⟩, l5, l6, l7⟩ := hl
  have go : ∀ (n k : Nat) (u : z_V), (k : Int) + n = X 0 1 → z_go (z_ev z_hcM d) z_hcM 1251 5 [z_R 1, z_I w, z_I (-1), z_L (((X 0 3) + 1) ^ z_cnt (z_side X w (-1)) k), u, z_I k] [] z_hdM σ = some (z_I (if z_tot (z_side X w (-1)) (X 0 3) ≤ 20000 then 1 else 0), z_hdM, σ) := by
    intro n
    induction n with
    | zero =>
      intro k u hk
      rw [show (X 0 1).toNat = k by omega] at htot
      rw [z_B1251_5, ← htot]
      by_cases c : z_tot (z_side X w (-1)) (X 0 3) ≤ 20000
      · have e : ¬ (0 < z_lcmp (z_tot (z_side X w (-1)) (X 0 3) : Int) 20000) := by unfold z_lcmp; rw [if_neg (by omega)]; split <;> omega
        rw [if_pos c]
        simp (disch := omega) only [l2, if_pos, if_neg, e, z_fdM, z_pdM, z_adM, z_sdM, z_lkM, z_ndM, z_gdM, z_cI_some', z_cV_some', z_w_ok, Int.reduceAdd, Int.reduceSub, Int.reduceMul, Int.reduceNeg, Int.reduceEq, Int.reduceLT, Int.reduceLE, Int.reduceNe, reduceIte, true_and, and_true, false_and, and_false, if_true, if_false, ne_eq, not_true_eq_false, not_false_eq_true]
      · have e : 0 < z_lcmp (z_tot (z_side X w (-1)) (X 0 3) : Int) 20000 := by unfold z_lcmp; rw [if_pos (by omega)]; omega
        rw [if_neg c]
        simp (disch := omega) only [l2, if_pos, if_neg, e, z_fdM, z_pdM, z_adM, z_sdM, z_lkM, z_ndM, z_gdM, z_cI_some', z_cV_some', z_w_ok, Int.reduceAdd, Int.reduceSub, Int.reduceMul, Int.reduceNeg, Int.reduceEq, Int.reduceLT, Int.reduceLE, Int.reduceNe, reduceIte, true_and, and_true, false_and, and_false, if_true, if_false, ne_eq, not_true_eq_false, not_false_eq_true]
    | succ n ih =>
      intro k u hk
      have ht := htol k (by omega) (by omega)
      have e6 := l6 k (by omega) (by omega)
      have e5 := (l5 (X 6 k) ht.1 ht.2.1).2.2.2.2
      have next := fun u => ih (k + 1) u (by omega)
      have hb := z_side_bk hw (w := w) (k := k) (by omega)
      rw [z_ns, z_cnt_s, hb] at next
      rw [z_B1251_5]
      by_cases c : X 5 (X 6 k) = w
      · rw [decide_eq_true c, if_pos rfl, Int.pow_succ] at next
        have hcl := z_cnt_le' (S := (z_side X w (-1))) k
        have hp := z_pow21 (b := (X 0 3) + 1) (by omega) (by omega) (n := z_cnt (z_side X w (-1)) k) (by omega)
        have hm := z_mul_rng hp.1 hp.2 (show 0 ≤ (X 0 3) + 1 by omega) (show (X 0 3) + 1 ≤ 21 by omega)
        generalize ((X 0 3) + 1) ^ z_cnt (z_side X w (-1)) k = P at *
        simp (disch := omega) only [l2, if_pos, if_neg, e6, e5, c, l3, z_wl_ok, z_fdM, z_pdM, z_adM, z_sdM, z_lkM, z_ndM, z_gdM, z_cI_some', z_cV_some', z_w_ok, Int.reduceAdd, Int.reduceSub, Int.reduceMul, Int.reduceNeg, Int.reduceEq, Int.reduceLT, Int.reduceLE, Int.reduceNe, reduceIte, true_and, and_true, false_and, and_false, if_true, if_false, ne_eq, not_true_eq_false, not_false_eq_true]
        exact next _
      · rw [decide_eq_false c] at next
        simp only [Bool.false_eq_true, if_false, Nat.add_zero] at next
        simp (disch := omega) only [l2, if_pos, if_neg, e6, e5, z_fdM, z_pdM, z_adM, z_sdM, z_lkM, z_ndM, z_gdM, z_cI_some', z_cV_some', z_w_ok, Int.reduceAdd, Int.reduceSub, Int.reduceMul, Int.reduceNeg, Int.reduceEq, Int.reduceLT, Int.reduceLE, Int.reduceNe, reduceIte, true_and, and_true, false_and, and_false, if_true, if_false, ne_eq, not_true_eq_false, not_false_eq_true]
        exact next _
  rw [z_E1251]
  have := go (X 0 1).toNat 0 z_U (by omega)
  rw [show ((X 0 3) + 1) ^ z_cnt (z_side X w (-1)) 0 = 1 from Int.pow_zero _] at this
  exact this
theorem m_canSet (d : Nat) (hw : z_wf X) (hl : m_land σ X) (w : Int) : z_ev z_hcM (d + 2) 1252 [z_R 1, z_I w] z_hdM σ = some (z_I (if z_seek X w = true then 1 else 0), z_hdM, σ) := by
  by_cases c : w = 0 ∨ w = 1
  · have k := m_areFew hw hl d w
    by_cases c2 : z_tot (z_side X w (-1)) (X 0 3) ≤ 20000
    · rw [if_pos c2] at k
      rw [if_pos (z_seek_t.mpr ⟨c, c2⟩)]
      rcases c with rfl | rfl <;> simp (disch := omega) only [z_E1252, z_E1207, k, if_neg, z_fdM, z_pdM, z_adM, z_sdM, z_lkM, z_ndM, z_gdM, z_cI_some', z_cV_some', z_w_ok, Int.reduceAdd, Int.reduceSub, Int.reduceMul, Int.reduceNeg, Int.reduceEq, Int.reduceLT, Int.reduceLE, Int.reduceNe, reduceIte, true_and, and_true, false_and, and_false, if_true, if_false, ne_eq, not_true_eq_false, not_false_eq_true]
    · rw [if_neg c2] at k
      rw [if_neg (fun z => c2 (z_seek_t.mp z).2)]
      rcases c with rfl | rfl <;> simp (disch := omega) only [z_E1252, z_E1207, k, if_neg, z_fdM, z_pdM, z_adM, z_sdM, z_lkM, z_ndM, z_gdM, z_cI_some', z_cV_some', z_w_ok, Int.reduceAdd, Int.reduceSub, Int.reduceMul, Int.reduceNeg, Int.reduceEq, Int.reduceLT, Int.reduceLE, Int.reduceNe, reduceIte, true_and, and_true, false_and, and_false, if_true, if_false, ne_eq, not_true_eq_false, not_false_eq_true]
  · rw [if_neg (fun z => c (z_seek_t.mp z).1)]
    simp (disch := omega) only [z_E1252, z_E1207, if_neg, if_pos, z_fdM, z_pdM, z_adM, z_sdM, z_lkM, z_ndM, z_gdM, z_cI_some', z_cV_some', z_w_ok, Int.reduceAdd, Int.reduceSub, Int.reduceMul, Int.reduceNeg, Int.reduceEq, Int.reduceLT, Int.reduceLE, Int.reduceNe, reduceIte, true_and, and_true, false_and, and_false, if_true, if_false, ne_eq, not_true_eq_false, not_false_eq_true]
/-- tellTolls: of a house, or of all -/
theorem m_tellTolls (hw : z_wf X) (hl : m_land σ X) (hr : m_rw σ l) (hl19 : l.length ≤ 19) (d : Nat) {a w m : Int} (ha : a = 8 ∨ a = 45) (hA : ∀ k, 0 ≤ k → k < 5 → σ a k = t k) (hm : (w = -1 ∧ m = z_all X) ∨ ((w = 0 ∨ w = 1) ∧ m = (z_side X w (-1)))) :
    ∃ σ', z_ev z_hcM (d + 2) 1254 [z_R 1, z_R a, z_I w] z_hdM σ = some (z_U, z_hdM, σ') ∧ m_rw σ' (l ++ z_tl m t 5) ∧ m_ro σ σ' := by
  have hn := hw.2.1
  have hR := hw.1
  have htol := hw.2.2.2.2.2.2.2.2.1
  obtain ⟨⟨l1, l2, l3, l4⟩, l5, l6, l7⟩ := hl
  have hb : ∀ k : Nat, (k : Int) < X 0 1 → z_bt m k = (decide (w = -1) || decide (X 5 (X 6 k) = w)) := fun k hk => by
    rcases hm with ⟨rfl, rfl⟩ | ⟨h1, rfl⟩
    · unfold z_all
      rw [z_full_bt _ (by omega) k (by omega)]
      simp; omega
    · rw [z_side_bk hw hk, decide_eq_false (show ¬ w = -1 by omega), Bool.false_or]
  have hb0 : ∀ k : Nat, X 0 1 ≤ k → k < 5 → z_bt m k = false := fun k hk h5 => by
    rcases hm with ⟨rfl, rfl⟩ | ⟨h1, rfl⟩
    · unfold z_all
      rw [z_full_bt _ (by omega) k h5]
      simp; omega
    · exact z_side_b0 hw hk
  have htop : ∀ j : Nat, (X 0 1).toNat + j ≤ 5 → z_tl m t ((X 0 1).toNat + j) = z_tl m t (X 0 1).toNat := by
    intro j
    induction j with
    | zero => intro _; rfl
    | succ j ih =>
      intro hj
      show (if z_bt m (((X 0 1).toNat + j : Nat) : Int) = true then _ else _) = _
      rw [hb0 _ (by omega) (by omega)]
      exact ih (by omega)
  have h5 := htop (5 - (X 0 1).toNat) (by omega)
  rw [show (X 0 1).toNat + (5 - (X 0 1).toNat) = 5 by omega] at h5
  rw [h5]
  obtain ⟨σ', e, r, o⟩ := z_for (fun (k : Nat) (x : z_S) => z_go (z_ev z_hcM (d + 1)) z_hcM 1254 2 [z_R 1, z_R a, z_I w, z_I k] [] z_hdM x) (fun x => some (z_U, z_hdM, x)) (fun k x => m_rw x (l ++ z_tl m t k) ∧ m_ro σ x) (X 0 1).toNat (s := σ) ⟨by show m_rw σ (l ++ []); rw [List.append_nil]; exact hr, m_ro_refl⟩
    (fun k x hk ⟨hx, ho⟩ => by
      have ht := htol k (by omega) (by omega)
      have e6 : x 7 k = X 6 k := by rw [ho _ _ (by omega) (by omega)]; exact l6 k (by omega) (by omega)
      have e5 : x 6 (X 6 k) = X 5 (X 6 k) := by rw [ho _ _ (by omega) (by omega)]; exact (l5 (X 6 k) ht.1 ht.2.1).2.2.2.2
      have e8 : x a k = t k := by rw [ho _ _ (by omega) (by omega)]; exact hA k (by omega) (by omega)
      have e2 : x 1 8 = X 0 1 := by rw [ho _ _ (by omega) (by omega)]; exact l2
      have htl := z_tl_len (m := m) (t := t) k
      have hbk := hb k (by omega)
      by_cases c : z_bt m k = true
      · obtain ⟨x', a1', a2, a3⟩ := m_tell1 hx (by rw [List.length_append]; omega) d (t k)
        refine ⟨x', ?_, ?_, m_ro_trans ho a3⟩
        · rw [hbk, Bool.or_eq_true, decide_eq_true_eq, decide_eq_true_eq] at c
          rw [z_B1254_2]
          by_cases cw : w = -1
          · rcases ha with rfl | rfl <;> simp (disch := omega) only [if_neg, if_pos, e2, e8, a1', z_ns, z_fdM, z_pdM, z_adM, z_sdM, z_lkM, z_ndM, z_gdM, z_cI_some', z_cV_some', z_w_ok, Int.reduceAdd, Int.reduceSub, Int.reduceMul, Int.reduceNeg, Int.reduceEq, Int.reduceLT, Int.reduceLE, Int.reduceNe, reduceIte, true_and, and_true, false_and, and_false, if_true, if_false, ne_eq, not_true_eq_false, not_false_eq_true]
          · rcases ha with rfl | rfl <;> simp (disch := omega) only [if_neg, if_pos, e2, e8, e6, e5, a1', z_ns, z_fdM, z_pdM, z_adM, z_sdM, z_lkM, z_ndM, z_gdM, z_cI_some', z_cV_some', z_w_ok, Int.reduceAdd, Int.reduceSub, Int.reduceMul, Int.reduceNeg, Int.reduceEq, Int.reduceLT, Int.reduceLE, Int.reduceNe, reduceIte, true_and, and_true, false_and, and_false, if_true, if_false, ne_eq, not_true_eq_false, not_false_eq_true]
        · have : z_tl m t (k + 1) = z_tl m t k ++ [t k] := if_pos c
          rw [this, ← List.append_assoc]; exact a2
      · refine ⟨x, ?_, ?_, ho⟩
        · rw [hbk, Bool.or_eq_true, decide_eq_true_eq, decide_eq_true_eq] at c
          rw [z_B1254_2]
          simp (disch := omega) only [if_neg, if_pos, e2, e6, e5, z_ns, z_fdM, z_pdM, z_adM, z_sdM, z_lkM, z_ndM, z_gdM, z_cI_some', z_cV_some', z_w_ok, Int.reduceAdd, Int.reduceSub, Int.reduceMul, Int.reduceNeg, Int.reduceEq, Int.reduceLT, Int.reduceLE, Int.reduceNe, reduceIte, true_and, and_true, false_and, and_false, if_true, if_false, ne_eq, not_true_eq_false, not_false_eq_true]
        · have : z_tl m t (k + 1) = z_tl m t k := if_neg c
          rw [this]; exact hx) (fun x ⟨_, ho⟩ => by
      have e2 : x 1 8 = X 0 1 := by rw [ho _ _ (by omega) (by omega)]; exact l2
      rw [z_B1254_2]
      simp (disch := omega) only [if_pos, e2, z_fdM, z_pdM, z_adM, z_sdM, z_lkM, z_ndM, z_gdM, z_cI_some', z_cV_some', z_w_ok, Int.reduceAdd, Int.reduceSub, Int.reduceMul, Int.reduceNeg, Int.reduceEq, Int.reduceLT, Int.reduceLE, Int.reduceNe, reduceIte, true_and, and_true, false_and, and_false, if_true, if_false, ne_eq, not_true_eq_false, not_false_eq_true])
  exact ⟨σ', by rw [z_E1254]; exact e, r, o⟩
end
