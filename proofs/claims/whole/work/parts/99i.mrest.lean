/-! The reference: all sets of both houses; their numbers. -/
section
variable {σ0 σ σ' σ'' X : z_S} {D : z_D} {nw : Int → Bool} {t t' T : Int → Int} {l : List Int}
theorem z_all_bt (hw : z_wf X) {k : Nat} (hk : k < 5) : z_bt (z_all X) k = decide ((k : Int) < X 0 1) := by
  have hn := hw.2.1
  unfold z_all
  rw [z_full_bt _ (by omega) k hk]
  by_cases c : (k : Int) < X 0 1
  · rw [decide_eq_true c, decide_eq_true (by omega)]
  · rw [decide_eq_false c, decide_eq_false (by omega)]
theorem z_QA (hw : z_wf X) : z_or (z_side X 0 (-1)) (z_side X 1 (-1)) = z_all X := by
  have h0 := z_side_rng hw 0 (-1)
  have h1 := z_side_rng hw 1 (-1)
  have hor := z_or_32 (z_side X 0 (-1)).toNat (by omega) (z_side X 1 (-1)).toNat (by omega)
  rw [Int.toNat_of_nonneg h0.1, Int.toNat_of_nonneg h1.1] at hor
  refine z_ext32 ⟨hor.1, hor.2.1⟩ (z_all_rng hw) (fun k k0 k1 => ?_)
  have hb := (hor.2.2.2.2 k.toNat (by omega)).1
  have ha := z_all_bt hw (k := k.toNat) (by omega)
  rw [Int.toNat_of_nonneg k0] at hb ha
  have a := z_side_bt hw (h := 0) (s := -1) k0
  have b := z_side_bt hw (h := 1) (s := -1) k0
  rw [hb, ha, Bool.eq_iff_iff, Bool.or_eq_true, a, b, decide_eq_true_eq]
  constructor
  · rintro (h | h) <;> exact h.1
  · intro hk
    have ht := hw.2.2.2.2.2.2.2.2.1 k k0 hk
    have hho := (hw.2.2.2.2.2.2.2.1 (X 6 k) ht.1 ht.2.1).2.2.2.2.2
    rcases (show X 5 (X 6 k) = 0 ∨ X 5 (X 6 k) = 1 by omega) with e | e
    · exact Or.inl ⟨hk, e, by omega⟩
    · exact Or.inr ⟨hk, e, by omega⟩
theorem z_all_cnt (hw : z_wf X) : ∀ {k : Nat}, (k : Int) ≤ X 0 1 → z_cnt (z_all X) k = k
  | 0, _ => rfl
  | k + 1, h => by
    have hn := hw.2.1
    have hb := z_all_bt hw (k := k) (by omega)
    rw [decide_eq_true (show (k : Int) < X 0 1 by omega)] at hb
    rw [z_cnt_s, hb, z_all_cnt hw (by omega), if_pos rfl]
theorem z_all_tot (hw : z_wf X) : (z_tot (z_all X) (X 0 3) : Int) = ((X 0 3) + 1) ^ (X 0 1).toNat := by
  have hn := hw.2.1
  rw [z_tot_cnt (z_all_rng hw) hw.2.2.2.1.1]
  have h := z_cnt_top (S := z_all X) (n := (X 0 1).toNat) (fun k hk => by
    by_cases k5 : k < 5
    · rw [z_all_bt hw k5, decide_eq_false (by omega)]
    · unfold z_bt
      have hr := z_all_rng hw
      refine Nat.testBit_lt_two_pow ?_
      have : 2 ^ 5 ≤ 2 ^ ((k : Int).toNat) := Nat.pow_le_pow_right (by omega) (by omega)
      generalize 2 ^ ((k : Int).toNat) = p at *
      omega) (5 - (X 0 1).toNat)
  rw [show (X 0 1).toNat + (5 - (X 0 1).toNat) = 5 by omega] at h
  rw [h, z_all_cnt hw (by omega)]
/-- tolls, those of house w left out -/
def z_lo (X : z_S) (w : Int) (t : Int → Int) : Int → Int := fun k => if X 5 (X 6 k) = w then 0 else t k
/-- the number of a set, house w left out -/
def z_nmo (X : z_S) (w : Int) (t : Int → Int) : Int := z_pl (z_all X) (X 0 3) (z_lo X w t) (X 0 1).toNat
theorem z_lo_dgc {w : Int} {S cp : Int} (hc : 0 ≤ cp) (h : z_tcap cp t) : z_dgc S cp (z_lo X w t) := fun k k0 k1 _ => by
  have := h k k0 k1
  unfold z_lo
  split <;> omega
theorem z_num_rng (hw : z_wf X) (w : Int) (ht : z_tcap (X 0 3) t) : 0 ≤ z_nmo X w t ∧ z_nmo X w t < (z_tot (z_all X) (X 0 3) : Int) := by
  have hn := hw.2.1
  have h := z_pl_rng' hw.2.2.2.1.1 (z_lo_dgc (X := X) (w := w) (S := z_all X) hw.2.2.2.1.1 ht) (n := (X 0 1).toNat) (by omega)
  rw [z_all_tot hw]
  rw [z_all_cnt hw (by omega)] at h
  exact h
theorem z_num_iff (hw : z_wf X) {w v : Int} (hwv : (w = 0 ∧ v = 1) ∨ (w = 1 ∧ v = 0)) (ht : z_tcap (X 0 3) t) (ht' : z_tcap (X 0 3) t') : z_nmo X w t = z_nmo X w t' ↔ z_pl (z_side X v (-1)) (X 0 3) t 5 = z_pl (z_side X v (-1)) (X 0 3) t' 5 := by
  have hn := hw.2.1
  have hc := hw.2.2.2.1.1
  have hv : ∀ k : Int, 0 ≤ k → k < X 0 1 → (X 5 (X 6 k) = v ↔ X 5 (X 6 k) ≠ w) := fun k k0 k1 => by
    have ht := hw.2.2.2.2.2.2.2.2.1 k k0 k1
    have hho := (hw.2.2.2.2.2.2.2.1 (X 6 k) ht.1 ht.2.1).2.2.2.2.2
    omega
  constructor
  · intro e
    have h := z_pl_eq' hc (z_lo_dgc (X := X) (w := w) (S := z_all X) hc ht) (z_lo_dgc (X := X) (w := w) (S := z_all X) hc ht') (n := (X 0 1).toNat) (by omega) e
    refine z_pl_congr (fun k k0 k1 hb => ?_)
    obtain ⟨b1, b2, -⟩ := (z_side_bt hw k0).mp hb
    have hab := z_all_bt hw (k := k.toNat) (by omega)
    rw [Int.toNat_of_nonneg k0, decide_eq_true b1] at hab
    have h2 := h k k0 (by omega) hab
    unfold z_lo at h2
    rw [if_neg ((hv k k0 b1).mp b2), if_neg ((hv k k0 b1).mp b2)] at h2
    exact h2
  · intro e
    have h := z_pl_eq' hc (fun k k0 k1 _ => ht k k0 k1) (fun k k0 k1 _ => ht' k k0 k1) (Nat.le_refl 5) e
    refine z_pl_congr (fun k k0 k1 _ => ?_)
    have k1' : k < X 0 1 := by omega
    unfold z_lo
    by_cases c : X 5 (X 6 k) = w
    · rw [if_pos c, if_pos c]
    · rw [if_neg c, if_neg c]
      have ht := hw.2.2.2.2.2.2.2.2.1 k k0 k1'
      exact h k k0 (by omega) ((z_side_bt hw k0).mpr ⟨k1', (hv k k0 k1').mpr c, by omega⟩)
theorem m_numOf (d : Nat) (hw : z_wf X) (hl : m_land σ X) {w : Int} (cw : w = 0 ∨ w = 1) (ht : ∀ k, 0 ≤ k → k < 5 → σ 8 k = t k) (htc : z_tcap (X 0 3) t) : z_ev z_hcM (d + 1) 1271 [z_R 1, z_I w] z_hdM σ = some (z_I (z_nmo X w t), z_hdM, σ) := by
  have hn := hw.2.1
  have hR := hw.1
  have hcp := hw.2.2.2.1
  have htol := hw.2.2.2.2.2.2.2.2.1
  obtain ⟨⟨l1, l2, l3, l4⟩, l5, l6, l7⟩ := hl
  have go : ∀ (n k : Nat), (k : Int) + n = X 0 1 → z_go (z_ev z_hcM d) z_hcM 1271 4 [z_R 1, z_I w, z_I (z_pl (z_all X) (X 0 3) (z_lo X w t) k), z_I k] [] z_hdM σ = some (z_I (z_nmo X w t), z_hdM, σ) := by
    intro n
    induction n with
    | zero =>
      intro k hk
      rw [z_B1271_4]
      unfold z_nmo
      rw [show (X 0 1).toNat = k by omega]
      simp (disch := omega) only [l2, if_pos, z_fdM, z_pdM, z_adM, z_sdM, z_lkM, z_ndM, z_gdM, z_cI_some', z_cV_some', z_w_ok, Int.reduceAdd, Int.reduceSub, Int.reduceMul, Int.reduceNeg, Int.reduceEq, Int.reduceLT, Int.reduceLE, Int.reduceNe, reduceIte, true_and, and_true, false_and, and_false, if_true, if_false, ne_eq, not_true_eq_false, not_false_eq_true]
    | succ n ih =>
      intro k hk
      have hto := htol k (by omega) (by omega)
      have e6 := l6 k (by omega) (by omega)
      have e5 := (l5 (X 6 k) hto.1 hto.2.1).2.2.2.2
      have e8 := ht k (by omega) (by omega)
      have t0 := htc k (by omega) (by omega)
      have hb := z_all_bt hw (k := k) (by omega)
      rw [decide_eq_true (show (k : Int) < X 0 1 by omega)] at hb
      have hs : z_pl (z_all X) (X 0 3) (z_lo X w t) (k + 1) = z_pl (z_all X) (X 0 3) (z_lo X w t) k * ((X 0 3) + 1) + z_lo X w t k := if_pos hb
      have hr := z_pl_rng' hcp.1 (z_lo_dgc (X := X) (w := w) (S := z_all X) hcp.1 htc) (n := k) (by omega)
      have hp21 := z_pow21 (b := (X 0 3) + 1) (by omega) (by omega) (n := z_cnt (z_all X) k) (by have := z_cnt_le' (S := z_all X) k; omega)
      have hm := z_mul_rng hr.1 (show z_pl (z_all X) (X 0 3) (z_lo X w t) k ≤ 4084101 by omega) (show 0 ≤ (X 0 3) + 1 by omega) (show (X 0 3) + 1 ≤ 21 by omega)
      have next := ih (k + 1) (by omega)
      rw [hs, z_ns] at next
      unfold z_lo at next
      rw [z_B1271_4]
      have cw1 : w ≠ -1 := by omega
      by_cases c : X 5 (X 6 k) = w
      · simp only [if_pos c] at next
        change z_go _ _ _ _ [_, _, z_I (z_pl (z_all X) (X 0 3) (z_lo X w t) k * ((X 0 3) + 1) + 0), _] _ _ _ = _ at next
        simp (disch := omega) only [l2, if_neg, e6, e5, c, l3, e8, z_fdM, z_pdM, z_adM, z_sdM, z_lkM, z_ndM, z_gdM, z_cI_some', z_cV_some', z_w_ok, Int.reduceAdd, Int.reduceSub, Int.reduceMul, Int.reduceNeg, Int.reduceEq, Int.reduceLT, Int.reduceLE, Int.reduceNe, reduceIte, true_and, and_true, false_and, and_false, if_true, if_false, ne_eq, not_true_eq_false, not_false_eq_true]
        exact next
      · simp only [if_neg c] at next
        change z_go _ _ _ _ [_, _, z_I (z_pl (z_all X) (X 0 3) (z_lo X w t) k * ((X 0 3) + 1) + t k), _] _ _ _ = _ at next
        simp (disch := omega) only [l2, if_neg, if_pos, e6, e5, l3, e8, z_fdM, z_pdM, z_adM, z_sdM, z_lkM, z_ndM, z_gdM, z_cI_some', z_cV_some', z_w_ok, Int.reduceAdd, Int.reduceSub, Int.reduceMul, Int.reduceNeg, Int.reduceEq, Int.reduceLT, Int.reduceLE, Int.reduceNe, reduceIte, true_and, and_true, false_and, and_false, if_true, if_false, ne_eq, not_true_eq_false, not_false_eq_true]
        exact next
  rw [z_E1271]
  exact go (X 0 1).toNat 0 (by omega)
theorem m_layAll (d : Nat) (hw : z_wf X) (hl : m_land σ X) (ht : ∀ k, X 0 1 ≤ k → k < 5 → σ 8 k = X 7 k) : ∃ σ', z_ev z_hcM (d + 1) 1272 [z_R 1] z_hdM σ = some (z_U, z_hdM, σ') ∧ (∀ a i, a ≠ 8 → a ≠ 43 → (a ≠ 1 ∨ i ≠ 56) → σ' a i = σ a i) ∧ m_t σ' (z_ti (z_all X) (X 0 3) (X 7) 0) ∧ m_pls σ' (z_all X) (X 0 1) := by
  have hn := hw.2.1
  have h8 := hl.1.2.1
  obtain ⟨σ', e, o, z8, z43⟩ := z_for (fun (k : Nat) (x : z_S) => z_go (z_ev z_hcM d) z_hcM 1272 10 [z_R 1, z_I k] [] z_hdM x) (fun x => some (z_U, z_hdM, x)) (fun k x => (∀ a i, (a ≠ 8 ∨ (k : Int) ≤ i ∨ i < 0) → a ≠ 43 → x a i = (z_upd σ 1 56 (X 0 1)) a i) ∧ (∀ j : Int, 0 ≤ j → j < k → x 8 j = 0) ∧ ∀ j : Int, 0 ≤ j → j < k → x 43 j = j) (X 0 1).toNat (s := z_upd σ 1 56 (X 0 1)) ⟨fun _ _ _ _ => rfl, fun j j0 j1 => absurd j1 (by omega), fun j j0 j1 => absurd j1 (by omega)⟩
    (fun k x hk ⟨xo, x8, x43⟩ => by
      have e8 : x 1 8 = X 0 1 := by rw [xo _ _ (by omega) (by omega), z_upd_ne (by omega)]; exact h8
      refine ⟨z_upd (z_upd x 43 k k) 8 k 0, ?_, fun a i h1 h2 => by rw [z_upd_ne (by omega), z_upd_ne (by omega)]; exact xo a i (by omega) h2, fun j j0 j1 => ?_, fun j j0 j1 => ?_⟩
      · rw [z_B1272_10]
        simp (disch := omega) only [e8, if_neg, z_ns, z_fdM, z_pdM, z_adM, z_sdM, z_lkM, z_ndM, z_gdM, z_cI_some', z_cV_some', z_w_ok, Int.reduceAdd, Int.reduceSub, Int.reduceMul, Int.reduceNeg, Int.reduceEq, Int.reduceLT, Int.reduceLE, Int.reduceNe, reduceIte, true_and, and_true, false_and, and_false, if_true, if_false, ne_eq, not_true_eq_false, not_false_eq_true]
      · by_cases cj : j = k
        · rw [cj, z_upd_same]
        · rw [z_upd_ne (by omega), z_upd_ne (by omega)]; exact x8 j j0 (by omega)
      · rw [z_upd_ne (by omega)]
        by_cases cj : j = k
        · rw [cj, z_upd_same]
        · rw [z_upd_ne (by omega)]; exact x43 j j0 (by omega)) (fun x ⟨xo, _⟩ => by
      have e8 : x 1 8 = X 0 1 := by rw [xo _ _ (by omega) (by omega), z_upd_ne (by omega)]; exact h8
      rw [z_B1272_10]
      simp (disch := omega) only [e8, if_pos, z_fdM, z_pdM, z_adM, z_sdM, z_lkM, z_ndM, z_gdM, z_cI_some', z_cV_some', z_w_ok, Int.reduceAdd, Int.reduceSub, Int.reduceMul, Int.reduceNeg, Int.reduceEq, Int.reduceLT, Int.reduceLE, Int.reduceNe, reduceIte, true_and, and_true, false_and, and_false, if_true, if_false, ne_eq, not_true_eq_false, not_false_eq_true])
  refine ⟨σ', ?_, fun a i h1 h2 h3 => by rw [o a i (by omega) h2, z_upd_ne (by omega)], fun k k0 k1 => ?_, ?_, fun k hk hb => ?_⟩
  · have e' : z_go (z_ev z_hcM d) z_hcM 1272 10 [z_R 1, z_I 0] [] z_hdM (z_upd σ 1 56 (X 0 1)) = _ := e
    simp (disch := omega) only [z_E1272, h8, e', z_fdM, z_pdM, z_adM, z_sdM, z_lkM, z_ndM, z_gdM, z_cI_some', z_cV_some', z_w_ok, Int.reduceAdd, Int.reduceSub, Int.reduceMul, Int.reduceNeg, Int.reduceEq, Int.reduceLT, Int.reduceLE, Int.reduceNe, reduceIte, true_and, and_true, false_and, and_false, if_true, if_false, ne_eq, not_true_eq_false, not_false_eq_true]
  · show σ' 8 k = if 0 ≤ k ∧ z_bt (z_all X) k = true then 0 else X 7 k
    have hb := z_all_bt hw (k := k.toNat) (by omega)
    rw [Int.toNat_of_nonneg k0] at hb
    by_cases c : k < X 0 1
    · rw [if_pos ⟨k0, by rw [hb]; exact decide_eq_true c⟩]
      exact z8 k k0 (by omega)
    · rw [if_neg (fun z => by rw [hb, decide_eq_true_eq] at z; exact c z.2), o _ _ (by omega) (by omega), z_upd_ne (by omega)]
      exact ht k (by omega) k1
  · rw [o _ _ (by omega) (by omega), z_upd_same, z_all_cnt hw (by omega), Int.toNat_of_nonneg hn.1]
  · rw [z_all_cnt hw (by omega)]
    exact z43 k (by omega) (by omega)
end
