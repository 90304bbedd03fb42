/-! The class's own methods: text, tolls, ways, takes. -/
section
variable {X X' σ σ' : z_S} {L A : Int}
theorem z_wf_gen (hw : z_wf X) (h : z_eqd X X') (h3 : 0 ≤ X' 0 3 ∧ X' 0 3 ≤ 20) (h4 : X' 0 4 = 0 ∨ X' 0 4 = 1) (h5 : 0 ≤ X' 0 5 ∧ X' 0 5 ≤ 100) (h6 : 0 ≤ X' 0 6 ∧ X' 0 6 ≤ 24) (h7 : ∀ k, 0 ≤ k → k < 5 → 0 ≤ X' 7 k ∧ X' 7 k ≤ X' 0 3) (h7' : ∀ k, X 0 1 ≤ k → k < 5 → X' 7 k = 0) (h17 : ∀ w, 0 ≤ w → w < 10 → 0 ≤ X' 17 w ∧ X' 17 w ≤ 99) (h18 : ∀ i, 0 ≤ i → i < X' 0 5 → 0 ≤ X' 18 i ∧ X' 18 i ≤ 255) : z_wf X' := by
  obtain ⟨w0, w1, w2, w3, w4, w5, w6, w7, w8, w9, wa, wb, wc, wd, we, wf⟩ := hw
  unfold z_wf
  rw [h.2 0 (by omega) (by omega), h.2 1 (by omega) (by omega), h.2 2 (by omega) (by omega), h.1 1 (by omega), h.1 2 (by omega), h.1 3 (by omega), h.1 4 (by omega), h.1 5 (by omega), h.1 6 (by omega), h.1 8 (by omega), h.1 9 (by omega), h.1 10 (by omega), h.1 11 (by omega), h.1 12 (by omega), h.1 13 (by omega), h.1 14 (by omega), h.1 15 (by omega), h.1 16 (by omega)]
  exact ⟨w0, w1, w2, h3, h4, h5, h6, w7, w8, w9, wa, h7, h7', wd, h17, h18⟩
theorem c_iv_gen (h : c_iw σ X L A) (e : z_eqd X X') (h3 : X' 0 3 = X 0 3) (hw : z_wf X') (ho : ∀ a i, 6 ≤ a → a ≤ 57 → a ≠ L + 3 → σ' a i = σ a i) (ht : ∀ k, 0 ≤ k → k < 5 → σ' (L + 3) k = X' 7 k) (h61 : σ' 61 0 = 0) (h62 : σ' 62 0 = 0) (h17 : σ' 1 7 = L) (h18 : σ' 1 8 = A) (h19 : σ' 1 9 = X' 0 4) (hwt : ∀ w, 0 ≤ w → w < 10 → σ' 76 w = X' 17 w) (hl : σ' 2 1 = X' 0 5) (hs : ∀ i, 0 ≤ i → i < X' 0 5 → σ' 3 i = X' 18 i) (hr : σ' 4 1 = X' 0 6) (hrr : ∀ i, 0 ≤ i → i < X' 0 6 → σ' 5 i = X' 19 i) : c_inv σ' X' := by
  obtain ⟨a1, -, -, -, -, a6, a7, a8, -⟩ := h
  refine ⟨L, A, ⟨a1, ⟨h17, h18, h19⟩, hwt, hl, hs, ?_, ?_, c_sv_congr e a8 (fun a i ha => ho a i (by omega) (by omega) (by omega)), h61, h62⟩, hr, hrr⟩
  · rw [z_fit_congr e, e.2 2 (by omega) (by omega)]; exact a6
  · rw [z_Dm_congr e]
    exact c_Q_congr e h3 hw a7 (fun a i h1 h2 => by
      by_cases c : a ≤ 5 ∨ 58 ≤ a
      · exact Or.inl c
      · exact Or.inr (ho a i (by omega) (by omega) h2)) ht
theorem c_iw.tolls (h : c_iw σ X L A) {k : Int} (h0 : 0 ≤ k) (h1 : k < 5) : σ (L + 3) k = X 7 k := h.Q.land.2.2.2.2.2.2.1 k h0 h1
def c_does (r : Option z_Res) (q : Int × z_S) : Prop := ∃ σ', r = some (z_I q.1, z_hdC, σ') ∧ c_inv σ' q.2
theorem c_does_i {r : Option z_Res} {v : Int} {Y s : z_S} (h : r = some (z_I v, z_hdC, s)) (h' : c_inv s Y) : c_does r (v, Y) := ⟨s, h, h'⟩
theorem z_and255 (x : Int) : 0 ≤ z_and x 255 ∧ z_and x 255 ≤ 255 := by
  unfold z_and
  have hb : (Int32.ofInt x &&& Int32.ofInt 255).toBitVec.toNat ≤ 255 := by
    rw [Int32.toBitVec_and, BitVec.toNat_and]
    have : (Int32.ofInt 255).toBitVec.toNat = 255 := by decide
    rw [this]
    exact Nat.and_le_right
  rw [z_toI (n := (Int32.ofInt x &&& Int32.ofInt 255).toBitVec.toNat) rfl (by omega)]
  omega
/-- byte k of a number, the first the highest -/
def z_byte (v k : Int) : Int := z_and (z_ushr v (24 - 8 * k)) 255
def z_push (X : z_S) (v : Int) : z_S := fun a i => if a = 0 then (if i = 5 then X 0 5 + 4 else X 0 i) else if a = 18 then (if X 0 5 ≤ i ∧ i < X 0 5 + 4 then z_byte v (i - X 0 5) else X 18 i) else X a i
def s_sign (X : z_S) (v : Int) : Int × z_S := if 96 < X 0 5 then (-1, X) else (X 0 5 + 4, z_push X v)
def s_end (X : z_S) (n : Int) : Int × z_S := if 0 ≤ n ∧ n ≤ X 0 5 then (1, z_upd X 0 5 n) else (0, X)
theorem z_eqd_0 {v i : Int} (hi : 3 ≤ i) : z_eqd X (z_upd X 0 i v) := ⟨fun a h => by funext j; rw [z_upd_ne (by omega)], fun j h0 h1 => by rw [z_upd_ne (by omega)]⟩
theorem z_eqd_a {a v i : Int} (ha : a = 7 ∨ 17 ≤ a) : z_eqd X (z_upd X a i v) := ⟨fun b h => by funext j; rw [z_upd_ne (by omega)], fun j h0 h1 => by rw [z_upd_ne (by omega)]⟩
theorem C_sign (h : c_inv σ X) (d : Nat) (v : Int) : c_does (z_ev z_hcC (d + 20) 1101 [z_R 1, z_I v] z_hdC σ) (s_sign X v) := by
  have h0 := h
  obtain ⟨L, A, hv, hr1, hr2⟩ := h
  obtain ⟨a1, ⟨b1, b2, b3⟩, a3, a4, a5, a6, a7, a8, a9⟩ := id hv
  have hwf := a7.wf
  have hlen := hwf.2.2.2.2.2.1
  unfold s_sign
  by_cases c : 96 < X 0 5
  · rw [if_pos c]
    refine ⟨σ, ?_, h0⟩
    simp (disch := omega) only [z_E1101, z_E501, a4, if_neg, z_fdC, z_pdC, z_adC, z_sdC, z_lkC, z_ndC, z_gdC, z_mdC, z_cI_some', z_cV_some', z_w_ok, Int.reduceAdd, Int.reduceSub, Int.reduceMul, Int.reduceNeg, Int.reduceEq, Int.reduceLT, Int.reduceLE, Int.reduceNe, reduceIte, true_and, and_true, false_and, and_false, if_true, if_false, ne_eq, not_true_eq_false, not_false_eq_true]
  · rw [if_neg c]
    obtain ⟨σ', e, ho, hl, hs⟩ := z_for (fun (k : Nat) (x : z_S) => z_go (z_ev z_hcC (d + 18)) z_hcC 501 14 [z_R 2, z_I v, z_I (24 - 8 * (k : Int))] [] z_hdC x) (fun x => some (z_I (X 0 5 + 4), z_hdC, x))
      (fun k x => (∀ a i, (a ≠ 2 ∨ i ≠ 1) → a ≠ 3 → x a i = σ a i) ∧ x 2 1 = X 0 5 + k ∧ ∀ i, 0 ≤ i → i < X 0 5 + k → x 3 i = z_push X v 18 i) 4 (s := σ) ⟨fun _ _ _ _ => rfl, by rw [a4]; omega, fun i i0 i1 => by
        rw [a5 i i0 (by omega)]
        unfold z_push
        rw [if_neg (by omega), if_pos rfl, if_neg (by omega)]⟩
      (fun k x hk ⟨ho, hx, hs⟩ => by
        refine ⟨z_upd (z_upd x 3 (X 0 5 + k) (z_byte v k)) 2 1 (X 0 5 + k + 1), ?_, fun a i h1 h2 => ?_, ?_, fun i i0 i1 => ?_⟩
        · rw [z_B501_14]
          simp (disch := omega) only [if_neg, hx, z_upd_at, z_fdC, z_pdC, z_adC, z_sdC, z_lkC, z_ndC, z_gdC, z_mdC, z_cI_some', z_cV_some', z_w_ok, Int.reduceAdd, Int.reduceSub, Int.reduceMul, Int.reduceNeg, Int.reduceEq, Int.reduceLT, Int.reduceLE, Int.reduceNe, reduceIte, true_and, and_true, false_and, and_false, if_true, if_false, ne_eq, not_true_eq_false, not_false_eq_true]
          rw [show 24 - 8 * (k : Int) + -8 = 24 - 8 * ((k + 1 : Nat) : Int) by omega]
          rfl
        · rw [z_upd_ne (by omega), z_upd_ne (by omega)]; exact ho a i h1 h2
        · rw [z_upd_same]; omega
        · rw [z_upd_ne (by omega)]
          by_cases hi : i = X 0 5 + k
          · subst hi
            rw [z_upd_same]
            unfold z_push
            rw [if_neg (by omega), if_pos rfl, if_pos (by omega), show X 0 5 + (k : Int) - X 0 5 = k by omega]
          · rw [z_upd_ne (by omega)]
            exact hs i i0 (by omega)) (fun x ⟨_, hx, _⟩ => by
        rw [z_B501_14]
        simp (disch := omega) only [if_pos, hx, z_fdC, z_pdC, z_adC, z_sdC, z_lkC, z_ndC, z_gdC, z_mdC, z_cI_some', z_cV_some', z_w_ok, Int.reduceAdd, Int.reduceSub, Int.reduceMul, Int.reduceNeg, Int.reduceEq, Int.reduceLT, Int.reduceLE, Int.reduceNe, reduceIte, true_and, and_true, false_and, and_false, if_true, if_false, ne_eq, not_true_eq_false, not_false_eq_true]
        rfl)
    have hp5 : z_push X v 0 5 = X 0 5 + 4 := by unfold z_push; rw [if_pos rfl, if_pos rfl]
    have hp0 : ∀ i, i ≠ 5 → z_push X v 0 i = X 0 i := fun i hi => by unfold z_push; rw [if_pos rfl, if_neg hi]
    have hpa : ∀ a i, a ≠ 0 → a ≠ 18 → z_push X v a i = X a i := fun a i h1 h2 => by unfold z_push; rw [if_neg h1, if_neg h2]
    have he : z_eqd X (z_push X v) := ⟨fun a ha => by funext i; exact hpa a i (by omega) (by omega), fun i h1 h2 => hp0 i (by omega)⟩
    have hw' : z_wf (z_push X v) := z_wf_gen hwf he (by rw [hp0 _ (by omega)]; exact hwf.2.2.2.1) (by rw [hp0 _ (by omega)]; exact hwf.2.2.2.2.1) (by rw [hp5]; omega) (by rw [hp0 _ (by omega)]; exact hwf.2.2.2.2.2.2.1) (fun k k0 k1 => by rw [hpa _ _ (by omega) (by omega), hp0 _ (by omega)]; exact hwf.2.2.2.2.2.2.2.2.2.2.2.1 k k0 k1) (fun k k0 k1 => by rw [hpa _ _ (by omega) (by omega)]; exact hwf.2.2.2.2.2.2.2.2.2.2.2.2.1 k k0 k1) (fun w w0 w1 => by rw [hpa _ _ (by omega) (by omega)]; exact hwf.2.2.2.2.2.2.2.2.2.2.2.2.2.2.1 w w0 w1) (fun i i0 i1 => by
      have h18 := hwf.2.2.2.2.2.2.2.2.2.2.2.2.2.2.2 i i0
      unfold z_push
      rw [if_neg (by omega), if_pos rfl]
      by_cases c : X 0 5 ≤ i ∧ i < X 0 5 + 4
      · rw [if_pos c]; exact z_and255 _
      · rw [if_neg c]
        rw [hp5] at i1
        exact h18 (by omega))
    refine c_does_i (s := σ') ?_ (c_iv_gen hv he (hp0 _ (by omega)) hw' (fun a i h1 h2 _ => ho a i (by omega) (by omega)) (fun k k0 k1 => by rw [ho _ _ (by omega) (by omega), hpa _ _ (by omega) (by omega)]; exact hv.tolls k0 k1) (by rw [ho _ _ (by omega) (by omega)]; exact a9.1) (by rw [ho _ _ (by omega) (by omega)]; exact a9.2) (by rw [ho _ _ (by omega) (by omega)]; exact b1) (by rw [ho _ _ (by omega) (by omega)]; exact b2) (by rw [ho _ _ (by omega) (by omega), hp0 _ (by omega)]; exact b3) (fun w w0 w1 => by rw [ho _ _ (by omega) (by omega), hpa _ _ (by omega) (by omega)]; exact a3 w w0 w1) (by rw [hl, hp5]; rfl) (fun i i0 i1 => hs i i0 (by rw [hp5] at i1; exact i1)) (by rw [ho _ _ (by omega) (by omega), hp0 _ (by omega)]; exact hr1) (fun i i0 i1 => by rw [hp0 _ (by omega)] at i1; rw [ho _ _ (by omega) (by omega), hpa _ _ (by omega) (by omega)]; exact hr2 i i0 i1))
    have e' : z_go (z_ev z_hcC (d + 18)) z_hcC 501 14 [z_R 2, z_I v, z_I 24] [] z_hdC σ = some (z_I (X 0 5 + 4), z_hdC, σ') := e
    simp (disch := omega) only [z_E1101, z_E501, a4, if_pos, e', z_fdC, z_pdC, z_adC, z_sdC, z_lkC, z_ndC, z_gdC, z_mdC, z_cI_some', z_cV_some', z_w_ok, Int.reduceAdd, Int.reduceSub, Int.reduceMul, Int.reduceNeg, Int.reduceEq, Int.reduceLT, Int.reduceLE, Int.reduceNe, reduceIte, true_and, and_true, false_and, and_false, if_true, if_false, ne_eq, not_true_eq_false, not_false_eq_true]
theorem C_end (h : c_inv σ X) (d : Nat) (n : Int) : c_does (z_ev z_hcC (d + 20) 1102 [z_R 1, z_I n] z_hdC σ) (s_end X n) := by
  have h0 := h
  obtain ⟨L, A, hv, hr1, hr2⟩ := h
  obtain ⟨a1, ⟨b1, b2, b3⟩, a3, a4, a5, a6, a7, a8, a9⟩ := id hv
  have hwf := a7.wf
  have hlen := hwf.2.2.2.2.2.1
  unfold s_end
  by_cases c1 : n < 0
  · rw [if_neg (by omega)]
    refine ⟨σ, ?_, h0⟩
    simp (disch := omega) only [z_E1102, z_E502, if_pos, Int.reduceEq, or_false, true_or, z_fdC, z_pdC, z_adC, z_sdC, z_lkC, z_ndC, z_gdC, z_mdC, z_cI_some', z_cV_some', z_w_ok, Int.reduceAdd, Int.reduceSub, Int.reduceMul, Int.reduceNeg, Int.reduceEq, Int.reduceLT, Int.reduceLE, Int.reduceNe, reduceIte, true_and, and_true, false_and, and_false, if_true, if_false, ne_eq, not_true_eq_false, not_false_eq_true]
  · by_cases c2 : n ≤ X 0 5
    · rw [if_pos (by omega)]
      have hw' : z_wf (z_upd X 0 5 n) := z_wf_gen hwf (z_eqd_0 (by omega)) (by rw [z_upd_ne (by omega)]; exact hwf.2.2.2.1) (by rw [z_upd_ne (by omega)]; exact hwf.2.2.2.2.1) (by rw [z_upd_same]; omega) (by rw [z_upd_ne (by omega)]; exact hwf.2.2.2.2.2.2.1) (fun k k0 k1 => by rw [z_upd_ne (by omega), z_upd_ne (by omega)]; exact hwf.2.2.2.2.2.2.2.2.2.2.2.1 k k0 k1) (fun k k0 k1 => by rw [z_upd_ne (by omega)]; exact hwf.2.2.2.2.2.2.2.2.2.2.2.2.1 k k0 k1) (fun w w0 w1 => by rw [z_upd_ne (by omega)]; exact hwf.2.2.2.2.2.2.2.2.2.2.2.2.2.2.1 w w0 w1) (fun i i0 i1 => by rw [z_upd_same] at i1; rw [z_upd_ne (by omega)]; exact hwf.2.2.2.2.2.2.2.2.2.2.2.2.2.2.2 i i0 (by omega))
      refine c_does_i (s := z_upd σ 2 1 n) ?_ (c_iv_gen hv (z_eqd_0 (by omega)) (z_upd_ne (by omega)) hw' (fun a i h1 h2 _ => z_upd_ne (by omega)) (fun k k0 k1 => by rw [z_upd_ne (by have := hv.hL; omega), z_upd_ne (by omega)]; exact hv.tolls k0 k1) (by rw [z_upd_ne (by omega)]; exact a9.1) (by rw [z_upd_ne (by omega)]; exact a9.2) (by rw [z_upd_ne (by omega)]; exact b1) (by rw [z_upd_ne (by omega)]; exact b2) (by rw [z_upd_ne (by omega), z_upd_ne (by omega)]; exact b3) (fun w w0 w1 => by rw [z_upd_ne (by omega), z_upd_ne (by omega)]; exact a3 w w0 w1) (by rw [z_upd_same, z_upd_same]) (fun i i0 i1 => by rw [z_upd_same] at i1; rw [z_upd_ne (by omega), z_upd_ne (by omega)]; exact a5 i i0 (by omega)) (by rw [z_upd_ne (by omega), z_upd_ne (by omega)]; exact hr1) (fun i i0 i1 => by rw [z_upd_ne (by omega)] at i1; rw [z_upd_ne (by omega), z_upd_ne (by omega)]; exact hr2 i i0 i1))
      simp (disch := omega) only [z_E1102, z_E502, if_pos, if_neg, a4, Int.reduceEq, or_true, false_or, z_fdC, z_pdC, z_adC, z_sdC, z_lkC, z_ndC, z_gdC, z_mdC, z_cI_some', z_cV_some', z_w_ok, Int.reduceAdd, Int.reduceSub, Int.reduceMul, Int.reduceNeg, Int.reduceEq, Int.reduceLT, Int.reduceLE, Int.reduceNe, reduceIte, true_and, and_true, false_and, and_false, if_true, if_false, ne_eq, not_true_eq_false, not_false_eq_true]
    · rw [if_neg (by omega)]
      refine ⟨σ, ?_, h0⟩
      simp (disch := omega) only [z_E1102, z_E502, if_pos, if_neg, a4, Int.reduceEq, or_false, true_or, z_fdC, z_pdC, z_adC, z_sdC, z_lkC, z_ndC, z_gdC, z_mdC, z_cI_some', z_cV_some', z_w_ok, Int.reduceAdd, Int.reduceSub, Int.reduceMul, Int.reduceNeg, Int.reduceEq, Int.reduceLT, Int.reduceLE, Int.reduceNe, reduceIte, true_and, and_true, false_and, and_false, if_true, if_false, ne_eq, not_true_eq_false, not_false_eq_true]
def s_toll (X : z_S) (r v : Int) : Int × z_S := if (0 ≤ r ∧ r < X 0 0) ∧ 0 ≤ z_slt X r ∧ 0 ≤ v ∧ v ≤ X 0 3 then (X 7 (z_slt X r), z_upd X 7 (z_slt X r) v) else (-1, X)
def s_lean (X : z_S) (v : Int) : Int × z_S := if v = 0 ∨ v = 1 then (X 0 4, z_upd X 0 4 v) else (-1, X)
def s_weight (X : z_S) (w v : Int) : Int × z_S := if (0 ≤ w ∧ w < 10) ∧ 0 ≤ v ∧ v ≤ 99 then (X 17 w, z_upd X 17 w v) else (-1, X)
/-- a road's slot, -1 if it is none of the land's tolled ones -/
def z_slr (X : z_S) (r : Int) : Int := if 0 ≤ r ∧ r < X 0 0 then z_slt X r else -1
theorem c_iw.slotAt (h : c_iw σ X L A) (d : Nat) (r : Int) : z_ev z_hcC (d + 2) 607 [z_R (L + 1), z_I r] z_hdC σ = some (z_I (z_slr X r), z_hdC, σ) := by
  have hQ := h.Q
  unfold z_slr
  by_cases c : 0 ≤ r ∧ r < X 0 0
  · rw [if_pos c]; exact c_slotAt' hQ.hL hQ.wf hQ.land d c.1 c.2
  · have := hQ.hL
    rw [if_neg c, c_slotAt (q := L + 1) (by omega), hQ.land.1, if_neg (by omega)]
theorem z_slr_rng (hw : z_wf X) (r : Int) : -1 ≤ z_slr X r ∧ z_slr X r < X 0 1 ∧ z_slr X r < 5 := by
  have h1 := hw.2.1
  unfold z_slr
  split
  · rcases z_slt_some hw r with ⟨e, -⟩ | ⟨e1, e2, -⟩ <;> omega
  · omega
theorem C_toll (h : c_inv σ X) (d : Nat) (r v : Int) : c_does (z_ev z_hcC (d + 20) 1104 [z_R 1, z_I r, z_I v] z_hdC σ) (s_toll X r v) := by
  have h0 := h
  obtain ⟨L, A, hv, hr1, hr2⟩ := h
  obtain ⟨a1, ⟨b1, b2, b3⟩, a3, a4, a5, a6, a7, a8, a9⟩ := id hv
  have hwf := a7.wf
  have hL := hv.hL
  have hsl := hv.slotAt (d + 17) r
  have hsr := z_slr_rng hwf r
  have l3 := a7.land.2.2.1
  unfold s_toll
  by_cases c1 : z_slr X r < 0
  · have hn : ¬ ((0 ≤ r ∧ r < X 0 0) ∧ 0 ≤ z_slt X r ∧ 0 ≤ v ∧ v ≤ X 0 3) := fun z => by
      unfold z_slr at c1
      rw [if_pos z.1] at c1
      omega
    rw [if_neg hn]
    refine ⟨σ, ?_, h0⟩
    simp (disch := omega) only [z_E1104, b1, c_LC hL, hsl, if_pos, z_fdC, z_pdC, z_adC, z_sdC, z_lkC, z_ndC, z_gdC, z_mdC, z_cI_some', z_cV_some', z_w_ok, Int.reduceAdd, Int.reduceSub, Int.reduceMul, Int.reduceNeg, Int.reduceEq, Int.reduceLT, Int.reduceLE, Int.reduceNe, reduceIte, true_and, and_true, false_and, and_false, if_true, if_false, ne_eq, not_true_eq_false, not_false_eq_true]
  · have hr : 0 ≤ r ∧ r < X 0 0 := by
      unfold z_slr at c1
      split at c1
      · next h => exact h
      · omega
    have es : z_slr X r = z_slt X r := if_pos hr
    by_cases c2 : 0 ≤ v ∧ v ≤ X 0 3
    · rw [if_pos ⟨hr, by omega, c2.1, c2.2⟩, ← es]
      have ht := hv.tolls (k := z_slr X r) (by omega) (by omega)
      have hw' : z_wf (z_upd X 7 (z_slr X r) v) := z_wf_gen hwf (z_eqd_a (by omega)) (by rw [z_upd_ne (by omega)]; exact hwf.2.2.2.1) (by rw [z_upd_ne (by omega)]; exact hwf.2.2.2.2.1) (by rw [z_upd_ne (by omega)]; exact hwf.2.2.2.2.2.1) (by rw [z_upd_ne (by omega)]; exact hwf.2.2.2.2.2.2.1) (fun k k0 k1 => by
        rw [z_upd_ne (a := 7) (b := 0) (by omega)]
        by_cases hk : k = z_slr X r
        · subst hk; rw [z_upd_same]; exact c2
        · rw [z_upd_ne (by omega)]; exact hwf.2.2.2.2.2.2.2.2.2.2.2.1 k k0 k1) (fun k k0 k1 => by rw [z_upd_ne (by omega)]; exact hwf.2.2.2.2.2.2.2.2.2.2.2.2.1 k k0 k1) (fun w w0 w1 => by rw [z_upd_ne (by omega)]; exact hwf.2.2.2.2.2.2.2.2.2.2.2.2.2.2.1 w w0 w1) (fun i i0 i1 => by rw [z_upd_ne (by omega)] at i1; rw [z_upd_ne (by omega)]; exact hwf.2.2.2.2.2.2.2.2.2.2.2.2.2.2.2 i i0 i1)
      refine c_does_i (s := z_upd σ (L + 3) (z_slr X r) v) ?_ (c_iv_gen hv (z_eqd_a (by omega)) (z_upd_ne (by omega)) hw' (fun a i h1 h2 h3 => z_upd_ne (by omega)) (fun k k0 k1 => by
        by_cases hk : k = z_slr X r
        · subst hk; rw [z_upd_same, z_upd_same]
        · rw [z_upd_ne (by omega), z_upd_ne (by omega)]; exact hv.tolls k0 k1) (by rw [z_upd_ne (by omega)]; exact a9.1) (by rw [z_upd_ne (by omega)]; exact a9.2) (by rw [z_upd_ne (by omega)]; exact b1) (by rw [z_upd_ne (by omega)]; exact b2) (by rw [z_upd_ne (by omega), z_upd_ne (by omega)]; exact b3) (fun w w0 w1 => by rw [z_upd_ne (by omega), z_upd_ne (by omega)]; exact a3 w w0 w1) (by rw [z_upd_ne (by omega), z_upd_ne (by omega)]; exact a4) (fun i i0 i1 => by rw [z_upd_ne (by omega)] at i1; rw [z_upd_ne (by omega), z_upd_ne (by omega)]; exact a5 i i0 i1) (by rw [z_upd_ne (by omega), z_upd_ne (by omega)]; exact hr1) (fun i i0 i1 => by rw [z_upd_ne (by omega)] at i1; rw [z_upd_ne (by omega), z_upd_ne (by omega)]; exact hr2 i i0 i1))
      simp (disch := omega) only [z_E1104, b1, c_LC hL, c_LA hL, hsl, if_neg, if_pos, l3, ht, z_fdC, z_pdC, z_adC, z_sdC, z_lkC, z_ndC, z_gdC, z_mdC, z_cI_some', z_cV_some', z_w_ok, Int.reduceAdd, Int.reduceSub, Int.reduceMul, Int.reduceNeg, Int.reduceEq, Int.reduceLT, Int.reduceLE, Int.reduceNe, reduceIte, true_and, and_true, false_and, and_false, if_true, if_false, ne_eq, not_true_eq_false, not_false_eq_true]
    · rw [if_neg (fun z => c2 z.2.2)]
      refine ⟨σ, ?_, h0⟩
      by_cases c3 : v < 0
      · simp (disch := omega) only [z_E1104, b1, c_LC hL, hsl, if_pos, if_neg, z_fdC, z_pdC, z_adC, z_sdC, z_lkC, z_ndC, z_gdC, z_mdC, z_cI_some', z_cV_some', z_w_ok, Int.reduceAdd, Int.reduceSub, Int.reduceMul, Int.reduceNeg, Int.reduceEq, Int.reduceLT, Int.reduceLE, Int.reduceNe, reduceIte, true_and, and_true, false_and, and_false, if_true, if_false, ne_eq, not_true_eq_false, not_false_eq_true]
      · simp (disch := omega) only [z_E1104, b1, c_LC hL, hsl, if_pos, if_neg, l3, z_fdC, z_pdC, z_adC, z_sdC, z_lkC, z_ndC, z_gdC, z_mdC, z_cI_some', z_cV_some', z_w_ok, Int.reduceAdd, Int.reduceSub, Int.reduceMul, Int.reduceNeg, Int.reduceEq, Int.reduceLT, Int.reduceLE, Int.reduceNe, reduceIte, true_and, and_true, false_and, and_false, if_true, if_false, ne_eq, not_true_eq_false, not_false_eq_true]
theorem C_lean (h : c_inv σ X) (d : Nat) (v : Int) : c_does (z_ev z_hcC (d + 20) 1105 [z_R 1, z_I v] z_hdC σ) (s_lean X v) := by
  have h0 := h
  obtain ⟨L, A, hv, hr1, hr2⟩ := h
  obtain ⟨a1, ⟨b1, b2, b3⟩, a3, a4, a5, a6, a7, a8, a9⟩ := id hv
  have hwf := a7.wf
  have hL := hv.hL
  unfold s_lean
  by_cases c : v = 0 ∨ v = 1
  · rw [if_pos c]
    have hw' : z_wf (z_upd X 0 4 v) := z_wf_gen hwf (z_eqd_0 (by omega)) (by rw [z_upd_ne (by omega)]; exact hwf.2.2.2.1) (by rw [z_upd_same]; exact c) (by rw [z_upd_ne (by omega)]; exact hwf.2.2.2.2.2.1) (by rw [z_upd_ne (by omega)]; exact hwf.2.2.2.2.2.2.1) (fun k k0 k1 => by rw [z_upd_ne (by omega), z_upd_ne (by omega)]; exact hwf.2.2.2.2.2.2.2.2.2.2.2.1 k k0 k1) (fun k k0 k1 => by rw [z_upd_ne (by omega)]; exact hwf.2.2.2.2.2.2.2.2.2.2.2.2.1 k k0 k1) (fun w w0 w1 => by rw [z_upd_ne (by omega)]; exact hwf.2.2.2.2.2.2.2.2.2.2.2.2.2.2.1 w w0 w1) (fun i i0 i1 => by rw [z_upd_ne (by omega)] at i1; rw [z_upd_ne (by omega)]; exact hwf.2.2.2.2.2.2.2.2.2.2.2.2.2.2.2 i i0 i1)
    refine c_does_i (s := z_upd σ 1 9 v) ?_ (c_iv_gen hv (z_eqd_0 (by omega)) (z_upd_ne (by omega)) hw' (fun a i h1 h2 h3 => z_upd_ne (by omega)) (fun k k0 k1 => by rw [z_upd_ne (by omega), z_upd_ne (by omega)]; exact hv.tolls k0 k1) (by rw [z_upd_ne (by omega)]; exact a9.1) (by rw [z_upd_ne (by omega)]; exact a9.2) (by rw [z_upd_ne (by omega)]; exact b1) (by rw [z_upd_ne (by omega)]; exact b2) (by rw [z_upd_same, z_upd_same]) (fun w w0 w1 => by rw [z_upd_ne (by omega), z_upd_ne (by omega)]; exact a3 w w0 w1) (by rw [z_upd_ne (by omega), z_upd_ne (by omega)]; exact a4) (fun i i0 i1 => by rw [z_upd_ne (by omega)] at i1; rw [z_upd_ne (by omega), z_upd_ne (by omega)]; exact a5 i i0 i1) (by rw [z_upd_ne (by omega), z_upd_ne (by omega)]; exact hr1) (fun i i0 i1 => by rw [z_upd_ne (by omega)] at i1; rw [z_upd_ne (by omega), z_upd_ne (by omega)]; exact hr2 i i0 i1))
    simp (disch := omega) only [z_E1105, if_neg, if_pos, b3, z_fdC, z_pdC, z_adC, z_sdC, z_lkC, z_ndC, z_gdC, z_mdC, z_cI_some', z_cV_some', z_w_ok, Int.reduceAdd, Int.reduceSub, Int.reduceMul, Int.reduceNeg, Int.reduceEq, Int.reduceLT, Int.reduceLE, Int.reduceNe, reduceIte, true_and, and_true, false_and, and_false, if_true, if_false, ne_eq, not_true_eq_false, not_false_eq_true]
  · rw [if_neg c]
    refine ⟨σ, ?_, h0⟩
    by_cases c3 : v < 0
    · simp (disch := omega) only [z_E1105, if_pos, z_fdC, z_pdC, z_adC, z_sdC, z_lkC, z_ndC, z_gdC, z_mdC, z_cI_some', z_cV_some', z_w_ok, Int.reduceAdd, Int.reduceSub, Int.reduceMul, Int.reduceNeg, Int.reduceEq, Int.reduceLT, Int.reduceLE, Int.reduceNe, reduceIte, true_and, and_true, false_and, and_false, if_true, if_false, ne_eq, not_true_eq_false, not_false_eq_true]
    · simp (disch := omega) only [z_E1105, if_pos, if_neg, z_fdC, z_pdC, z_adC, z_sdC, z_lkC, z_ndC, z_gdC, z_mdC, z_cI_some', z_cV_some', z_w_ok, Int.reduceAdd, Int.reduceSub, Int.reduceMul, Int.reduceNeg, Int.reduceEq, Int.reduceLT, Int.reduceLE, Int.reduceNe, reduceIte, true_and, and_true, false_and, and_false, if_true, if_false, ne_eq, not_true_eq_false, not_false_eq_true]
theorem C_weight (h : c_inv σ X) (d : Nat) (w v : Int) : c_does (z_ev z_hcC (d + 20) 1130 [z_R 1, z_I w, z_I v] z_hdC σ) (s_weight X w v) := by
  have h0 := h
  obtain ⟨L, A, hv, hr1, hr2⟩ := h
  obtain ⟨a1, ⟨b1, b2, b3⟩, a3, a4, a5, a6, a7, a8, a9⟩ := id hv
  have hwf := a7.wf
  have hL := hv.hL
  unfold s_weight
  by_cases c : (0 ≤ w ∧ w < 10) ∧ 0 ≤ v ∧ v ≤ 99
  · rw [if_pos c]
    have hw' : z_wf (z_upd X 17 w v) := z_wf_gen hwf (z_eqd_a (by omega)) (by rw [z_upd_ne (by omega)]; exact hwf.2.2.2.1) (by rw [z_upd_ne (by omega)]; exact hwf.2.2.2.2.1) (by rw [z_upd_ne (by omega)]; exact hwf.2.2.2.2.2.1) (by rw [z_upd_ne (by omega)]; exact hwf.2.2.2.2.2.2.1) (fun k k0 k1 => by rw [z_upd_ne (by omega), z_upd_ne (by omega)]; exact hwf.2.2.2.2.2.2.2.2.2.2.2.1 k k0 k1) (fun k k0 k1 => by rw [z_upd_ne (by omega)]; exact hwf.2.2.2.2.2.2.2.2.2.2.2.2.1 k k0 k1) (fun u w0 w1 => by
      by_cases hu : u = w
      · subst hu; rw [z_upd_same]; exact c.2
      · rw [z_upd_ne (by omega)]; exact hwf.2.2.2.2.2.2.2.2.2.2.2.2.2.2.1 u w0 w1) (fun i i0 i1 => by rw [z_upd_ne (by omega)] at i1; rw [z_upd_ne (by omega)]; exact hwf.2.2.2.2.2.2.2.2.2.2.2.2.2.2.2 i i0 i1)
    have hw76 := a3 w c.1.1 c.1.2
    refine c_does_i (s := z_upd σ 76 w v) ?_ (c_iv_gen hv (z_eqd_a (by omega)) (z_upd_ne (by omega)) hw' (fun a i h1 h2 h3 => z_upd_ne (by omega)) (fun k k0 k1 => by rw [z_upd_ne (by omega), z_upd_ne (by omega)]; exact hv.tolls k0 k1) (by rw [z_upd_ne (by omega)]; exact a9.1) (by rw [z_upd_ne (by omega)]; exact a9.2) (by rw [z_upd_ne (by omega)]; exact b1) (by rw [z_upd_ne (by omega)]; exact b2) (by rw [z_upd_ne (by omega), z_upd_ne (by omega)]; exact b3) (fun u w0 w1 => by
      by_cases hu : u = w
      · subst hu; rw [z_upd_same, z_upd_same]
      · rw [z_upd_ne (by omega), z_upd_ne (by omega)]; exact a3 u w0 w1) (by rw [z_upd_ne (by omega), z_upd_ne (by omega)]; exact a4) (fun i i0 i1 => by rw [z_upd_ne (by omega)] at i1; rw [z_upd_ne (by omega), z_upd_ne (by omega)]; exact a5 i i0 i1) (by rw [z_upd_ne (by omega), z_upd_ne (by omega)]; exact hr1) (fun i i0 i1 => by rw [z_upd_ne (by omega)] at i1; rw [z_upd_ne (by omega), z_upd_ne (by omega)]; exact hr2 i i0 i1))
    simp (disch := omega) only [z_E1130, if_neg, if_pos, hw76, z_fdC, z_pdC, z_adC, z_sdC, z_lkC, z_ndC, z_gdC, z_mdC, z_cI_some', z_cV_some', z_w_ok, Int.reduceAdd, Int.reduceSub, Int.reduceMul, Int.reduceNeg, Int.reduceEq, Int.reduceLT, Int.reduceLE, Int.reduceNe, reduceIte, true_and, and_true, false_and, and_false, if_true, if_false, ne_eq, not_true_eq_false, not_false_eq_true]
  · rw [if_neg c]
    refine ⟨σ, ?_, h0⟩
    by_cases c1 : w < 0
    · simp (disch := omega) only [z_E1130, if_pos, z_fdC, z_pdC, z_adC, z_sdC, z_lkC, z_ndC, z_gdC, z_mdC, z_cI_some', z_cV_some', z_w_ok, Int.reduceAdd, Int.reduceSub, Int.reduceMul, Int.reduceNeg, Int.reduceEq, Int.reduceLT, Int.reduceLE, Int.reduceNe, reduceIte, true_and, and_true, false_and, and_false, if_true, if_false, ne_eq, not_true_eq_false, not_false_eq_true]
    · by_cases c2 : 10 ≤ w
      · simp (disch := omega) only [z_E1130, if_pos, if_neg, z_fdC, z_pdC, z_adC, z_sdC, z_lkC, z_ndC, z_gdC, z_mdC, z_cI_some', z_cV_some', z_w_ok, Int.reduceAdd, Int.reduceSub, Int.reduceMul, Int.reduceNeg, Int.reduceEq, Int.reduceLT, Int.reduceLE, Int.reduceNe, reduceIte, true_and, and_true, false_and, and_false, if_true, if_false, ne_eq, not_true_eq_false, not_false_eq_true]
      · by_cases c3 : v < 0
        · simp (disch := omega) only [z_E1130, if_pos, if_neg, z_fdC, z_pdC, z_adC, z_sdC, z_lkC, z_ndC, z_gdC, z_mdC, z_cI_some', z_cV_some', z_w_ok, Int.reduceAdd, Int.reduceSub, Int.reduceMul, Int.reduceNeg, Int.reduceEq, Int.reduceLT, Int.reduceLE, Int.reduceNe, reduceIte, true_and, and_true, false_and, and_false, if_true, if_false, ne_eq, not_true_eq_false, not_false_eq_true]
        · simp (disch := omega) only [z_E1130, if_pos, if_neg, z_fdC, z_pdC, z_adC, z_sdC, z_lkC, z_ndC, z_gdC, z_mdC, z_cI_some', z_cV_some', z_w_ok, Int.reduceAdd, Int.reduceSub, Int.reduceMul, Int.reduceNeg, Int.reduceEq, Int.reduceLT, Int.reduceLE, Int.reduceNe, reduceIte, true_and, and_true, false_and, and_false, if_true, if_false, ne_eq, not_true_eq_false, not_false_eq_true]
end
