/-! The reference: spare. -/
theorem z_dm_top : ∀ s : Nat, s < 32 → ∀ m : Nat, m < 32 → z_dm (m : Int) s = 0 → m ≤ s := by decide +kernel
theorem z_dm_bits : ∀ s : Nat, s < 32 → ∀ m : Nat, m < 32 → z_dm (m : Int) s = 0 → ∀ k : Nat, k < 5 → z_bt m k = true → z_bt s k = true := by decide +kernel
theorem z_lst_skip {P : Int → Bool} {f b : Int → Int} {later : Bool} {n : Nat} : ∀ j : Nat, (∀ i : Nat, n ≤ i → i < n + j → P i = false) → z_lst P f b later (n + j) = z_lst P f b later n
  | 0, _ => rfl
  | j + 1, h => by
    have ih := z_lst_skip (P := P) (f := f) (b := b) (later := later) (n := n) j (fun i h0 h1 => h i h0 (by omega))
    have hP := h (n + j) (by omega) (by omega)
    show (if P ((n + j : Nat) : Int) = true ∧ _ then _ else z_lst P f b later (n + j)) = _
    rw [if_neg (fun z => by rw [hP] at z; exact absurd z.1 (by simp))]
    exact ih
theorem z_lst_neg {P : Int → Bool} {f b : Int → Int} {later : Bool} (hf : ∀ k : Int, 0 ≤ k → k < 32 → 0 ≤ f k) : ∀ {n : Nat}, n ≤ 32 → (z_lst P f b later n).1 < 0 → z_lst P f b later n = (-1, 0, 0)
  | 0, _, _ => rfl
  | n + 1, hn, h => by
    have h0 := hf n (by omega) (by omega)
    unfold z_lst at h ⊢
    split at h
    · have : f n < 0 := h
      omega
    · next c =>
      rw [if_neg c]
      exact z_lst_neg hf (by omega) h
section
variable {σ0 σ σ' σ'' X : z_S} {D : z_D} {nw : Int → Bool} {t T : Int → Int} {l : List Int}
theorem m_roadBits (d : Nat) (hw : z_wf X) (hl : m_land σ X) {m : Int} (hm : 0 ≤ m ∧ m < 32) (hb : ∀ k : Nat, X 0 1 ≤ k → k < 5 → z_bt m k = false) : z_ev z_hcM (d + 1) 1274 [z_R 1, z_I m] z_hdM σ = some (z_I (z_rbs X m 5), z_hdM, σ) := by
  have hn := hw.2.1
  have hR := hw.1
  obtain ⟨⟨l1, l2, l3, l4⟩, l5, l6, l7⟩ := hl
  have htol := hw.2.2.2.2.2.2.2.2.1
  have htop : ∀ j : Nat, (X 0 1).toNat + j ≤ 5 → z_rbs X m ((X 0 1).toNat + j) = z_rbs X m (X 0 1).toNat := by
    intro j
    induction j with
    | zero => intro _; rfl
    | succ j ih =>
      intro hj
      have hbj := hb ((X 0 1).toNat + j) (by omega) (by omega)
      rw [show (X 0 1).toNat + (j + 1) = ((X 0 1).toNat + j) + 1 by omega, z_rbs_s (fun h => by rw [hbj] at h; cases h), if_neg (by rw [hbj]; simp)]
      exact ih (by omega)
  have h5 := htop (5 - (X 0 1).toNat) (by omega)
  rw [show (X 0 1).toNat + (5 - (X 0 1).toNat) = 5 by omega] at h5
  rw [h5]
  have go : ∀ (n k : Nat), (k : Int) + n = X 0 1 → z_go (z_ev z_hcM d) z_hcM 1274 4 [z_R 1, z_I m, z_I (z_rbs X m k), z_I k] [] z_hdM σ = some (z_I (z_rbs X m (X 0 1).toNat), z_hdM, σ) := by
    intro n
    induction n with
    | zero =>
      intro k hk
      rw [z_B1274_4, show (X 0 1).toNat = k by omega]
      simp (disch := omega) only [l2, if_pos, z_fdM, z_pdM, z_adM, z_sdM, z_lkM, z_ndM, z_gdM, z_cI_some', z_cV_some', z_w_ok, Int.reduceAdd, Int.reduceSub, Int.reduceMul, Int.reduceNeg, Int.reduceEq, Int.reduceLT, Int.reduceLE, Int.reduceNe, reduceIte, true_and, and_true, false_and, and_false, if_true, if_false, ne_eq, not_true_eq_false, not_false_eq_true]
    | succ n ih =>
      intro k hk
      have next := ih (k + 1) (by omega)
      have ht := htol k (by omega) (by omega)
      have e6 := l6 k (by omega) (by omega)
      have hbit := z_bit (m := m) (k := (k : Int)) hm.1 (by omega) (by omega) (by omega)
      rw [z_ns, z_rbs_s (fun _ => by omega)] at next
      rw [z_B1274_4]
      by_cases c : z_bt m k = true
      · rw [if_pos c] at next hbit
        simp (disch := omega) only [l2, if_neg, hbit, e6, z_fdM, z_pdM, z_adM, z_sdM, z_lkM, z_ndM, z_gdM, z_cI_some', z_cV_some', z_w_ok, Int.reduceAdd, Int.reduceSub, Int.reduceMul, Int.reduceNeg, Int.reduceEq, Int.reduceLT, Int.reduceLE, Int.reduceNe, reduceIte, true_and, and_true, false_and, and_false, if_true, if_false, ne_eq, not_true_eq_false, not_false_eq_true]
        exact next
      · rw [if_neg c] at next hbit
        simp (disch := omega) only [l2, if_neg, if_pos, hbit, z_fdM, z_pdM, z_adM, z_sdM, z_lkM, z_ndM, z_gdM, z_cI_some', z_cV_some', z_w_ok, Int.reduceAdd, Int.reduceSub, Int.reduceMul, Int.reduceNeg, Int.reduceEq, Int.reduceLT, Int.reduceLE, Int.reduceNe, reduceIte, true_and, and_true, false_and, and_false, if_true, if_false, ne_eq, not_true_eq_false, not_false_eq_true]
        exact next
  have e0 : z_rbs X m 0 = 0 := by
    unfold z_rbs
    have : ∀ n : Nat, z_bs (fun r => decide (∃ i : Nat, i < 0 ∧ z_bt m i = true ∧ X 6 i = r)) n = 0 := by
      intro n
      induction n with
      | zero => rfl
      | succ n ih =>
        unfold z_bs
        rw [ih, if_neg (by rw [decide_eq_true_eq]; rintro ⟨i, hi, -⟩; omega)]
        rfl
    exact this 14
  have g := go (X 0 1).toNat 0 (by omega)
  rw [e0] at g
  rw [z_E1274]
  exact g
theorem z_rbs_0 : z_rbs X 0 5 = 0 := by
  have hb : ∀ k : Nat, z_bt 0 k = false := fun k => by unfold z_bt; simp
  unfold z_rbs
  have : ∀ n : Nat, z_bs (fun r => decide (∃ i : Nat, i < 5 ∧ z_bt 0 i = true ∧ X 6 i = r)) n = 0 := by
    intro n
    induction n with
    | zero => rfl
    | succ n ih =>
      unfold z_bs
      rw [ih, if_neg (by rw [decide_eq_true_eq]; rintro ⟨i, -, hi, -⟩; rw [hb] at hi; cases hi)]
      rfl
  exact this 14
theorem M_spare (h : m_inv σ X) (d : Nat) (w k : Int) : m_does (z_ev z_hcM (d + 20) 1275 [z_R 1, z_I w, z_I k] z_hdM σ) (s_spare2 X w k) := by
  have hi := m_inv_thr h
  have hcp := h.cp
  have hn := h.1.2.1
  have hR := h.1.1
  have kc := m_canSet (d + 17) h.1 hi.2.1 w
  have hsr := z_side_rng h.1 w (-1)
  unfold s_spare2
  by_cases c : z_seek X w = true
  · rw [if_pos c] at kc
    obtain ⟨cw, ctot⟩ := z_seek_t.mp c
    -- the house's slots
    have hl0 := hi.2.1
    obtain ⟨⟨l1, l2, l3, l4⟩, l5, l6, l7⟩ := id hi.2.1
    have mine : z_go (z_ev z_hcM (d + 19)) z_hcM 1275 20 [z_R 1, z_I w, z_I k, z_I 0, z_I 0, z_U, z_U, z_U, z_U] [] z_hdM (z_upd σ 1 26 0) = z_go (z_ev z_hcM (d + 19)) z_hcM 1275 20 [z_R 1, z_I w, z_I k, z_I (z_side X w (-1)), z_I (X 0 1), z_U, z_U, z_U, z_U] [] z_hdM (z_upd σ 1 26 0) := by
      have go : ∀ (n j : Nat), (j : Int) + n = X 0 1 → z_go (z_ev z_hcM (d + 19)) z_hcM 1275 20 [z_R 1, z_I w, z_I k, z_I (z_bs (fun k => decide (X 5 (X 6 k) = w) && decide (X 6 k ≠ -1)) j), z_I j, z_U, z_U, z_U, z_U] [] z_hdM (z_upd σ 1 26 0) = z_go (z_ev z_hcM (d + 19)) z_hcM 1275 20 [z_R 1, z_I w, z_I k, z_I (z_side X w (-1)), z_I (X 0 1), z_U, z_U, z_U, z_U] [] z_hdM (z_upd σ 1 26 0) := by
        intro n
        induction n with
        | zero =>
          intro j hj
          have e : z_bs (fun k => decide (X 5 (X 6 k) = w) && decide (X 6 k ≠ -1)) j = (z_side X w (-1)) := by
            unfold z_side
            rw [show (X 0 1).toNat = j by omega]
          rw [e, show (j : Int) = X 0 1 by omega]
        | succ n ih =>
          intro j hj
          have ht := h.1.2.2.2.2.2.2.2.2.1 j (by omega) (by omega)
          have e6 := l6 j (by omega) (by omega)
          have e5 := (l5 (X 6 j) ht.1 ht.2.1).2.2.2.2
          have hr := z_bs_rng (P := fun k => decide (X 5 (X 6 k) = w) && decide (X 6 k ≠ -1)) (n := j)
          have hor := z_or_bit (m := z_bs (fun k => decide (X 5 (X 6 k) = w) && decide (X 6 k ≠ -1)) j) (k := (j : Int)) hr.1 (by omega) (by omega) (by rw [Int.toNat_natCast]; exact hr.2)
          rw [Int.toNat_natCast] at hor
          have hbs : z_bs (fun k => decide (X 5 (X 6 k) = w) && decide (X 6 k ≠ -1)) (j + 1) = z_bs (fun k => decide (X 5 (X 6 k) = w) && decide (X 6 k ≠ -1)) j + if (decide (X 5 (X 6 j) = w) && decide (X 6 j ≠ -1)) = true then ((2 ^ j : Nat) : Int) else 0 := rfl
          have hne : decide (X 6 j ≠ -1) = true := decide_eq_true (by omega)
          have h25 : 2 ^ j ≤ 2 ^ 5 := Nat.pow_le_pow_right (by omega) (by omega)
          have hor0 : ∀ x : Int, 0 ≤ x → x < 32 → z_or x 0 = x := fun x x0 x1 => by
            have : ∀ y : Nat, y < 32 → z_or (y : Int) 0 = y := by decide
            have := this x.toNat (by omega)
            rwa [Int.toNat_of_nonneg x0] at this
          have hz := hor0 (z_bs (fun k => decide (X 5 (X 6 k) = w) && decide (X 6 k ≠ -1)) j) hr.1 (by omega)
          have next := ih (j + 1) (by omega)
          rw [hbs, hne, z_ns] at next
          rw [z_B1275_20]
          by_cases cc : X 5 (X 6 j) = w
          · rw [decide_eq_true cc, if_pos (by simp)] at next
            simp (disch := omega) only [if_neg, l2, e6, e5, cc, hor, z_fdM, z_pdM, z_adM, z_sdM, z_lkM, z_ndM, z_gdM, z_cI_some', z_cV_some', z_w_ok, Int.reduceAdd, Int.reduceSub, Int.reduceMul, Int.reduceNeg, Int.reduceEq, Int.reduceLT, Int.reduceLE, Int.reduceNe, reduceIte, true_and, and_true, false_and, and_false, if_true, if_false, ne_eq, not_true_eq_false, not_false_eq_true]
            exact next
          · rw [decide_eq_false cc, if_neg (by simp), Int.add_zero] at next
            simp (disch := omega) only [if_neg, if_pos, l2, e6, e5, hz, z_fdM, z_pdM, z_adM, z_sdM, z_lkM, z_ndM, z_gdM, z_cI_some', z_cV_some', z_w_ok, Int.reduceAdd, Int.reduceSub, Int.reduceMul, Int.reduceNeg, Int.reduceEq, Int.reduceLT, Int.reduceLE, Int.reduceNe, reduceIte, true_and, and_true, false_and, and_false, if_true, if_false, ne_eq, not_true_eq_false, not_false_eq_true]
            exact next
      have := go (X 0 1).toNat 0 (by omega)
      exact this
    have hpc := c_bitCount (hc := z_hcM) (hd := z_hdM) (σ := z_upd σ 1 26 0) (d + 18) hsr.1 hsr.2.1
    have hpl := z_pc_le (z_side X w (-1))
    by_cases c2 : 0 ≤ k ∧ k ≤ z_pc (z_side X w (-1))
    · rw [if_pos ⟨c, c2⟩]
      obtain ⟨σ1, e1, q1⟩ := m_gat0 hi (d + 14)
      have hPm : ∀ m : Int, 0 ≤ m → m < 32 → z_dm m (z_side X w (-1)) = 0 → (∀ j : Int, 0 ≤ j → j < 5 → z_bt m j = true → z_bt (z_side X w (-1)) j = true) ∧ m ≤ (z_side X w (-1)) := fun m m0 m1 hm => by
        have a1 := z_dm_top ((z_side X w (-1))).toNat (by omega) m.toNat (by omega)
        have a2 := z_dm_bits ((z_side X w (-1))).toNat (by omega) m.toNat (by omega)
        rw [Int.toNat_of_nonneg m0, Int.toNat_of_nonneg hsr.1] at a1 a2
        refine ⟨fun j j0 j1 hb => ?_, by have := a1 hm; omega⟩
        have := a2 hm j.toNat (by omega)
        rw [Int.toNat_of_nonneg j0] at this
        exact this hb
      have hti : ∀ u, z_tcap (X 0 3) u → ∀ i mv, c_t20 (z_ti mv (X 0 3) u i) := fun u hu i mv => z_tcap_20 hcp.2 (z_ti_cap (Int.le_refl _) hcp.1 hu i)
      have hf0 : ∀ m : Int, 0 ≤ m → m < 32 → 0 ≤ z_suf (z_Dm X (-1)).op (z_Dm X (-1)).mn (z_Dm X (-1)).gN (X 0 4) (z_xt (z_Dm X (-1)) (X 0 4) (z_Dm X (-1)).mn (z_side X w (-1)) (X 0 3) (X 7) m) := fun m m0 m1 => (q1.sufr hi (hti _ (z_t0_cap hcp.1 h.tc) _ _) (X 0 4)).1
      have hSL : z_SL X w k = z_lst (fun m => decide (z_dm m (z_side X w (-1)) = 0) && decide (z_pc m = k)) (fun m => z_suf (z_Dm X (-1)).op (z_Dm X (-1)).mn (z_Dm X (-1)).gN (X 0 4) (z_xt (z_Dm X (-1)) (X 0 4) (z_Dm X (-1)).mn (z_side X w (-1)) (X 0 3) (X 7) m)) (z_xv (z_Dm X (-1)) (X 0 4) (z_Dm X (-1)).mn (z_side X w (-1)) (X 0 3) (X 7)) false (((z_side X w (-1))).toNat + 1) := by
        have := z_lst_skip (P := fun m => decide (z_dm m (z_side X w (-1)) = 0) && decide (z_pc m = k)) (f := fun m => z_suf (z_Dm X (-1)).op (z_Dm X (-1)).mn (z_Dm X (-1)).gN (X 0 4) (z_xt (z_Dm X (-1)) (X 0 4) (z_Dm X (-1)).mn (z_side X w (-1)) (X 0 3) (X 7) m)) (b := z_xv (z_Dm X (-1)) (X 0 4) (z_Dm X (-1)).mn (z_side X w (-1)) (X 0 3) (X 7)) (later := false) (n := ((z_side X w (-1))).toNat + 1) (32 - (((z_side X w (-1))).toNat + 1)) (fun i h0 h1 => by
          have hne : ¬ z_dm (i : Int) (z_side X w (-1)) = 0 := fun e => by have := (hPm i (by omega) (by omega) e).2; omega
          show (decide (z_dm (i : Int) (z_side X w (-1)) = 0) && _) = false
          rw [decide_eq_false hne, Bool.false_and])
        rw [show ((z_side X w (-1))).toNat + 1 + (32 - (((z_side X w (-1))).toNat + 1)) = 32 by omega] at this
        exact this
      rw [hSL]
      generalize hf : (fun m : Int => z_suf (z_Dm X (-1)).op (z_Dm X (-1)).mn (z_Dm X (-1)).gN (X 0 4) (z_xt (z_Dm X (-1)) (X 0 4) (z_Dm X (-1)).mn (z_side X w (-1)) (X 0 3) (X 7) m)) = f at *
      have hfv : ∀ v, z_suf (z_Dm X (-1)).op (z_Dm X (-1)).mn (z_Dm X (-1)).gN (X 0 4) (z_xt (z_Dm X (-1)) (X 0 4) (z_Dm X (-1)).mn (z_side X w (-1)) (X 0 3) (X 7) v) = f v := fun v => by rw [← hf]
      simp only [hfv] at hf0
      have go : ∀ (n m : Nat) (u : z_V) (x : z_S), m + n = ((z_side X w (-1))).toNat + 1 → m_on (z_upd σ 1 26 0) x X (z_Dm X (-1)) (z_nwD X (-1)) (X 7) →
          ∃ (u' : z_V) (x' : z_S), z_go (z_ev z_hcM (d + 19)) z_hcM 1275 92 [z_R 1, z_I w, z_I k, z_I (z_side X w (-1)), z_I (z_lst (fun m => decide (z_dm m (z_side X w (-1)) = 0) && decide (z_pc m = k)) f (z_xv (z_Dm X (-1)) (X 0 4) (z_Dm X (-1)).mn (z_side X w (-1)) (X 0 3) (X 7)) false m).1, z_I (z_rbs X (z_lst (fun m => decide (z_dm m (z_side X w (-1)) = 0) && decide (z_pc m = k)) f (z_xv (z_Dm X (-1)) (X 0 4) (z_Dm X (-1)).mn (z_side X w (-1)) (X 0 3) (X 7)) false m).2.1 5), z_I (z_lst (fun m => decide (z_dm m (z_side X w (-1)) = 0) && decide (z_pc m = k)) f (z_xv (z_Dm X (-1)) (X 0 4) (z_Dm X (-1)).mn (z_side X w (-1)) (X 0 3) (X 7)) false m).2.2, z_I m, u] [] z_hdM x = z_go (z_ev z_hcM (d + 19)) z_hcM 1275 92 [z_R 1, z_I w, z_I k, z_I (z_side X w (-1)), z_I (z_lst (fun m => decide (z_dm m (z_side X w (-1)) = 0) && decide (z_pc m = k)) f (z_xv (z_Dm X (-1)) (X 0 4) (z_Dm X (-1)).mn (z_side X w (-1)) (X 0 3) (X 7)) false (((z_side X w (-1))).toNat + 1)).1, z_I (z_rbs X (z_lst (fun m => decide (z_dm m (z_side X w (-1)) = 0) && decide (z_pc m = k)) f (z_xv (z_Dm X (-1)) (X 0 4) (z_Dm X (-1)).mn (z_side X w (-1)) (X 0 3) (X 7)) false (((z_side X w (-1))).toNat + 1)).2.1 5), z_I (z_lst (fun m => decide (z_dm m (z_side X w (-1)) = 0) && decide (z_pc m = k)) f (z_xv (z_Dm X (-1)) (X 0 4) (z_Dm X (-1)).mn (z_side X w (-1)) (X 0 3) (X 7)) false (((z_side X w (-1))).toNat + 1)).2.2, z_I ((z_side X w (-1)) + 1), u'] [] z_hdM x' ∧ m_on (z_upd σ 1 26 0) x' X (z_Dm X (-1)) (z_nwD X (-1)) (X 7) := by
        intro n
        induction n with
        | zero =>
          intro m u x hm qx
          refine ⟨u, x, ?_, qx⟩
          rw [show m = ((z_side X w (-1))).toNat + 1 by omega, show ((((z_side X w (-1))).toNat + 1 : Nat) : Int) = (z_side X w (-1)) + 1 by omega]
        | succ n ih =>
          intro m u x hm qx
          have hdm := z_dm_ok (x := (m : Int)) (y := (z_side X w (-1))) ⟨by omega, by omega⟩ ⟨hsr.1, hsr.2.1⟩
          have hdme : z_and (m : Int) (z_xor (z_side X w (-1)) (-1)) = z_dm m (z_side X w (-1)) := rfl
          have hpcm := c_bitCount (hc := z_hcM) (hd := z_hdM) (σ := x) (d + 18) (m := (m : Int)) (by omega) (by omega)
          have hs : z_lst (fun m => decide (z_dm m (z_side X w (-1)) = 0) && decide (z_pc m = k)) f (z_xv (z_Dm X (-1)) (X 0 4) (z_Dm X (-1)).mn (z_side X w (-1)) (X 0 3) (X 7)) false (m + 1) = if (decide (z_dm (m : Int) (z_side X w (-1)) = 0) && decide (z_pc (m : Int) = k)) = true ∧ ((z_lst (fun m => decide (z_dm m (z_side X w (-1)) = 0) && decide (z_pc m = k)) f (z_xv (z_Dm X (-1)) (X 0 4) (z_Dm X (-1)).mn (z_side X w (-1)) (X 0 3) (X 7)) false m).1 < 0 ∨ f m < (z_lst (fun m => decide (z_dm m (z_side X w (-1)) = 0) && decide (z_pc m = k)) f (z_xv (z_Dm X (-1)) (X 0 4) (z_Dm X (-1)).mn (z_side X w (-1)) (X 0 3) (X 7)) false m).1 ∨ (false = true ∧ f m = (z_lst (fun m => decide (z_dm m (z_side X w (-1)) = 0) && decide (z_pc m = k)) f (z_xv (z_Dm X (-1)) (X 0 4) (z_Dm X (-1)).mn (z_side X w (-1)) (X 0 3) (X 7)) false m).1)) then (f m, (m : Int), z_xv (z_Dm X (-1)) (X 0 4) (z_Dm X (-1)).mn (z_side X w (-1)) (X 0 3) (X 7) m) else z_lst (fun m => decide (z_dm m (z_side X w (-1)) = 0) && decide (z_pc m = k)) f (z_xv (z_Dm X (-1)) (X 0 4) (z_Dm X (-1)).mn (z_side X w (-1)) (X 0 3) (X 7)) false m := rfl
          have hneg := z_lst_neg (P := fun m => decide (z_dm m (z_side X w (-1)) = 0) && decide (z_pc m = k)) (f := f) (b := z_xv (z_Dm X (-1)) (X 0 4) (z_Dm X (-1)).mn (z_side X w (-1)) (X 0 3) (X 7)) (later := false) hf0 (n := m) (by omega)
          generalize hz : z_lst (fun m => decide (z_dm m (z_side X w (-1)) = 0) && decide (z_pc m = k)) f (z_xv (z_Dm X (-1)) (X 0 4) (z_Dm X (-1)).mn (z_side X w (-1)) (X 0 3) (X 7)) false m = Z at *
          by_cases c3 : z_dm (m : Int) (z_side X w (-1)) = 0
          · by_cases c4 : z_pc (m : Int) = k
            · obtain ⟨hsub, -⟩ := hPm m (by omega) (by omega) c3
              obtain ⟨x1, g1, o1, r1, -, g2⟩ := qx.bestF hi (d + 13) (free := (m : Int)) cw h.tc ⟨by omega, by omega⟩ hsub
              rw [hfv] at g2
              have lx := qx.capv hi
              have hfm := hf0 m (by omega) (by omega)
              by_cases c5 : Z.1 < 0 ∨ f m < Z.1
              · rw [if_pos ⟨by simp [c3, c4], by rcases c5 with c5 | c5; exact Or.inl c5; exact Or.inr (Or.inl c5)⟩] at hs
                have hrb := m_roadBits (d + 18) h.1 (r1.land hi) (m := (m : Int)) ⟨by omega, by omega⟩ (fun j j0 j1 => by
                  cases hb : z_bt (m : Int) j with
                  | false => rfl
                  | true => have := hsub j (by omega) (by omega) hb; rw [z_side_b0 h.1 j0] at this; cases this)
                obtain ⟨u', x', y1, y2⟩ := ih (m + 1) (z_I (z_xv (z_Dm X (-1)) (X 0 4) (z_Dm X (-1)).mn (z_side X w (-1)) (X 0 3) (X 7) m)) x1 (by omega) r1
                rw [hs, z_ns] at y1
                refine ⟨u', x', ?_, y2⟩
                rw [← y1, z_B1275_92]
                by_cases c6 : Z.1 = -1
                · simp (disch := omega) only [if_neg, if_pos, hdme, c3, hpcm, c4, lx, g1, c6, z_B1275_150, hrb, g2, z_fdM, z_pdM, z_adM, z_sdM, z_lkM, z_ndM, z_gdM, z_cI_some', z_cV_some', z_w_ok, Int.reduceAdd, Int.reduceSub, Int.reduceMul, Int.reduceNeg, Int.reduceEq, Int.reduceLT, Int.reduceLE, Int.reduceNe, reduceIte, true_and, and_true, false_and, and_false, if_true, if_false, ne_eq, not_true_eq_false, not_false_eq_true]
                · have c7 : ¬ Z.1 < 0 := fun hh => c6 (by rw [hneg hh])
                  simp (disch := omega) only [if_neg, if_pos, hdme, c3, hpcm, c4, lx, g1, z_B1275_150, hrb, g2, z_fdM, z_pdM, z_adM, z_sdM, z_lkM, z_ndM, z_gdM, z_cI_some', z_cV_some', z_w_ok, Int.reduceAdd, Int.reduceSub, Int.reduceMul, Int.reduceNeg, Int.reduceEq, Int.reduceLT, Int.reduceLE, Int.reduceNe, reduceIte, true_and, and_true, false_and, and_false, if_true, if_false, ne_eq, not_true_eq_false, not_false_eq_true]
              · rw [if_neg (fun z => by rcases z.2 with z | z | ⟨z, -⟩; exact c5 (Or.inl z); exact c5 (Or.inr z); cases z)] at hs
                obtain ⟨u', x', y1, y2⟩ := ih (m + 1) (z_I (z_xv (z_Dm X (-1)) (X 0 4) (z_Dm X (-1)).mn (z_side X w (-1)) (X 0 3) (X 7) m)) x1 (by omega) r1
                rw [hs, z_ns] at y1
                refine ⟨u', x', ?_, y2⟩
                rw [← y1, z_B1275_92]
                simp (disch := omega) only [if_neg, if_pos, hdme, c3, hpcm, c4, lx, g1, g2, z_fdM, z_pdM, z_adM, z_sdM, z_lkM, z_ndM, z_gdM, z_cI_some', z_cV_some', z_w_ok, Int.reduceAdd, Int.reduceSub, Int.reduceMul, Int.reduceNeg, Int.reduceEq, Int.reduceLT, Int.reduceLE, Int.reduceNe, reduceIte, true_and, and_true, false_and, and_false, if_true, if_false, ne_eq, not_true_eq_false, not_false_eq_true]
            · rw [if_neg (fun z => by simp [c4] at z)] at hs
              obtain ⟨u', x', y1, y2⟩ := ih (m + 1) u x (by omega) qx
              rw [hs, z_ns] at y1
              refine ⟨u', x', ?_, y2⟩
              rw [← y1, z_B1275_92]
              simp (disch := omega) only [if_neg, if_pos, hdme, c3, hpcm, c4, z_fdM, z_pdM, z_adM, z_sdM, z_lkM, z_ndM, z_gdM, z_cI_some', z_cV_some', z_w_ok, Int.reduceAdd, Int.reduceSub, Int.reduceMul, Int.reduceNeg, Int.reduceEq, Int.reduceLT, Int.reduceLE, Int.reduceNe, reduceIte, true_and, and_true, false_and, and_false, if_true, if_false, ne_eq, not_true_eq_false, not_false_eq_true]
          · rw [if_neg (fun z => by simp [c3] at z)] at hs
            obtain ⟨u', x', y1, y2⟩ := ih (m + 1) u x (by omega) qx
            rw [hs, z_ns] at y1
            refine ⟨u', x', ?_, y2⟩
            rw [← y1, z_B1275_92]
            simp (disch := omega) only [if_neg, if_pos, hdme, c3, z_fdM, z_pdM, z_adM, z_sdM, z_lkM, z_ndM, z_gdM, z_cI_some', z_cV_some', z_w_ok, Int.reduceAdd, Int.reduceSub, Int.reduceMul, Int.reduceNeg, Int.reduceEq, Int.reduceLT, Int.reduceLE, Int.reduceNe, reduceIte, true_and, and_true, false_and, and_false, if_true, if_false, ne_eq, not_true_eq_false, not_false_eq_true]
      obtain ⟨u', x', y1, y2⟩ := go (((z_side X w (-1))).toNat + 1) 0 z_U σ1 (by omega) q1
      have e0 : z_lst (fun m => decide (z_dm m (z_side X w (-1)) = 0) && decide (z_pc m = k)) f (z_xv (z_Dm X (-1)) (X 0 4) (z_Dm X (-1)).mn (z_side X w (-1)) (X 0 3) (X 7)) false 0 = (-1, 0, 0) := rfl
      rw [e0] at y1
      dsimp only at y1
      rw [z_rbs_0] at y1
      generalize z_lst (fun m => decide (z_dm m (z_side X w (-1)) = 0) && decide (z_pc m = k)) f (z_xv (z_Dm X (-1)) (X 0 4) (z_Dm X (-1)).mn (z_side X w (-1)) (X 0 3) (X 7)) false (((z_side X w (-1))).toNat + 1) = Z at *
      obtain ⟨s1, s2, g1, g2, g3, g4⟩ := m_two hi y2 (d + 18) (z_rbs X Z.2.1 5) Z.2.2
      rw [z_upd_same] at g4
      refine ⟨s2, ?_, g3, g4⟩
      have y1' : z_go (z_ev z_hcM (d + 19)) z_hcM 1275 92 [z_R 1, z_I w, z_I k, z_I (z_side X w (-1)), z_I (-1), z_I 0, z_I 0, z_I 0, z_U] [] z_hdM σ1 = some (z_I Z.1, z_hdM, s2) := by
        refine y1.trans ?_
        rw [z_B1275_92]
        simp (disch := omega) only [if_pos, g1, g2, z_fdM, z_pdM, z_adM, z_sdM, z_lkM, z_ndM, z_gdM, z_cI_some', z_cV_some', z_w_ok, Int.reduceAdd, Int.reduceSub, Int.reduceMul, Int.reduceNeg, Int.reduceEq, Int.reduceLT, Int.reduceLE, Int.reduceNe, reduceIte, true_and, and_true, false_and, and_false, if_true, if_false, ne_eq, not_true_eq_false, not_false_eq_true]
      simp (disch := omega) only [z_E1275, kc, if_pos, z_fdM, z_pdM, z_adM, z_sdM, z_lkM, z_ndM, z_gdM, z_cI_some', z_cV_some', z_w_ok, Int.reduceAdd, Int.reduceSub, Int.reduceMul, Int.reduceNeg, Int.reduceEq, Int.reduceLT, Int.reduceLE, Int.reduceNe, reduceIte, true_and, and_true, false_and, and_false, if_true, if_false, ne_eq, not_true_eq_false, not_false_eq_true]
      rw [mine, z_B1275_20]
      simp (disch := omega) only [if_pos, if_neg, l2, hpc, z_E1202, e1, z_fdM, z_pdM, z_adM, z_sdM, z_lkM, z_ndM, z_gdM, z_cI_some', z_cV_some', z_w_ok, Int.reduceAdd, Int.reduceSub, Int.reduceMul, Int.reduceNeg, Int.reduceEq, Int.reduceLT, Int.reduceLE, Int.reduceNe, reduceIte, true_and, and_true, false_and, and_false, if_true, if_false, ne_eq, not_true_eq_false, not_false_eq_true]
      exact y1'
    · rw [if_neg (fun z => c2 z.2)]
      refine ⟨_, ?_, hi, z_upd_same⟩
      simp (disch := omega) only [z_E1275, kc, if_pos, z_fdM, z_pdM, z_adM, z_sdM, z_lkM, z_ndM, z_gdM, z_cI_some', z_cV_some', z_w_ok, Int.reduceAdd, Int.reduceSub, Int.reduceMul, Int.reduceNeg, Int.reduceEq, Int.reduceLT, Int.reduceLE, Int.reduceNe, reduceIte, true_and, and_true, false_and, and_false, if_true, if_false, ne_eq, not_true_eq_false, not_false_eq_true]
      rw [mine, z_B1275_20]
      by_cases c3 : k < 0
      · simp (disch := omega) only [if_pos, if_neg, l2, hpc, z_E1202, z_fdM, z_pdM, z_adM, z_sdM, z_lkM, z_ndM, z_gdM, z_cI_some', z_cV_some', z_w_ok, Int.reduceAdd, Int.reduceSub, Int.reduceMul, Int.reduceNeg, Int.reduceEq, Int.reduceLT, Int.reduceLE, Int.reduceNe, reduceIte, true_and, and_true, false_and, and_false, if_true, if_false, ne_eq, not_true_eq_false, not_false_eq_true]
      · simp (disch := omega) only [if_pos, if_neg, l2, hpc, z_E1202, z_fdM, z_pdM, z_adM, z_sdM, z_lkM, z_ndM, z_gdM, z_cI_some', z_cV_some', z_w_ok, Int.reduceAdd, Int.reduceSub, Int.reduceMul, Int.reduceNeg, Int.reduceEq, Int.reduceLT, Int.reduceLE, Int.reduceNe, reduceIte, true_and, and_true, false_and, and_false, if_true, if_false, ne_eq, not_true_eq_false, not_false_eq_true]
  · rw [if_neg (fun z => c z.1)]
    rw [if_neg c] at kc
    refine ⟨_, ?_, hi, z_upd_same⟩
    simp (disch := omega) only [z_E1275, kc, z_fdM, z_pdM, z_adM, z_sdM, z_lkM, z_ndM, z_gdM, z_cI_some', z_cV_some', z_w_ok, Int.reduceAdd, Int.reduceSub, Int.reduceMul, Int.reduceNeg, Int.reduceEq, Int.reduceLT, Int.reduceLE, Int.reduceNe, reduceIte, true_and, and_true, false_and, and_false, if_true, if_false, ne_eq, not_true_eq_false, not_false_eq_true]
end
