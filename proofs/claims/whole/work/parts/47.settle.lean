/-! The class's Goers: which options are listed. -/
theorem z_pay_over {t : Int → Int} {m m' cap : Int} (h : 0 ≤ m ∧ m < 32) (h' : 0 ≤ m' ∧ m' < 32) (hc : 0 ≤ cap) (ht : z_tcap cap t) : z_pay t m' ≤ z_pay t m + cap * z_pc (z_dm m' m) := by
  have hd := z_dm_ok h' h
  have e : cap * z_pc (z_dm m' m) = z_sm 5 (fun k => if z_bt (z_dm m' m) k then cap else 0) := by
    unfold z_pc
    have : ∀ n : Nat, cap * z_sm n (fun k => if z_bt (z_dm m' m) k then 1 else 0) = z_sm n (fun k => if z_bt (z_dm m' m) k then cap else 0) := fun n => by
      induction n with
      | zero => simp [z_sm]
      | succ n ih =>
        rw [z_sm_s, z_sm_s, Int.mul_add, ih]
        congr 1
        split <;> simp
    exact this 5
  rw [e]
  unfold z_pay
  rw [← z_sm_add]
  refine z_sm_le (fun k k0 k1 => ?_)
  have hk := ht k k0 k1
  rw [hd.2.2 k k0 k1]
  cases z_bt m' k <;> cases z_bt m k <;> simp <;> omega
theorem z_pc0 : ∀ x : Nat, x < 32 → (z_pc x = 0 ↔ (x : Int) = 0) := by decide +kernel
/-- another option is always better -/
def z_beat (op : z_Opt) (cap m : Int) : Prop := ∃ q m' q', op m = some q ∧ 0 ≤ m' ∧ m' < 32 ∧ op m' = some q' ∧ (q'.1 + cap * z_pc (z_dm m' m) < q.1 ∨ (z_dm m' m = 0 ∧ q'.1 = q.1 ∧ q'.2 < q.2))
theorem z_beat_ah {op : z_Opt} {cap m : Int} {t : Int → Int} (lean : Int) (hm : 0 ≤ m ∧ m < 32) (hc : 0 ≤ cap) (ht : z_tcap cap t) (h : z_beat op cap m) : ∃ q m' q', op m = some q ∧ 0 ≤ m' ∧ m' < 32 ∧ op m' = some q' ∧ z_ah t lean m' q' m q := by
  obtain ⟨q, m', q', h1, h2, h3, h4, h5⟩ := h
  refine ⟨q, m', q', h1, h2, h3, h4, ?_⟩
  have hp := z_pay_over hm ⟨h2, h3⟩ hc ht
  unfold z_ah
  rcases h5 with h | ⟨e, e1, e2⟩
  · left; omega
  · have : z_pc (z_dm m' m) = 0 := by rw [e]; rfl
    rw [this, Int.mul_zero] at hp
    by_cases hlt : z_pay t m' < z_pay t m
    · left; omega
    · right; exact ⟨by omega, Or.inr ⟨by omega, e2⟩⟩
/-- Goers.isBeaten -/
theorem c_isBeaten {σ : z_S} {op : z_Opt} {g cap m : Int} (d : Nat) (ho : c_opt σ g op) (hv : ∀ m q, 0 ≤ m → m < 32 → op m = some q → 0 ≤ q.1 ∧ q.1 ≤ 2000) (hg : 0 ≤ g ∧ g < 48) (hm : 0 ≤ m ∧ m < 32) (hc : 0 ≤ cap ∧ cap ≤ 20) {q : Int × Int} (hq : op m = some q) :
    ∃ v, z_ev z_hcC (d + 2) 107 [z_R 46, z_I (g * 32), z_I m, z_I cap] z_hdC σ = some (z_I v, z_hdC, σ) ∧ (v = 0 ∨ (v = 1 ∧ z_beat op cap m)) := by
  have key : ∀ (j : Nat) (k : Nat) (u6 u7 u8 : z_V), k + j = 32 → ∃ v, z_go (z_ev z_hcC (d + 1)) z_hcC 107 28 [z_R 46, z_I (g * 32), z_I m, z_I cap, z_I (g * 32 + m), z_I k, u6, u7, u8] [] z_hdC σ = some (z_I v, z_hdC, σ) ∧ (v = 0 ∨ (v = 1 ∧ z_beat op cap m)) := by
    intro j
    induction j with
    | zero =>
      intro k u6 u7 u8 hk
      have : k = 32 := by omega
      subst this
      refine ⟨0, ?_, Or.inl rfl⟩
      rw [z_B107_28]
      simp (disch := omega) only [if_pos, z_fdC, z_pdC, z_adC, z_sdC, z_lkC, z_ndC, z_gdC, z_mdC, z_cI_some', z_cV_some', z_w_ok, Int.reduceAdd, Int.reduceSub, Int.reduceMul, Int.reduceNeg, Int.reduceEq, Int.reduceLT, Int.reduceLE, Int.reduceNe, reduceIte, true_and, and_true, false_and, and_false, if_true, if_false, ne_eq, not_true_eq_false, not_false_eq_true]
    | succ j ih =>
      intro k u6 u7 u8 hk
      have hqv := hv m q hm.1 hm.2 hq
      obtain ⟨e1, e2⟩ := (ho m hm.1 hm.2).2 q hq
      by_cases hkm : (k : Int) = m
      · obtain ⟨v, h1, h2⟩ := ih (k + 1) (z_I (g * 32 + m)) u7 u8 (by omega)
        refine ⟨v, ?_, h2⟩
        rw [← h1, z_B107_28]
        simp (disch := omega) only [if_neg, if_pos, hkm, z_ns, z_fdC, z_pdC, z_adC, z_sdC, z_lkC, z_ndC, z_gdC, z_mdC, z_cI_some', z_cV_some', z_w_ok, Int.reduceAdd, Int.reduceSub, Int.reduceMul, Int.reduceNeg, Int.reduceEq, Int.reduceLT, Int.reduceLE, Int.reduceNe, reduceIte, true_and, and_true, false_and, and_false, if_true, if_false, ne_eq, not_true_eq_false, not_false_eq_true]
      · cases hqk : op (k : Int) with
        | none =>
          have e := (ho k (by omega) (by omega)).1 hqk
          obtain ⟨v, h1, h2⟩ := ih (k + 1) (z_I (g * 32 + k)) u7 u8 (by omega)
          refine ⟨v, ?_, h2⟩
          rw [← h1, z_B107_28]
          simp (disch := omega) only [if_neg, if_pos, e, z_ns, z_fdC, z_pdC, z_adC, z_sdC, z_lkC, z_ndC, z_gdC, z_mdC, z_cI_some', z_cV_some', z_w_ok, Int.reduceAdd, Int.reduceSub, Int.reduceMul, Int.reduceNeg, Int.reduceEq, Int.reduceLT, Int.reduceLE, Int.reduceNe, reduceIte, true_and, and_true, false_and, and_false, if_true, if_false, ne_eq, not_true_eq_false, not_false_eq_true]
        | some q' =>
          have hqk' := hv k q' (by omega) (by omega) hqk
          obtain ⟨f1, f2⟩ := (ho k (by omega) (by omega)).2 q' hqk
          have hdm := z_dm_ok (x := (k : Int)) (y := m) (by omega) hm
          have hbc := c_bitCount (hc := z_hcC) (hd := z_hdC) (σ := σ) d hdm.1.1 hdm.1.2
          have hpc := z_pc_le (z_dm k m)
          have hmul := z_mul_rng hc.1 hc.2 hpc.1 hpc.2
          have hdm' : z_and (k : Int) (z_xor m (-1)) = z_dm k m := rfl
          have hpc0 := z_pc0 (z_dm k m).toNat (by omega)
          rw [Int.toNat_of_nonneg hdm.1.1] at hpc0
          by_cases c1 : q'.1 + cap * z_pc (z_dm k m) < q.1
          · refine ⟨1, ?_, Or.inr ⟨rfl, q, k, q', hq, by omega, by omega, hqk, Or.inl c1⟩⟩
            rw [z_B107_28]
            by_cases c2 : z_dm k m = 0
            · have hz : z_pc (z_dm k m) = 0 := hpc0.mpr c2
              rw [hz, Int.mul_zero, Int.add_zero] at c1
              rw [hz, c2] at hbc
              simp (disch := omega) only [z_B107_104, if_neg, if_pos, f1, hdm', hbc, e1, c2, Int.mul_zero, Int.add_zero, z_fdC, z_pdC, z_adC, z_sdC, z_lkC, z_ndC, z_gdC, z_mdC, z_cI_some', z_cV_some', z_w_ok, Int.reduceAdd, Int.reduceSub, Int.reduceMul, Int.reduceNeg, Int.reduceEq, Int.reduceLT, Int.reduceLE, Int.reduceNe, reduceIte, true_and, and_true, false_and, and_false, if_true, if_false, ne_eq, not_true_eq_false, not_false_eq_true]
            · simp (disch := omega) only [z_B107_104, if_neg, if_pos, f1, hdm', hbc, e1, c2, z_fdC, z_pdC, z_adC, z_sdC, z_lkC, z_ndC, z_gdC, z_mdC, z_cI_some', z_cV_some', z_w_ok, Int.reduceAdd, Int.reduceSub, Int.reduceMul, Int.reduceNeg, Int.reduceEq, Int.reduceLT, Int.reduceLE, Int.reduceNe, reduceIte, true_and, and_true, false_and, and_false, if_true, if_false, ne_eq, not_true_eq_false, not_false_eq_true]
          · by_cases c2 : z_dm k m = 0
            · have hz : z_pc (z_dm k m) = 0 := hpc0.mpr c2
              rw [hz, Int.mul_zero, Int.add_zero] at c1
              rw [hz] at hbc
              by_cases c3 : q'.1 = q.1
              · by_cases c4 : q'.2 < q.2
                · refine ⟨1, ?_, Or.inr ⟨rfl, q, k, q', hq, by omega, by omega, hqk, Or.inr ⟨c2, c3, c4⟩⟩⟩
                  rw [z_B107_28]
                  rw [c2] at hbc
                  simp (disch := omega) only [z_B107_104, if_neg, if_pos, f1, f2, hdm', hbc, e1, e2, c2, Int.mul_zero, Int.add_zero, z_fdC, z_pdC, z_adC, z_sdC, z_lkC, z_ndC, z_gdC, z_mdC, z_cI_some', z_cV_some', z_w_ok, Int.reduceAdd, Int.reduceSub, Int.reduceMul, Int.reduceNeg, Int.reduceEq, Int.reduceLT, Int.reduceLE, Int.reduceNe, reduceIte, true_and, and_true, false_and, and_false, if_true, if_false, ne_eq, not_true_eq_false, not_false_eq_true]
                · obtain ⟨v, h1, h2⟩ := ih (k + 1) (z_I (g * 32 + k)) (z_I q'.1) (z_I 1) (by omega)
                  refine ⟨v, ?_, h2⟩
                  rw [← h1, z_B107_28]
                  rw [c2] at hbc
                  simp (disch := omega) only [z_B107_104, if_neg, if_pos, f1, f2, hdm', hbc, e1, e2, c2, Int.mul_zero, Int.add_zero, z_ns, z_fdC, z_pdC, z_adC, z_sdC, z_lkC, z_ndC, z_gdC, z_mdC, z_cI_some', z_cV_some', z_w_ok, Int.reduceAdd, Int.reduceSub, Int.reduceMul, Int.reduceNeg, Int.reduceEq, Int.reduceLT, Int.reduceLE, Int.reduceNe, reduceIte, true_and, and_true, false_and, and_false, if_true, if_false, ne_eq, not_true_eq_false, not_false_eq_true]
              · obtain ⟨v, h1, h2⟩ := ih (k + 1) (z_I (g * 32 + k)) (z_I q'.1) (z_I 1) (by omega)
                refine ⟨v, ?_, h2⟩
                rw [← h1, z_B107_28]
                rw [c2] at hbc
                simp (disch := omega) only [z_B107_104, if_neg, if_pos, f1, f2, hdm', hbc, e1, e2, c2, Int.mul_zero, Int.add_zero, z_ns, z_fdC, z_pdC, z_adC, z_sdC, z_lkC, z_ndC, z_gdC, z_mdC, z_cI_some', z_cV_some', z_w_ok, Int.reduceAdd, Int.reduceSub, Int.reduceMul, Int.reduceNeg, Int.reduceEq, Int.reduceLT, Int.reduceLE, Int.reduceNe, reduceIte, true_and, and_true, false_and, and_false, if_true, if_false, ne_eq, not_true_eq_false, not_false_eq_true]
            · obtain ⟨v, h1, h2⟩ := ih (k + 1) (z_I (g * 32 + k)) (z_I (q'.1 + cap * z_pc (z_dm k m))) (z_I 0) (by omega)
              refine ⟨v, ?_, h2⟩
              rw [← h1, z_B107_28]
              simp (disch := omega) only [z_B107_104, if_neg, if_pos, f1, hdm', hbc, e1, c2, z_ns, z_fdC, z_pdC, z_adC, z_sdC, z_lkC, z_ndC, z_gdC, z_mdC, z_cI_some', z_cV_some', z_w_ok, Int.reduceAdd, Int.reduceSub, Int.reduceMul, Int.reduceNeg, Int.reduceEq, Int.reduceLT, Int.reduceLE, Int.reduceNe, reduceIte, true_and, and_true, false_and, and_false, if_true, if_false, ne_eq, not_true_eq_false, not_false_eq_true]
  obtain ⟨v, h1, h2⟩ := key 32 0 z_U z_U z_U (by omega)
  refine ⟨v, ?_, h2⟩
  rw [← h1]
  simp (disch := omega) only [z_E107, z_B107_104, if_neg, if_pos, z_fdC, z_pdC, z_adC, z_sdC, z_lkC, z_ndC, z_gdC, z_mdC, z_cI_some', z_cV_some', z_w_ok, Int.reduceAdd, Int.reduceSub, Int.reduceMul, Int.reduceNeg, Int.reduceEq, Int.reduceLT, Int.reduceLE, Int.reduceNe, reduceIte, true_and, and_true, false_and, and_false, if_true, if_false, ne_eq, not_true_eq_false, not_false_eq_true]
  rfl
/-- goer g's list when the masks below M have been looked at -/
def c_ls (σ : z_S) (op : z_Opt) (g cap M : Int) : Prop :=
  0 ≤ σ 56 g ∧ σ 56 g ≤ M ∧ (0 ≤ σ 57 g ∧ σ 57 g < 32) ∧
  (∀ i : Int, 0 ≤ i → i < σ 56 g → ∃ m q, c_ent σ op g i m q ∧ m < M ∧ z_and m (σ 57 g) = m) ∧
  (∀ i i' m m' q q', 0 ≤ i → i < i' → i' < σ 56 g → c_ent σ op g i m q → c_ent σ op g i' m' q' → q.2 < q'.2) ∧
  (∀ m q, 0 ≤ m → m < M → op m = some q → z_beat op cap m ∨ ∃ i, 0 ≤ i ∧ i < σ 56 g ∧ c_ent σ op g i m q)
theorem z_and_or : ∀ x : Nat, x < 32 → ∀ y : Nat, y < 32 → ∀ z : Nat, z < 32 → z_and z x = z → z_and z (z_or x y) = z := by decide +kernel
theorem z_and_or2 : ∀ x : Nat, x < 32 → ∀ y : Nat, y < 32 → z_and y (z_or x y) = y := by decide +kernel
theorem z_nat {x : Int} (h : 0 ≤ x) : ((x.toNat : Nat) : Int) = x := Int.toNat_of_nonneg h
/-- Goers.insert -/
theorem c_insert {σ : z_S} {op : z_Opt} {g cap m : Int} (d : Nat) (ho : c_opt σ g op) (hok : z_opok op) (hg : 0 ≤ g ∧ g < 48) (hm : 0 ≤ m ∧ m < 32) {q : Int × Int} (hq : op m = some q) (hl : c_ls σ op g cap m) :
    ∃ σ', z_ev z_hcC (d + 1) 108 [z_R 46, z_I g, z_I m] z_hdC σ = some (z_U, z_hdC, σ') ∧ (∀ a i, (a ≠ 55 ∧ a ≠ 56 ∧ a ≠ 57) ∨ (a = 55 ∧ (i < g * 32 ∨ g * 32 + 32 ≤ i)) ∨ (a ≠ 55 ∧ i ≠ g) → σ' a i = σ a i) ∧ c_ls σ' op g cap (m + 1) := by
  obtain ⟨l1, l2, l3, l4, l5, l6⟩ := hl
  obtain ⟨e1, e2⟩ := (ho m hm.1 hm.2).2 q hq
  have hqv := hok.1 m q hm.1 hm.2 hq
  generalize hN : σ 56 g = N at *
  have hRk : ∀ i, 0 ≤ i → i < N → ∃ m' q', c_ent σ op g i m' q' ∧ m' < m ∧ z_and m' (σ 57 g) = m' ∧ z_and (σ 55 (g * 32 + i)) 31 = m' ∧ σ 54 (g * 32 + m') = q'.2 := fun i i0 i1 => by
    obtain ⟨m', q', h1, h2, h3⟩ := l4 i i0 i1
    obtain ⟨a1, a2, a3, a4⟩ := id h1
    have := hok.1 m' q' a2 a3 a1
    refine ⟨m', q', h1, h2, h3, by rw [a4]; exact z_and31b this.1 (by omega) a2 a3, ((ho m' a2 a3).2 q' a1).2⟩
  -- the place
  have hshift : ∀ (k : Nat) (σ1 : z_S), (k : Int) ≤ N → (∀ a i, a ≠ 55 ∨ i < g * 32 + k ∨ g * 32 + N < i → σ1 a i = σ a i) → (∀ i, (k : Int) ≤ i → i < N → σ1 55 (g * 32 + i + 1) = σ 55 (g * 32 + i)) → (∀ i m' q', (k : Int) ≤ i → i < N → c_ent σ op g i m' q' → q.2 < q'.2) →
      ∃ (p : Int) (σ2 : z_S), 0 ≤ p ∧ p ≤ N ∧ z_go (z_ev z_hcC d) z_hcC 108 36 [z_R 46, z_I g, z_I m, z_I (g * 32), z_I (g * 32 + k), z_I q.2] [] z_hdC σ1 = z_go (z_ev z_hcC d) z_hcC 108 88 [z_R 46, z_I g, z_I m, z_I (g * 32), z_I (g * 32 + p), z_I q.2] [] z_hdC σ2 ∧
        (∀ a i, a ≠ 55 ∨ i < g * 32 + p ∨ g * 32 + N < i → σ2 a i = σ a i) ∧ (∀ i, p ≤ i → i < N → σ2 55 (g * 32 + i + 1) = σ 55 (g * 32 + i)) ∧ (∀ i m' q', p ≤ i → i < N → c_ent σ op g i m' q' → q.2 < q'.2) ∧ (∀ i m' q', 0 ≤ i → i < p → c_ent σ op g i m' q' → q'.2 < q.2) := by
    intro k
    induction k with
    | zero =>
      intro σ1 hk h1 h2 h3
      refine ⟨0, σ1, by omega, by omega, ?_, fun a i ha => h1 a i (by omega), fun i i0 i1 => h2 i (by omega) i1, fun i m' q' i0 i1 => h3 i m' q' (by omega) i1, fun i m' q' i0 i1 => by omega⟩
      rw [z_B108_36, if_pos (by omega)]
      rfl
    | succ k ih =>
      intro σ1 hk h1 h2 h3
      obtain ⟨m', q', b1, b2, b3, b4, b5⟩ := hRk k (by omega) (by omega)
      have r1 : σ1 55 (g * 32 + k) = σ 55 (g * 32 + k) := h1 _ _ (by omega)
      have r2 : σ1 54 (g * 32 + m') = q'.2 := by rw [h1 _ _ (by omega)]; exact b5
      have hx : g * 32 + ((k + 1 : Nat) : Int) - 1 = g * 32 + k := by omega
      have hx2 : g * 32 + ((k + 1 : Nat) : Int) + -1 = g * 32 + k := by omega
      have hm' := b1.2.1
      have hm'2 := b1.2.2.1
      by_cases c : q'.2 ≤ q.2
      · have hne : q'.2 ≠ q.2 := fun e => by
          have := hok.2.1 m' m q' q hm' hm'2 hm.1 hm.2 b1.1 hq e
          omega
        refine ⟨((k + 1 : Nat) : Int), σ1, by omega, hk, ?_, h1, h2, h3, fun i m2 q2 i0 i1 he => ?_⟩
        · rw [z_B108_36]
          simp (disch := omega) only [if_neg, if_pos, hx, r1, b4, r2, z_fdC, z_pdC, z_adC, z_sdC, z_lkC, z_ndC, z_gdC, z_mdC, z_cI_some', z_cV_some', z_w_ok, Int.reduceAdd, Int.reduceSub, Int.reduceMul, Int.reduceNeg, Int.reduceEq, Int.reduceLT, Int.reduceLE, Int.reduceNe, reduceIte, true_and, and_true, false_and, and_false, if_true, if_false, ne_eq, not_true_eq_false, not_false_eq_true]
        · by_cases hi : i = (k : Int)
          · subst hi
            have hmm : m2 = m' := by
              have a := he.2.2.2; have b := b1.2.2.2; have c := he.2.1; have c' := he.2.2.1
              omega
            subst hmm
            have := he.1.symm.trans b1.1
            cases this
            omega
          · have := l5 i k m2 m' q2 q' i0 (by omega) (by omega) he b1
            omega
      · have h1' : ∀ a i, a ≠ 55 ∨ i < g * 32 + k ∨ g * 32 + N < i → z_upd σ1 55 (g * 32 + ((k + 1 : Nat) : Int)) (σ 55 (g * 32 + k)) a i = σ a i := fun a i ha => by
          rw [z_upd_ne (by omega)]; exact h1 a i (by omega)
        obtain ⟨p, σ2, p0, p1, p2, p3⟩ := ih (z_upd σ1 55 (g * 32 + ((k + 1 : Nat) : Int)) (σ 55 (g * 32 + k))) (by omega) h1' (fun i i0 i1 => by
          by_cases hi : i = (k : Int)
          · subst hi
            rw [show g * 32 + (k : Int) + 1 = g * 32 + ((k + 1 : Nat) : Int) by omega]; exact z_upd_same
          · rw [z_upd_ne (by omega)]; exact h2 i (by omega) i1) (fun i m2 q2 i0 i1 he => by
          by_cases hi : i = (k : Int)
          · subst hi
            have hmm : m2 = m' := by
              have a := he.2.2.2; have b := b1.2.2.2; have c := he.2.1; have c' := he.2.2.1
              omega
            subst hmm
            have := he.1.symm.trans b1.1
            cases this
            omega
          · exact h3 i m2 q2 (by omega) i1 he)
        refine ⟨p, σ2, p0, p1, ?_, p3⟩
        rw [← p2, z_B108_36]
        simp (disch := omega) only [if_neg, if_pos, hx, hx2, r1, b4, r2, z_fdC, z_pdC, z_adC, z_sdC, z_lkC, z_ndC, z_gdC, z_mdC, z_cI_some', z_cV_some', z_w_ok, Int.reduceAdd, Int.reduceSub, Int.reduceMul, Int.reduceNeg, Int.reduceEq, Int.reduceLT, Int.reduceLE, Int.reduceNe, reduceIte, true_and, and_true, false_and, and_false, if_true, if_false, ne_eq, not_true_eq_false, not_false_eq_true]
  obtain ⟨p, σ2, p0, p1, p2, p3, p4, p5, p6⟩ := hshift N.toNat σ (by omega) (fun a i _ => rfl) (fun i i0 i1 => by omega) (fun i m' q' i0 i1 => by omega)
  rw [z_nat l1] at p2
  have hsh : z_or (z_shl q.1 8) m = q.1 * 256 + m := by
    have h256 : (((2 ^ (8 : Int).toNat : Nat) : Int)) = 256 := rfl
    rw [z_or_shift hqv.1 (by omega) (by omega) hm.1 (by rw [h256]; omega) (by rw [h256]; omega), h256]
  have f53 : σ2 53 (g * 32 + m) = q.1 := by rw [p3 _ _ (by omega)]; exact e1
  have f56 : σ2 56 g = N := by rw [p3 _ _ (by omega)]; exact hN
  have f57 : σ2 57 g = σ 57 g := by rw [p3 _ _ (by omega)]
  let σ3 := z_upd (z_upd (z_upd σ2 55 (g * 32 + p) (q.1 * 256 + m)) 56 g (N + 1)) 57 g (z_or (σ 57 g) m)
  have g56 : σ3 56 g = N + 1 := by show z_upd (z_upd _ 56 g _) 57 g _ 56 g = _; rw [z_upd_ne (by omega), z_upd_same]
  have g57 : σ3 57 g = z_or (σ 57 g) m := z_upd_same
  have g55 : ∀ i, σ3 55 i = if i = g * 32 + p then q.1 * 256 + m else σ2 55 i := fun i => by
    show z_upd (z_upd _ 56 g _) 57 g _ 55 i = _
    rw [z_upd_ne (by omega), z_upd_ne (by omega), z_upd_at]
    by_cases h : i = g * 32 + p
    · rw [if_pos ⟨rfl, h⟩, if_pos h]
    · rw [if_neg (fun z => h z.2), if_neg h]
  have hor := z_or_32 (σ 57 g).toNat (by omega) m.toNat (by omega)
  rw [z_nat l3.1, z_nat hm.1] at hor
  -- entries of the new list
  have hnew : c_ent σ3 op g p m q := ⟨hq, hm.1, hm.2, by rw [g55, if_pos rfl]⟩
  have hlow : ∀ i m' q', 0 ≤ i → i < p → (c_ent σ3 op g i m' q' ↔ c_ent σ op g i m' q') := fun i m' q' i0 i1 => by
    unfold c_ent
    rw [g55, if_neg (by omega), p3 _ _ (by omega)]
  have hupp : ∀ i m' q', p ≤ i → i < N → (c_ent σ3 op g (i + 1) m' q' ↔ c_ent σ op g i m' q') := fun i m' q' i0 i1 => by
    unfold c_ent
    rw [g55, if_neg (by omega), ← Int.add_assoc, p4 i i0 i1]
  have huniq : ∀ {i m1 q1}, c_ent σ3 op g i m1 q1 → i = p → m1 = m ∧ q1 = q := fun {i m1 q1} h hi => by
    subst hi
    have a := h.2.2.2; have b := h.2.1; have c := h.2.2.1
    rw [g55, if_pos rfl] at a
    have hmm : m1 = m := by omega
    subst hmm
    exact ⟨rfl, Option.some.inj (h.1.symm.trans hq)⟩
  refine ⟨σ3, ?_, fun a i ha => ?_, by omega, by omega, by rw [g57]; exact ⟨hor.1, hor.2.1⟩, fun i i0 i1 => ?_, fun i i' m1 m2 q1 q2 i0 i1 i2 h1 h2 => ?_, fun m1 q1 m0 m1' hq1 => ?_⟩
  · have hgo : z_go (z_ev z_hcC d) z_hcC 108 88 [z_R 46, z_I g, z_I m, z_I (g * 32), z_I (g * 32 + p), z_I q.2] [] z_hdC σ2 = some (z_U, z_hdC, σ3) := by
      rw [z_B108_88]
      simp (disch := omega) only [f53, hsh, z_upd_at, if_neg, f56, f57, z_fdC, z_pdC, z_adC, z_sdC, z_lkC, z_ndC, z_gdC, z_mdC, z_cI_some', z_cV_some', z_w_ok, Int.reduceAdd, Int.reduceSub, Int.reduceMul, Int.reduceNeg, Int.reduceEq, Int.reduceLT, Int.reduceLE, Int.reduceNe, reduceIte, true_and, and_true, false_and, and_false, if_true, if_false, ne_eq, not_true_eq_false, not_false_eq_true]
      rfl
    rw [← hgo, ← p2]
    simp (disch := omega) only [z_E108, z_B108_88, hN, e2, if_pos, z_fdC, z_pdC, z_adC, z_sdC, z_lkC, z_ndC, z_gdC, z_mdC, z_cI_some', z_cV_some', z_w_ok, Int.reduceAdd, Int.reduceSub, Int.reduceMul, Int.reduceNeg, Int.reduceEq, Int.reduceLT, Int.reduceLE, Int.reduceNe, reduceIte, true_and, and_true, false_and, and_false, if_true, if_false, ne_eq, not_true_eq_false, not_false_eq_true]
  · show z_upd (z_upd (z_upd σ2 55 _ _) 56 g _) 57 g _ a i = _
    rw [z_upd_ne (by omega), z_upd_ne (by omega), z_upd_ne (by omega)]
    exact p3 _ _ (by omega)
  · rw [g57]
    rcases Int.lt_trichotomy i p with h | h | h
    · obtain ⟨m', q', b1, b2, b3, -⟩ := hRk i i0 (by omega)
      refine ⟨m', q', (hlow i m' q' i0 h).mpr b1, by omega, ?_⟩
      have := z_and_or (σ 57 g).toNat (by omega) m.toNat (by omega) m'.toNat (by have := b1.2.1; have := b1.2.2.1; omega)
      rw [z_nat l3.1, z_nat hm.1, z_nat b1.2.1] at this
      exact this b3
    · subst h
      refine ⟨m, q, hnew, by omega, ?_⟩
      have := z_and_or2 (σ 57 g).toNat (by omega) m.toNat (by omega)
      rw [z_nat l3.1, z_nat hm.1] at this
      exact this
    · obtain ⟨m', q', b1, b2, b3, -⟩ := hRk (i - 1) (by omega) (by omega)
      refine ⟨m', q', ?_, by omega, ?_⟩
      · have := (hupp (i - 1) m' q' (by omega) (by omega)).mpr b1
        rwa [show i - 1 + 1 = i by omega] at this
      · have := z_and_or (σ 57 g).toNat (by omega) m.toNat (by omega) m'.toNat (by have := b1.2.1; have := b1.2.2.1; omega)
        rw [z_nat l3.1, z_nat hm.1, z_nat b1.2.1] at this
        exact this b3
  · rw [g56] at i2
    by_cases ha : i' < p
    · exact l5 i i' m1 m2 q1 q2 i0 i1 (by omega) ((hlow i m1 q1 i0 (by omega)).mp h1) ((hlow i' m2 q2 (by omega) ha).mp h2)
    · by_cases hb : i' = p
      · obtain ⟨-, rfl⟩ := huniq h2 hb
        exact p6 i m1 q1 i0 (by omega) ((hlow i m1 q1 i0 (by omega)).mp h1)
      · have h2' : c_ent σ op g (i' - 1) m2 q2 := by
          have := hupp (i' - 1) m2 q2 (by omega) (by omega)
          rw [show i' - 1 + 1 = i' by omega] at this
          exact this.mp h2
        by_cases hc : i < p
        · exact l5 i (i' - 1) m1 m2 q1 q2 i0 (by omega) (by omega) ((hlow i m1 q1 i0 hc).mp h1) h2'
        · by_cases hd : i = p
          · obtain ⟨-, rfl⟩ := huniq h1 hd
            exact p5 (i' - 1) m2 q2 (by omega) (by omega) h2'
          · have h1' : c_ent σ op g (i - 1) m1 q1 := by
              have := hupp (i - 1) m1 q1 (by omega) (by omega)
              rw [show i - 1 + 1 = i by omega] at this
              exact this.mp h1
            exact l5 (i - 1) (i' - 1) m1 m2 q1 q2 (by omega) (by omega) (by omega) h1' h2'
  · rw [g56]
    by_cases he : m1 = m
    · subst he
      rw [hq] at hq1
      cases hq1
      exact Or.inr ⟨p, p0, by omega, hnew⟩
    · rcases l6 m1 q1 m0 (by omega) hq1 with h | ⟨i, i0, i1, hi⟩
      · exact Or.inl h
      · right
        by_cases hip : i < p
        · exact ⟨i, i0, by omega, (hlow i m1 q1 i0 hip).mpr hi⟩
        · exact ⟨i + 1, by omega, by omega, (hupp i m1 q1 (by omega) i1).mpr hi⟩
theorem c_ls_list {σ : z_S} {op : z_Opt} {g cap : Int} (hok : z_opok op) (hc : 0 ≤ cap) (h : c_ls σ op g cap 32) : c_list σ op g cap := by
  obtain ⟨l1, l2, l3, l4, l5, l6⟩ := h
  have cov : ∀ t lean, z_tcap cap t → ∃ q, op (z_ch op t lean) = some q ∧ ∃ i, 0 ≤ i ∧ i < σ 56 g ∧ c_ent σ op g i (z_ch op t lean) q := fun t lean ht => by
    obtain ⟨q, h1, h2, h3, h4⟩ := z_ch_tk (t := t) (lean := lean) hok
    refine ⟨q, h1, ?_⟩
    rcases l6 _ q h2 h3 h1 with h | h
    · obtain ⟨q', m', q2, a1, a2, a3, a4, a5⟩ := z_beat_ah lean ⟨h2, h3⟩ hc ht h
      rw [h1] at a1
      cases a1
      exact absurd a5 (h4 m' q2 a2 a3 a4)
    · exact h
  refine ⟨?_, l2, l3, fun i i0 i1 => ?_, l5, fun t lean m q ht m0 m1 hq => ?_⟩
  · obtain ⟨q, -, i, i0, i1, -⟩ := cov (fun _ => 0) 0 (fun k _ _ => ⟨Int.le_refl _, hc⟩)
    omega
  · obtain ⟨m, q, h1, -, h3⟩ := l4 i i0 i1
    exact ⟨m, q, h1, h3⟩
  · obtain ⟨q0, h1, i, i0, i1, hi⟩ := cov t lean ht
    by_cases hm : m = z_ch op t lean
    · subst hm
      rw [h1] at hq
      cases hq
      exact Or.inl ⟨i, i0, i1, hi⟩
    · right
      refine ⟨i, _, q0, i0, i1, hi, ?_⟩
      obtain ⟨q1, k1, k2, k3, k4⟩ := z_ch_tk (t := t) (lean := lean) hok
      rw [h1] at k1
      cases k1
      rcases Classical.em (z_ah t lean (z_ch op t lean) q0 m q) with hx | hx
      · exact hx
      · have := (z_ah_tot (k4 m q m0 m1 hq) hx).2.2
        exact absurd (hok.2.1 m _ q q0 m0 m1 k2 k3 hq h1 this) hm
