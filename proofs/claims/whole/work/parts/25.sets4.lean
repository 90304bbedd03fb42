/-- the next set: n slots are looked at, the last first -/
def z_inc (mv cp : Int) : Nat → (Int → Int) → Int → Int
  | 0, t => t
  | n + 1, t => if z_bt mv n then (if t n < cp then (fun k => if k = n then t n + 1 else t k) else z_inc mv cp n (fun k => if k = n then 0 else t k)) else z_inc mv cp n t
theorem z_inc_ge {mv cp : Int} : ∀ {n : Nat} {t : Int → Int} {k : Int}, (n : Int) ≤ k → z_inc mv cp n t k = t k
  | 0, t, k, _ => rfl
  | n + 1, t, k, h => by
    have hk : ¬ k = (n : Int) := by omega
    unfold z_inc
    split
    · split
      · exact if_neg hk
      · rw [z_inc_ge (by omega)]; exact if_neg hk
    · exact z_inc_ge (by omega)
theorem z_inc_20 {mv cp : Int} (hc : cp ≤ 20) : ∀ {n : Nat} {t : Int → Int}, c_t20 t → c_t20 (z_inc mv cp n t)
  | 0, t, h => h
  | n + 1, t, h => by
    unfold z_inc
    split
    · split
      · intro k k0 k1
        have := h k k0 k1
        have : 0 ≤ (if k = (n : Int) then t n + 1 else t k) ∧ (if k = (n : Int) then t n + 1 else t k) ≤ 20 := by
          by_cases hk : k = (n : Int)
          · subst hk; rw [if_pos rfl]; omega
          · rw [if_neg hk]; omega
        exact this
      · exact z_inc_20 hc (fun k k0 k1 => by
          have := h k k0 k1
          try dsimp only
          split <;> omega)
    · exact z_inc_20 hc h
theorem c_sums_congr {σ : z_S} {t t' : Int → Int} {fac s n : Int} (hsn : s ≤ n) (hs : c_sums σ t fac ((2 ^ n.toNat : Nat) : Int)) (h : ∀ k : Int, 0 ≤ k → k < s → t k = t' k) : c_sums σ t' fac ((2 ^ s.toNat : Nat) : Int) := fun m h0 h1 => by
  have hle : 2 ^ s.toNat ≤ 2 ^ n.toNat := Nat.pow_le_pow_right (by omega) (by omega)
  have := hs m h0 (by omega)
  rw [z_pay_lt h0 h1 h] at this
  exact this
/-- the loop of Sets.next: slots s, s - 1 .. are still to be looked at, the lowest that was changed is low -/
theorem c_next_go {d : Nat} {n mv cp fac : Int} {t : Int → Int} (ht : c_t20 t) (hf : fac = 255 ∨ fac = 257) (hn : 0 ≤ n ∧ n ≤ 5) (hmv : 0 ≤ mv ∧ mv < 32) (hcp : 0 ≤ cp ∧ cp ≤ 20) :
    ∀ (j : Nat) (low c : Int) (u : Int → Int) (σ : z_S), (j : Int) ≤ low → low ≤ 5 → (c = 0 ∨ c = 1) → σ 59 3 = n → σ 59 4 = mv → σ 59 5 = cp → σ 59 6 = fac → (∀ k : Int, 0 ≤ k → k < 5 → σ 60 k = u k) → c_t20 u → c_sums σ t fac ((2 ^ n.toNat : Nat) : Int) → (∀ k : Int, 0 ≤ k → k < low → t k = u k) →
      ∃ σ', z_go (z_ev z_hcC (d + 1)) z_hcC 802 16 [z_R 59, z_I low, z_I c, z_I ((j : Int) - 1)] [] z_hdC σ = some (z_U, z_hdC, σ') ∧ z_off 60 62 σ σ' ∧ c_sets σ' (if c = 1 then z_inc mv cp j u else u) n mv cp fac := by
  have stop : ∀ (low c x3 : Int) (u : Int → Int) (σ : z_S), 0 ≤ low → low ≤ 5 → (x3 < 0 ∨ c = 0) → σ 59 3 = n → σ 59 4 = mv → σ 59 5 = cp → σ 59 6 = fac → (∀ k : Int, 0 ≤ k → k < 5 → σ 60 k = u k) → c_t20 u → c_sums σ t fac ((2 ^ n.toNat : Nat) : Int) → (∀ k : Int, 0 ≤ k → k < low → t k = u k) →
      ∃ σ', z_go (z_ev z_hcC (d + 1)) z_hcC 802 16 [z_R 59, z_I low, z_I c, z_I x3] [] z_hdC σ = some (z_U, z_hdC, σ') ∧ z_off 60 62 σ σ' ∧ c_sets σ' u n mv cp fac := by
    intro low c x3 u σ hl0 hl hx h3 h4 h5 h6 hT hu hs hag
    have hs' : c_sums σ u fac ((2 ^ (if low ≤ n then low else low).toNat : Nat) : Int) ∨ n < low := by
      by_cases hln : low ≤ n
      · left; rw [if_pos hln]; exact c_sums_congr hln hs hag
      · right; omega
    have key : ∃ σ', z_ev z_hcC (d + 1) 803 [z_R 59, z_I low] z_hdC σ = some (z_U, z_hdC, σ') ∧ z_off 61 62 σ σ' ∧ c_sums σ' u fac ((2 ^ n.toNat : Nat) : Int) := by
      by_cases hln : low ≤ n
      · exact c_reckon d hu hf hn.1 hn.2 hl0 hl h3 h6 hT (c_sums_congr hln hs hag)
      · refine ⟨σ, ?_, z_off_refl, c_sums_congr (Int.le_refl n) hs (fun k k0 k1 => hag k k0 (by omega))⟩
        rw [z_E803, z_B803_2]
        simp (disch := omega) only [if_neg, if_pos, h3, z_fdC, z_pdC, z_adC, z_sdC, z_lkC, z_ndC, z_gdC, z_mdC, z_cI_some', z_cV_some', z_w_ok, Int.reduceAdd, Int.reduceSub, Int.reduceMul, Int.reduceNeg, Int.reduceEq, Int.reduceLT, Int.reduceLE, Int.reduceNe, reduceIte, true_and, and_true, false_and, and_false, if_true, if_false, ne_eq, not_true_eq_false, not_false_eq_true]
    obtain ⟨σ', g1, g2, g3⟩ := key
    have hk : ∀ a i : Int, (a < 61 ∨ 62 < a) → σ' a i = σ a i := g2
    refine ⟨σ', ?_, z_off_le g2 (by omega) (by omega), by rw [hk _ _ (by omega)]; exact h3, by rw [hk _ _ (by omega)]; exact h4, by rw [hk _ _ (by omega)]; exact h5, by rw [hk _ _ (by omega)]; exact h6, fun i i0 i1 => by rw [hk _ _ (by omega)]; exact hT i i0 i1, g3, hu, hf, hn, hmv, hcp⟩
    rw [z_B802_16]
    by_cases h30 : x3 < 0
    · rw [if_pos h30]; simp (disch := omega) only [g1, z_fdC, z_pdC, z_adC, z_sdC, z_lkC, z_ndC, z_gdC, z_mdC, z_cI_some', z_cV_some', z_w_ok, Int.reduceAdd, Int.reduceSub, Int.reduceMul, Int.reduceNeg, Int.reduceEq, Int.reduceLT, Int.reduceLE, Int.reduceNe, reduceIte, true_and, and_true, false_and, and_false, if_true, if_false, ne_eq, not_true_eq_false, not_false_eq_true]
    · rw [if_neg h30, if_pos (by omega)]; simp (disch := omega) only [g1, z_fdC, z_pdC, z_adC, z_sdC, z_lkC, z_ndC, z_gdC, z_mdC, z_cI_some', z_cV_some', z_w_ok, Int.reduceAdd, Int.reduceSub, Int.reduceMul, Int.reduceNeg, Int.reduceEq, Int.reduceLT, Int.reduceLE, Int.reduceNe, reduceIte, true_and, and_true, false_and, and_false, if_true, if_false, ne_eq, not_true_eq_false, not_false_eq_true]
  intro j
  induction j with
  | zero =>
    intro low c u σ hjl hl hc h3 h4 h5 h6 hT hu hs hag
    obtain ⟨σ', g1, g2, g3⟩ := stop low c ((0 : Nat) - 1) u σ (by omega) hl (by omega) h3 h4 h5 h6 hT hu hs hag
    refine ⟨σ', g1, g2, ?_⟩
    have : (if c = 1 then z_inc mv cp 0 u else u) = u := by split <;> rfl
    rw [this]; exact g3
  | succ j ih =>
    intro low c u σ hjl hl hc h3 h4 h5 h6 hT hu hs hag
    rcases hc with rfl | rfl
    · obtain ⟨σ', g1, g2, g3⟩ := stop low 0 (((j + 1 : Nat) : Int) - 1) u σ (by omega) hl (by omega) h3 h4 h5 h6 hT hu hs hag
      exact ⟨σ', g1, g2, by rw [if_neg (by omega)]; exact g3⟩
    · have hj5 : (j : Int) < 5 := by omega
      have hx : ((j + 1 : Nat) : Int) - 1 = (j : Int) := by omega
      have hbt := z_bt_cond hmv.1 hmv.2 (show (0 : Int) ≤ (j : Int) by omega) hj5
      have huj := hu j (by omega) hj5
      have hTj := hT j (by omega) hj5
      rw [hx, if_pos rfl, z_B802_16]
      by_cases hb : z_bt mv j = true
      · rw [if_pos hb] at hbt
        have upd_ok : ∀ v : Int, 0 ≤ v → v ≤ 20 → c_t20 (fun k => if k = (j : Int) then v else u k) := fun v v0 v1 k k0 k1 => by
          have := hu k k0 k1
          try dsimp only
          split <;> omega
        by_cases hlt : u j < cp
        · obtain ⟨σ', g1, g2, g3⟩ := ih (j : Int) 0 (fun k => if k = (j : Int) then u j + 1 else u k) (z_upd σ 60 j (u j + 1)) (by omega) (by omega) (Or.inl rfl) (by rw [z_upd_at, if_neg (by omega)]; exact h3) (by rw [z_upd_at, if_neg (by omega)]; exact h4) (by rw [z_upd_at, if_neg (by omega)]; exact h5) (by rw [z_upd_at, if_neg (by omega)]; exact h6) (fun k k0 k1 => by
            rw [z_upd_at]
            by_cases hk : k = (j : Int)
            · rw [if_pos ⟨rfl, hk⟩]; rw [if_pos hk]
            · rw [if_neg (by omega)]; rw [if_neg hk]; exact hT k k0 k1) (upd_ok _ (by omega) (by omega)) (fun m m0 m1 => by
            rw [z_upd_at, if_neg (by omega), z_upd_at, if_neg (by omega)]; exact hs m m0 m1) (fun k k0 k1 => by rw [if_neg (by omega)]; exact hag k k0 (by omega))
          refine ⟨σ', ?_, z_off_trans (z_off_upd (by omega) (by omega)) g2, ?_⟩
          · simp (disch := omega) only [z_B802_53, if_neg, if_pos, h4, h5, hbt, hTj, z_fdC, z_pdC, z_adC, z_sdC, z_lkC, z_ndC, z_gdC, z_mdC, z_cI_some', z_cV_some', z_w_ok, Int.reduceAdd, Int.reduceSub, Int.reduceMul, Int.reduceNeg, Int.reduceEq, Int.reduceLT, Int.reduceLE, Int.reduceNe, reduceIte, true_and, and_true, false_and, and_false, if_true, if_false, ne_eq, not_true_eq_false, not_false_eq_true]
            rw [show (j : Int) + -1 = (j : Int) - 1 by omega]
            exact g1
          · rw [if_neg (by omega)] at g3
            unfold z_inc
            rw [if_pos hb, if_pos hlt]
            exact g3
        · obtain ⟨σ', g1, g2, g3⟩ := ih (j : Int) 1 (fun k => if k = (j : Int) then 0 else u k) (z_upd σ 60 j 0) (by omega) (by omega) (Or.inr rfl) (by rw [z_upd_at, if_neg (by omega)]; exact h3) (by rw [z_upd_at, if_neg (by omega)]; exact h4) (by rw [z_upd_at, if_neg (by omega)]; exact h5) (by rw [z_upd_at, if_neg (by omega)]; exact h6) (fun k k0 k1 => by
            rw [z_upd_at]
            by_cases hk : k = (j : Int)
            · rw [if_pos ⟨rfl, hk⟩]; rw [if_pos hk]
            · rw [if_neg (by omega)]; rw [if_neg hk]; exact hT k k0 k1) (upd_ok _ (by omega) (by omega)) (fun m m0 m1 => by
            rw [z_upd_at, if_neg (by omega), z_upd_at, if_neg (by omega)]; exact hs m m0 m1) (fun k k0 k1 => by rw [if_neg (by omega)]; exact hag k k0 (by omega))
          refine ⟨σ', ?_, z_off_trans (z_off_upd (by omega) (by omega)) g2, ?_⟩
          · simp (disch := omega) only [z_B802_53, if_neg, if_pos, h4, h5, hbt, hTj, z_fdC, z_pdC, z_adC, z_sdC, z_lkC, z_ndC, z_gdC, z_mdC, z_cI_some', z_cV_some', z_w_ok, Int.reduceAdd, Int.reduceSub, Int.reduceMul, Int.reduceNeg, Int.reduceEq, Int.reduceLT, Int.reduceLE, Int.reduceNe, reduceIte, true_and, and_true, false_and, and_false, if_true, if_false, ne_eq, not_true_eq_false, not_false_eq_true]
            rw [show (j : Int) + -1 = (j : Int) - 1 by omega]
            exact g1
          · rw [if_pos rfl] at g3
            unfold z_inc
            rw [if_pos hb, if_neg hlt]
            exact g3
      · rw [if_neg hb] at hbt
        obtain ⟨σ', g1, g2, g3⟩ := ih low 1 u σ (by omega) hl (Or.inr rfl) h3 h4 h5 h6 hT hu hs hag
        refine ⟨σ', ?_, g2, ?_⟩
        · simp (disch := omega) only [if_neg, if_pos, h4, hbt, z_fdC, z_pdC, z_adC, z_sdC, z_lkC, z_ndC, z_gdC, z_mdC, z_cI_some', z_cV_some', z_w_ok, Int.reduceAdd, Int.reduceSub, Int.reduceMul, Int.reduceNeg, Int.reduceEq, Int.reduceLT, Int.reduceLE, Int.reduceNe, reduceIte, true_and, and_true, false_and, and_false, if_true, if_false, ne_eq, not_true_eq_false, not_false_eq_true]
          rw [show (j : Int) + -1 = (j : Int) - 1 by omega]
          exact g1
        · rw [if_pos rfl] at g3
          unfold z_inc
          rw [if_neg hb]
          exact g3
/-- Sets.next -/
theorem c_next {σ : z_S} (d : Nat) {t : Int → Int} {n mv cp fac : Int} (h : c_sets σ t n mv cp fac) :
    ∃ σ', z_ev z_hcC (d + 2) 802 [z_R 59] z_hdC σ = some (z_U, z_hdC, σ') ∧ z_off 60 62 σ σ' ∧ c_sets σ' (z_inc mv cp 5 t) n mv cp fac := by
  obtain ⟨h3, h4, h5, h6, hT, hs, ht, hf, hn, hmv, hcp⟩ := h
  obtain ⟨σ', g1, g2, g3⟩ := c_next_go (d := d) ht hf hn hmv hcp 5 5 1 t σ (by omega) (by omega) (Or.inr rfl) h3 h4 h5 h6 hT ht hs (fun _ _ _ => rfl)
  refine ⟨σ', ?_, g2, by rw [if_pos rfl] at g3; exact g3⟩
  rw [← g1]
  simp (disch := omega) only [z_E802, z_B802_53, z_fdC, z_pdC, z_adC, z_sdC, z_lkC, z_ndC, z_gdC, z_mdC, z_cI_some', z_cV_some', z_w_ok, Int.reduceAdd, Int.reduceSub, Int.reduceMul, Int.reduceNeg, Int.reduceEq, Int.reduceLT, Int.reduceLE, Int.reduceNe, reduceIte, true_and, and_true, false_and, and_false, if_true, if_false, ne_eq, not_true_eq_false, not_false_eq_true]
  rfl
