/-! The class's land: a road more, a journey more, another cap, also beyond the limits. -/
def c_landx (σ : z_S) (L : Int) (X : z_S) : Prop :=
  (σ (L + 1) 0 = X 0 0 ∧ σ (L + 1) 1 = X 0 1 ∧ σ (L + 1) 2 = X 0 3 ∧ σ (L + 10) 0 = X 0 2) ∧
  (∀ r, 0 ≤ r → r < X 0 0 → r < 14 → σ (L + 4) r = X 1 r ∧ σ (L + 5) r = X 2 r ∧ σ (L + 6) r = X 3 r ∧ σ (L + 7) r = X 4 r ∧ σ (L + 2) r = X 5 r ∧ σ (L + 8) r = z_slot X (X 0 1).toNat r) ∧
  (∀ k, 0 ≤ k → k < X 0 1 → k < 5 → σ (L + 9) k = X 6 k) ∧ (∀ k, 0 ≤ k → k < 5 → σ (L + 3) k = X 7 k) ∧
  (∀ j, 0 ≤ j → j < X 0 2 → j < 8 → σ (L + 11) j = X 8 j ∧ σ (L + 12) j = X 9 j ∧ σ (L + 13) j = X 10 j ∧ σ (L + 14) j = X 11 j ∧ σ (L + 15) j = X 12 j ∧ (σ (L + 16) j = X 13 j) ∧ σ (L + 17) j = X 14 j ∧ σ (L + 18) j = X 15 j ∧ σ (L + 19) j = X 16 j)
/-- counts are none below 0, tolled roads are roads -/
def z_wl0 (X : z_S) (B : Int) : Prop := (0 ≤ X 0 0 ∧ X 0 0 ≤ B) ∧ (0 ≤ X 0 1 ∧ X 0 1 ≤ B) ∧ (0 ≤ X 0 2 ∧ X 0 2 ≤ B) ∧ ∀ k, 0 ≤ k → k < X 0 1 → 0 ≤ X 6 k ∧ X 6 k < X 0 0
theorem c_landx_of {σ X : z_S} {L : Int} (h : c_land σ L X) : c_landx σ L X := by
  obtain ⟨h1, h2, h3, h4, h5, h6, h7, h8⟩ := h
  exact ⟨⟨h1, h2, h3, h4⟩, fun r a b _ => h5 r a b, fun k a b _ => h6 k a b, h7, fun j a b _ => h8 j a b⟩
theorem c_landx_to {σ X : z_S} {L : Int} (h : c_landx σ L X) (h0 : X 0 0 ≤ 14) (h1 : X 0 1 ≤ 5) (h2 : X 0 2 ≤ 8) : c_land σ L X := by
  obtain ⟨⟨a1, a2, a3, a4⟩, a5, a6, a7, a8⟩ := h
  exact ⟨a1, a2, a3, a4, fun r a b => a5 r a b (by omega), fun k a b => a6 k a b (by omega), a7, fun j a b => a8 j a b (by omega)⟩
theorem z_slot_congr {X X' : z_S} {r : Int} : ∀ {n : Nat}, (∀ k : Int, 0 ≤ k → k < n → X' 6 k = X 6 k) → z_slot X' n r = z_slot X n r
  | 0, _ => rfl
  | n + 1, h => by
    unfold z_slot
    rw [h n (by omega) (by omega), z_slot_congr (fun k k0 k1 => h k k0 (by omega))]
theorem z_slot_none {X : z_S} {r : Int} : ∀ {n : Nat}, (∀ k : Int, 0 ≤ k → k < n → X 6 k ≠ r) → z_slot X n r = -1
  | 0, _ => rfl
  | n + 1, h => by
    unfold z_slot
    rw [if_neg (h n (by omega) (by omega)), z_slot_none (fun k k0 k1 => h k k0 (by omega))]
section
variable {X : z_S} {o a b n h : Int}
theorem z_addR_c (i : Int) : z_addR X o a b n h 0 i = if i = 0 then X 0 0 + 1 else if i = 1 ∧ o ≠ -1 then X 0 1 + 1 else X 0 i := by
  unfold z_addR
  by_cases c : o = -1
  · rw [if_pos c]
    simp only [z_upd_at]
    by_cases hi : i = 0 <;> simp [hi, c]
  · rw [if_neg c]
    simp only [z_upd_at]
    by_cases hi : i = 0
    · simp [hi]
    · by_cases hi1 : i = 1
      · subst hi1; simp [c]
      · simp [hi, hi1]
theorem z_addR_r (c i : Int) (hc : 1 ≤ c ∧ c ≤ 5) : z_addR X o a b n h c i = if i = X 0 0 then (if c = 1 then a else if c = 2 then b else if c = 3 then n else if c = 4 then h else o) else X c i := by
  have hcc : c = 1 ∨ c = 2 ∨ c = 3 ∨ c = 4 ∨ c = 5 := by omega
  unfold z_addR
  by_cases ho : o = -1
  · rw [if_pos ho]
    rcases hcc with rfl | rfl | rfl | rfl | rfl <;> simp [z_upd_at]
  · rw [if_neg ho]
    rcases hcc with rfl | rfl | rfl | rfl | rfl <;> simp [z_upd_at]
theorem z_addR_6 (i : Int) : z_addR X o a b n h 6 i = if i = X 0 1 ∧ o ≠ -1 then X 0 0 else X 6 i := by
  unfold z_addR
  by_cases ho : o = -1
  · rw [if_pos ho]; simp [z_upd_at, ho]
  · rw [if_neg ho]; simp [z_upd_at, ho]
theorem z_addR_7 (i : Int) : z_addR X o a b n h 7 i = if i = X 0 1 ∧ o ≠ -1 then 0 else X 7 i := by
  unfold z_addR
  by_cases ho : o = -1
  · rw [if_pos ho]; simp [z_upd_at, ho]
  · rw [if_neg ho]; simp [z_upd_at, ho]
theorem z_addR_o (c i : Int) (hc : 8 ≤ c) : z_addR X o a b n h c i = X c i := by
  unfold z_addR
  by_cases ho : o = -1
  · rw [if_pos ho]; simp (disch := omega) only [z_upd_ne]
  · rw [if_neg ho]; simp (disch := omega) only [z_upd_ne]
end
/-- Roads.add -/
theorem c_addR {σ X : z_S} {L B o a b n h : Int} (hL : L = 6 ∨ L = 26) (hw : z_wl0 X B) (hB : B ≤ 1000) (hx : c_landx σ L X) (ho : -1 ≤ o) (d : Nat) :
    ∃ σ', z_ev z_hcC (d + 1) 602 [z_R (L + 1), z_I o, z_I a, z_I b, z_I n, z_I h] z_hdC σ = some (z_U, z_hdC, σ') ∧ z_off (L + 1) (L + 19) σ σ' ∧ (∀ i, i ≠ 0 → i ≠ 1 → σ' (L + 1) i = σ (L + 1) i) ∧ c_landx σ' L (z_addR X o a b n h) := by
  obtain ⟨⟨x0, x1, x2, x3⟩, xr, xk, xt, xj⟩ := hx
  obtain ⟨w0, w1, w2, w6⟩ := hw
  -- the rows of the new road
  let σ1 := if X 0 0 < 14 then z_upd (z_upd (z_upd (z_upd (z_upd (z_upd σ (L + 2) (X 0 0) o) (L + 4) (X 0 0) a) (L + 5) (X 0 0) b) (L + 6) (X 0 0) n) (L + 7) (X 0 0) h) (L + 8) (X 0 0) (if o = -1 then -1 else X 0 1) else σ
  let σ2 := if o ≠ -1 ∧ X 0 1 < 5 then z_upd (z_upd σ1 (L + 9) (X 0 1) (X 0 0)) (L + 3) (X 0 1) 0 else σ1
  let σ3 := z_upd (z_upd σ2 (L + 1) 1 (X 0 1 + (if o = -1 then 0 else 1))) (L + 1) 0 (X 0 0 + 1)
  have h1 : ∀ c i, σ1 c i = if X 0 0 < 14 ∧ i = X 0 0 ∧ (c = L + 2 ∨ (L + 4 ≤ c ∧ c ≤ L + 8)) then (if c = L + 2 then o else if c = L + 4 then a else if c = L + 5 then b else if c = L + 6 then n else if c = L + 7 then h else (if o = -1 then -1 else X 0 1)) else σ c i := fun c i => by
    show (if X 0 0 < 14 then _ else _ : z_S) c i = _
    by_cases c0 : X 0 0 < 14
    · rw [if_pos c0]
      simp only [z_upd_at]
      by_cases ci : i = X 0 0
      · subst ci
        by_cases e2 : c = L + 2
        · subst e2; rw [if_neg (by omega), if_neg (by omega), if_neg (by omega), if_neg (by omega), if_neg (by omega), if_pos (by omega), if_pos (by omega), if_pos rfl]
        · by_cases e4 : c = L + 4
          · subst e4; rw [if_neg (by omega), if_neg (by omega), if_neg (by omega), if_neg (by omega), if_pos (by omega), if_pos (by omega), if_neg (by omega), if_pos rfl]
          · by_cases e5 : c = L + 5
            · subst e5; rw [if_neg (by omega), if_neg (by omega), if_neg (by omega), if_pos (by omega), if_pos (by omega), if_neg (by omega), if_neg (by omega), if_pos rfl]
            · by_cases e6 : c = L + 6
              · subst e6; rw [if_neg (by omega), if_neg (by omega), if_pos (by omega), if_pos (by omega), if_neg (by omega), if_neg (by omega), if_neg (by omega), if_pos rfl]
              · by_cases e7 : c = L + 7
                · subst e7; rw [if_neg (by omega), if_pos (by omega), if_pos (by omega), if_neg (by omega), if_neg (by omega), if_neg (by omega), if_neg (by omega), if_pos rfl]
                · by_cases e8 : c = L + 8
                  · subst e8; simp (disch := omega) only [if_pos, if_neg, reduceIte, true_and, and_true, and_self]
                  · rw [if_neg (by omega), if_neg (by omega), if_neg (by omega), if_neg (by omega), if_neg (by omega), if_neg (by omega), if_neg (by omega)]
      · rw [if_neg (by omega), if_neg (by omega), if_neg (by omega), if_neg (by omega), if_neg (by omega), if_neg (by omega), if_neg (by omega)]
    · rw [if_neg c0, if_neg (by omega)]
  have h2 : ∀ c i, σ2 c i = if (o ≠ -1 ∧ X 0 1 < 5) ∧ i = X 0 1 ∧ (c = L + 9 ∨ c = L + 3) then (if c = L + 9 then X 0 0 else 0) else σ1 c i := fun c i => by
    show (if o ≠ -1 ∧ X 0 1 < 5 then _ else _ : z_S) c i = _
    by_cases c0 : o ≠ -1 ∧ X 0 1 < 5
    · rw [if_pos c0]
      simp only [z_upd_at]
      by_cases ci : i = X 0 1
      · subst ci
        by_cases e3 : c = L + 3
        · subst e3; rw [if_pos (by omega), if_pos (by omega), if_neg (by omega)]
        · by_cases e9 : c = L + 9
          · subst e9; rw [if_neg (by omega), if_pos (by omega), if_pos (by omega), if_pos rfl]
          · rw [if_neg (by omega), if_neg (by omega), if_neg (by omega)]
      · rw [if_neg (by omega), if_neg (by omega), if_neg (by omega)]
    · rw [if_neg c0, if_neg (fun z => c0 z.1)]
  have h3 : ∀ c i, σ3 c i = if c = L + 1 ∧ i = 0 then X 0 0 + 1 else if c = L + 1 ∧ i = 1 then X 0 1 + (if o = -1 then 0 else 1) else σ2 c i := fun c i => by
    show z_upd (z_upd σ2 _ _ _) _ _ _ c i = _
    rw [z_upd_at, z_upd_at]
  have hnew : z_slot (z_addR X o a b n h) ((z_addR X o a b n h) 0 1).toNat (X 0 0) = if o = -1 then -1 else X 0 1 := by
    rw [z_addR_c, if_neg (by omega)]
    have e6 : ∀ k : Int, 0 ≤ k → k < X 0 1 → z_addR X o a b n h 6 k = X 6 k := fun k k0 k1 => by rw [z_addR_6, if_neg (by omega)]
    by_cases c : o = -1
    · rw [if_neg (by omega), if_pos c]
      exact z_slot_none (fun k k0 k1 => by rw [e6 k k0 (by omega)]; have := w6 k k0 (by omega); omega)
    · rw [if_pos (by omega), if_neg c, show (X 0 1 + 1).toNat = (X 0 1).toNat + 1 by omega]
      unfold z_slot
      have e : z_addR X o a b n h 6 ((X 0 1).toNat : Int) = X 0 0 := by rw [z_addR_6, if_pos (by omega)]
      rw [if_pos e]
      omega
  have hold : ∀ r, 0 ≤ r → r < X 0 0 → z_slot (z_addR X o a b n h) ((z_addR X o a b n h) 0 1).toNat r = z_slot X (X 0 1).toNat r := fun r r0 r1 => by
    rw [z_addR_c, if_neg (by omega)]
    have e6 : ∀ k : Int, 0 ≤ k → k < X 0 1 → z_addR X o a b n h 6 k = X 6 k := fun k k0 k1 => by rw [z_addR_6, if_neg (by omega)]
    by_cases c : o = -1
    · rw [if_neg (by omega)]
      exact z_slot_congr (fun k k0 k1 => e6 k k0 (by omega))
    · rw [if_pos (by omega), show (X 0 1 + 1).toNat = (X 0 1).toNat + 1 by omega]
      show (if z_addR X o a b n h 6 ((X 0 1).toNat : Int) = r then _ else _) = _
      have e : z_addR X o a b n h 6 ((X 0 1).toNat : Int) = X 0 0 := by rw [z_addR_6, if_pos (by omega)]
      rw [e, if_neg (by omega)]
      exact z_slot_congr (fun k k0 k1 => e6 k k0 (by omega))
  refine ⟨σ3, ?_, fun c i hc => ?_, fun i i0 i1 => ?_, ⟨?_, ?_, ?_, ?_⟩, fun r r0 r1 r2 => ?_, fun k k0 k1 k2 => ?_, fun k k0 k1 => ?_, fun j j0 j1 j2 => ?_⟩
  · have g1 : ∀ i, σ1 (L + 1) i = σ (L + 1) i := fun i => by rw [h1, if_neg (by omega)]
    have e1 : σ1 (L + 1) 1 = X 0 1 := by rw [g1]; exact x1
    have e0 : σ1 (L + 1) 0 = X 0 0 := by rw [g1]; exact x0
    have hlast : ∀ t : Int, t = (if o = -1 then 0 else 1) → z_go (z_ev z_hcC d) z_hcC 602 131 [z_R (L + 1), z_I o, z_I a, z_I b, z_I n, z_I h, z_I t] [] z_hdC σ2 = some (z_U, z_hdC, σ3) := fun t ht => by
      have e1 : σ2 (L + 1) 1 = X 0 1 := by rw [h2, if_neg (by omega), g1]; exact x1
      have e0 : σ2 (L + 1) 0 = X 0 0 := by rw [h2, if_neg (by omega), g1]; exact x0
      by_cases c : o = -1
      · rw [if_pos c] at ht
        subst ht
        have : σ3 = z_upd (z_upd σ2 (L + 1) 1 (X 0 1 + 0)) (L + 1) 0 (X 0 0 + 1) := by show z_upd (z_upd σ2 _ _ (X 0 1 + (if o = -1 then 0 else 1))) _ _ _ = _; rw [if_pos c]
        rw [this, z_B602_131]
        simp (disch := omega) only [c_LC hL, e1, e0, z_B602_146, z_upd_at, if_neg, z_fdC, z_pdC, z_adC, z_sdC, z_lkC, z_ndC, z_gdC, z_mdC, z_cI_some', z_cV_some', z_w_ok, Int.reduceAdd, Int.reduceSub, Int.reduceMul, Int.reduceNeg, Int.reduceEq, Int.reduceLT, Int.reduceLE, Int.reduceNe, reduceIte, true_and, and_true, false_and, and_false, if_true, if_false, ne_eq, not_true_eq_false, not_false_eq_true]
      · rw [if_neg c] at ht
        subst ht
        have : σ3 = z_upd (z_upd σ2 (L + 1) 1 (X 0 1 + 1)) (L + 1) 0 (X 0 0 + 1) := by show z_upd (z_upd σ2 _ _ (X 0 1 + (if o = -1 then 0 else 1))) _ _ _ = _; rw [if_neg c]
        rw [this, z_B602_131]
        simp (disch := omega) only [c_LC hL, e1, e0, z_B602_146, z_upd_at, if_neg, z_fdC, z_pdC, z_adC, z_sdC, z_lkC, z_ndC, z_gdC, z_mdC, z_cI_some', z_cV_some', z_w_ok, Int.reduceAdd, Int.reduceSub, Int.reduceMul, Int.reduceNeg, Int.reduceEq, Int.reduceLT, Int.reduceLE, Int.reduceNe, reduceIte, true_and, and_true, false_and, and_false, if_true, if_false, ne_eq, not_true_eq_false, not_false_eq_true]
    have hmid : ∀ t : Int, t = (if o = -1 then 0 else 1) → z_go (z_ev z_hcC d) z_hcC 602 95 [z_R (L + 1), z_I o, z_I a, z_I b, z_I n, z_I h, z_I t] [] z_hdC σ1 = some (z_U, z_hdC, σ3) := fun t ht => by
      by_cases c : o = -1
      · have e : σ2 = σ1 := if_neg (fun z => z.1 c)
        rw [if_pos c] at ht
        rw [z_B602_95, if_pos ht, ← e]
        exact hlast t (by rw [if_pos c]; exact ht)
      · rw [if_neg c] at ht
        by_cases c5 : X 0 1 < 5
        · have e : σ2 = z_upd (z_upd σ1 (L + 9) (X 0 1) (X 0 0)) (L + 3) (X 0 1) 0 := if_pos ⟨c, c5⟩
          have hl := hlast t (by rw [if_neg c]; exact ht)
          rw [e] at hl
          rw [z_B602_95]
          simp (disch := omega) only [c_LC hL, c_LA hL, e1, e0, z_upd_at, if_neg, z_fdC, z_pdC, z_adC, z_sdC, z_lkC, z_ndC, z_gdC, z_mdC, z_cI_some', z_cV_some', z_w_ok, Int.reduceAdd, Int.reduceSub, Int.reduceMul, Int.reduceNeg, Int.reduceEq, Int.reduceLT, Int.reduceLE, Int.reduceNe, reduceIte, true_and, and_true, false_and, and_false, if_true, if_false, ne_eq, not_true_eq_false, not_false_eq_true]
          exact hl
        · have e : σ2 = σ1 := if_neg (fun z => c5 z.2)
          rw [z_B602_95]
          simp (disch := omega) only [c_LC hL, c_LA hL, e1, e0, if_neg, if_pos, z_fdC, z_pdC, z_adC, z_sdC, z_lkC, z_ndC, z_gdC, z_mdC, z_cI_some', z_cV_some', z_w_ok, Int.reduceAdd, Int.reduceSub, Int.reduceMul, Int.reduceNeg, Int.reduceEq, Int.reduceLT, Int.reduceLE, Int.reduceNe, reduceIte, true_and, and_true, false_and, and_false, if_true, if_false, ne_eq, not_true_eq_false, not_false_eq_true]
          rw [← e]
          exact hlast t (by rw [if_neg c]; exact ht)
    by_cases c14 : X 0 0 < 14
    · have e : σ1 = z_upd (z_upd (z_upd (z_upd (z_upd (z_upd σ (L + 2) (X 0 0) o) (L + 4) (X 0 0) a) (L + 5) (X 0 0) b) (L + 6) (X 0 0) n) (L + 7) (X 0 0) h) (L + 8) (X 0 0) (if o = -1 then -1 else X 0 1) := if_pos c14
      by_cases c : o = -1
      · have hm := hmid 0 (by rw [if_pos c])
        rw [e, if_pos c] at hm
        rw [z_E602, if_pos c, z_B602_10]
        simp (disch := omega) only [c_LC hL, c_LA hL, x0, x1, z_upd_at, if_neg, z_fdC, z_pdC, z_adC, z_sdC, z_lkC, z_ndC, z_gdC, z_mdC, z_cI_some', z_cV_some', z_w_ok, Int.reduceAdd, Int.reduceSub, Int.reduceMul, Int.reduceNeg, Int.reduceEq, Int.reduceLT, Int.reduceLE, Int.reduceNe, reduceIte, true_and, and_true, false_and, and_false, if_true, if_false, ne_eq, not_true_eq_false, not_false_eq_true]
        exact hm
      · have hm := hmid 1 (by rw [if_neg c])
        rw [e, if_neg c] at hm
        rw [z_E602, if_neg c, z_B602_10]
        simp (disch := omega) only [c_LC hL, c_LA hL, x0, x1, z_upd_at, if_neg, z_fdC, z_pdC, z_adC, z_sdC, z_lkC, z_ndC, z_gdC, z_mdC, z_cI_some', z_cV_some', z_w_ok, Int.reduceAdd, Int.reduceSub, Int.reduceMul, Int.reduceNeg, Int.reduceEq, Int.reduceLT, Int.reduceLE, Int.reduceNe, reduceIte, true_and, and_true, false_and, and_false, if_true, if_false, ne_eq, not_true_eq_false, not_false_eq_true]
        exact hm
    · have e : σ1 = σ := if_neg c14
      by_cases c : o = -1
      · have hm := hmid 0 (by rw [if_pos c])
        rw [e] at hm
        rw [z_E602, if_pos c, z_B602_10]
        simp (disch := omega) only [c_LC hL, c_LA hL, x0, if_pos, z_fdC, z_pdC, z_adC, z_sdC, z_lkC, z_ndC, z_gdC, z_mdC, z_cI_some', z_cV_some', z_w_ok, Int.reduceAdd, Int.reduceSub, Int.reduceMul, Int.reduceNeg, Int.reduceEq, Int.reduceLT, Int.reduceLE, Int.reduceNe, reduceIte, true_and, and_true, false_and, and_false, if_true, if_false, ne_eq, not_true_eq_false, not_false_eq_true]
        exact hm
      · have hm := hmid 1 (by rw [if_neg c])
        rw [e] at hm
        rw [z_E602, if_neg c, z_B602_10]
        simp (disch := omega) only [c_LC hL, c_LA hL, x0, if_pos, z_fdC, z_pdC, z_adC, z_sdC, z_lkC, z_ndC, z_gdC, z_mdC, z_cI_some', z_cV_some', z_w_ok, Int.reduceAdd, Int.reduceSub, Int.reduceMul, Int.reduceNeg, Int.reduceEq, Int.reduceLT, Int.reduceLE, Int.reduceNe, reduceIte, true_and, and_true, false_and, and_false, if_true, if_false, ne_eq, not_true_eq_false, not_false_eq_true]
        exact hm
  · rw [h3, if_neg (by omega), if_neg (by omega), h2, if_neg (by omega), h1, if_neg (by omega)]
  · rw [h3, if_neg (by omega), if_neg (by omega), h2, if_neg (by omega), h1, if_neg (by omega)]
  · rw [h3, if_pos (by omega), z_addR_c, if_pos rfl]
  · have e3 : σ3 (L + 1) 1 = X 0 1 + (if o = -1 then 0 else 1) := by
      show z_upd (z_upd σ2 (L + 1) 1 _) (L + 1) 0 _ (L + 1) 1 = _
      rw [z_upd_ne (by omega), z_upd_same]
    have e4 : z_addR X o a b n h 0 1 = if o ≠ -1 then X 0 1 + 1 else X 0 1 := by
      rw [z_addR_c, if_neg (by omega)]
      by_cases c : o = -1
      · rw [if_neg (by omega), if_neg (by omega)]
      · rw [if_pos (by omega), if_pos (by omega)]
    rw [e3, e4]
    by_cases c : o = -1
    · rw [if_pos c, if_neg (by omega)]; omega
    · rw [if_neg c, if_pos c]
  · rw [h3, if_neg (by omega), if_neg (by omega), h2, if_neg (by omega), h1, if_neg (by omega), z_addR_c, if_neg (by omega), if_neg (by omega)]; exact x2
  · rw [h3, if_neg (by omega), if_neg (by omega), h2, if_neg (by omega), h1, if_neg (by omega), z_addR_c, if_neg (by omega), if_neg (by omega)]; exact x3
  · rw [z_addR_c, if_pos rfl] at r1
    have g : ∀ c, (c = L + 2 ∨ (L + 4 ≤ c ∧ c ≤ L + 8)) → σ3 c r = σ1 c r := fun c hc => by rw [h3, if_neg (by omega), if_neg (by omega), h2, if_neg (by omega)]
    rw [g _ (by omega), g _ (by omega), g _ (by omega), g _ (by omega), g _ (by omega), g _ (by omega), z_addR_r 1 r (by omega), z_addR_r 2 r (by omega), z_addR_r 3 r (by omega), z_addR_r 4 r (by omega), z_addR_r 5 r (by omega)]
    by_cases hr : r = X 0 0
    · subst hr
      rw [hnew]
      simp (disch := omega) only [h1, if_pos, if_neg, reduceIte, true_and, and_true, and_self, true_or]
    · rw [hold r r0 (by omega)]
      simp (disch := omega) only [h1, if_neg]
      exact xr r r0 (by omega) r2
  · rw [z_addR_c, if_neg (by omega)] at k1
    rw [h3, if_neg (by omega), if_neg (by omega), h2, z_addR_6]
    by_cases hk : k = X 0 1 ∧ o ≠ -1
    · rw [if_pos (by omega), if_pos rfl, if_pos hk]
    · rw [if_neg hk, if_neg (by omega), h1, if_neg (by omega)]
      exact xk k k0 (by split at k1 <;> omega) k2
  · rw [h3, if_neg (by omega), if_neg (by omega), h2, z_addR_7]
    by_cases hk : k = X 0 1 ∧ o ≠ -1
    · rw [if_pos (by omega), if_neg (by omega), if_pos hk]
    · rw [if_neg hk, if_neg (by omega), h1, if_neg (by omega)]
      exact xt k k0 k1
  · rw [z_addR_c, if_neg (by omega), if_neg (by omega)] at j1
    have g : ∀ c, L + 10 < c → σ3 c j = σ c j := fun c hc => by rw [h3, if_neg (by omega), if_neg (by omega), h2, if_neg (by omega), h1, if_neg (by omega)]
    rw [g _ (by omega), g _ (by omega), g _ (by omega), g _ (by omega), g _ (by omega), g _ (by omega), g _ (by omega), g _ (by omega), g _ (by omega)]
    rw [z_addR_o _ _ (by omega), z_addR_o _ _ (by omega), z_addR_o _ _ (by omega), z_addR_o _ _ (by omega), z_addR_o _ _ (by omega), z_addR_o _ _ (by omega), z_addR_o _ _ (by omega), z_addR_o _ _ (by omega), z_addR_o _ _ (by omega)]
    exact xj j j0 j1 j2
