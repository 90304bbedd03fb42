/-! The class's land: journeys, caps, copies; what a text's items make of it. -/
def z_mn (v x : Int) : Int := if v < x then v else x
def z_jv (a b n lo hi cr sl ho ti c : Int) : Int := if c = 8 then a else if c = 9 then b else if c = 10 then n else if c = 11 then lo else if c = 12 then hi else if c = 13 then cr else if c = 14 then (if 14 < sl then 14 else sl) else if c = 15 then ho else ti
section
variable {σ X : z_S} {L : Int}
theorem z_addJ_at {a b n lo hi cr sl ho ti : Int} (c i : Int) : z_addJ X a b n lo hi cr sl ho ti c i = if c = 0 ∧ i = 2 then X 0 2 + 1 else if 8 ≤ c ∧ c ≤ 16 ∧ i = X 0 2 then z_jv a b n lo hi cr sl ho ti c else X c i := by
  unfold z_addJ
  by_cases h0 : c = 0 ∧ i = 2
  · obtain ⟨rfl, rfl⟩ := h0
    rw [z_upd_same, if_pos ⟨rfl, rfl⟩]
  · rw [if_neg h0, z_upd_ne (by omega)]
    by_cases hc : 8 ≤ c ∧ c ≤ 16 ∧ i = X 0 2
    · rw [if_pos hc]
      obtain ⟨h1, h2, rfl⟩ := hc
      have : c = 8 ∨ c = 9 ∨ c = 10 ∨ c = 11 ∨ c = 12 ∨ c = 13 ∨ c = 14 ∨ c = 15 ∨ c = 16 := by omega
      rcases this with rfl | rfl | rfl | rfl | rfl | rfl | rfl | rfl | rfl
      · rw [z_upd_ne (by omega), z_upd_ne (by omega), z_upd_ne (by omega), z_upd_ne (by omega), z_upd_ne (by omega), z_upd_ne (by omega), z_upd_ne (by omega), z_upd_ne (by omega), z_upd_same]; rfl
      · rw [z_upd_ne (by omega), z_upd_ne (by omega), z_upd_ne (by omega), z_upd_ne (by omega), z_upd_ne (by omega), z_upd_ne (by omega), z_upd_ne (by omega), z_upd_same]; rfl
      · rw [z_upd_ne (by omega), z_upd_ne (by omega), z_upd_ne (by omega), z_upd_ne (by omega), z_upd_ne (by omega), z_upd_ne (by omega), z_upd_same]; rfl
      · rw [z_upd_ne (by omega), z_upd_ne (by omega), z_upd_ne (by omega), z_upd_ne (by omega), z_upd_ne (by omega), z_upd_same]; rfl
      · rw [z_upd_ne (by omega), z_upd_ne (by omega), z_upd_ne (by omega), z_upd_ne (by omega), z_upd_same]; rfl
      · rw [z_upd_ne (by omega), z_upd_ne (by omega), z_upd_ne (by omega), z_upd_same]; rfl
      · rw [z_upd_ne (by omega), z_upd_ne (by omega), z_upd_same]; rfl
      · rw [z_upd_ne (by omega), z_upd_same]; rfl
      · rw [z_upd_same]; rfl
    · rw [if_neg hc, z_upd_ne (by omega), z_upd_ne (by omega), z_upd_ne (by omega), z_upd_ne (by omega), z_upd_ne (by omega), z_upd_ne (by omega), z_upd_ne (by omega), z_upd_ne (by omega), z_upd_ne (by omega)]
/-- Journeys: add, its worths, its bounds -/
theorem c_addJ {B a b n lo hi cr sl ho ti : Int} (hL : L = 6 ∨ L = 26) (hw : z_wl0 X B) (hB : B ≤ 1000) (hx : c_landx σ L X) (hcr : cr = 0 ∨ cr = 1) (d : Nat) :
    ∃ σ1 σ2 σ3, z_ev z_hcC (d + 2) 203 [z_R (L + 10), z_I a, z_I b, z_I n] z_hdC σ = some (z_U, z_hdC, σ1) ∧ z_ev z_hcC (d + 2) 204 [z_R (L + 10), z_I lo, z_I hi, z_I cr] z_hdC σ1 = some (z_U, z_hdC, σ2) ∧ z_ev z_hcC (d + 2) 205 [z_R (L + 10), z_I sl, z_I ho, z_I ti] z_hdC σ2 = some (z_U, z_hdC, σ3) ∧ z_off (L + 10) (L + 19) σ σ3 ∧ c_landx σ3 L (z_addJ X a b n lo hi cr sl ho ti) := by
  obtain ⟨⟨x0, x1, x2, x3⟩, xr, xk, xt, xj⟩ := hx
  obtain ⟨w0, w1, w2, w6⟩ := hw
  have hq : L + 10 = 16 ∨ L + 10 = 36 := by omega
  by_cases c8 : X 0 2 < 8
  · let σ1 := z_upd (z_upd (z_upd (z_upd σ (L + 11) (X 0 2) a) (L + 12) (X 0 2) b) (L + 13) (X 0 2) n) (L + 10) 0 (X 0 2 + 1)
    let σ2 := z_upd (z_upd (z_upd σ1 (L + 14) (X 0 2) lo) (L + 15) (X 0 2) hi) (L + 16) (X 0 2) cr
    let σ3 := z_upd (z_upd (z_upd σ2 (L + 17) (X 0 2) (if 14 < sl then 14 else sl)) (L + 18) (X 0 2) ho) (L + 19) (X 0 2) ti
    have s1 : σ1 (L + 10) 0 = X 0 2 + 1 := z_upd_same
    have s2 : σ2 (L + 10) 0 = X 0 2 + 1 := by
      show z_upd (z_upd (z_upd σ1 _ _ _) _ _ _) _ _ _ (L + 10) 0 = _
      rw [z_upd_ne (by omega), z_upd_ne (by omega), z_upd_ne (by omega)]; exact s1
    have k1 := c_jhas (σ := σ1) hq d (X 0 2)
    rw [s1, if_pos (by omega)] at k1
    have k2 := c_jhas (σ := σ2) hq d (X 0 2)
    rw [s2, if_pos (by omega)] at k2
    have e1 : X 0 2 + 1 - 1 = X 0 2 := by omega
    have at3 : ∀ c i, σ3 c i = if c = L + 10 ∧ i = 0 then X 0 2 + 1 else if L + 11 ≤ c ∧ c ≤ L + 19 ∧ i = X 0 2 then z_jv a b n lo hi cr sl ho ti (c - L - 3) else σ c i := fun c i => by
      show z_upd (z_upd (z_upd (z_upd (z_upd (z_upd (z_upd (z_upd (z_upd (z_upd σ _ _ _) _ _ _) _ _ _) _ _ _) _ _ _) _ _ _) _ _ _) _ _ _) _ _ _) _ _ _ c i = _
      by_cases h0 : c = L + 10 ∧ i = 0
      · obtain ⟨rfl, rfl⟩ := h0
        rw [z_upd_ne (by omega), z_upd_ne (by omega), z_upd_ne (by omega), z_upd_ne (by omega), z_upd_ne (by omega), z_upd_ne (by omega), z_upd_same, if_pos ⟨rfl, rfl⟩]
      · rw [if_neg h0]
        by_cases hc : L + 11 ≤ c ∧ c ≤ L + 19 ∧ i = X 0 2
        · rw [if_pos hc]
          obtain ⟨h1, h2, rfl⟩ := hc
          have : c = L + 11 ∨ c = L + 12 ∨ c = L + 13 ∨ c = L + 14 ∨ c = L + 15 ∨ c = L + 16 ∨ c = L + 17 ∨ c = L + 18 ∨ c = L + 19 := by omega
          rcases this with rfl | rfl | rfl | rfl | rfl | rfl | rfl | rfl | rfl
          · rw [show L + 11 - L - 3 = 8 by omega, z_upd_ne (by omega), z_upd_ne (by omega), z_upd_ne (by omega), z_upd_ne (by omega), z_upd_ne (by omega), z_upd_ne (by omega), z_upd_ne (by omega), z_upd_ne (by omega), z_upd_ne (by omega), z_upd_same]; rfl
          · rw [show L + 12 - L - 3 = 9 by omega, z_upd_ne (by omega), z_upd_ne (by omega), z_upd_ne (by omega), z_upd_ne (by omega), z_upd_ne (by omega), z_upd_ne (by omega), z_upd_ne (by omega), z_upd_ne (by omega), z_upd_same]; rfl
          · rw [show L + 13 - L - 3 = 10 by omega, z_upd_ne (by omega), z_upd_ne (by omega), z_upd_ne (by omega), z_upd_ne (by omega), z_upd_ne (by omega), z_upd_ne (by omega), z_upd_ne (by omega), z_upd_same]; rfl
          · rw [show L + 14 - L - 3 = 11 by omega, z_upd_ne (by omega), z_upd_ne (by omega), z_upd_ne (by omega), z_upd_ne (by omega), z_upd_ne (by omega), z_upd_same]; rfl
          · rw [show L + 15 - L - 3 = 12 by omega, z_upd_ne (by omega), z_upd_ne (by omega), z_upd_ne (by omega), z_upd_ne (by omega), z_upd_same]; rfl
          · rw [show L + 16 - L - 3 = 13 by omega, z_upd_ne (by omega), z_upd_ne (by omega), z_upd_ne (by omega), z_upd_same]; rfl
          · rw [show L + 17 - L - 3 = 14 by omega, z_upd_ne (by omega), z_upd_ne (by omega), z_upd_same]; rfl
          · rw [show L + 18 - L - 3 = 15 by omega, z_upd_ne (by omega), z_upd_same]; rfl
          · rw [show L + 19 - L - 3 = 16 by omega, z_upd_same]; rfl
        · rw [if_neg hc, z_upd_ne (by omega), z_upd_ne (by omega), z_upd_ne (by omega), z_upd_ne (by omega), z_upd_ne (by omega), z_upd_ne (by omega), z_upd_ne (by omega), z_upd_ne (by omega), z_upd_ne (by omega), z_upd_ne (by omega)]
    refine ⟨σ1, σ2, σ3, ?_, ?_, ?_, fun c i hc => by rw [at3, if_neg (by omega), if_neg (by omega)], ⟨?_, ?_, ?_, ?_⟩, fun r r0 r1 r2 => ?_, fun k k0 k1 k2 => ?_, fun k k0 k1 => ?_, fun j j0 j1 j2 => ?_⟩
    · simp (disch := omega) only [z_E203, c_LC hL, c_LA hL, x3, if_neg, z_upd_at, z_fdC, z_pdC, z_adC, z_sdC, z_lkC, z_ndC, z_gdC, z_mdC, z_cI_some', z_cV_some', z_w_ok, Int.reduceAdd, Int.reduceSub, Int.reduceMul, Int.reduceNeg, Int.reduceEq, Int.reduceLT, Int.reduceLE, Int.reduceNe, reduceIte, true_and, and_true, false_and, and_false, if_true, if_false, ne_eq, not_true_eq_false, not_false_eq_true]
      rfl
    · rcases hcr with rfl | rfl
      · simp (disch := omega) only [z_E204, c_LC hL, c_LA hL, s1, e1, k1, if_neg, if_pos, z_fdC, z_pdC, z_adC, z_sdC, z_lkC, z_ndC, z_gdC, z_mdC, z_cI_some', z_cV_some', z_w_ok, Int.reduceAdd, Int.reduceSub, Int.reduceMul, Int.reduceNeg, Int.reduceEq, Int.reduceLT, Int.reduceLE, Int.reduceNe, reduceIte, true_and, and_true, false_and, and_false, if_true, if_false, ne_eq, not_true_eq_false, not_false_eq_true]
        rfl
      · simp (disch := omega) only [z_E204, c_LC hL, c_LA hL, s1, e1, k1, if_neg, if_pos, z_fdC, z_pdC, z_adC, z_sdC, z_lkC, z_ndC, z_gdC, z_mdC, z_cI_some', z_cV_some', z_w_ok, Int.reduceAdd, Int.reduceSub, Int.reduceMul, Int.reduceNeg, Int.reduceEq, Int.reduceLT, Int.reduceLE, Int.reduceNe, reduceIte, true_and, and_true, false_and, and_false, if_true, if_false, ne_eq, not_true_eq_false, not_false_eq_true]
        rfl
    · simp (disch := omega) only [z_E205, c_LC hL, c_LA hL, s2, e1, k2, if_neg, if_pos, z_fdC, z_pdC, z_adC, z_sdC, z_lkC, z_ndC, z_gdC, z_mdC, z_cI_some', z_cV_some', z_w_ok, Int.reduceAdd, Int.reduceSub, Int.reduceMul, Int.reduceNeg, Int.reduceEq, Int.reduceLT, Int.reduceLE, Int.reduceNe, reduceIte, true_and, and_true, false_and, and_false, if_true, if_false, ne_eq, not_true_eq_false, not_false_eq_true]
      rfl
    · rw [at3, if_neg (by omega), if_neg (by omega), z_addJ_at, if_neg (by omega), if_neg (by omega)]; exact x0
    · rw [at3, if_neg (by omega), if_neg (by omega), z_addJ_at, if_neg (by omega), if_neg (by omega)]; exact x1
    · rw [at3, if_neg (by omega), if_neg (by omega), z_addJ_at, if_neg (by omega), if_neg (by omega)]; exact x2
    · rw [at3, if_pos (by omega), z_addJ_at, if_pos (by omega)]
    · rw [z_addJ_at, if_neg (by omega), if_neg (by omega)] at r1
      have hs : z_slot (z_addJ X a b n lo hi cr sl ho ti) (z_addJ X a b n lo hi cr sl ho ti 0 1).toNat r = z_slot X (X 0 1).toNat r := by
        rw [z_addJ_at 0 1, if_neg (by omega), if_neg (by omega)]
        exact z_slot_congr (fun k _ _ => by rw [z_addJ_at, if_neg (by omega), if_neg (by omega)])
      rw [hs]
      simp (disch := omega) only [at3, z_addJ_at, if_neg]
      exact xr r r0 r1 r2
    · rw [z_addJ_at, if_neg (by omega), if_neg (by omega)] at k1
      simp (disch := omega) only [at3, z_addJ_at, if_neg]
      exact xk k k0 k1 k2
    · simp (disch := omega) only [at3, z_addJ_at, if_neg]
      exact xt k k0 k1
    · rw [z_addJ_at, if_pos (by omega)] at j1
      by_cases hj : j = X 0 2
      · subst hj
        have e : ∀ t : Int, 8 ≤ t → t ≤ 16 → σ3 (L + 3 + t) (X 0 2) = z_addJ X a b n lo hi cr sl ho ti t (X 0 2) := fun t t0 t1 => by
          rw [at3, if_neg (by omega), if_pos (by omega), z_addJ_at, if_neg (by omega), if_pos (by omega), show L + 3 + t - L - 3 = t by omega]
        have e8 := e 8 (by omega) (by omega)
        have e9 := e 9 (by omega) (by omega)
        have e10 := e 10 (by omega) (by omega)
        have e11 := e 11 (by omega) (by omega)
        have e12 := e 12 (by omega) (by omega)
        have e13 := e 13 (by omega) (by omega)
        have e14 := e 14 (by omega) (by omega)
        have e15 := e 15 (by omega) (by omega)
        have e16 := e 16 (by omega) (by omega)
        rw [Int.add_assoc] at e8 e9 e10 e11 e12 e13 e14 e15 e16
        exact ⟨e8, e9, e10, e11, e12, e13, e14, e15, e16⟩
      · simp (disch := omega) only [at3, z_addJ_at, if_neg]
        exact xj j j0 (by omega) j2
  · let σ1 := z_upd σ (L + 10) 0 (X 0 2 + 1)
    have s1 : σ1 (L + 10) 0 = X 0 2 + 1 := z_upd_same
    have k1 := c_jhas (σ := σ1) hq d (X 0 2)
    rw [s1, if_neg (by omega)] at k1
    have e1 : X 0 2 + 1 - 1 = X 0 2 := by omega
    have at3 : ∀ c i, σ1 c i = if c = L + 10 ∧ i = 0 then X 0 2 + 1 else σ c i := fun c i => rfl
    refine ⟨σ1, σ1, σ1, ?_, ?_, ?_, fun c i hc => by rw [at3, if_neg (by omega)], ⟨?_, ?_, ?_, ?_⟩, fun r r0 r1 r2 => ?_, fun k k0 k1 k2 => ?_, fun k k0 k1 => ?_, fun j j0 j1 j2 => ?_⟩
    · simp (disch := omega) only [z_E203, c_LC hL, c_LA hL, x3, if_pos, z_fdC, z_pdC, z_adC, z_sdC, z_lkC, z_ndC, z_gdC, z_mdC, z_cI_some', z_cV_some', z_w_ok, Int.reduceAdd, Int.reduceSub, Int.reduceMul, Int.reduceNeg, Int.reduceEq, Int.reduceLT, Int.reduceLE, Int.reduceNe, reduceIte, true_and, and_true, false_and, and_false, if_true, if_false, ne_eq, not_true_eq_false, not_false_eq_true]
      rfl
    · simp (disch := omega) only [z_E204, c_LC hL, c_LA hL, s1, e1, k1, z_fdC, z_pdC, z_adC, z_sdC, z_lkC, z_ndC, z_gdC, z_mdC, z_cI_some', z_cV_some', z_w_ok, Int.reduceAdd, Int.reduceSub, Int.reduceMul, Int.reduceNeg, Int.reduceEq, Int.reduceLT, Int.reduceLE, Int.reduceNe, reduceIte, true_and, and_true, false_and, and_false, if_true, if_false, ne_eq, not_true_eq_false, not_false_eq_true]
    · simp (disch := omega) only [z_E205, c_LC hL, c_LA hL, s1, e1, k1, z_fdC, z_pdC, z_adC, z_sdC, z_lkC, z_ndC, z_gdC, z_mdC, z_cI_some', z_cV_some', z_w_ok, Int.reduceAdd, Int.reduceSub, Int.reduceMul, Int.reduceNeg, Int.reduceEq, Int.reduceLT, Int.reduceLE, Int.reduceNe, reduceIte, true_and, and_true, false_and, and_false, if_true, if_false, ne_eq, not_true_eq_false, not_false_eq_true]
    · rw [at3, if_neg (by omega), z_addJ_at, if_neg (by omega), if_neg (by omega)]; exact x0
    · rw [at3, if_neg (by omega), z_addJ_at, if_neg (by omega), if_neg (by omega)]; exact x1
    · rw [at3, if_neg (by omega), z_addJ_at, if_neg (by omega), if_neg (by omega)]; exact x2
    · rw [at3, if_pos (by omega), z_addJ_at, if_pos (by omega)]
    · rw [z_addJ_at, if_neg (by omega), if_neg (by omega)] at r1
      have hs : z_slot (z_addJ X a b n lo hi cr sl ho ti) (z_addJ X a b n lo hi cr sl ho ti 0 1).toNat r = z_slot X (X 0 1).toNat r := by
        rw [z_addJ_at 0 1, if_neg (by omega), if_neg (by omega)]
        exact z_slot_congr (fun k _ _ => by rw [z_addJ_at, if_neg (by omega), if_neg (by omega)])
      rw [hs]
      simp (disch := omega) only [at3, z_addJ_at, if_neg]
      exact xr r r0 r1 r2
    · rw [z_addJ_at, if_neg (by omega), if_neg (by omega)] at k1
      simp (disch := omega) only [at3, z_addJ_at, if_neg]
      exact xk k k0 k1 k2
    · simp (disch := omega) only [at3, z_addJ_at, if_neg]
      exact xt k k0 k1
    · rw [z_addJ_at, if_pos (by omega)] at j1
      simp (disch := omega) only [at3, z_addJ_at, if_neg]
      exact xj j j0 (by omega) j2
/-- Roads.setCap -/
theorem c_setCap (hL : L = 6 ∨ L = 26) (hx : c_landx σ L X) (v : Int) (d : Nat) :
    ∃ σ', z_ev z_hcC (d + 1) 603 [z_R (L + 1), z_I v] z_hdC σ = some (z_U, z_hdC, σ') ∧ z_off (L + 1) (L + 3) σ σ' ∧ (∀ i, i ≠ 2 → σ' (L + 1) i = σ (L + 1) i) ∧ c_landx σ' L (z_addC X v) := by
  obtain ⟨⟨x0, x1, x2, x3⟩, xr, xk, xt, xj⟩ := hx
  obtain ⟨σ2, e2, o2, f2⟩ := z_for (fun (k : Nat) (x : z_S) => z_go (z_ev z_hcC d) z_hcC 603 7 [z_R (L + 1), z_I v, z_I k] [] z_hdC x) (fun x => some (z_U, z_hdC, x))
    (fun k x => (∀ c i, c ≠ L + 3 → x c i = z_upd σ (L + 1) 2 v c i) ∧ ∀ i : Int, 0 ≤ i → i < 5 → x (L + 3) i = if i < k then z_mn v (X 7 i) else X 7 i) 5 (s := z_upd σ (L + 1) 2 v) ⟨fun c i _ => rfl, fun i i0 i1 => by rw [if_neg (by omega), z_upd_ne (by omega)]; exact xt i i0 i1⟩
    (fun k x hk ⟨h1, h2⟩ => by
      have e := h2 k (by omega) (by omega)
      rw [if_neg (by omega)] at e
      refine ⟨z_upd x (L + 3) k (z_mn v (X 7 k)), ?_, fun c i hc => by rw [z_upd_ne (by omega)]; exact h1 c i hc, fun i i0 i1 => ?_⟩
      · rw [z_B603_7]
        simp (disch := omega) only [c_LC hL, c_LA hL, if_neg, e, z_ns, z_mn, z_fdC, z_pdC, z_adC, z_sdC, z_lkC, z_ndC, z_gdC, z_mdC, z_cI_some', z_cV_some', z_w_ok, Int.reduceAdd, Int.reduceSub, Int.reduceMul, Int.reduceNeg, Int.reduceEq, Int.reduceLT, Int.reduceLE, Int.reduceNe, reduceIte, true_and, and_true, false_and, and_false, if_true, if_false, ne_eq, not_true_eq_false, not_false_eq_true]
      · by_cases hi : i = k
        · subst hi; rw [z_upd_same, if_pos (by omega)]
        · rw [z_upd_ne (by omega), h2 i i0 i1]
          by_cases hlt : i < (k : Int)
          · rw [if_pos hlt, if_pos (by omega)]
          · rw [if_neg hlt, if_neg (by omega)]) (fun x _ => by
      rw [z_B603_7]
      simp (disch := omega) only [if_pos, z_fdC, z_pdC, z_adC, z_sdC, z_lkC, z_ndC, z_gdC, z_mdC, z_cI_some', z_cV_some', z_w_ok, Int.reduceAdd, Int.reduceSub, Int.reduceMul, Int.reduceNeg, Int.reduceEq, Int.reduceLT, Int.reduceLE, Int.reduceNe, reduceIte, true_and, and_true, false_and, and_false, if_true, if_false, ne_eq, not_true_eq_false, not_false_eq_true])
  have at3 : ∀ c i, c ≠ L + 3 → σ2 c i = if c = L + 1 ∧ i = 2 then v else σ c i := fun c i hc => by rw [o2 c i hc]; rfl
  have hC : ∀ c i, (c ≠ 7 ∧ (c ≠ 0 ∨ i ≠ 3)) → z_addC X v c i = X c i := fun c i h => by unfold z_addC; rw [if_neg (by omega), if_neg (by omega)]
  refine ⟨σ2, ?_, fun c i hc => by rw [at3 _ _ (by omega), if_neg (by omega)], fun i hi => by rw [at3 _ _ (by omega), if_neg (by omega)], ⟨?_, ?_, ?_, ?_⟩, fun r r0 r1 r2 => ?_, fun k k0 k1 k2 => ?_, fun k k0 k1 => ?_, fun j j0 j1 j2 => ?_⟩
  · rw [← e2]
    simp (disch := omega) only [z_E603, c_LC hL, z_fdC, z_pdC, z_adC, z_sdC, z_lkC, z_ndC, z_gdC, z_mdC, z_cI_some', z_cV_some', z_w_ok, Int.reduceAdd, Int.reduceSub, Int.reduceMul, Int.reduceNeg, Int.reduceEq, Int.reduceLT, Int.reduceLE, Int.reduceNe, reduceIte, true_and, and_true, false_and, and_false, if_true, if_false, ne_eq, not_true_eq_false, not_false_eq_true]
    rfl
  · rw [at3 _ _ (by omega), if_neg (by omega), hC _ _ (by omega)]; exact x0
  · rw [at3 _ _ (by omega), if_neg (by omega), hC _ _ (by omega)]; exact x1
  · rw [at3 _ _ (by omega), if_pos (by omega)]; unfold z_addC; rw [if_pos (by omega)]
  · rw [at3 _ _ (by omega), if_neg (by omega), hC _ _ (by omega)]; exact x3
  · rw [hC _ _ (by omega)] at r1
    have hs : z_slot (z_addC X v) (z_addC X v 0 1).toNat r = z_slot X (X 0 1).toNat r := by
      rw [hC 0 1 (by omega)]
      exact z_slot_congr (fun k _ _ => hC _ _ (by omega))
    rw [hs]
    simp (disch := omega) only [at3, hC, if_neg]
    exact xr r r0 r1 r2
  · rw [hC _ _ (by omega)] at k1
    simp (disch := omega) only [at3, hC, if_neg]
    exact xk k k0 k1 k2
  · rw [f2 k k0 k1, if_pos (by omega)]
    symm
    show (if (7 : Int) = 0 ∧ k = 3 then v else if (7 : Int) = 7 then (if v < X 7 k then v else X 7 k) else X 7 k) = _
    exact (if_neg (by omega)).trans (if_pos rfl)
  · rw [hC _ _ (by omega)] at j1
    simp (disch := omega) only [at3, hC, if_neg]
    exact xj j j0 j1 j2
end
