/-! The reference tells an item. -/
def m_adR (σ : z_S) (R K o a b n h : Int) : z_S := if o = -1 then z_upd (z_upd (z_upd (z_upd (z_upd (z_upd σ 2 R a) 3 R b) 4 R n) 5 R h) 6 R (-1)) 1 5 (R + 1) else z_upd (z_upd (z_upd (z_upd (z_upd (z_upd (z_upd (z_upd (z_upd σ 2 R a) 3 R b) 4 R n) 5 R h) 6 R o) 7 K R) 8 K 0) 1 8 (K + 1)) 1 5 (R + 1)
def m_adJ (σ : z_S) (J a b n lo hi cr sl ho ti : Int) : z_S := z_upd (z_upd (z_upd (z_upd (z_upd (z_upd (z_upd (z_upd (z_upd (z_upd σ 9 J a) 10 J b) 11 J n) 12 J lo) 13 J hi) 14 J cr) 15 J sl) 16 J ho) 17 J ti) 1 20 (J + 1)
/-- all stands but what a road or a journey more is -/
def m_fa (R K J : Int) (σ σ' : z_S) : Prop := ∀ a j : Int, (18 ≤ a ∨ (a = 1 ∧ j ≠ 5 ∧ j ≠ 8 ∧ j ≠ 20) ∨ (2 ≤ a ∧ a ≤ 6 ∧ j < R) ∨ (a = 7 ∧ j < K) ∨ (9 ≤ a ∧ a ≤ 17 ∧ j < J)) → σ' a j = σ a j
section
variable {σ σ' Y : z_S} {R K J o a b n h lo hi cr sl ho ti i : Int}
theorem m_fa_tr {R' K' J' : Int} {τ : z_S} (f : m_fa R K J σ σ') (f' : m_fa R' K' J' σ' τ) (h1 : R ≤ R') (h2 : K ≤ K') (h3 : J ≤ J') : m_fa R K J σ τ := fun a j h => by rw [f' a j (by omega), f a j h]
theorem m_adR_fa : m_fa R K J σ (m_adR σ R K o a b n h) := fun c j hh => by
  unfold m_adR
  split
  · rw [z_upd_ne (by omega), z_upd_ne (by omega), z_upd_ne (by omega), z_upd_ne (by omega), z_upd_ne (by omega), z_upd_ne (by omega)]
  · rw [z_upd_ne (by omega), z_upd_ne (by omega), z_upd_ne (by omega), z_upd_ne (by omega), z_upd_ne (by omega), z_upd_ne (by omega), z_upd_ne (by omega), z_upd_ne (by omega), z_upd_ne (by omega)]
theorem m_adR_2 {c j : Int} (hc : 2 ≤ c ∧ c ≤ 6) : m_adR σ R K o a b n h c j = if j = R then (if c = 2 then a else if c = 3 then b else if c = 4 then n else if c = 5 then h else o) else σ c j := by
  have hcc : c = 2 ∨ c = 3 ∨ c = 4 ∨ c = 5 ∨ c = 6 := by omega
  unfold m_adR
  by_cases ho : o = -1
  · rw [if_pos ho]
    rcases hcc with rfl | rfl | rfl | rfl | rfl <;> simp [z_upd_at, ho]
  · rw [if_neg ho]
    rcases hcc with rfl | rfl | rfl | rfl | rfl <;> simp [z_upd_at]
theorem m_adR_7 {j : Int} : m_adR σ R K o a b n h 7 j = if j = K ∧ o ≠ -1 then R else σ 7 j := by
  unfold m_adR
  by_cases ho : o = -1
  · rw [if_pos ho]; simp [z_upd_at, ho]
  · rw [if_neg ho]; simp [z_upd_at, ho]
theorem m_adR_8 {j : Int} : m_adR σ R K o a b n h 8 j = if j = K ∧ o ≠ -1 then 0 else σ 8 j := by
  unfold m_adR
  by_cases ho : o = -1
  · rw [if_pos ho]; simp [z_upd_at, ho]
  · rw [if_neg ho]; simp [z_upd_at, ho]
theorem m_adR_1 : m_adR σ R K o a b n h 1 5 = R + 1 ∧ m_adR σ R K o a b n h 1 8 = (if o ≠ -1 then K + 1 else σ 1 8) := by
  unfold m_adR
  by_cases ho : o = -1
  · rw [if_pos ho]; simp [z_upd_at, ho]
  · rw [if_neg ho]; simp [z_upd_at, ho]
theorem m_adR_o {c j : Int} (hc : 9 ≤ c ∨ (c = 1 ∧ j ≠ 5 ∧ j ≠ 8)) : m_adR σ R K o a b n h c j = σ c j := by
  unfold m_adR
  split
  · rw [z_upd_ne (by omega), z_upd_ne (by omega), z_upd_ne (by omega), z_upd_ne (by omega), z_upd_ne (by omega), z_upd_ne (by omega)]
  · rw [z_upd_ne (by omega), z_upd_ne (by omega), z_upd_ne (by omega), z_upd_ne (by omega), z_upd_ne (by omega), z_upd_ne (by omega), z_upd_ne (by omega), z_upd_ne (by omega), z_upd_ne (by omega)]
theorem m_landR (hl : m_land σ Y) : m_land (m_adR σ (Y 0 0) (Y 0 1) o a b n h) (z_addR Y o a b n h) := by
  obtain ⟨⟨l1, l2, l3, l4⟩, l5, l6, l7⟩ := hl
  refine ⟨⟨?_, ?_, ?_, ?_⟩, fun r r0 r1 => ?_, fun k k0 k1 => ?_, fun j j0 j1 => ?_⟩
  · rw [m_adR_1.1, z_addR_c, if_pos rfl]
  · rw [m_adR_1.2, z_addR_c, l2]
    by_cases ho : o = -1
    · simp [ho]
    · simp [ho]
  · rw [m_adR_o (by omega), z_addR_c, if_neg (by omega), if_neg (by omega)]; exact l3
  · rw [m_adR_o (by omega), z_addR_c, if_neg (by omega), if_neg (by omega)]; exact l4
  · rw [z_addR_c, if_pos rfl] at r1
    rw [m_adR_2 (by omega), m_adR_2 (by omega), m_adR_2 (by omega), m_adR_2 (by omega), m_adR_2 (by omega), z_addR_r _ _ (by omega), z_addR_r _ _ (by omega), z_addR_r _ _ (by omega), z_addR_r _ _ (by omega), z_addR_r _ _ (by omega)]
    by_cases c : r = Y 0 0
    · simp [c]
    · have := l5 r r0 (by omega)
      rw [if_neg c, if_neg c, if_neg c, if_neg c, if_neg c, if_neg c, if_neg c, if_neg c, if_neg c, if_neg c]
      exact this
  · rw [z_addR_c, if_neg (by omega)] at k1
    rw [m_adR_7, z_addR_6]
    split
    · rfl
    · exact l6 k k0 (by split at k1 <;> omega)
  · rw [z_addR_c, if_neg (by omega), if_neg (by omega)] at j1
    rw [m_adR_o (by omega), m_adR_o (by omega), m_adR_o (by omega), m_adR_o (by omega), m_adR_o (by omega), m_adR_o (by omega), m_adR_o (by omega), m_adR_o (by omega), m_adR_o (by omega), z_addR_o _ _ (by omega), z_addR_o _ _ (by omega), z_addR_o _ _ (by omega), z_addR_o _ _ (by omega), z_addR_o _ _ (by omega), z_addR_o _ _ (by omega), z_addR_o _ _ (by omega), z_addR_o _ _ (by omega), z_addR_o _ _ (by omega)]
    exact l7 j j0 j1
theorem m_adJ_fa : m_fa R K J σ (m_adJ σ J a b n lo hi cr sl ho ti) := fun c j hh => by
  unfold m_adJ
  rw [z_upd_ne (by omega), z_upd_ne (by omega), z_upd_ne (by omega), z_upd_ne (by omega), z_upd_ne (by omega), z_upd_ne (by omega), z_upd_ne (by omega), z_upd_ne (by omega), z_upd_ne (by omega), z_upd_ne (by omega)]
theorem m_adJ_o {c j : Int} (hc : (c < 9 ∨ 17 < c ∨ j ≠ J) ∧ (c ≠ 1 ∨ j ≠ 20)) : m_adJ σ J a b n lo hi cr sl ho ti c j = σ c j := by
  unfold m_adJ
  rw [z_upd_ne (by omega), z_upd_ne (by omega), z_upd_ne (by omega), z_upd_ne (by omega), z_upd_ne (by omega), z_upd_ne (by omega), z_upd_ne (by omega), z_upd_ne (by omega), z_upd_ne (by omega), z_upd_ne (by omega)]
theorem m_adJ_n : m_adJ σ J a b n lo hi cr sl ho ti 1 20 = J + 1 ∧ m_adJ σ J a b n lo hi cr sl ho ti 9 J = a ∧ m_adJ σ J a b n lo hi cr sl ho ti 10 J = b ∧ m_adJ σ J a b n lo hi cr sl ho ti 11 J = n ∧ m_adJ σ J a b n lo hi cr sl ho ti 12 J = lo ∧ m_adJ σ J a b n lo hi cr sl ho ti 13 J = hi ∧ m_adJ σ J a b n lo hi cr sl ho ti 14 J = cr ∧ m_adJ σ J a b n lo hi cr sl ho ti 15 J = sl ∧ m_adJ σ J a b n lo hi cr sl ho ti 16 J = ho ∧ m_adJ σ J a b n lo hi cr sl ho ti 17 J = ti := by
  unfold m_adJ
  refine ⟨z_upd_same, ?_, ?_, ?_, ?_, ?_, ?_, ?_, ?_, ?_⟩ <;> simp (disch := omega) only [z_upd_ne, z_upd_same]
theorem m_landJ (hl : m_land σ Y) (hs : 0 ≤ sl ∧ sl ≤ 1000) : m_land (m_adJ σ (Y 0 2) a b n lo hi cr sl ho ti) (z_addJ Y a b n lo hi cr sl ho ti) := by
  obtain ⟨⟨l1, l2, l3, l4⟩, l5, l6, l7⟩ := hl
  obtain ⟨n0, n1, n2, n3, n4, n5, n6, n7, n8, n9⟩ := m_adJ_n (σ := σ) (J := Y 0 2) (a := a) (b := b) (n := n) (lo := lo) (hi := hi) (cr := cr) (sl := sl) (ho := ho) (ti := ti)
  have hA : ∀ c i, (c < 8 ∨ 16 < c) → (c ≠ 0 ∨ i ≠ 2) → z_addJ Y a b n lo hi cr sl ho ti c i = Y c i := fun c i h h' => by rw [z_addJ_at, if_neg (by omega), if_neg (by omega)]
  have hO : ∀ c j, 8 ≤ c → c ≤ 16 → j ≠ Y 0 2 → z_addJ Y a b n lo hi cr sl ho ti c j = Y c j := fun c j _ _ h => by rw [z_addJ_at, if_neg (by omega), if_neg (by omega)]
  have hN : ∀ c, 8 ≤ c → c ≤ 16 → z_addJ Y a b n lo hi cr sl ho ti c (Y 0 2) = z_jv a b n lo hi cr sl ho ti c := fun c c0 c1 => by rw [z_addJ_at, if_neg (by omega), if_pos (by omega)]
  have e2 : z_addJ Y a b n lo hi cr sl ho ti 0 2 = Y 0 2 + 1 := by rw [z_addJ_at, if_pos (by omega)]
  refine ⟨⟨?_, ?_, ?_, ?_⟩, fun r r0 r1 => ?_, fun k k0 k1 => ?_, fun j j0 j1 => ?_⟩
  · rw [m_adJ_o (by omega), hA _ _ (by omega) (by omega)]; exact l1
  · rw [m_adJ_o (by omega), hA _ _ (by omega) (by omega)]; exact l2
  · rw [m_adJ_o (by omega), hA _ _ (by omega) (by omega)]; exact l3
  · rw [n0, e2]
  · rw [hA _ _ (by omega) (by omega)] at r1
    rw [m_adJ_o (by omega), m_adJ_o (by omega), m_adJ_o (by omega), m_adJ_o (by omega), m_adJ_o (by omega), hA _ _ (by omega) (by omega), hA _ _ (by omega) (by omega), hA _ _ (by omega) (by omega), hA _ _ (by omega) (by omega), hA _ _ (by omega) (by omega)]
    exact l5 r r0 r1
  · rw [hA _ _ (by omega) (by omega)] at k1
    rw [m_adJ_o (by omega), hA _ _ (by omega) (by omega)]
    exact l6 k k0 k1
  · rw [e2] at j1
    by_cases c : j = Y 0 2
    · subst c
      rw [n1, n2, n3, n4, n5, n6, n7, n8, n9, hN 8 (by omega) (by omega), hN 9 (by omega) (by omega), hN 10 (by omega) (by omega), hN 11 (by omega) (by omega), hN 12 (by omega) (by omega), hN 13 (by omega) (by omega), hN 14 (by omega) (by omega), hN 15 (by omega) (by omega), hN 16 (by omega) (by omega)]
      exact ⟨rfl, rfl, rfl, rfl, rfl, rfl, ⟨hs.1, hs.2, rfl⟩, rfl, rfl⟩
    · rw [m_adJ_o (by omega), m_adJ_o (by omega), m_adJ_o (by omega), m_adJ_o (by omega), m_adJ_o (by omega), m_adJ_o (by omega), m_adJ_o (by omega), m_adJ_o (by omega), m_adJ_o (by omega), hO 8 j (by omega) (by omega) c, hO 9 j (by omega) (by omega) c, hO 10 j (by omega) (by omega) c, hO 11 j (by omega) (by omega) c, hO 12 j (by omega) (by omega) c, hO 13 j (by omega) (by omega) c, hO 14 j (by omega) (by omega) c, hO 15 j (by omega) (by omega) c, hO 16 j (by omega) (by omega) c]
      exact l7 j j0 (by omega)
/-- the call for a road -/
theorem m_ti_R (d : Nat) (hi : 0 ≤ i ∧ i < 60) (hR : σ 1 5 = R) (hK : σ 1 8 = K) (h0 : 0 ≤ R ∧ R < 14) (h1 : 0 ≤ K ∧ (o ≠ -1 → K < 5)) (ho : o = -1 ∧ σ 21 i = 114 ∨ o = 0 ∧ σ 21 i = 116 ∨ o = 1 ∧ σ 21 i = 117) : z_ev z_hcM (d + 6) 1221 [z_R 1, z_I i] z_hdM σ = some (z_U, z_hdM, m_adR σ R K o (σ 22 i) (σ 23 i) (σ 24 i) (σ 25 i)) := by
  unfold m_adR
  rcases ho with ⟨rfl, h⟩ | ⟨rfl, h⟩ | ⟨rfl, h⟩
  · rw [if_pos rfl, z_E1221]
    simp (maxSteps := 2000000) (disch := omega) only [h, hR, hK, z_upd_ne, z_B1221_256, z_fdM, z_pdM, z_adM, z_sdM, z_lkM, z_ndM, z_gdM, z_cI_some', z_cV_some', z_w_ok, Int.reduceAdd, Int.reduceSub, Int.reduceMul, Int.reduceNeg, Int.reduceEq, Int.reduceLT, Int.reduceLE, Int.reduceNe, reduceIte, true_and, and_true, false_and, and_false, if_true, if_false, ne_eq, not_true_eq_false, not_false_eq_true]
  · rw [if_neg (by omega), z_E1221]
    simp (maxSteps := 2000000) (disch := omega) only [h, hR, hK, z_upd_ne, z_B1221_256, z_fdM, z_pdM, z_adM, z_sdM, z_lkM, z_ndM, z_gdM, z_cI_some', z_cV_some', z_w_ok, Int.reduceAdd, Int.reduceSub, Int.reduceMul, Int.reduceNeg, Int.reduceEq, Int.reduceLT, Int.reduceLE, Int.reduceNe, reduceIte, true_and, and_true, false_and, and_false, if_true, if_false, ne_eq, not_true_eq_false, not_false_eq_true]
  · rw [if_neg (by omega), z_E1221]
    simp (maxSteps := 2000000) (disch := omega) only [h, hR, hK, z_upd_ne, z_B1221_256, z_fdM, z_pdM, z_adM, z_sdM, z_lkM, z_ndM, z_gdM, z_cI_some', z_cV_some', z_w_ok, Int.reduceAdd, Int.reduceSub, Int.reduceMul, Int.reduceNeg, Int.reduceEq, Int.reduceLT, Int.reduceLE, Int.reduceNe, reduceIte, true_and, and_true, false_and, and_false, if_true, if_false, ne_eq, not_true_eq_false, not_false_eq_true]
theorem m_ti_J (d : Nat) (hi' : 0 ≤ i ∧ i < 60) (hJ : σ 1 20 = J) (h0 : 0 ≤ J ∧ J < 8) (h : σ 21 i = 106) (hc : σ 28 i = 0 ∨ σ 28 i = 1) : z_ev z_hcM (d + 6) 1221 [z_R 1, z_I i] z_hdM σ = some (z_U, z_hdM, m_adJ σ J (σ 22 i) (σ 23 i) (σ 24 i) (σ 26 i) (σ 27 i) (σ 28 i) (σ 29 i) (σ 30 i) (σ 31 i)) := by
  unfold m_adJ
  rw [z_E1221]
  simp (maxSteps := 2000000) (disch := omega) only [h, hJ, z_upd_ne, if_pos hc, z_fdM, z_pdM, z_adM, z_sdM, z_lkM, z_ndM, z_gdM, z_cI_some', z_cV_some', z_w_ok, Int.reduceAdd, Int.reduceSub, Int.reduceMul, Int.reduceNeg, Int.reduceEq, Int.reduceLT, Int.reduceLE, Int.reduceNe, reduceIte, true_and, and_true, false_and, and_false, if_true, if_false, ne_eq, not_true_eq_false, not_false_eq_true]
end
