/-! The reference tells the caps. -/
theorem m_capin {x1 x2 x3 x4 x5 x6 x7 : Int} (d : Nat) {K v : Int} (hK : 0 ≤ K ∧ K ≤ 5) (h7 : 0 ≤ x7 ∧ x7 ≤ 60) : ∀ (n : Nat) {k : Int} {σ : z_S}, K = k + n → 0 ≤ k → σ 1 8 = K → σ 1 9 = v →
    ∃ σ' u8, z_go (z_ev z_hcM (d + 6)) z_hcM 1220 382 [z_R 1, z_I x1, z_I x2, z_I x3, z_I x4, z_I x5, z_I x6, z_I x7, z_I k] [] z_hdM σ = z_go (z_ev z_hcM (d + 6)) z_hcM 1220 344 [z_R 1, z_I x1, z_I x2, z_I x3, z_I x4, z_I x5, z_I x6, z_I (x7 + 1), u8] [] z_hdM σ' ∧ (∀ a j : Int, a ≠ 8 → σ' a j = σ a j) ∧ ∀ j, σ' 8 j = if k ≤ j ∧ j < K then (if v < σ 8 j then v else σ 8 j) else σ 8 j
  | 0, k, σ, hk, k0, e8, e9 => by
    refine ⟨σ, z_I k, ?_, fun _ _ _ => rfl, fun j => by rw [if_neg (by omega)]⟩
    rw [z_B1220_382]
    simp (disch := omega) only [e8, if_pos, z_fdM, z_pdM, z_adM, z_sdM, z_lkM, z_ndM, z_gdM, z_cI_some', z_cV_some', z_w_ok, Int.reduceAdd, Int.reduceSub, Int.reduceMul, Int.reduceNeg, Int.reduceEq, Int.reduceLT, Int.reduceLE, Int.reduceNe, reduceIte, true_and, and_true, false_and, and_false, if_true, if_false, ne_eq, not_true_eq_false, not_false_eq_true]
  | n + 1, k, σ, hk, k0, e8, e9 => by
    obtain ⟨s, u8, e, f, g⟩ := m_capin (x1 := x1) (x2 := x2) (x3 := x3) (x4 := x4) (x5 := x5) (x6 := x6) (v := v) d hK h7 n (k := k + 1) (σ := z_upd σ 8 k (if v < σ 8 k then v else σ 8 k)) (by omega) (by omega) (by rw [z_upd_ne (by omega)]; exact e8) (by rw [z_upd_ne (by omega)]; exact e9)
    refine ⟨s, u8, ?_, fun a j h => by rw [f a j h, z_upd_ne (by omega)], fun j => ?_⟩
    · rw [z_B1220_382]
      simp (disch := omega) only [e8, e9, if_neg (show ¬ K ≤ k by omega), z_fdM, z_pdM, z_adM, z_sdM, z_lkM, z_ndM, z_gdM, z_cI_some', z_cV_some', z_w_ok, Int.reduceAdd, Int.reduceSub, Int.reduceMul, Int.reduceNeg, Int.reduceEq, Int.reduceLT, Int.reduceLE, Int.reduceNe, reduceIte, true_and, and_true, false_and, and_false, if_true, if_false, ne_eq, not_true_eq_false, not_false_eq_true]
      exact e
    · rw [g]
      by_cases c : j = k
      · subst c
        rw [if_neg (by omega), z_upd_same, if_pos (show j ≤ j ∧ j < K by omega)]
      · rw [z_upd_ne (by omega)]
        by_cases c2 : k + 1 ≤ j ∧ j < K
        · rw [if_pos c2, if_pos (show k ≤ j ∧ j < K by omega)]
        · rw [if_neg c2, if_neg (show ¬ (k ≤ j ∧ j < K) by omega)]
theorem m_capl {x1 x2 x3 x4 x5 x6 : Int} (d : Nat) : ∀ {l : List (List Int)} {x7 : Int} {u8 : z_V} {σ Y : z_S}, m_its σ x7 l → (∀ it ∈ l, z_iok it) → σ 1 41 = x7 + l.length → σ 1 41 ≤ 60 → 0 ≤ x7 → m_land σ Y → m_t σ (Y 7) → 0 ≤ Y 0 1 → Y 0 1 ≤ 5 → (∀ k, Y 0 1 ≤ k → k < 5 → Y 7 k = 0) →
    ∃ σ', z_go (z_ev z_hcM (d + 6)) z_hcM 1220 344 [z_R 1, z_I x1, z_I x2, z_I x3, z_I x4, z_I x5, z_I x6, z_I x7, u8] [] z_hdM σ = some (z_I (σ 1 41), z_hdM, σ') ∧ m_land σ' (z_appl Y (z_lms l)) ∧ m_t σ' (z_appl Y (z_lms l) 7) ∧ ∀ a j : Int, a ≠ 8 → (a ≠ 1 ∨ j ≠ 9) → σ' a j = σ a j
  | [], x7, u8, σ, Y, _, _, h41, _, _, hl, ht, _, _, _ => by
    have h41' : σ 1 41 = x7 := h41.trans (Int.add_zero _)
    refine ⟨σ, ?_, hl, ht, fun _ _ _ _ => rfl⟩
    rw [z_B1220_344]
    simp (disch := omega) only [if_pos, z_fdM, z_pdM, z_adM, z_sdM, z_lkM, z_ndM, z_gdM, z_cI_some', z_cV_some', z_w_ok, Int.reduceAdd, Int.reduceSub, Int.reduceMul, Int.reduceNeg, Int.reduceEq, Int.reduceLT, Int.reduceLE, Int.reduceNe, reduceIte, true_and, and_true, false_and, and_false, if_true, if_false, ne_eq, not_true_eq_false, not_false_eq_true]
  | it :: l, x7, u8, σ, Y, hit, hok, h41, h60, h7, hl, ht, k0, k5, hz => by
    rw [List.length_cons] at h41
    have hok' := fun x hx => hok x (List.mem_cons_of_mem it hx)
    obtain ⟨⟨e5, e8, e9, e20⟩, l5, l6, l7⟩ := id hl
    rw [z_B1220_344]
    rcases hit.1 with ⟨hh, h⟩ | ⟨o, hh, h⟩ | ⟨hh, h⟩
    · subst hh
      have hv : 0 ≤ σ 24 x7 ∧ σ 24 x7 ≤ 20 := by
        rcases hok _ List.mem_cons_self with ⟨v, hv, h0⟩ | ⟨o, p, q, n, t, hv, -⟩ | ⟨p, q, n, lo, hi, cr, sl, ho, ti, hv, -⟩
        · injection hv with v1 v2
          injection v2 with v2 v3
          omega
        · simp at hv
        · simp at hv
      show ∃ σ', _ ∧ m_land σ' (z_appl (z_addC Y (σ 24 x7)) (z_lms l)) ∧ m_t σ' (z_appl (z_addC Y (σ 24 x7)) (z_lms l) 7) ∧ _
      have yC : ∀ c i, (c ≠ 7 ∧ (c ≠ 0 ∨ i ≠ 3)) → z_addC Y (σ 24 x7) c i = Y c i := fun c i h => by unfold z_addC; rw [if_neg (by omega), if_neg (by omega)]
      have y3 : z_addC Y (σ 24 x7) 0 3 = σ 24 x7 := by unfold z_addC; rw [if_pos ⟨rfl, rfl⟩]
      have y7 : ∀ k, z_addC Y (σ 24 x7) 7 k = if σ 24 x7 < Y 7 k then σ 24 x7 else Y 7 k := fun k => (if_neg (by omega)).trans (if_pos rfl)
      generalize z_addC Y (σ 24 x7) = Y' at *
      obtain ⟨s, w8, e, f, g⟩ := m_capin (x1 := x1) (x2 := x2) (x3 := x3) (x4 := x4) (x5 := x5) (x6 := x6) (x7 := x7) d (K := Y 0 1) (v := σ 24 x7) ⟨k0, k5⟩ (by omega) (Y 0 1).toNat (k := 0) (σ := z_upd σ 1 9 (σ 24 x7)) (by omega) (by omega) (by rw [z_upd_ne (by omega)]; exact e8) z_upd_same
      have fs : ∀ a j : Int, a ≠ 8 → (a ≠ 1 ∨ j ≠ 9) → s a j = σ a j := fun a j h1 h2 => by rw [f a j h1, z_upd_ne (by omega)]
      have its : m_its s (x7 + 1) l := m_its_congr (fun a j h1 h2 => fs a j (by omega) (by omega)) hit.2
      have ls : m_land s Y' := by
        refine ⟨⟨by rw [fs _ _ (by omega) (by omega), yC _ _ (by omega)]; exact e5, by rw [fs _ _ (by omega) (by omega), yC _ _ (by omega)]; exact e8, by rw [f _ _ (by omega), z_upd_same, y3], by rw [fs _ _ (by omega) (by omega), yC _ _ (by omega)]; exact e20⟩, fun r r0 r1 => ?_, fun k k0 k1 => ?_, fun j j0 j1 => ?_⟩
        · rw [yC _ _ (by omega)] at r1
          rw [fs _ _ (by omega) (by omega), fs _ _ (by omega) (by omega), fs _ _ (by omega) (by omega), fs _ _ (by omega) (by omega), fs _ _ (by omega) (by omega), yC _ _ (by omega), yC _ _ (by omega), yC _ _ (by omega), yC _ _ (by omega), yC _ _ (by omega)]
          exact l5 r r0 r1
        · rw [yC _ _ (by omega)] at k1
          rw [fs _ _ (by omega) (by omega), yC _ _ (by omega)]
          exact l6 k k0 k1
        · rw [yC _ _ (by omega)] at j1
          rw [fs 9 _ (by omega) (by omega), fs 10 _ (by omega) (by omega), fs 11 _ (by omega) (by omega), fs 12 _ (by omega) (by omega), fs 13 _ (by omega) (by omega), fs 14 _ (by omega) (by omega), fs 15 _ (by omega) (by omega), fs 16 _ (by omega) (by omega), fs 17 _ (by omega) (by omega), yC 8 _ (by omega), yC 9 _ (by omega), yC 10 _ (by omega), yC 11 _ (by omega), yC 12 _ (by omega), yC 13 _ (by omega), yC 14 _ (by omega), yC 15 _ (by omega), yC 16 _ (by omega)]
          exact l7 j j0 j1
      have ts : m_t s (Y' 7) := fun k k0 k1 => by
        rw [g, z_upd_ne (by omega), y7, ht k k0 k1]
        by_cases c : k < Y 0 1
        · rw [if_pos ⟨k0, c⟩]
        · rw [if_neg (by omega), hz k (by omega) k1, if_neg (by omega)]
      have s41 := fs 1 41 (by omega) (by omega)
      have c1 := yC 0 1 (by omega)
      obtain ⟨s', e', p1, p2, p3⟩ := m_capl (x1 := x1) (x2 := x2) (x3 := x3) (x4 := x4) (x5 := x5) (x6 := x6) d (u8 := w8) its hok' (by omega) (by omega) (by omega) ls ts (by omega) (by omega) (fun k k0' k1 => by rw [y7, hz k (by omega) k1, if_neg (by omega)])
      refine ⟨s', ?_, p1, p2, fun a j h1 h2 => by rw [p3 a j h1 h2, fs a j h1 h2]⟩
      rw [s41] at e'
      simp (disch := omega) only [if_neg, h, z_fdM, z_pdM, z_adM, z_sdM, z_lkM, z_ndM, z_gdM, z_cI_some', z_cV_some', z_w_ok, Int.reduceAdd, Int.reduceSub, Int.reduceMul, Int.reduceNeg, Int.reduceEq, Int.reduceLT, Int.reduceLE, Int.reduceNe, reduceIte, true_and, and_true, false_and, and_false, if_true, if_false, ne_eq, not_true_eq_false, not_false_eq_true]
      rw [e, e']
    · subst hh
      obtain ⟨s', e', p1, p2, p3⟩ := m_capl (x1 := x1) (x2 := x2) (x3 := x3) (x4 := x4) (x5 := x5) (x6 := x6) d (u8 := u8) hit.2 hok' (by omega) h60 (by omega) hl ht k0 k5 hz
      refine ⟨s', ?_, p1, p2, p3⟩
      have h21 : σ 21 x7 ≠ 109 := by omega
      simp (disch := omega) only [if_neg (show ¬ σ 1 41 ≤ x7 by omega), if_neg h21, z_fdM, z_pdM, z_adM, z_sdM, z_lkM, z_ndM, z_gdM, z_cI_some', z_cV_some', z_w_ok, Int.reduceAdd, Int.reduceSub, Int.reduceMul, Int.reduceNeg, Int.reduceEq, Int.reduceLT, Int.reduceLE, Int.reduceNe, reduceIte, true_and, and_true, false_and, and_false, if_true, if_false, ne_eq, not_true_eq_false, not_false_eq_true]
      exact e'
    · unfold m_pj at hh
      subst hh
      obtain ⟨s', e', p1, p2, p3⟩ := m_capl (x1 := x1) (x2 := x2) (x3 := x3) (x4 := x4) (x5 := x5) (x6 := x6) d (u8 := u8) hit.2 hok' (by omega) h60 (by omega) hl ht k0 k5 hz
      refine ⟨s', ?_, p1, p2, p3⟩
      simp (disch := omega) only [if_neg (show ¬ σ 1 41 ≤ x7 by omega), h, z_fdM, z_pdM, z_adM, z_sdM, z_lkM, z_ndM, z_gdM, z_cI_some', z_cV_some', z_w_ok, Int.reduceAdd, Int.reduceSub, Int.reduceMul, Int.reduceNeg, Int.reduceEq, Int.reduceLT, Int.reduceLE, Int.reduceNe, reduceIte, true_and, and_true, false_and, and_false, if_true, if_false, ne_eq, not_true_eq_false, not_false_eq_true]
      exact e'
