/-! The reference tells all items. -/
def z_lnm (l : List (List Int)) : List (List Int) := l.filter fun it => decide (it.length ≠ 2)
def z_lms (l : List (List Int)) : List (List Int) := l.filter fun it => decide (it.length = 2)
theorem z_nm_iok {l : List (List Int)} (h : ∀ it ∈ l, z_iok it) : ∀ it ∈ z_lnm l, z_iok it := fun it hi => h it (List.mem_filter.mp hi).1
theorem z_ms_iok {l : List (List Int)} (h : ∀ it ∈ l, z_iok it) : ∀ it ∈ z_lms l, z_iok it := fun it hi => h it (List.mem_filter.mp hi).1
theorem z_nm_s : ∀ {l : List (List Int)}, (∀ it ∈ l, z_iok it) → z_sR (z_lnm l) = z_sR l ∧ z_sT (z_lnm l) = z_sT l ∧ z_sJ (z_lnm l) = z_sJ l
  | [], _ => ⟨rfl, rfl, rfl⟩
  | it :: l, h => by
    have ih := z_nm_s (l := l) (fun x hx => h x (List.mem_cons_of_mem _ hx))
    rcases h it List.mem_cons_self with ⟨v, rfl, -⟩ | ⟨o, p, q, n, t, rfl, -⟩ | ⟨p, q, n, lo, hi, cr, sl, ho, ti, rfl, -⟩
    · show z_sR (z_lnm l) = 0 + z_sR l ∧ z_sT (z_lnm l) = 0 + z_sT l ∧ z_sJ (z_lnm l) = 0 + z_sJ l
      omega
    · show z_cR [1, o, p, q, n, t] + z_sR (z_lnm l) = z_cR [1, o, p, q, n, t] + z_sR l ∧ z_cT [1, o, p, q, n, t] + z_sT (z_lnm l) = z_cT [1, o, p, q, n, t] + z_sT l ∧ z_cJ [1, o, p, q, n, t] + z_sJ (z_lnm l) = z_cJ [1, o, p, q, n, t] + z_sJ l
      omega
    · show z_cR [2, p, q, n, lo, hi, cr, sl, ho, ti] + z_sR (z_lnm l) = z_cR [2, p, q, n, lo, hi, cr, sl, ho, ti] + z_sR l ∧ z_cT [2, p, q, n, lo, hi, cr, sl, ho, ti] + z_sT (z_lnm l) = z_cT [2, p, q, n, lo, hi, cr, sl, ho, ti] + z_sT l ∧ z_cJ [2, p, q, n, lo, hi, cr, sl, ho, ti] + z_sJ (z_lnm l) = z_cJ [2, p, q, n, lo, hi, cr, sl, ho, ti] + z_sJ l
      omega
/-- a cap and a road, in either order -/
theorem z_CR {Y : z_S} {v o a b n h : Int} (hv : 0 ≤ v) : z_addC (z_addR Y o a b n h) v = z_addR (z_addC Y v) o a b n h := by
  have hC : ∀ (Z : z_S) c i, (c ≠ 7 ∧ (c ≠ 0 ∨ i ≠ 3)) → z_addC Z v c i = Z c i := fun Z c i h => by unfold z_addC; rw [if_neg (by omega), if_neg (by omega)]
  have h3 : ∀ Z : z_S, z_addC Z v 0 3 = v := fun Z => by unfold z_addC; rw [if_pos ⟨rfl, rfl⟩]
  have h7 : ∀ (Z : z_S) k, z_addC Z v 7 k = if v < Z 7 k then v else Z 7 k := fun Z k => (if_neg (by omega)).trans (if_pos rfl)
  funext c i
  by_cases c0 : c = 0
  · subst c0
    rw [z_addR_c]
    by_cases i3 : i = 3
    · subst i3
      rw [h3, if_neg (by omega), if_neg (by omega), h3]
    · rw [hC _ _ _ (by omega), z_addR_c, hC _ _ _ (by omega), hC _ _ _ (by omega), hC _ _ _ (by omega)]
  · by_cases c7 : c = 7
    · subst c7
      rw [h7, z_addR_7, z_addR_7, h7, hC _ _ _ (by omega)]
      by_cases k : i = Y 0 1 ∧ o ≠ -1
      · rw [if_pos k, if_pos k, if_neg (by omega)]
      · rw [if_neg k, if_neg k]
    · rw [hC _ _ _ (by omega)]
      by_cases c15 : 1 ≤ c ∧ c ≤ 5
      · rw [z_addR_r _ _ c15, z_addR_r _ _ c15, hC _ _ _ (by omega), hC _ _ _ (by omega)]
      · by_cases c6 : c = 6
        · subst c6
          rw [z_addR_6, z_addR_6, hC _ _ _ (by omega), hC _ _ _ (by omega), hC _ _ _ (by omega)]
        · by_cases c8 : 8 ≤ c
          · rw [z_addR_o _ _ c8, z_addR_o _ _ c8, hC _ _ _ (by omega)]
          · unfold z_addR
            split <;> simp (disch := omega) only [z_upd_ne] <;> rw [hC _ _ _ (by omega)]
theorem z_CJ {Y : z_S} {v a b n lo hi cr sl ho ti : Int} : z_addC (z_addJ Y a b n lo hi cr sl ho ti) v = z_addJ (z_addC Y v) a b n lo hi cr sl ho ti := by
  have hC : ∀ (Z : z_S) c i, (c ≠ 7 ∧ (c ≠ 0 ∨ i ≠ 3)) → z_addC Z v c i = Z c i := fun Z c i h => by unfold z_addC; rw [if_neg (by omega), if_neg (by omega)]
  have h3 : ∀ Z : z_S, z_addC Z v 0 3 = v := fun Z => by unfold z_addC; rw [if_pos ⟨rfl, rfl⟩]
  have h7 : ∀ (Z : z_S) k, z_addC Z v 7 k = if v < Z 7 k then v else Z 7 k := fun Z k => (if_neg (by omega)).trans (if_pos rfl)
  funext c i
  by_cases c0 : c = 0 ∧ i = 3
  · obtain ⟨rfl, rfl⟩ := c0
    rw [h3, z_addJ_at, if_neg (by omega), if_neg (by omega), h3]
  · by_cases c7 : c = 7
    · subst c7
      have a1 : z_addJ Y a b n lo hi cr sl ho ti 7 i = Y 7 i := by rw [z_addJ_at, if_neg (by omega), if_neg (by omega)]
      have a2 : z_addJ (z_addC Y v) a b n lo hi cr sl ho ti 7 i = z_addC Y v 7 i := by rw [z_addJ_at, if_neg (by omega), if_neg (by omega)]
      rw [h7, a1, a2, h7]
    · rw [hC _ _ _ (by omega), z_addJ_at, z_addJ_at, hC _ _ _ (by omega), hC _ c i (by omega)]
theorem z_C_nm {v : Int} (hv : 0 ≤ v ∧ v ≤ 20) : ∀ {l : List (List Int)} {Y : z_S}, (∀ it ∈ l, z_iok it) → z_addC (z_appl Y (z_lnm l)) v = z_appl (z_addC Y v) (z_lnm l)
  | [], Y, _ => rfl
  | it :: l, Y, h => by
    have ih := fun Z => z_C_nm hv (l := l) (Y := Z) (fun x hx => h x (List.mem_cons_of_mem _ hx))
    rcases h it List.mem_cons_self with ⟨w, rfl, -⟩ | ⟨o, p, q, n, t, rfl, -⟩ | ⟨p, q, n, lo, hi, cr, sl, ho, ti, rfl, -⟩
    · exact ih Y
    · show z_addC (z_appl (z_addR Y o p q n t) (z_lnm l)) v = z_appl (z_addR (z_addC Y v) o p q n t) (z_lnm l)
      rw [ih, z_CR hv.1]
    · show z_addC (z_appl (z_addJ Y p q n lo hi cr sl ho ti) (z_lnm l)) v = z_appl (z_addJ (z_addC Y v) p q n lo hi cr sl ho ti) (z_lnm l)
      rw [ih, z_CJ]
/-- roads and journeys first, then the caps: the same -/
theorem z_appl_split : ∀ {l : List (List Int)} {Y : z_S}, (∀ it ∈ l, z_iok it) → z_appl (z_appl Y (z_lnm l)) (z_lms l) = z_appl Y l
  | [], Y, _ => rfl
  | it :: l, Y, h => by
    have hl := fun x hx => h x (List.mem_cons_of_mem it hx)
    have ih := fun Z => z_appl_split (l := l) (Y := Z) hl
    rcases h it List.mem_cons_self with ⟨w, rfl, hw⟩ | ⟨o, p, q, n, t, rfl, -⟩ | ⟨p, q, n, lo, hi, cr, sl, ho, ti, rfl, -⟩
    · show z_appl (z_addC (z_appl Y (z_lnm l)) w) (z_lms l) = z_appl (z_addC Y w) l
      rw [z_C_nm hw hl, ih]
    · exact ih _
    · exact ih _
theorem z_ms_eqd : ∀ {l : List (List Int)} {Y : z_S}, (∀ it ∈ l, z_iok it) → z_eqd Y (z_appl Y (z_lms l))
  | [], Y, _ => ⟨fun _ _ => rfl, fun _ _ _ => rfl⟩
  | it :: l, Y, h => by
    have ih := fun Z => z_ms_eqd (l := l) (Y := Z) (fun x hx => h x (List.mem_cons_of_mem _ hx))
    rcases h it List.mem_cons_self with ⟨v, rfl, -⟩ | ⟨o, p, q, n, t, rfl, -⟩ | ⟨p, q, n, lo, hi, cr, sl, ho, ti, rfl, -⟩
    · have hC : ∀ c i, (c ≠ 7 ∧ (c ≠ 0 ∨ i ≠ 3)) → z_addC Y v c i = Y c i := fun c i h => by unfold z_addC; rw [if_neg (by omega), if_neg (by omega)]
      obtain ⟨i1, i2⟩ := ih (z_addC Y v)
      refine ⟨fun a ha => ?_, fun i h0 h1 => ?_⟩
      · show z_appl (z_addC Y v) (z_lms l) a = Y a
        rw [i1 a ha]
        funext i
        exact hC a i (by omega)
      · show z_appl (z_addC Y v) (z_lms l) 0 i = Y 0 i
        rw [i2 i h0 h1]
        exact hC 0 i (by omega)
    · exact ih Y
    · exact ih Y
theorem m_fa_its {R K J : Int} {σ σ' : z_S} (f : m_fa R K J σ σ') {l : List (List Int)} {i : Int} (h : m_its σ i l) : m_its σ' i l := m_its_congr (fun a j h1 h2 => f a j (by omega)) h
theorem m_addl {x1 x2 x3 x4 x5 x6 : Int} {u8 : z_V} (d : Nat) : ∀ {l : List (List Int)} {x7 : Int} {σ Y : z_S}, m_its σ x7 l → (∀ it ∈ l, z_iok it) → σ 1 41 = x7 + l.length → σ 1 41 ≤ 60 → 0 ≤ x7 → m_land σ Y → m_t σ (Y 7) → 0 ≤ Y 0 0 → 0 ≤ Y 0 1 → 0 ≤ Y 0 2 → Y 0 0 + z_sR l ≤ 14 → Y 0 1 + z_sT l ≤ 5 → Y 0 2 + z_sJ l ≤ 8 → (∀ k, Y 0 1 ≤ k → k < 5 → Y 7 k = 0) →
    ∃ σ', z_go (z_ev z_hcM (d + 6)) z_hcM 1220 275 [z_R 1, z_I x1, z_I x2, z_I x3, z_I x4, z_I x5, z_I x6, z_I x7, u8] [] z_hdM σ = z_go (z_ev z_hcM (d + 6)) z_hcM 1220 275 [z_R 1, z_I x1, z_I x2, z_I x3, z_I x4, z_I x5, z_I x6, z_I (σ 1 41), u8] [] z_hdM σ' ∧ m_land σ' (z_appl Y (z_lnm l)) ∧ m_t σ' (Y 7) ∧ m_fa (Y 0 0) (Y 0 1) (Y 0 2) σ σ' ∧ ∀ k, 0 ≤ k → k < 5 → z_appl Y (z_lnm l) 7 k = Y 7 k
  | [], x7, σ, Y, _, _, h41, _, _, hl, ht, _, _, _, _, _, _, _ => by
    refine ⟨σ, ?_, hl, ht, fun _ _ _ => rfl, fun _ _ _ => rfl⟩
    rw [h41, show x7 + (([] : List (List Int)).length : Nat) = x7 from Int.add_zero _]
  | it :: l, x7, σ, Y, hit, hok, h41, h60, h7, hl, ht, r0, k0, j0, hR, hK, hJ, hz => by
    rw [List.length_cons] at h41
    have hok' := fun x hx => hok x (List.mem_cons_of_mem it hx)
    have rg := z_sC_rng (l := l)
    obtain ⟨⟨e5, e8, e9, e20⟩, -⟩ := id hl
    rw [z_B1220_275]
    rcases hit.1 with ⟨hh, h⟩ | ⟨o, hh, h⟩ | ⟨hh, h⟩
    · subst hh
      have hR' : Y 0 0 + (0 + z_sR l) ≤ 14 := hR
      have hK' : Y 0 1 + (0 + z_sT l) ≤ 5 := hK
      have hJ' : Y 0 2 + (0 + z_sJ l) ≤ 8 := hJ
      obtain ⟨s, e, p1, p2, p3, p4⟩ := m_addl (x1 := x1) (x2 := x2) (x3 := x3) (x4 := x4) (x5 := x5) (x6 := x6) (u8 := u8) d hit.2 hok' (by omega) h60 (by omega) hl ht r0 k0 j0 (by omega) (by omega) (by omega) hz
      refine ⟨s, ?_, p1, p2, p3, p4⟩
      simp (disch := omega) only [if_neg, h, z_fdM, z_pdM, z_adM, z_sdM, z_lkM, z_ndM, z_gdM, z_cI_some', z_cV_some', z_w_ok, Int.reduceAdd, Int.reduceSub, Int.reduceMul, Int.reduceNeg, Int.reduceEq, Int.reduceLT, Int.reduceLE, Int.reduceNe, reduceIte, true_and, and_true, false_and, and_false, if_true, if_false, ne_eq, not_true_eq_false, not_false_eq_true]
      exact e
    · subst hh
      have hR' : Y 0 0 + (1 + z_sR l) ≤ 14 := hR
      have hK' : Y 0 1 + ((if o = -1 then 0 else 1) + z_sT l) ≤ 5 := hK
      have hJ' : Y 0 2 + (0 + z_sJ l) ≤ 8 := hJ
      have ec := m_ti_R (σ := σ) (i := x7) (o := o) d (by omega) e5 e8 (by omega) ⟨k0, fun ho => by rw [if_neg ho] at hK'; omega⟩ h
      have fa := m_adR_fa (σ := σ) (R := Y 0 0) (K := Y 0 1) (J := Y 0 2) (o := o) (a := σ 22 x7) (b := σ 23 x7) (n := σ 24 x7) (h := σ 25 x7)
      have la := m_landR (o := o) (a := σ 22 x7) (b := σ 23 x7) (n := σ 24 x7) (h := σ 25 x7) hl
      have t8 : ∀ k, m_adR σ (Y 0 0) (Y 0 1) o (σ 22 x7) (σ 23 x7) (σ 24 x7) (σ 25 x7) 8 k = if k = Y 0 1 ∧ o ≠ -1 then 0 else σ 8 k := fun k => m_adR_8
      have y7 : ∀ k, 0 ≤ k → k < 5 → z_addR Y o (σ 22 x7) (σ 23 x7) (σ 24 x7) (σ 25 x7) 7 k = Y 7 k := fun k k0 k1 => by
        rw [z_addR_7]
        split
        · rw [hz k (by omega) k1]
        · rfl
      have c0 : z_addR Y o (σ 22 x7) (σ 23 x7) (σ 24 x7) (σ 25 x7) 0 0 = Y 0 0 + 1 := by rw [z_addR_c, if_pos rfl]
      have c1 : z_addR Y o (σ 22 x7) (σ 23 x7) (σ 24 x7) (σ 25 x7) 0 1 = Y 0 1 + (if o = -1 then 0 else 1) := by
        rw [z_addR_c]
        by_cases ho : o = -1
        · simp [ho]
        · simp [ho]
      have c2 : z_addR Y o (σ 22 x7) (σ 23 x7) (σ 24 x7) (σ 25 x7) 0 2 = Y 0 2 := by rw [z_addR_c, if_neg (by omega), if_neg (by omega)]
      have ht' : m_t (m_adR σ (Y 0 0) (Y 0 1) o (σ 22 x7) (σ 23 x7) (σ 24 x7) (σ 25 x7)) (z_addR Y o (σ 22 x7) (σ 23 x7) (σ 24 x7) (σ 25 x7) 7) := fun k k0 k1 => by
        rw [t8, y7 k k0 k1]
        split
        · rw [hz k (by omega) k1]
        · exact ht k k0 k1
      have s41 := fa 1 41 (by omega)
      have its := m_fa_its fa hit.2
      show ∃ σ', _ ∧ m_land σ' (z_appl (z_addR Y o (σ 22 x7) (σ 23 x7) (σ 24 x7) (σ 25 x7)) (z_lnm l)) ∧ _ ∧ _ ∧ ∀ k, 0 ≤ k → k < 5 → z_appl (z_addR Y o (σ 22 x7) (σ 23 x7) (σ 24 x7) (σ 25 x7)) (z_lnm l) 7 k = Y 7 k
      generalize z_addR Y o (σ 22 x7) (σ 23 x7) (σ 24 x7) (σ 25 x7) = Y' at *
      have h21 : σ 21 x7 ≠ 109 := by omega
      generalize m_adR σ (Y 0 0) (Y 0 1) o (σ 22 x7) (σ 23 x7) (σ 24 x7) (σ 25 x7) = τ at *
      have c1' : Y 0 1 ≤ Y' 0 1 := by rw [c1]; split <;> omega
      obtain ⟨s, e, p1, p2, p3, p4⟩ := m_addl (x1 := x1) (x2 := x2) (x3 := x3) (x4 := x4) (x5 := x5) (x6 := x6) (u8 := u8) d its hok' (by omega) (by omega) (by omega) la ht' (by omega) (by omega) (by omega) (by omega) (by omega) (by omega) (fun k k0 k1 => by rw [y7 k (by omega) k1]; exact hz k (by omega) k1)
      refine ⟨s, ?_, p1, fun k k0 k1 => by rw [p2 k k0 k1, y7 k k0 k1], m_fa_tr fa p3 (by omega) c1' (by omega), fun k k0 k1 => by rw [p4 k k0 k1, y7 k k0 k1]⟩
      rw [s41] at e
      simp (disch := omega) only [if_neg, if_neg h21, ec, z_fdM, z_pdM, z_adM, z_sdM, z_lkM, z_ndM, z_gdM, z_cI_some', z_cV_some', z_w_ok, Int.reduceAdd, Int.reduceSub, Int.reduceMul, Int.reduceNeg, Int.reduceEq, Int.reduceLT, Int.reduceLE, Int.reduceNe, reduceIte, true_and, and_true, false_and, and_false, if_true, if_false, ne_eq, not_true_eq_false, not_false_eq_true]
      exact e
    · unfold m_pj at hh
      subst hh
      have hR' : Y 0 0 + (0 + z_sR l) ≤ 14 := hR
      have hK' : Y 0 1 + (0 + z_sT l) ≤ 5 := hK
      have hJ' : Y 0 2 + (1 + z_sJ l) ≤ 8 := hJ
      have hk : (σ 28 x7 = 0 ∨ σ 28 x7 = 1) ∧ (0 ≤ σ 29 x7 ∧ σ 29 x7 ≤ 1000) := by
        rcases hok _ List.mem_cons_self with ⟨v, hv, -⟩ | ⟨o, p, q, n, t, hv, -⟩ | ⟨p, q, n, lo, hi, cr, sl, ho, ti, hv, hp, hq, hpq, hn, hlh, hcr, hsl, hho, hti⟩
        · simp at hv
        · simp at hv
        · injection hv with v1 v2
          injection v2 with v2 v3
          injection v3 with v3 v4
          injection v4 with v4 v5
          injection v5 with v5 v6
          injection v6 with v6 v7
          injection v7 with v7 v8
          injection v8 with v8 v9
          omega
      have ec := m_ti_J (σ := σ) (i := x7) d (by omega) e20 (by omega) h hk.1
      have fa := m_adJ_fa (σ := σ) (R := Y 0 0) (K := Y 0 1) (J := Y 0 2) (a := σ 22 x7) (b := σ 23 x7) (n := σ 24 x7) (lo := σ 26 x7) (hi := σ 27 x7) (cr := σ 28 x7) (sl := σ 29 x7) (ho := σ 30 x7) (ti := σ 31 x7)
      have la := m_landJ (a := σ 22 x7) (b := σ 23 x7) (n := σ 24 x7) (lo := σ 26 x7) (hi := σ 27 x7) (cr := σ 28 x7) (sl := σ 29 x7) (ho := σ 30 x7) (ti := σ 31 x7) hl hk.2
      have t8 : ∀ k, m_adJ σ (Y 0 2) (σ 22 x7) (σ 23 x7) (σ 24 x7) (σ 26 x7) (σ 27 x7) (σ 28 x7) (σ 29 x7) (σ 30 x7) (σ 31 x7) 8 k = σ 8 k := fun k => m_adJ_o (by omega)
      have yA : ∀ c i, (c < 8 ∨ 16 < c) → (c ≠ 0 ∨ i ≠ 2) → z_addJ Y (σ 22 x7) (σ 23 x7) (σ 24 x7) (σ 26 x7) (σ 27 x7) (σ 28 x7) (σ 29 x7) (σ 30 x7) (σ 31 x7) c i = Y c i := fun c i h h' => by rw [z_addJ_at, if_neg (by omega), if_neg (by omega)]
      have c2 : z_addJ Y (σ 22 x7) (σ 23 x7) (σ 24 x7) (σ 26 x7) (σ 27 x7) (σ 28 x7) (σ 29 x7) (σ 30 x7) (σ 31 x7) 0 2 = Y 0 2 + 1 := by rw [z_addJ_at, if_pos (by omega)]
      have s41 := fa 1 41 (by omega)
      have its := m_fa_its fa hit.2
      show ∃ σ', _ ∧ m_land σ' (z_appl (z_addJ Y (σ 22 x7) (σ 23 x7) (σ 24 x7) (σ 26 x7) (σ 27 x7) (σ 28 x7) (σ 29 x7) (σ 30 x7) (σ 31 x7)) (z_lnm l)) ∧ _ ∧ _ ∧ ∀ k, 0 ≤ k → k < 5 → z_appl (z_addJ Y (σ 22 x7) (σ 23 x7) (σ 24 x7) (σ 26 x7) (σ 27 x7) (σ 28 x7) (σ 29 x7) (σ 30 x7) (σ 31 x7)) (z_lnm l) 7 k = Y 7 k
      generalize z_addJ Y (σ 22 x7) (σ 23 x7) (σ 24 x7) (σ 26 x7) (σ 27 x7) (σ 28 x7) (σ 29 x7) (σ 30 x7) (σ 31 x7) = Y' at *
      have c0 := yA 0 0 (by omega) (by omega)
      have c1 := yA 0 1 (by omega) (by omega)
      generalize m_adJ σ (Y 0 2) (σ 22 x7) (σ 23 x7) (σ 24 x7) (σ 26 x7) (σ 27 x7) (σ 28 x7) (σ 29 x7) (σ 30 x7) (σ 31 x7) = τ at *
      obtain ⟨s, e, p1, p2, p3, p4⟩ := m_addl (x1 := x1) (x2 := x2) (x3 := x3) (x4 := x4) (x5 := x5) (x6 := x6) (u8 := u8) d its hok' (by omega) (by omega) (by omega) la (fun k k0 k1 => by rw [t8, yA _ _ (by omega) (by omega)]; exact ht k k0 k1) (by omega) (by omega) (by omega) (by omega) (by omega) (by omega) (fun k k0 k1 => by rw [yA _ _ (by omega) (by omega)]; exact hz k (by omega) k1)
      refine ⟨s, ?_, p1, fun k k0 k1 => by rw [p2 k k0 k1, yA _ _ (by omega) (by omega)], m_fa_tr fa p3 (by omega) (by omega) (by omega), fun k k0 k1 => by rw [p4 k k0 k1, yA _ _ (by omega) (by omega)]⟩
      rw [s41] at e
      simp (disch := omega) only [if_neg, h, ec, z_fdM, z_pdM, z_adM, z_sdM, z_lkM, z_ndM, z_gdM, z_cI_some', z_cV_some', z_w_ok, Int.reduceAdd, Int.reduceSub, Int.reduceMul, Int.reduceNeg, Int.reduceEq, Int.reduceLT, Int.reduceLE, Int.reduceNe, reduceIte, true_and, and_true, false_and, and_false, if_true, if_false, ne_eq, not_true_eq_false, not_false_eq_true]
      exact e
