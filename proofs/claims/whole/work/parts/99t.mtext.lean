/-! The reference reads the text. -/
/-- no place beyond the 60 signs -/
def z_ub {α : Type} (r : Int ⊕ (α × Int)) : Prop := match r with
  | .inl e => e ≤ 60
  | .inr x => x.2 ≤ 60
theorem z_ub_bd {α : Type} {r : z_P} {k : Int → Int → Int ⊕ (α × Int)} (h : z_ub r) (hk : ∀ v q, q ≤ 60 → z_ub (k v q)) : z_ub (z_bd r k) := by
  cases r with
  | inl e => exact h
  | inr x => exact hk _ _ h
section
variable {X : z_S}
theorem z_cor_ub {p b : Int} (hp : p ≤ 60) : z_ub (z_cor (z_txt X) p b) := by
  unfold z_cor
  split
  · have := z_txt_lt (X := X) (p := p) (by omega)
    show p + 1 ≤ 60
    omega
  · exact hp
theorem z_dgt_ub {p lo hi : Int} (hp : p ≤ 60) (hl : 0 ≤ lo) : z_ub (z_dgt (z_txt X) p lo hi) := by
  unfold z_dgt
  split
  · have := z_txt_lt (X := X) (p := p) (by omega)
    show p + 1 ≤ 60
    omega
  · exact hp
theorem z_nct_ub {p : Int} (hp : p ≤ 60) : p + z_nct (z_txt X) p ≤ 60 := by
  unfold z_nct
  have g : ∀ q, z_isd (z_txt X q) = true → q < 60 := fun q h => by
    have := z_isd_t.mp h
    exact z_txt_lt (X := X) (by omega)
  split
  · next h =>
    have := g _ h
    split
    · next h =>
      have := g _ h
      split
      · next h =>
        have := g _ h
        omega
      · omega
    · omega
  · omega
theorem z_nmb_ub {p lo hi : Int} (hp : p ≤ 60) : z_ub (z_nmb (z_txt X) p lo hi) := by
  have := z_nct_ub (X := X) hp
  unfold z_nmb
  split
  · exact hp
  · split
    · exact this
    · show p + z_nct (z_txt X) p - 1 ≤ 60
      omega
theorem z_opn_ub {p ch hi df : Int} (hp : p ≤ 60) (hc : 0 ≤ ch) : z_ub (z_opn (z_txt X) p ch hi df) := by
  unfold z_opn
  split
  · have := z_txt_lt (X := X) (p := p) (by omega)
    exact z_nmb_ub (by omega)
  · exact hp
theorem z_opg_ub {p ch hi : Int} (hp : p ≤ 60) (hc : 0 ≤ ch) : z_ub (z_opg (z_txt X) p ch hi) := by
  unfold z_opg
  split
  · have := z_txt_lt (X := X) (p := p) (by omega)
    exact z_dgt_ub (by omega) (by omega)
  · exact hp
theorem z_pRoad_ub {o p : Int} (hp : p ≤ 60) : z_ub (z_pRoad (z_txt X) o p) := z_ub_bd (z_cor_ub hp) fun a p1 h1 => z_ub_bd (z_cor_ub h1) fun b p2 h2 => z_ub_bd (z_nmb_ub h2) fun n p3 h3 => z_ub_bd (z_opg_ub h3 (by omega)) fun t p4 h4 => h4
theorem z_pWor_ub {p : Int} (hp : p ≤ 60) : z_ub (z_pWor (z_txt X) p) := by
  unfold z_pWor
  split
  · have := z_txt_lt (X := X) (p := p) (by omega)
    exact z_ub_bd (z_dgt_ub (by omega) (by omega)) fun d q h => h
  · split
    · have := z_txt_lt (X := X) (p := p) (by omega)
      cases hz : z_dgt (z_txt X) (p + 1) 0 9 with
      | inl e =>
        have := z_dgt_ub (X := X) (p := p + 1) (lo := 0) (hi := 9) (by omega) (by omega)
        rw [hz] at this
        exact this
      | inr x =>
        obtain ⟨lo, q⟩ := x
        have hq := z_dgt_ub (X := X) (p := p + 1) (lo := 0) (hi := 9) (by omega) (by omega)
        have hg := z_dgt_ok hz
        rw [hz] at hq
        have hq' : q ≤ 60 := hq
        show z_ub (if z_txt X q = 45 then _ else _)
        split
        · have := z_txt_lt (X := X) (p := q) (by omega)
          exact z_ub_bd (z_dgt_ub (by omega) (by omega)) fun d q h => h
        · exact hq'
    · exact hp
theorem z_pTail_ub {a b n : Int} {r : Int ⊕ ((Int × Int × Int) × Int)} (hr : z_ub r) : z_ub (z_pTail (z_txt X) a b n r) := by
  cases r with
  | inl e => exact hr
  | inr x =>
    obtain ⟨⟨lo, hi, cr⟩, p4⟩ := x
    exact z_ub_bd (z_opn_ub hr (by omega)) fun sl p5 h5 => z_ub_bd (z_opn_ub h5 (by omega)) fun ho p6 h6 => z_ub_bd (z_opg_ub h6 (by omega)) fun ti p7 h7 => h7
theorem z_pJour_ub {p : Int} (hp : p ≤ 60) : z_ub (z_pJour (z_txt X) p) := z_ub_bd (z_cor_ub hp) fun a p1 h1 => z_ub_bd (z_cor_ub h1) fun b p2 h2 => by
  split
  · have := z_txt_lt (X := X) (p := p2) (by omega)
    exact z_ub_bd (z_nmb_ub (by omega)) fun n p3 h3 => z_pTail_ub (z_pWor_ub h3)
  · exact h2
theorem z_pItem_ub {p : Int} (hp : p ≤ 60) : z_ub (z_pItem (z_txt X) p) := by
  unfold z_pItem
  by_cases c : 0 ≤ z_txt X p
  · have := z_txt_lt (X := X) (p := p) c
    repeat' split
    · exact z_pRoad_ub (by omega)
    · exact z_pRoad_ub (by omega)
    · exact z_pRoad_ub (by omega)
    · exact z_pJour_ub (by omega)
    · exact z_ub_bd (z_nmb_ub (by omega)) fun v q h => h
    · exact hp
  · rw [if_neg (by omega), if_neg (by omega), if_neg (by omega), if_neg (by omega), if_neg (by omega)]
    exact hp
theorem z_pText_ub {len e : Int} : ∀ {n : Nat} {p : Int}, p ≤ 60 → z_pText (z_txt X) len n p = .inl e → e ≤ 60
  | 0, p, hp, h => by cases h; exact hp
  | n + 1, p, hp, h => by
    have hu := z_pItem_ub (X := X) hp
    unfold z_pText at h
    cases hz : z_pItem (z_txt X) p with
    | inl w =>
      rw [hz] at h hu
      cases h
      exact hu
    | inr x =>
      obtain ⟨it, q⟩ := x
      rw [hz] at h hu
      have hu' : q ≤ 60 := hu
      dsimp only at h
      split at h
      · have := z_txt_lt (X := X) (p := q) (by omega)
        cases hr : z_pText (z_txt X) len n (q + 1) with
        | inl e' => rw [hr] at h; cases h; exact z_pText_ub (by omega) hr
        | inr l => rw [hr] at h; cases h
      · split at h
        · cases h; exact hu'
        · cases h
variable {σ τ : z_S} {i : Int}
theorem m_item (ht : m_rt σ X) {p : Int} (h0 : 0 ≤ p ∧ p ≤ 60) (hp : σ 1 28 = p) (hw : σ 1 29 = -1) (h41 : σ 1 41 = i) (hi : 0 ≤ i ∧ i ≤ p) (d : Nat) : m_rI i σ (z_ev z_hcM (d + 6) 1218 [z_R 1] z_hdM σ) (z_pItem (z_txt X) p) := by
  obtain ⟨c, e, h1, h2⟩ := m_here ht h0.1 hp (d + 4)
  unfold z_pItem
  by_cases c1 : z_txt X p = 114
  · have := z_txt_lt (X := X) (p := p) (by omega)
    have r := m_item_r ht (x := 114) (o := -1) (by omega) hp hw h41 (by omega) d (by omega) (by decide) (by omega)
    rw [if_pos c1]
    simp (disch := omega) only [z_E1218, e, show c = 114 by omega, h41, z_fdM, z_pdM, z_adM, z_sdM, z_lkM, z_ndM, z_gdM, z_cI_some', z_cV_some', z_w_ok, Int.reduceAdd, Int.reduceSub, Int.reduceMul, Int.reduceNeg, Int.reduceEq, Int.reduceLT, Int.reduceLE, Int.reduceNe, reduceIte, true_and, and_true, false_and, and_false, if_true, if_false, ne_eq, not_true_eq_false, not_false_eq_true]
    exact r
  · rw [if_neg c1]
    by_cases c2 : z_txt X p = 116
    · have := z_txt_lt (X := X) (p := p) (by omega)
      have r := m_item_r ht (x := 116) (o := 0) (by omega) hp hw h41 (by omega) d (by omega) (by decide) (by omega)
      rw [if_pos c2]
      simp (disch := omega) only [z_E1218, e, show c = 116 by omega, h41, z_fdM, z_pdM, z_adM, z_sdM, z_lkM, z_ndM, z_gdM, z_cI_some', z_cV_some', z_w_ok, Int.reduceAdd, Int.reduceSub, Int.reduceMul, Int.reduceNeg, Int.reduceEq, Int.reduceLT, Int.reduceLE, Int.reduceNe, reduceIte, true_and, and_true, false_and, and_false, if_true, if_false, ne_eq, not_true_eq_false, not_false_eq_true]
      exact r
    · rw [if_neg c2]
      by_cases c3 : z_txt X p = 117
      · have := z_txt_lt (X := X) (p := p) (by omega)
        have r := m_item_r ht (x := 117) (o := 1) (by omega) hp hw h41 (by omega) d (by omega) (by decide) (by omega)
        rw [if_pos c3]
        simp (disch := omega) only [z_E1218, e, show c = 117 by omega, h41, z_fdM, z_pdM, z_adM, z_sdM, z_lkM, z_ndM, z_gdM, z_cI_some', z_cV_some', z_w_ok, Int.reduceAdd, Int.reduceSub, Int.reduceMul, Int.reduceNeg, Int.reduceEq, Int.reduceLT, Int.reduceLE, Int.reduceNe, reduceIte, true_and, and_true, false_and, and_false, if_true, if_false, ne_eq, not_true_eq_false, not_false_eq_true]
        exact r
      · rw [if_neg c3]
        by_cases c4 : z_txt X p = 106
        · have := z_txt_lt (X := X) (p := p) (by omega)
          have r := m_item_j ht (by omega) hp hw h41 (by omega) d
          rw [if_pos c4]
          simp (disch := omega) only [z_E1218, e, show c = 106 by omega, h41, z_fdM, z_pdM, z_adM, z_sdM, z_lkM, z_ndM, z_gdM, z_cI_some', z_cV_some', z_w_ok, Int.reduceAdd, Int.reduceSub, Int.reduceMul, Int.reduceNeg, Int.reduceEq, Int.reduceLT, Int.reduceLE, Int.reduceNe, reduceIte, true_and, and_true, false_and, and_false, if_true, if_false, ne_eq, not_true_eq_false, not_false_eq_true]
          exact r
        · rw [if_neg c4]
          by_cases c5 : z_txt X p = 109
          · have := z_txt_lt (X := X) (p := p) (by omega)
            have f0 := m_i0_fi (σ := σ) (i := i) (x := 109) (p := p)
            obtain ⟨a28, a29, a41, a21⟩ := m_i0_at (σ := σ) (i := i) (x := 109) (p := p)
            have e0 : z_upd (z_upd (z_upd σ 21 i 109) 1 41 (i + 1)) 1 28 (p + 1) = m_i0 σ i 109 p := rfl
            have t0 := m_rt_fi ht f0
            rw [hw] at a29
            have hd := m_number t0 (p := p + 1) (by omega) a28 a29 (d + 1) 0 20
            have st : z_ev z_hcM (d + 6) 1218 [z_R 1] z_hdM σ = z_go (z_ev z_hcM (d + 5)) z_hcM 1218 49 [z_R 1, z_I i, z_I 109] [] z_hdM σ := by
              simp (disch := omega) only [z_E1218, e, show c = 109 by omega, h41, z_fdM, z_pdM, z_adM, z_sdM, z_lkM, z_ndM, z_gdM, z_cI_some', z_cV_some', z_w_ok, Int.reduceAdd, Int.reduceSub, Int.reduceMul, Int.reduceNeg, Int.reduceEq, Int.reduceLT, Int.reduceLE, Int.reduceNe, reduceIte, true_and, and_true, false_and, and_false, if_true, if_false, ne_eq, not_true_eq_false, not_false_eq_true]
            rw [if_pos c5, st, z_B1218_49]
            generalize m_i0 σ i 109 p = τ at *
            cases hz : z_nmb (z_txt X) (p + 1) 0 20 with
            | inl w =>
              rw [hz] at hd
              obtain ⟨v, q, hd⟩ := hd
              refine ⟨z_upd (m_rs τ q w) 24 i v, ?_, m_fi_tr f0 (m_fi_fr (lo := 22) (by omega) (m_fr_tr (lo := 22) m_fr_rs (m_fr_up (by omega) (by omega)) (by omega))), ?_⟩
              · simp (disch := omega) only [show z_c16 (z_c16 109) = 109 by decide, z_upd_ne, h41, hp, e0, hd, z_fdM, z_pdM, z_adM, z_sdM, z_lkM, z_ndM, z_gdM, z_cI_some', z_cV_some', z_w_ok, Int.reduceAdd, Int.reduceSub, Int.reduceMul, Int.reduceNeg, Int.reduceEq, Int.reduceLT, Int.reduceLE, Int.reduceNe, reduceIte, true_and, and_true, false_and, and_false, if_true, if_false, ne_eq, not_true_eq_false, not_false_eq_true]
              · show z_upd (m_rs τ q w) 24 i v 1 29 = w
                rw [z_upd_ne (by omega), m_rs_29]
            | inr y =>
              obtain ⟨v, q⟩ := y
              rw [hz] at hd
              have hd' : _ = _ := hd
              refine ⟨z_upd (m_rs τ q (-1)) 24 i v, ?_, m_fi_tr f0 (m_fi_fr (lo := 22) (by omega) (m_fr_tr (lo := 22) m_fr_rs (m_fr_up (by omega) (by omega)) (by omega))), ?_, ?_, ?_, Or.inl ⟨?_, ?_⟩⟩
              · simp (disch := omega) only [show z_c16 (z_c16 109) = 109 by decide, z_upd_ne, h41, hp, e0, hd', z_fdM, z_pdM, z_adM, z_sdM, z_lkM, z_ndM, z_gdM, z_cI_some', z_cV_some', z_w_ok, Int.reduceAdd, Int.reduceSub, Int.reduceMul, Int.reduceNeg, Int.reduceEq, Int.reduceLT, Int.reduceLE, Int.reduceNe, reduceIte, true_and, and_true, false_and, and_false, if_true, if_false, ne_eq, not_true_eq_false, not_false_eq_true]
              · rw [z_upd_ne (by omega), m_rs_28]
              · rw [z_upd_ne (by omega), m_rs_29]
              · rw [z_upd_ne (by omega), m_rs_at (by omega), a41]
              · rw [z_upd_same]
              · rw [z_upd_ne (by omega), m_rs_at (by omega), a21]
          · rw [if_neg c5]
            have eb := m_bad (d + 3) hw p
            rw [m_rs_w hp] at eb
            refine ⟨m_rs σ p p, ?_, m_fi_fr (lo := 22) (by omega) m_fr_rs, m_rs_29⟩
            simp (disch := omega) only [z_E1218, e, if_neg, hp, eb, z_fdM, z_pdM, z_adM, z_sdM, z_lkM, z_ndM, z_gdM, z_cI_some', z_cV_some', z_w_ok, Int.reduceAdd, Int.reduceSub, Int.reduceMul, Int.reduceNeg, Int.reduceEq, Int.reduceLT, Int.reduceLE, Int.reduceNe, reduceIte, true_and, and_true, false_and, and_false, if_true, if_false, ne_eq, not_true_eq_false, not_false_eq_true]
end
