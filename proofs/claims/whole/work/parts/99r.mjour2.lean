/-! The reference reads a journey: the whole. -/
def m_j0 (σ : z_S) (i : Int) : z_S := z_upd (z_upd (z_upd (z_upd (z_upd (z_upd σ 26 i 0) 27 i 0) 28 i 0) 29 i 1000) 30 i (-1)) 31 i 0
theorem z_map_map {f g : List Int → List Int} {r : z_PI} : z_map f (z_map g r) = z_map (fun l => f (g l)) r := by
  cases r <;> rfl
section
variable {σ τ X : z_S} {i : Int}
theorem m_j0_fr : m_fr 24 i σ (m_j0 σ i) := fun a j h1 h2 => by
  unfold m_j0
  rw [z_upd_ne (by omega), z_upd_ne (by omega), z_upd_ne (by omega), z_upd_ne (by omega), z_upd_ne (by omega), z_upd_ne (by omega)]
theorem m_j0_at : m_j0 σ i 26 i = 0 ∧ m_j0 σ i 27 i = 0 ∧ m_j0 σ i 28 i = 0 ∧ m_j0 σ i 29 i = 1000 ∧ m_j0 σ i 30 i = -1 ∧ m_j0 σ i 31 i = 0 := by
  unfold m_j0
  refine ⟨?_, ?_, ?_, ?_, ?_, z_upd_same⟩ <;> simp (disch := omega) only [z_upd_ne, z_upd_same]
theorem m_j173 (ht : m_rt σ X) {p lo : Int} (h0 : 0 ≤ p ∧ p ≤ 69) (hp : σ 1 28 = p) (hw : σ 1 29 = -1) (hi : 0 ≤ i ∧ i < 60) (d : Nat) (h26 : σ 26 i = lo) (hlo : 0 ≤ lo ∧ lo ≤ 9) (h29 : σ 29 i = 1000) (h30 : σ 30 i = -1) (h31 : σ 31 i = 0) : m_out σ i 27 (z_go (z_ev z_hcM (d + 4)) z_hcM 1219 173 [z_R 1, z_I i] [] z_hdM σ) (z_bd (z_dgt (z_txt X) p lo (if lo + 5 < 9 then lo + 5 else 9)) fun hi q => z_map (fun l => hi :: l) (z_t3 (z_txt X) q)) (fun s l => l = [s 27 i, s 29 i, s 30 i, s 31 i] ∧ s 28 i = σ 28 i) := by
  have ef := m_fine (d + 3) hw
  have hd := m_digit ht (p := p) (by omega) hp hw (d + 1) (lo := lo) (hi := if lo + 6 - 1 < 9 then lo + 6 - 1 else 9) (by split <;> omega)
  rw [show (if lo + 5 < 9 then lo + 5 else 9) = (if lo + 6 - 1 < 9 then lo + 6 - 1 else 9) by split <;> split <;> omega]
  rw [z_B1219_173]
  cases hz : z_dgt (z_txt X) p lo (if lo + 6 - 1 < 9 then lo + 6 - 1 else 9) with
  | inl w =>
    have hz' := z_dgt_e hz
    rw [hz] at hd
    obtain ⟨v, q, hd⟩ := hd
    have hs : z_upd (m_rs σ q w) 27 i v 1 29 = w := by rw [z_upd_ne (by omega), m_rs_29]
    have es := m_skip212 (i := i) (σ := z_upd (m_rs σ q w) 27 i v) d (by omega)
    refine ⟨z_upd (m_rs σ q w) 27 i v, ?_, m_fr_tr (lo := 27) m_fr_rs (m_fr_up (by omega) (by omega)) (by omega), hs⟩
    simp (disch := omega) only [ef, h26, hd, es, z_fdM, z_pdM, z_adM, z_sdM, z_lkM, z_ndM, z_gdM, z_cI_some', z_cV_some', z_w_ok, Int.reduceAdd, Int.reduceSub, Int.reduceMul, Int.reduceNeg, Int.reduceEq, Int.reduceLT, Int.reduceLE, Int.reduceNe, reduceIte, true_and, and_true, false_and, and_false, if_true, if_false, ne_eq, not_true_eq_false, not_false_eq_true]
  | inr x =>
    obtain ⟨v, q⟩ := x
    have hz' := z_dgt_ok hz
    rw [hz] at hd
    have hd' : _ = _ := hd
    have fr : m_fr 27 i σ (z_upd (m_rs σ q (-1)) 27 i v) := m_fr_tr (lo := 27) m_fr_rs (m_fr_up (by omega) (by omega)) (by omega)
    have nx := m_j212 (m_rt_fr ht fr (by omega)) (p := q) (i := i) (by omega) (by rw [z_upd_ne (by omega), m_rs_28]) (by rw [z_upd_ne (by omega), m_rs_29]) hi d (by rw [z_upd_ne (by omega), m_rs_at (by omega)]; exact h29) (by rw [z_upd_ne (by omega), m_rs_at (by omega)]; exact h30) (by rw [z_upd_ne (by omega), m_rs_at (by omega)]; exact h31)
    have go := m_out_to (P' := fun s l => l = [s 27 i, s 29 i, s 30 i, s 31 i] ∧ s 28 i = σ 28 i) nx fr (by omega) (fun l => v :: l) (fun s fs l hl => by
      refine ⟨?_, by rw [fs 28 i (by omega) (by omega), z_upd_ne (by omega), m_rs_at (by omega)]⟩
      rw [fs 27 i (by omega) (by omega), z_upd_same]
      show v :: l = _
      rw [hl])
    simp (disch := omega) only [ef, h26, hd', z_fdM, z_pdM, z_adM, z_sdM, z_lkM, z_ndM, z_gdM, z_cI_some', z_cV_some', z_w_ok, Int.reduceAdd, Int.reduceSub, Int.reduceMul, Int.reduceNeg, Int.reduceEq, Int.reduceLT, Int.reduceLE, Int.reduceNe, reduceIte, true_and, and_true, false_and, and_false, if_true, if_false, ne_eq, not_true_eq_false, not_false_eq_true]
    exact go
/-- what a journey read leaves -/
def m_pj (i : Int) (s : z_S) (l : List Int) : Prop := l = [2, s 22 i, s 23 i, s 24 i, s 26 i, s 27 i, s 28 i, s 29 i, s 30 i, s 31 i]
theorem m_journey (ht : m_rt σ X) {p : Int} (h0 : 0 ≤ p ∧ p ≤ 62) (hp : σ 1 28 = p) (hw : σ 1 29 = -1) (hi : 0 ≤ i ∧ i < 60) (d : Nat) : m_out σ i 24 (z_ev z_hcM (d + 5) 1219 [z_R 1, z_I i] z_hdM σ) (if z_txt X p = 42 then z_bd (z_nmb (z_txt X) (p + 1) 1 99) fun n p3 => z_pTail (z_txt X) (σ 22 i) (σ 23 i) n (z_pWor (z_txt X) p3) else .inl p) (m_pj i) := by
  have f0 := m_j0_fr (σ := σ) (i := i)
  obtain ⟨a26, a27, a28, a29, a30, a31⟩ := m_j0_at (σ := σ) (i := i)
  have e0 : z_upd (z_upd (z_upd (z_upd (z_upd (z_upd σ 26 i 0) 27 i 0) 28 i 0) 29 i 1000) 30 i (-1)) 31 i 0 = m_j0 σ i := rfl
  have a22 : m_j0 σ i 22 i = σ 22 i := f0 22 i (by omega) (by omega)
  have a23 : m_j0 σ i 23 i = σ 23 i := f0 23 i (by omega) (by omega)
  have hp0 : m_j0 σ i 1 28 = p := by rw [← hp]; unfold m_j0; simp (disch := omega) only [z_upd_ne]
  have hw0 : m_j0 σ i 1 29 = -1 := by rw [← hw]; unfold m_j0; simp (disch := omega) only [z_upd_ne]
  have t0 := m_rt_fr ht f0 (by omega)
  have ep := m_passes t0 (p := p) (by omega) hp0 hw0 (d + 2) (ch := 42) (by omega)
  generalize m_j0 σ i = τ at *
  by_cases c : z_txt X p = 42
  · have := z_txt_lt (X := X) (p := p) (by omega)
    have hd := m_number (m_rt_rs t0) (p := p + 1) (by omega) m_rs_28 m_rs_29 d 1 99 (σ := m_rs τ (p + 1) (-1))
    rw [if_pos c] at ep ⊢
    cases hz : z_nmb (z_txt X) (p + 1) 1 99 with
    | inl w =>
      have hz' := z_nmb_e hz
      rw [hz] at hd
      obtain ⟨v, q, hd⟩ := hd
      rw [m_rs_rs] at hd
      have hs : z_upd (m_rs τ q w) 24 i v 1 29 = w := by rw [z_upd_ne (by omega), m_rs_29]
      have es := m_unfine (σ := z_upd (m_rs τ q w) 24 i v) (d + 3) (by omega)
      refine ⟨z_upd (m_rs τ q w) 24 i v, ?_, m_fr_tr (lo := 24) f0 (m_fr_tr (lo := 24) m_fr_rs (m_fr_up (by omega) (by omega)) (by omega)) (by omega), hs⟩
      simp (maxSteps := 2000000) (disch := omega) only [z_E1219, e0, ep, hd, es, z_fdM, z_pdM, z_adM, z_sdM, z_lkM, z_ndM, z_gdM, z_cI_some', z_cV_some', z_w_ok, Int.reduceAdd, Int.reduceSub, Int.reduceMul, Int.reduceNeg, Int.reduceEq, Int.reduceLT, Int.reduceLE, Int.reduceNe, reduceIte, true_and, and_true, false_and, and_false, if_true, if_false, ne_eq, not_true_eq_false, not_false_eq_true]
    | inr x =>
      obtain ⟨n, p3⟩ := x
      have hz' := z_nmb_ok hz
      have hr := z_nct_rng (T := z_txt X) (p + 1)
      rw [hz] at hd
      have hd' : _ = _ := hd
      rw [m_rs_rs] at hd'
      have f2 : m_fr 24 i σ (z_upd (m_rs τ p3 (-1)) 24 i n) := m_fr_tr (lo := 24) f0 (m_fr_tr (lo := 24) m_fr_rs (m_fr_up (by omega) (by omega)) (by omega)) (by omega)
      have t2 := m_rt_fr ht f2 (by omega)
      have hp2 : z_upd (m_rs τ p3 (-1)) 24 i n 1 28 = p3 := by rw [z_upd_ne (by omega), m_rs_28]
      have hw2 : z_upd (m_rs τ p3 (-1)) 24 i n 1 29 = -1 := by rw [z_upd_ne (by omega), m_rs_29]
      have ef := m_fine (d + 3) hw2
      have b : ∀ a, (a = 22 ∨ a = 23 ∨ 26 ≤ a) → z_upd (m_rs τ p3 (-1)) 24 i n a i = τ a i := fun a h => by rw [z_upd_ne (by omega), m_rs_at (by omega)]
      have b24 : z_upd (m_rs τ p3 (-1)) 24 i n 24 i = n := z_upd_same
      show m_out σ i 24 _ (z_pTail (z_txt X) (σ 22 i) (σ 23 i) n (z_pWor (z_txt X) p3)) _
      have st : z_ev z_hcM (d + 5) 1219 [z_R 1, z_I i] z_hdM σ = z_cI (z_ev z_hcM (d + 4) 1212 [z_R 1, z_I 119] z_hdM (z_upd (m_rs τ p3 (-1)) 24 i n)) (fun v19 h17 s18 => if v19 = 0 then (z_fld h17 1 12 (z_cI (z_ev z_hcM (d + 4) 1212 [z_R 1, z_I 99] h17 s18) (fun v22 h20 s21 => if v22 = 0 then (z_go (z_ev z_hcM (d + 4)) z_hcM 1219 212 [z_R 1, z_I i] [] h20 s21) else (z_fld h20 1 12 (z_st h20 s21 2 28 i 1 (fun s23 => z_fld h20 1 12 (z_fld h20 1 12 (z_cI (z_ev z_hcM (d + 4) 1216 [z_R 1, z_I 0, z_I 9] h20 s23) (fun v26 h24 s25 => z_st h24 s25 1 26 i v26 (fun s27 => z_fld h24 1 12 (z_cI (z_ev z_hcM (d + 4) 1213 [z_R 1] h24 s27) (fun v30 h28 s29 => if v30 = 0 then (z_go (z_ev z_hcM (d + 4)) z_hcM 1219 173 [z_R 1, z_I i] [] h28 s29) else (z_fld h28 1 12 (z_cI (z_ev z_hcM (d + 4) 1212 [z_R 1, z_I 45] h28 s29) (fun v33 h31 s32 => if v33 ≠ 0 then (z_go (z_ev z_hcM (d + 4)) z_hcM 1219 173 [z_R 1, z_I i] [] h31 s32) else (z_fld h31 1 12 (z_fld h31 1 12 (z_cV (z_ev z_hcM (d + 4) 1214 [z_R 1, z_I (s32 1 28)] h31 s32) (fun h34 s35 => z_go (z_ev z_hcM (d + 4)) z_hcM 1219 173 [z_R 1, z_I i] [] h34 s35))))))))))))))))))) else (z_fld h17 1 12 (z_fld h17 1 12 (z_cI (z_ev z_hcM (d + 4) 1216 [z_R 1, z_I 0, z_I 9] h17 s18) (fun v38 h36 s37 => z_st h36 s37 1 26 i v38 (fun s39 => z_fld h36 1 12 (z_fld h36 1 12 (z_ld h36 s39 1 1 26 i (fun v40 => z_st h36 s39 1 27 i v40 (fun s41 => z_go (z_ev z_hcM (d + 4)) z_hcM 1219 212 [z_R 1, z_I i] [] h36 s41)))))))))) := by
        simp (maxSteps := 2000000) (disch := omega) only [z_E1219, e0, ep, hd', ef, z_fdM, z_pdM, z_adM, z_sdM, z_lkM, z_ndM, z_gdM, z_cI_some', z_cV_some', z_w_ok, Int.reduceAdd, Int.reduceSub, Int.reduceMul, Int.reduceNeg, Int.reduceEq, Int.reduceLT, Int.reduceLE, Int.reduceNe, reduceIte, true_and, and_true, false_and, and_false, if_true, if_false, ne_eq, not_true_eq_false, not_false_eq_true]
      rw [st]
      clear st ep hd hd' hz e0 t0 hp0 hw0 ef
      generalize z_upd (m_rs τ p3 (-1)) 24 i n = υ at *
      have b22 := b 22 (by omega)
      have b23 := b 23 (by omega)
      have b26 := b 26 (by omega)
      have b27 := b 27 (by omega)
      have b28 := b 28 (by omega)
      have b29 := b 29 (by omega)
      have b30 := b 30 (by omega)
      have b31 := b 31 (by omega)
      have ep1 := m_passes t2 (p := p3) (by omega) hp2 hw2 (d + 2) (ch := 119) (by omega)
      have ep2 := m_passes t2 (p := p3) (by omega) hp2 hw2 (d + 2) (ch := 99) (by omega)
      unfold z_pWor
      by_cases c1 : z_txt X p3 = 119
      · have := z_txt_lt (X := X) (p := p3) (by omega)
        have hd := m_digit (m_rt_rs t2) (p := p3 + 1) (by omega) m_rs_28 m_rs_29 (d + 1) (lo := 0) (hi := 9) (by omega) (σ := m_rs υ (p3 + 1) (-1))
        rw [if_pos c1] at ep1 ⊢
        cases hz : z_dgt (z_txt X) (p3 + 1) 0 9 with
        | inl w =>
          have hz' := z_dgt_e hz
          rw [hz] at hd
          obtain ⟨v, q, hd⟩ := hd
          rw [m_rs_rs] at hd
          have hs : z_upd (z_upd (m_rs υ q w) 26 i v) 27 i v 1 29 = w := by rw [z_upd_ne (by omega), z_upd_ne (by omega), m_rs_29]
          have es := m_skip212 (i := i) (σ := z_upd (z_upd (m_rs υ q w) 26 i v) 27 i v) d (by omega)
          refine ⟨z_upd (z_upd (m_rs υ q w) 26 i v) 27 i v, ?_, m_fr_tr (lo := 24) f2 (m_fr_tr (lo := 24) m_fr_rs (m_fr_tr (lo := 24) (m_fr_up (by omega) (by omega)) (m_fr_up (by omega) (by omega)) (by omega)) (by omega)) (by omega), hs⟩
          simp (disch := omega) only [ep1, hd, z_upd_same, es, z_fdM, z_pdM, z_adM, z_sdM, z_lkM, z_ndM, z_gdM, z_cI_some', z_cV_some', z_w_ok, Int.reduceAdd, Int.reduceSub, Int.reduceMul, Int.reduceNeg, Int.reduceEq, Int.reduceLT, Int.reduceLE, Int.reduceNe, reduceIte, true_and, and_true, false_and, and_false, if_true, if_false, ne_eq, not_true_eq_false, not_false_eq_true]
        | inr x =>
          obtain ⟨lo, q⟩ := x
          have hz' := z_dgt_ok hz
          rw [hz] at hd
          have hd' : _ = _ := hd
          rw [m_rs_rs] at hd'
          have f4 : m_fr 26 i υ (z_upd (z_upd (m_rs υ q (-1)) 26 i lo) 27 i lo) := m_fr_tr (lo := 26) m_fr_rs (m_fr_tr (lo := 26) (m_fr_up (by omega) (by omega)) (m_fr_up (by omega) (by omega)) (by omega)) (by omega)
          have nx := m_j212 (m_rt_fr t2 f4 (by omega)) (p := q) (i := i) (by omega) (by rw [z_upd_ne (by omega), z_upd_ne (by omega), m_rs_28]) (by rw [z_upd_ne (by omega), z_upd_ne (by omega), m_rs_29]) hi d (by rw [z_upd_ne (by omega), z_upd_ne (by omega), m_rs_at (by omega)]; omega) (by rw [z_upd_ne (by omega), z_upd_ne (by omega), m_rs_at (by omega)]; omega) (by rw [z_upd_ne (by omega), z_upd_ne (by omega), m_rs_at (by omega)]; omega)
          show m_out σ i 24 _ (z_pTail (z_txt X) (σ 22 i) (σ 23 i) n (.inr ((lo, lo, 0), q))) _
          rw [z_pTail_t]
          have go := m_out_to (P' := m_pj i) nx (m_fr_tr f2 f4 (by omega)) (by omega) (fun l => 2 :: σ 22 i :: σ 23 i :: n :: lo :: lo :: 0 :: l) (fun s fs l hl => by
            unfold m_pj
            rw [fs 22 i (by omega) (by omega), fs 23 i (by omega) (by omega), fs 24 i (by omega) (by omega), fs 26 i (by omega) (by omega), fs 27 i (by omega) (by omega), fs 28 i (by omega) (by omega), f4 22 i (by omega) (by omega), f4 23 i (by omega) (by omega), f4 24 i (by omega) (by omega), z_upd_same, z_upd_ne (by omega), z_upd_same, z_upd_ne (by omega), z_upd_ne (by omega), m_rs_at (by omega), b22, b23, b24, b28, a22, a23, a28]
            exact hl ▸ rfl)
          simp (disch := omega) only [ep1, hd', z_upd_same, z_fdM, z_pdM, z_adM, z_sdM, z_lkM, z_ndM, z_gdM, z_cI_some', z_cV_some', z_w_ok, Int.reduceAdd, Int.reduceSub, Int.reduceMul, Int.reduceNeg, Int.reduceEq, Int.reduceLT, Int.reduceLE, Int.reduceNe, reduceIte, true_and, and_true, false_and, and_false, if_true, if_false, ne_eq, not_true_eq_false, not_false_eq_true]
          exact go
      · rw [if_neg c1] at ep1 ⊢
        by_cases c2 : z_txt X p3 = 99
        · have := z_txt_lt (X := X) (p := p3) (by omega)
          rw [if_pos c2] at ep2 ⊢
          have f3 : m_fr 26 i υ (z_upd (m_rs υ (p3 + 1) (-1)) 28 i 1) := m_fr_tr (lo := 26) m_fr_rs (m_fr_up (by omega) (by omega)) (by omega)
          have hp3 : z_upd (m_rs υ (p3 + 1) (-1)) 28 i 1 1 28 = p3 + 1 := by rw [z_upd_ne (by omega), m_rs_28]
          have hw3 : z_upd (m_rs υ (p3 + 1) (-1)) 28 i 1 1 29 = -1 := by rw [z_upd_ne (by omega), m_rs_29]
          have t3 := m_rt_fr t2 f3 (by omega)
          have g : ∀ a, (a ≤ 27 ∨ 29 ≤ a) → a ≠ 1 → z_upd (m_rs υ (p3 + 1) (-1)) 28 i 1 a i = υ a i := fun a h h' => by rw [z_upd_ne (by omega), m_rs_at (by omega)]
          have g28 : z_upd (m_rs υ (p3 + 1) (-1)) 28 i 1 28 i = 1 := z_upd_same
          have hd := m_digit t3 (p := p3 + 1) (by omega) hp3 hw3 (d + 1) (lo := 0) (hi := 9) (by omega)
          simp (disch := omega) only [ep1, ep2, z_fdM, z_pdM, z_adM, z_sdM, z_lkM, z_ndM, z_gdM, z_cI_some', z_cV_some', z_w_ok, Int.reduceAdd, Int.reduceSub, Int.reduceMul, Int.reduceNeg, Int.reduceEq, Int.reduceLT, Int.reduceLE, Int.reduceNe, reduceIte, true_and, and_true, false_and, and_false, if_true, if_false, ne_eq, not_true_eq_false, not_false_eq_true]
          generalize z_upd (m_rs υ (p3 + 1) (-1)) 28 i 1 = φ at *
          cases hz : z_dgt (z_txt X) (p3 + 1) 0 9 with
          | inl w =>
            have hz' := z_dgt_e hz
            rw [hz] at hd
            obtain ⟨v, q, hd⟩ := hd
            have hs : z_upd (m_rs φ q w) 26 i v 1 29 = w := by rw [z_upd_ne (by omega), m_rs_29]
            have es := m_skip173 (i := i) (σ := z_upd (m_rs φ q w) 26 i v) d (by omega)
            have eu := m_unfine (σ := z_upd (m_rs φ q w) 26 i v) (d + 3) (by omega)
            refine ⟨z_upd (m_rs φ q w) 26 i v, ?_, m_fr_tr f2 (m_fr_tr (lo := 26) f3 (m_fr_tr (lo := 26) m_fr_rs (m_fr_up (by omega) (by omega)) (by omega)) (by omega)) (by omega), hs⟩
            simp (disch := omega) only [hd, eu, es, z_fdM, z_pdM, z_adM, z_sdM, z_lkM, z_ndM, z_gdM, z_cI_some', z_cV_some', z_w_ok, Int.reduceAdd, Int.reduceSub, Int.reduceMul, Int.reduceNeg, Int.reduceEq, Int.reduceLT, Int.reduceLE, Int.reduceNe, reduceIte, true_and, and_true, false_and, and_false, if_true, if_false, ne_eq, not_true_eq_false, not_false_eq_true]
          | inr x =>
            obtain ⟨lo, q⟩ := x
            have hz' := z_dgt_ok hz
            rw [hz] at hd
            have hd' : _ = _ := hd
            have f4 : m_fr 26 i υ (z_upd (m_rs φ q (-1)) 26 i lo) := m_fr_tr (lo := 26) f3 (m_fr_tr (lo := 26) m_fr_rs (m_fr_up (by omega) (by omega)) (by omega)) (by omega)
            have hp4 : z_upd (m_rs φ q (-1)) 26 i lo 1 28 = q := by rw [z_upd_ne (by omega), m_rs_28]
            have hw4 : z_upd (m_rs φ q (-1)) 26 i lo 1 29 = -1 := by rw [z_upd_ne (by omega), m_rs_29]
            have ef := m_fine (d + 3) hw4
            have t4 := m_rt_fr t2 f4 (by omega)
            have ep3 := m_passes t4 (p := q) (by omega) hp4 hw4 (d + 2) (ch := 45) (by omega)
            have k26 : z_upd (m_rs φ q (-1)) 26 i lo 26 i = lo := z_upd_same
            have k : ∀ a, a ≠ 1 → a ≠ 26 → z_upd (m_rs φ q (-1)) 26 i lo a i = φ a i := fun a h h' => by rw [z_upd_ne (by omega), m_rs_at (by omega)]
            show m_out σ i 24 _ (z_pTail (z_txt X) (σ 22 i) (σ 23 i) n (if z_txt X q = 45 then z_bd (z_dgt (z_txt X) (q + 1) lo (if lo + 5 < 9 then lo + 5 else 9)) fun hi q2 => .inr ((lo, hi, 1), q2) else .inl q)) _
            simp (disch := omega) only [hd', ef, z_fdM, z_pdM, z_adM, z_sdM, z_lkM, z_ndM, z_gdM, z_cI_some', z_cV_some', z_w_ok, Int.reduceAdd, Int.reduceSub, Int.reduceMul, Int.reduceNeg, Int.reduceEq, Int.reduceLT, Int.reduceLE, Int.reduceNe, reduceIte, true_and, and_true, false_and, and_false, if_true, if_false, ne_eq, not_true_eq_false, not_false_eq_true]
            generalize z_upd (m_rs φ q (-1)) 26 i lo = ψ at *
            by_cases c3 : z_txt X q = 45
            · have := z_txt_lt (X := X) (p := q) (by omega)
              rw [if_pos c3] at ep3 ⊢
              have k29 := k 29 (by omega) (by omega)
              have k30 := k 30 (by omega) (by omega)
              have k31 := k 31 (by omega) (by omega)
              have k28 := k 28 (by omega) (by omega)
              have k22 := k 22 (by omega) (by omega)
              have k23 := k 23 (by omega) (by omega)
              have k24 := k 24 (by omega) (by omega)
              have g22 := g 22 (by omega) (by omega)
              have g23 := g 23 (by omega) (by omega)
              have g24 := g 24 (by omega) (by omega)
              have g29 := g 29 (by omega) (by omega)
              have g30 := g 30 (by omega) (by omega)
              have g31 := g 31 (by omega) (by omega)
              have nx := m_j173 (m_rt_rs t4) (p := q + 1) (i := i) (lo := lo) (by omega) m_rs_28 m_rs_29 hi d (by rw [m_rs_at (by omega)]; exact k26) hz'.1 (by rw [m_rs_at (by omega)]; omega) (by rw [m_rs_at (by omega)]; omega) (by rw [m_rs_at (by omega)]; omega) (σ := m_rs ψ (q + 1) (-1))
              have eq : z_pTail (z_txt X) (σ 22 i) (σ 23 i) n (z_bd (z_dgt (z_txt X) (q + 1) lo (if lo + 5 < 9 then lo + 5 else 9)) fun hi q2 => .inr ((lo, hi, 1), q2)) = z_map (fun l => match l with | [] => [] | hi :: t => 2 :: σ 22 i :: σ 23 i :: n :: lo :: hi :: 1 :: t) (z_bd (z_dgt (z_txt X) (q + 1) lo (if lo + 5 < 9 then lo + 5 else 9)) fun hi q => z_map (fun l => hi :: l) (z_t3 (z_txt X) q)) := by
                cases z_dgt (z_txt X) (q + 1) lo (if lo + 5 < 9 then lo + 5 else 9) with
                | inl e => rfl
                | inr x =>
                  obtain ⟨hi, q2⟩ := x
                  show z_pTail (z_txt X) (σ 22 i) (σ 23 i) n (.inr ((lo, hi, 1), q2)) = z_map _ (z_map _ (z_t3 (z_txt X) q2))
                  rw [z_pTail_t, z_map_map]
              rw [eq]
              have go := m_out_to (P' := m_pj i) nx (m_fr_tr f2 (m_fr_tr f4 (m_fr_rs (lo := 26)) (by omega)) (by omega)) (by omega) (fun l => match l with | [] => [] | hi :: t => 2 :: σ 22 i :: σ 23 i :: n :: lo :: hi :: 1 :: t) (fun s fs l hl => by
                obtain ⟨hl, h28⟩ := hl
                rw [m_rs_at (by omega)] at h28
                subst hl
                show 2 :: σ 22 i :: σ 23 i :: n :: lo :: s 27 i :: 1 :: [s 29 i, s 30 i, s 31 i] = [2, s 22 i, s 23 i, s 24 i, s 26 i, s 27 i, s 28 i, s 29 i, s 30 i, s 31 i]
                rw [fs 22 i (by omega) (by omega), fs 23 i (by omega) (by omega), fs 24 i (by omega) (by omega), fs 26 i (by omega) (by omega), m_rs_at (by omega), m_rs_at (by omega), m_rs_at (by omega), m_rs_at (by omega), h28, k22, k23, k24, k26, k28, g22, g23, g24, g28, b22, b23, b24, a22, a23])
              simp (disch := omega) only [ep3, z_fdM, z_pdM, z_adM, z_sdM, z_lkM, z_ndM, z_gdM, z_cI_some', z_cV_some', z_w_ok, Int.reduceAdd, Int.reduceSub, Int.reduceMul, Int.reduceNeg, Int.reduceEq, Int.reduceLT, Int.reduceLE, Int.reduceNe, reduceIte, true_and, and_true, false_and, and_false, if_true, if_false, ne_eq, not_true_eq_false, not_false_eq_true]
              exact go
            · rw [if_neg c3] at ep3 ⊢
              have eb := m_bad (d + 2) hw4 q
              rw [m_rs_w hp4] at eb
              have es := m_skip173 (i := i) (σ := m_rs ψ q q) d (by rw [m_rs_29]; omega)
              refine ⟨m_rs ψ q q, ?_, m_fr_tr f2 (m_fr_tr f4 (m_fr_rs (lo := 26)) (by omega)) (by omega), m_rs_29⟩
              simp (disch := omega) only [ep3, hp4, eb, es, z_fdM, z_pdM, z_adM, z_sdM, z_lkM, z_ndM, z_gdM, z_cI_some', z_cV_some', z_w_ok, Int.reduceAdd, Int.reduceSub, Int.reduceMul, Int.reduceNeg, Int.reduceEq, Int.reduceLT, Int.reduceLE, Int.reduceNe, reduceIte, true_and, and_true, false_and, and_false, if_true, if_false, ne_eq, not_true_eq_false, not_false_eq_true]
        · rw [if_neg c2] at ep2 ⊢
          have nx := m_j212 t2 (p := p3) (i := i) (by omega) hp2 hw2 hi d (by omega) (by omega) (by omega)
          rw [z_pTail_t]
          have go := m_out_to (P' := m_pj i) nx f2 (by omega) (fun l => 2 :: σ 22 i :: σ 23 i :: n :: 0 :: 0 :: 0 :: l) (fun s fs l hl => by
            unfold m_pj
            rw [fs 22 i (by omega) (by omega), fs 23 i (by omega) (by omega), fs 24 i (by omega) (by omega), fs 26 i (by omega) (by omega), fs 27 i (by omega) (by omega), fs 28 i (by omega) (by omega), b22, b23, b24, b26, b27, b28, a22, a23, a26, a27, a28]
            exact hl ▸ rfl)
          simp (disch := omega) only [ep1, ep2, z_fdM, z_pdM, z_adM, z_sdM, z_lkM, z_ndM, z_gdM, z_cI_some', z_cV_some', z_w_ok, Int.reduceAdd, Int.reduceSub, Int.reduceMul, Int.reduceNeg, Int.reduceEq, Int.reduceLT, Int.reduceLE, Int.reduceNe, reduceIte, true_and, and_true, false_and, and_false, if_true, if_false, ne_eq, not_true_eq_false, not_false_eq_true]
          exact go
  · rw [if_neg c] at ep ⊢
    have eb := m_bad (d + 2) hw0 p
    rw [m_rs_w hp0] at eb
    refine ⟨m_rs τ p p, ?_, m_fr_tr f0 (m_fr_rs (lo := 24)) (by omega), m_rs_29⟩
    rw [z_E1219]
    simp (maxSteps := 2000000) (disch := omega) only [e0, ep, z_fdM, z_pdM, z_adM, z_sdM, z_lkM, z_ndM, z_gdM, z_cI_some', z_cV_some', z_w_ok, Int.reduceAdd, Int.reduceSub, Int.reduceMul, Int.reduceNeg, Int.reduceEq, Int.reduceLT, Int.reduceLE, Int.reduceNe, reduceIte, true_and, and_true, false_and, and_false, if_true, if_false, ne_eq, not_true_eq_false, not_false_eq_true]
    simp (disch := omega) only [hp0, eb, z_fdM, z_pdM, z_adM, z_sdM, z_lkM, z_ndM, z_gdM, z_cI_some', z_cV_some', z_w_ok, Int.reduceAdd, Int.reduceSub, Int.reduceMul, Int.reduceNeg, Int.reduceEq, Int.reduceLT, Int.reduceLE, Int.reduceNe, reduceIte, true_and, and_true, false_and, and_false, if_true, if_false, ne_eq, not_true_eq_false, not_false_eq_true]
end
