/-! The reference reads an item. -/
def m_itm (σ : z_S) (i : Int) (it : List Int) : Prop := (it = [0, σ 24 i] ∧ σ 21 i = 109) ∨ (∃ o, it = [1, o, σ 22 i, σ 23 i, σ 24 i, σ 25 i] ∧ (o = -1 ∧ σ 21 i = 114 ∨ o = 0 ∧ σ 21 i = 116 ∨ o = 1 ∧ σ 21 i = 117)) ∨ (m_pj i σ it ∧ σ 21 i = 106)
/-- all stands but the items' cells at i, and the reader's own three -/
def m_fi (i : Int) (σ σ' : z_S) : Prop := ∀ a j : Int, (a < 21 ∨ 31 < a ∨ j ≠ i) → (a ≠ 1 ∨ (j ≠ 28 ∧ j ≠ 29 ∧ j ≠ 41)) → σ' a j = σ a j
def z_rtail (T : Int → Int) (p : Int) : z_PI := z_bd (z_nmb T p 0 99) fun n p3 => z_bd (z_opg T p3 43 9) fun h p4 => .inr ([n, h], p4)
theorem z_pRoad_t {T : Int → Int} {o p : Int} : z_pRoad T o p = z_bd (z_cor T p (-1)) fun a p1 => z_bd (z_cor T p1 a) fun b p2 => z_map (fun l => 1 :: o :: a :: b :: l) (z_rtail T p2) := by
  unfold z_pRoad z_rtail
  cases z_cor T p (-1) with
  | inl e => rfl
  | inr x =>
    obtain ⟨a, p1⟩ := x
    show z_bd (z_cor T p1 a) _ = z_bd (z_cor T p1 a) _
    cases z_cor T p1 a with
    | inl e => rfl
    | inr x =>
      obtain ⟨b, p2⟩ := x
      show z_bd (z_nmb T p2 0 99) _ = z_map _ (z_bd (z_nmb T p2 0 99) _)
      cases z_nmb T p2 0 99 with
      | inl e => rfl
      | inr x =>
        obtain ⟨n, p3⟩ := x
        show z_bd (z_opg T p3 43 9) _ = z_map _ (z_bd (z_opg T p3 43 9) _)
        cases z_opg T p3 43 9 with
        | inl e => rfl
        | inr x => rfl
section
variable {σ τ X : z_S} {i : Int}
theorem m_fi_fr {lo : Int} (hl : 21 ≤ lo) (h : m_fr lo i σ τ) : m_fi i σ τ := fun a j h1 h2 => h a j (by omega) (by omega)
theorem m_fi_tr {σ' : z_S} (h : m_fi i σ τ) (h' : m_fi i τ σ') : m_fi i σ σ' := fun a j h1 h2 => by rw [h' a j h1 h2, h a j h1 h2]
theorem m_rt_fi (ht : m_rt σ X) (h : m_fi i σ τ) : m_rt τ X := m_rt_of ht fun a j hj => h a j (by omega) (by omega)
theorem m_skip131 (d : Nat) (h : σ 1 29 ≠ -1) {x : Int} : z_go (z_ev z_hcM (d + 5)) z_hcM 1218 131 [z_R 1, z_I i, z_I x] [] z_hdM σ = some (z_U, z_hdM, σ) := by
  rw [z_B1218_131]
  simp (disch := omega) only [m_unfine (d + 4) h, z_fdM, z_pdM, z_adM, z_sdM, z_lkM, z_ndM, z_gdM, z_cI_some', z_cV_some', z_w_ok, Int.reduceAdd, Int.reduceSub, Int.reduceMul, Int.reduceNeg, Int.reduceEq, Int.reduceLT, Int.reduceLE, Int.reduceNe, reduceIte, true_and, and_true, false_and, and_false, if_true, if_false, ne_eq, not_true_eq_false, not_false_eq_true]
theorem m_road (ht : m_rt σ X) {p x : Int} (h0 : 0 ≤ p ∧ p ≤ 60) (hp : σ 1 28 = p) (hw : σ 1 29 = -1) (hi : 0 ≤ i ∧ i < 60) (d : Nat) (hx : x ≠ 106) : m_out σ i 24 (z_go (z_ev z_hcM (d + 5)) z_hcM 1218 131 [z_R 1, z_I i, z_I x] [] z_hdM σ) (z_rtail (z_txt X) p) (fun s l => l = [s 24 i, s 25 i]) := by
  have ef := m_fine (d + 4) hw
  have hd := m_number ht h0 hp hw (d + 1) 0 99
  rw [z_B1218_131]
  unfold z_rtail
  cases hz : z_nmb (z_txt X) p 0 99 with
  | inl w =>
    have hz' := z_nmb_e hz
    rw [hz] at hd
    obtain ⟨v, q, hd⟩ := hd
    have es := m_unfine (σ := z_upd (m_rs σ q w) 24 i v) (d + 4) (by rw [z_upd_ne (by omega), m_rs_29]; omega)
    refine ⟨z_upd (z_upd (m_rs σ q w) 24 i v) 25 i 0, ?_, m_fr_tr (lo := 24) m_fr_rs (m_fr_tr (lo := 24) (m_fr_up (by omega) (by omega)) (m_fr_up (by omega) (by omega)) (by omega)) (by omega), ?_⟩
    · simp (disch := omega) only [ef, if_pos hx, hd, es, z_fdM, z_pdM, z_adM, z_sdM, z_lkM, z_ndM, z_gdM, z_cI_some', z_cV_some', z_w_ok, Int.reduceAdd, Int.reduceSub, Int.reduceMul, Int.reduceNeg, Int.reduceEq, Int.reduceLT, Int.reduceLE, Int.reduceNe, reduceIte, true_and, and_true, false_and, and_false, if_true, if_false, ne_eq, not_true_eq_false, not_false_eq_true]
    · show z_upd (z_upd (m_rs σ q w) 24 i v) 25 i 0 1 29 = w
      rw [z_upd_ne (by omega), z_upd_ne (by omega), m_rs_29]
  | inr x' =>
    obtain ⟨n, p3⟩ := x'
    have hz' := z_nmb_ok hz
    have hr := z_nct_rng (T := z_txt X) p
    rw [hz] at hd
    have hd' : _ = _ := hd
    have fr : m_fr 24 i σ (z_upd (m_rs σ p3 (-1)) 24 i n) := m_fr_tr (lo := 24) m_fr_rs (m_fr_up (by omega) (by omega)) (by omega)
    have t2 := m_rt_fr ht fr (by omega)
    have hp2 : z_upd (m_rs σ p3 (-1)) 24 i n 1 28 = p3 := by rw [z_upd_ne (by omega), m_rs_28]
    have hw2 : z_upd (m_rs σ p3 (-1)) 24 i n 1 29 = -1 := by rw [z_upd_ne (by omega), m_rs_29]
    have b24 : z_upd (m_rs σ p3 (-1)) 24 i n 24 i = n := z_upd_same
    have ef2 := m_fine (d + 4) hw2
    have ep := m_passes t2 (p := p3) (by omega) hp2 hw2 (d + 3) (ch := 43) (by omega)
    simp (disch := omega) only [ef, if_pos hx, hd', ef2, z_fdM, z_pdM, z_adM, z_sdM, z_lkM, z_ndM, z_gdM, z_cI_some', z_cV_some', z_w_ok, Int.reduceAdd, Int.reduceSub, Int.reduceMul, Int.reduceNeg, Int.reduceEq, Int.reduceLT, Int.reduceLE, Int.reduceNe, reduceIte, true_and, and_true, false_and, and_false, if_true, if_false, ne_eq, not_true_eq_false, not_false_eq_true]
    show m_out σ i 24 _ (z_bd (z_opg (z_txt X) p3 43 9) fun h p4 => .inr ([n, h], p4)) _
    generalize z_upd (m_rs σ p3 (-1)) 24 i n = υ at *
    unfold z_opg
    by_cases c : z_txt X p3 = 43
    · have := z_txt_lt (X := X) (p := p3) (by omega)
      rw [if_pos c] at ep ⊢
      have hd := m_digit (m_rt_rs t2) (p := p3 + 1) (by omega) m_rs_28 m_rs_29 (d + 2) (lo := 0) (hi := 9) (by omega) (σ := m_rs υ (p3 + 1) (-1))
      cases hz : z_dgt (z_txt X) (p3 + 1) 0 9 with
      | inl w =>
        rw [hz] at hd
        obtain ⟨v, q, hd⟩ := hd
        rw [m_rs_rs] at hd
        refine ⟨z_upd (m_rs υ q w) 25 i v, ?_, m_fr_tr (lo := 24) fr (m_fr_tr (lo := 24) m_fr_rs (m_fr_up (by omega) (by omega)) (by omega)) (by omega), ?_⟩
        · simp (disch := omega) only [ep, hd, z_fdM, z_pdM, z_adM, z_sdM, z_lkM, z_ndM, z_gdM, z_cI_some', z_cV_some', z_w_ok, Int.reduceAdd, Int.reduceSub, Int.reduceMul, Int.reduceNeg, Int.reduceEq, Int.reduceLT, Int.reduceLE, Int.reduceNe, reduceIte, true_and, and_true, false_and, and_false, if_true, if_false, ne_eq, not_true_eq_false, not_false_eq_true]
        · show z_upd (m_rs υ q w) 25 i v 1 29 = w
          rw [z_upd_ne (by omega), m_rs_29]
      | inr x =>
        obtain ⟨v, q⟩ := x
        rw [hz] at hd
        have hd' : _ = _ := hd
        rw [m_rs_rs] at hd'
        refine ⟨z_upd (m_rs υ q (-1)) 25 i v, ?_, m_fr_tr (lo := 24) fr (m_fr_tr (lo := 24) m_fr_rs (m_fr_up (by omega) (by omega)) (by omega)) (by omega), ?_, ?_, ?_⟩
        · simp (disch := omega) only [ep, hd', z_fdM, z_pdM, z_adM, z_sdM, z_lkM, z_ndM, z_gdM, z_cI_some', z_cV_some', z_w_ok, Int.reduceAdd, Int.reduceSub, Int.reduceMul, Int.reduceNeg, Int.reduceEq, Int.reduceLT, Int.reduceLE, Int.reduceNe, reduceIte, true_and, and_true, false_and, and_false, if_true, if_false, ne_eq, not_true_eq_false, not_false_eq_true]
        · rw [z_upd_ne (by omega), m_rs_28]
        · rw [z_upd_ne (by omega), m_rs_29]
        · show [n, v] = [z_upd (m_rs υ q (-1)) 25 i v 24 i, z_upd (m_rs υ q (-1)) 25 i v 25 i]
          rw [z_upd_same, z_upd_ne (by omega), m_rs_at (by omega), b24]
    · rw [if_neg c] at ep ⊢
      refine ⟨z_upd υ 25 i 0, ?_, m_fr_tr (lo := 24) fr (m_fr_up (by omega) (by omega)) (by omega), ?_, ?_, ?_⟩
      · simp (disch := omega) only [ep, z_fdM, z_pdM, z_adM, z_sdM, z_lkM, z_ndM, z_gdM, z_cI_some', z_cV_some', z_w_ok, Int.reduceAdd, Int.reduceSub, Int.reduceMul, Int.reduceNeg, Int.reduceEq, Int.reduceLT, Int.reduceLE, Int.reduceNe, reduceIte, true_and, and_true, false_and, and_false, if_true, if_false, ne_eq, not_true_eq_false, not_false_eq_true]
      · rw [z_upd_ne (by omega), hp2]
      · rw [z_upd_ne (by omega), hw2]
      · show [n, 0] = [z_upd υ 25 i 0 24 i, z_upd υ 25 i 0 25 i]
        rw [z_upd_same, z_upd_ne (by omega), b24]
/-- an item's start: its sign, where it stands -/
def m_i0 (σ : z_S) (i x p : Int) : z_S := z_upd (z_upd (z_upd σ 21 i x) 1 41 (i + 1)) 1 28 (p + 1)
theorem m_i0_fi {x p : Int} : m_fi i σ (m_i0 σ i x p) := fun a j h1 h2 => by
  unfold m_i0
  rw [z_upd_ne (by omega), z_upd_ne (by omega), z_upd_ne (by omega)]
theorem m_i0_at {x p : Int} : m_i0 σ i x p 1 28 = p + 1 ∧ m_i0 σ i x p 1 29 = σ 1 29 ∧ m_i0 σ i x p 1 41 = i + 1 ∧ m_i0 σ i x p 21 i = x := by
  unfold m_i0
  refine ⟨z_upd_same, ?_, ?_, ?_⟩ <;> simp (disch := omega) only [z_upd_ne, z_upd_same]
theorem m_corners (ht : m_rt σ X) {p x : Int} (h0 : 0 ≤ p ∧ p ≤ 60) (hp : σ 1 28 = p) (hw : σ 1 29 = -1) (h41 : σ 1 41 = i) (hi : 0 ≤ i ∧ i < 60) (d : Nat) (hx : x ≠ 109) (hc : z_c16 (z_c16 x) = x) :
    (∃ w σ', z_go (z_ev z_hcM (d + 5)) z_hcM 1218 49 [z_R 1, z_I i, z_I x] [] z_hdM σ = some (z_U, z_hdM, σ') ∧ m_fi i σ σ' ∧ σ' 1 29 = w ∧ ∀ k : Int → Int → Int → z_PI, (z_bd (z_cor (z_txt X) (p + 1) (-1)) fun a p1 => z_bd (z_cor (z_txt X) p1 a) fun b p2 => k a b p2) = .inl w) ∨
    (∃ σ', z_go (z_ev z_hcM (d + 5)) z_hcM 1218 49 [z_R 1, z_I i, z_I x] [] z_hdM σ = z_go (z_ev z_hcM (d + 5)) z_hcM 1218 131 [z_R 1, z_I i, z_I x] [] z_hdM σ' ∧ m_fi i σ σ' ∧ p + 3 ≤ 60 ∧ σ' 1 28 = p + 3 ∧ σ' 1 29 = -1 ∧ σ' 1 41 = i + 1 ∧ σ' 21 i = x ∧ ∀ k : Int → Int → Int → z_PI, (z_bd (z_cor (z_txt X) (p + 1) (-1)) fun a p1 => z_bd (z_cor (z_txt X) p1 a) fun b p2 => k a b p2) = k (σ' 22 i) (σ' 23 i) (p + 3)) := by
  have f0 := m_i0_fi (σ := σ) (i := i) (x := x) (p := p)
  obtain ⟨a28, a29, a41, a21⟩ := m_i0_at (σ := σ) (i := i) (x := x) (p := p)
  have e0 : z_upd (z_upd (z_upd σ 21 i x) 1 41 (i + 1)) 1 28 (p + 1) = m_i0 σ i x p := rfl
  have t0 := m_rt_fi ht f0
  rw [hw] at a29
  have hd := m_corner t0 (p := p + 1) (by omega) a28 a29 (d + 2) (-1)
  rw [z_B1218_49]
  generalize m_i0 σ i x p = τ at *
  cases hz : z_cor (z_txt X) (p + 1) (-1) with
  | inl w =>
    have hz' := z_cor_e hz
    rw [hz] at hd
    obtain ⟨v, q, hd⟩ := hd
    have hs : z_upd (m_rs τ q w) 22 i v 1 29 = w := by rw [z_upd_ne (by omega), m_rs_29]
    have eu := m_unfine (σ := z_upd (m_rs τ q w) 22 i v) (d + 4) (by omega)
    have es := m_skip131 (i := i) (σ := z_upd (m_rs τ q w) 22 i v) (x := x) d (by omega)
    refine Or.inl ⟨w, z_upd (m_rs τ q w) 22 i v, ?_, m_fi_tr f0 (m_fi_fr (lo := 22) (by omega) (m_fr_tr (lo := 22) m_fr_rs (m_fr_up (by omega) (by omega)) (by omega))), hs, fun k => rfl⟩
    simp (disch := omega) only [hc, z_upd_ne, h41, hp, e0, if_pos hx, hd, eu, es, z_fdM, z_pdM, z_adM, z_sdM, z_lkM, z_ndM, z_gdM, z_cI_some', z_cV_some', z_w_ok, Int.reduceAdd, Int.reduceSub, Int.reduceMul, Int.reduceNeg, Int.reduceEq, Int.reduceLT, Int.reduceLE, Int.reduceNe, reduceIte, true_and, and_true, false_and, and_false, if_true, if_false, ne_eq, not_true_eq_false, not_false_eq_true]
  | inr y =>
    obtain ⟨a, p1⟩ := y
    have hz' := z_cor_ok hz
    rw [hz] at hd
    have hd' : _ = _ := hd
    have f2 : m_fi i τ (z_upd (m_rs τ p1 (-1)) 22 i a) := m_fi_fr (lo := 22) (by omega) (m_fr_tr (lo := 22) m_fr_rs (m_fr_up (by omega) (by omega)) (by omega))
    have t2 := m_rt_fi t0 f2
    have hp2 : z_upd (m_rs τ p1 (-1)) 22 i a 1 28 = p1 := by rw [z_upd_ne (by omega), m_rs_28]
    have hw2 : z_upd (m_rs τ p1 (-1)) 22 i a 1 29 = -1 := by rw [z_upd_ne (by omega), m_rs_29]
    have b22 : z_upd (m_rs τ p1 (-1)) 22 i a 22 i = a := z_upd_same
    have b21 : z_upd (m_rs τ p1 (-1)) 22 i a 21 i = x := by rw [z_upd_ne (by omega), m_rs_at (by omega), a21]
    have b41 : z_upd (m_rs τ p1 (-1)) 22 i a 1 41 = i + 1 := by rw [z_upd_ne (by omega), m_rs_at (by omega), a41]
    have ef := m_fine (d + 4) hw2
    have hd2 := m_corner t2 (p := p1) (by omega) hp2 hw2 (d + 2) a
    simp (maxSteps := 2000000) (disch := omega) only [hc, z_upd_ne, h41, hp, e0, if_pos hx, hd', ef, z_fdM, z_pdM, z_adM, z_sdM, z_lkM, z_ndM, z_gdM, z_cI_some', z_cV_some', z_w_ok, Int.reduceAdd, Int.reduceSub, Int.reduceMul, Int.reduceNeg, Int.reduceEq, Int.reduceLT, Int.reduceLE, Int.reduceNe, reduceIte, true_and, and_true, false_and, and_false, if_true, if_false, ne_eq, not_true_eq_false, not_false_eq_true]
    show (∃ w, ∃ σ' : z_S, _ ∧ _ ∧ _ ∧ ∀ k : Int → Int → Int → z_PI, (z_bd (z_cor (z_txt X) p1 a) fun b p2 => k a b p2) = .inl w) ∨ (∃ σ' : z_S, _ ∧ _ ∧ _ ∧ _ ∧ _ ∧ _ ∧ _ ∧ ∀ k : Int → Int → Int → z_PI, (z_bd (z_cor (z_txt X) p1 a) fun b p2 => k a b p2) = k (σ' 22 i) (σ' 23 i) (p + 3))
    generalize z_upd (m_rs τ p1 (-1)) 22 i a = υ at *
    cases hz2 : z_cor (z_txt X) p1 a with
    | inl w =>
      have hz2' := z_cor_e hz2
      rw [hz2] at hd2
      obtain ⟨v, q, hd2⟩ := hd2
      have hs : z_upd (m_rs υ q w) 23 i v 1 29 = w := by rw [z_upd_ne (by omega), m_rs_29]
      have es := m_skip131 (i := i) (σ := z_upd (m_rs υ q w) 23 i v) (x := x) d (by omega)
      refine Or.inl ⟨w, z_upd (m_rs υ q w) 23 i v, ?_, m_fi_tr f0 (m_fi_tr f2 (m_fi_fr (lo := 22) (by omega) (m_fr_tr (lo := 22) m_fr_rs (m_fr_up (by omega) (by omega)) (by omega)))), hs, fun k => rfl⟩
      simp (disch := omega) only [b22, hd2, es, z_fdM, z_pdM, z_adM, z_sdM, z_lkM, z_ndM, z_gdM, z_cI_some', z_cV_some', z_w_ok, Int.reduceAdd, Int.reduceSub, Int.reduceMul, Int.reduceNeg, Int.reduceEq, Int.reduceLT, Int.reduceLE, Int.reduceNe, reduceIte, true_and, and_true, false_and, and_false, if_true, if_false, ne_eq, not_true_eq_false, not_false_eq_true]
    | inr y =>
      obtain ⟨b, p2⟩ := y
      have hz2' := z_cor_ok hz2
      rw [hz2] at hd2
      have hd2' : _ = _ := hd2
      refine Or.inr ⟨z_upd (m_rs υ p2 (-1)) 23 i b, ?_, m_fi_tr f0 (m_fi_tr f2 (m_fi_fr (lo := 22) (by omega) (m_fr_tr (lo := 22) m_fr_rs (m_fr_up (by omega) (by omega)) (by omega)))), ?_, ?_, ?_, ?_, ?_, fun k => ?_⟩
      · simp (disch := omega) only [b22, hd2', z_fdM, z_pdM, z_adM, z_sdM, z_lkM, z_ndM, z_gdM, z_cI_some', z_cV_some', z_w_ok, Int.reduceAdd, Int.reduceSub, Int.reduceMul, Int.reduceNeg, Int.reduceEq, Int.reduceLT, Int.reduceLE, Int.reduceNe, reduceIte, true_and, and_true, false_and, and_false, if_true, if_false, ne_eq, not_true_eq_false, not_false_eq_true]
      · have := z_txt_lt (X := X) (p := p1) (by omega)
        omega
      · rw [z_upd_ne (by omega), m_rs_28]; omega
      · rw [z_upd_ne (by omega), m_rs_29]
      · rw [z_upd_ne (by omega), m_rs_at (by omega), b41]
      · rw [z_upd_ne (by omega), m_rs_at (by omega), b21]
      · show k a b p2 = _
        rw [z_upd_same, z_upd_ne (by omega), m_rs_at (by omega), b22, show p + 3 = p2 by omega]
/-- what is left when an item was read, or not -/
def m_pi (i : Int) (σ : z_S) (r : z_PI) : Prop := match r with
  | .inl w => σ 1 29 = w
  | .inr (it, q) => σ 1 28 = q ∧ σ 1 29 = -1 ∧ σ 1 41 = i + 1 ∧ m_itm σ i it
def m_rI (i : Int) (σ : z_S) (e : Option z_Res) (r : z_PI) : Prop := ∃ σ', e = some (z_U, z_hdM, σ') ∧ m_fi i σ σ' ∧ m_pi i σ' r
theorem m_item_r (ht : m_rt σ X) {p x o : Int} (h0 : 0 ≤ p ∧ p < 60) (hp : σ 1 28 = p) (hw : σ 1 29 = -1) (h41 : σ 1 41 = i) (hi : 0 ≤ i ∧ i < 60) (d : Nat) (hx : x ≠ 109 ∧ x ≠ 106) (hc : z_c16 (z_c16 x) = x) (ho : o = -1 ∧ x = 114 ∨ o = 0 ∧ x = 116 ∨ o = 1 ∧ x = 117) : m_rI i σ (z_go (z_ev z_hcM (d + 5)) z_hcM 1218 49 [z_R 1, z_I i, z_I x] [] z_hdM σ) (z_pRoad (z_txt X) o (p + 1)) := by
  rw [z_pRoad_t]
  rcases m_corners ht (p := p) (x := x) (by omega) hp hw h41 hi d hx.1 hc with ⟨w, s, e, f, g, hk⟩ | ⟨s, e, f, l60, s28, s29, s41, s21, hk⟩
  · rw [hk]
    exact ⟨s, e, f, g⟩
  · rw [hk, e]
    obtain ⟨s2, e2, f2, p2⟩ := m_road (m_rt_fi ht f) (p := p + 3) (x := x) (by omega) s28 s29 hi d hx.2
    refine ⟨s2, e2, m_fi_tr f (m_fi_fr (by omega) f2), ?_⟩
    cases hz : z_rtail (z_txt X) (p + 3) with
    | inl w => rw [hz] at p2; exact p2
    | inr y =>
      obtain ⟨l, q⟩ := y
      rw [hz] at p2
      obtain ⟨q1, q2, q3⟩ := p2
      refine ⟨q1, q2, by rw [f2 1 41 (by omega) (by omega)]; exact s41, Or.inr (Or.inl ⟨o, ?_, ?_⟩)⟩
      · show 1 :: o :: s 22 i :: s 23 i :: l = _
        rw [f2 22 i (by omega) (by omega), f2 23 i (by omega) (by omega)]
        exact q3 ▸ rfl
      · rw [f2 21 i (by omega) (by omega), s21]
        omega
theorem m_item_j (ht : m_rt σ X) {p : Int} (h0 : 0 ≤ p ∧ p < 60) (hp : σ 1 28 = p) (hw : σ 1 29 = -1) (h41 : σ 1 41 = i) (hi : 0 ≤ i ∧ i < 60) (d : Nat) : m_rI i σ (z_go (z_ev z_hcM (d + 5)) z_hcM 1218 49 [z_R 1, z_I i, z_I 106] [] z_hdM σ) (z_pJour (z_txt X) (p + 1)) := by
  unfold z_pJour
  rcases m_corners ht (p := p) (x := 106) (by omega) hp hw h41 hi d (by omega) (by decide) with ⟨w, s, e, f, g, hk⟩ | ⟨s, e, f, l60, s28, s29, s41, s21, hk⟩
  · rw [hk fun a b p2 => if z_txt X p2 = 42 then z_bd (z_nmb (z_txt X) (p2 + 1) 1 99) fun n p3 => z_pTail (z_txt X) a b n (z_pWor (z_txt X) p3) else .inl p2]
    exact ⟨s, e, f, g⟩
  · rw [hk fun a b p2 => if z_txt X p2 = 42 then z_bd (z_nmb (z_txt X) (p2 + 1) 1 99) fun n p3 => z_pTail (z_txt X) a b n (z_pWor (z_txt X) p3) else .inl p2, e]
    obtain ⟨s2, e2, f2, p2⟩ := m_journey (m_rt_fi ht f) (p := p + 3) (i := i) (by omega) s28 s29 hi d
    have ef := m_fine (d + 4) s29
    refine ⟨s2, ?_, m_fi_tr f (m_fi_fr (by omega) f2), ?_⟩
    · rw [z_B1218_131]
      simp (disch := omega) only [ef, e2, z_fdM, z_pdM, z_adM, z_sdM, z_lkM, z_ndM, z_gdM, z_cI_some', z_cV_some', z_w_ok, Int.reduceAdd, Int.reduceSub, Int.reduceMul, Int.reduceNeg, Int.reduceEq, Int.reduceLT, Int.reduceLE, Int.reduceNe, reduceIte, true_and, and_true, false_and, and_false, if_true, if_false, ne_eq, not_true_eq_false, not_false_eq_true]
    · generalize (if z_txt X (p + 3) = 42 then z_bd (z_nmb (z_txt X) (p + 3 + 1) 1 99) fun n p3 => z_pTail (z_txt X) (s 22 i) (s 23 i) n (z_pWor (z_txt X) p3) else .inl (p + 3)) = r at *
      cases r with
      | inl w => exact p2
      | inr y =>
        obtain ⟨l, q⟩ := y
        obtain ⟨q1, q2, q3⟩ := p2
        exact ⟨q1, q2, by rw [f2 1 41 (by omega) (by omega)]; exact s41, Or.inr (Or.inr ⟨q3, by rw [f2 21 i (by omega) (by omega)]; exact s21⟩)⟩
end
