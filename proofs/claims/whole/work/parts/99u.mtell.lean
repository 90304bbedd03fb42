/-! The reference reads all items. -/
def m_its (σ : z_S) : Int → List (List Int) → Prop
  | _, [] => True
  | i, it :: l => m_itm σ i it ∧ m_its σ (i + 1) l
/-- all stands but the items from i on, and the reader's own three -/
def m_fx (i : Int) (σ σ' : z_S) : Prop := ∀ a j : Int, (a < 21 ∨ 31 < a ∨ j < i) → (a ≠ 1 ∨ (j ≠ 28 ∧ j ≠ 29 ∧ j ≠ 41)) → σ' a j = σ a j
theorem m_itm_congr {σ σ' : z_S} {i : Int} {it : List Int} (o : ∀ a, 21 ≤ a → a ≤ 31 → σ' a i = σ a i) (h : m_itm σ i it) : m_itm σ' i it := by
  unfold m_itm m_pj at *
  rw [o 21 (by omega) (by omega), o 22 (by omega) (by omega), o 23 (by omega) (by omega), o 24 (by omega) (by omega), o 25 (by omega) (by omega), o 26 (by omega) (by omega), o 27 (by omega) (by omega), o 28 (by omega) (by omega), o 29 (by omega) (by omega), o 30 (by omega) (by omega), o 31 (by omega) (by omega)]
  exact h
theorem m_its_congr {σ σ' : z_S} : ∀ {l : List (List Int)} {i : Int}, (∀ a j, 21 ≤ a → a ≤ 31 → σ' a j = σ a j) → m_its σ i l → m_its σ' i l
  | [], _, _, _ => trivial
  | _ :: _, _, o, h => ⟨m_itm_congr (fun a h1 h2 => o a _ h1 h2) h.1, m_its_congr o h.2⟩
def m_pt (i : Int) (σ : z_S) (r : Int ⊕ List (List Int)) : Prop := match r with
  | .inl w => σ 1 29 = w
  | .inr l => σ 1 29 = -1 ∧ σ 1 41 = i + l.length ∧ m_its σ i l ∧ i + l.length ≤ 60
theorem m_text {X : z_S} {u1 u2 u3 u4 u5 u6 u7 u8 : z_V} (d : Nat) : ∀ (n : Nat) {p i : Int} {σ : z_S}, m_rt σ X → 0 ≤ i → i ≤ p → p ≤ 60 → 61 ≤ p + n → σ 1 28 = p → σ 1 29 = -1 → σ 1 41 = i →
    ∃ σ', z_go (z_ev z_hcM (d + 6)) z_hcM 1220 33 [z_R 1, u1, u2, u3, u4, u5, u6, u7, u8] [] z_hdM σ = z_go (z_ev z_hcM (d + 6)) z_hcM 1220 79 [z_R 1, u1, u2, u3, u4, u5, u6, u7, u8] [] z_hdM σ' ∧ m_fx i σ σ' ∧ m_pt i σ' (z_pText (z_txt X) (X 0 5) n p)
  | 0, p, i, σ, ht, h0, h1, h2, h3, hp, hw, h41 => by omega
  | n + 1, p, i, σ, ht, h0, h1, h2, h3, hp, hw, h41 => by
    obtain ⟨s, e, f, pr⟩ := m_item ht (by omega) hp hw h41 ⟨h0, h1⟩ d
    have fx : m_fx i σ s := fun a j h1 h2 => f a j (by omega) h2
    have ts := m_rt_fi ht f
    have hu := z_pItem_ub (X := X) h2
    rw [z_B1220_33]
    unfold z_pText
    cases hz : z_pItem (z_txt X) p with
    | inl w =>
      have hw' := z_pItem_e hz
      rw [hz] at pr
      have pr' : s 1 29 = w := pr
      have eu := m_unfine (σ := s) (d + 5) (by omega)
      refine ⟨s, ?_, fx, pr'⟩
      simp (disch := omega) only [e, eu, z_B1220_53, z_fdM, z_pdM, z_adM, z_sdM, z_lkM, z_ndM, z_gdM, z_cI_some', z_cV_some', z_w_ok, Int.reduceAdd, Int.reduceSub, Int.reduceMul, Int.reduceNeg, Int.reduceEq, Int.reduceLT, Int.reduceLE, Int.reduceNe, reduceIte, true_and, and_true, false_and, and_false, if_true, if_false, ne_eq, not_true_eq_false, not_false_eq_true]
    | inr x =>
      obtain ⟨it, q⟩ := x
      have hg := z_pItem_ok hz
      rw [hz] at pr hu
      have hu' : q ≤ 60 := hu
      obtain ⟨s28, s29, s41, hit⟩ := pr
      have ef := m_fine (d + 5) s29
      have ep := m_passes ts (p := q) (by omega) s28 s29 (d + 4) (ch := 59) (by omega)
      dsimp only
      by_cases c : z_txt X q = 59
      · have := z_txt_lt (X := X) (p := q) (by omega)
        rw [if_pos c] at ep ⊢
        obtain ⟨s', e', f', pr'⟩ := m_text (u1 := u1) (u2 := u2) (u3 := u3) (u4 := u4) (u5 := u5) (u6 := u6) (u7 := u7) (u8 := u8) d n (p := q + 1) (i := i + 1) (m_rt_rs ts) (by omega) (by omega) (by omega) (by omega) m_rs_28 m_rs_29 (by rw [m_rs_at (by omega)]; exact s41) (σ := m_rs s (q + 1) (-1))
        refine ⟨s', ?_, fun a j h1 h2 => by rw [f' a j (by omega) h2, m_rs_at (by omega), f a j (by omega) h2], ?_⟩
        · simp (disch := omega) only [e, ef, ep, z_fdM, z_pdM, z_adM, z_sdM, z_lkM, z_ndM, z_gdM, z_cI_some', z_cV_some', z_w_ok, Int.reduceAdd, Int.reduceSub, Int.reduceMul, Int.reduceNeg, Int.reduceEq, Int.reduceLT, Int.reduceLE, Int.reduceNe, reduceIte, true_and, and_true, false_and, and_false, if_true, if_false, ne_eq, not_true_eq_false, not_false_eq_true]
          exact e'
        · cases hr : z_pText (z_txt X) (X 0 5) n (q + 1) with
          | inl w => rw [hr] at pr'; exact pr'
          | inr l =>
            rw [hr] at pr'
            obtain ⟨r1, r2, r3, r4⟩ := pr'
            refine ⟨r1, ?_, ⟨m_itm_congr (fun a h1 h2 => by rw [f' a i (by omega) (by omega), m_rs_at (by omega)]) hit, r3⟩, ?_⟩
            · rw [r2, List.length_cons]; omega
            · rw [List.length_cons]; omega
      · rw [if_neg c] at ep ⊢
        have h27 := ts.1
        by_cases c2 : q < X 0 5
        · rw [if_pos c2]
          have eb := m_bad (d + 4) s29 q
          rw [m_rs_w s28] at eb
          refine ⟨m_rs s q q, ?_, fun a j h1 h2 => by rw [m_rs_at (by omega)]; exact fx a j h1 h2, m_rs_29⟩
          simp (disch := omega) only [e, ef, ep, z_B1220_53, h27, s28, if_neg, eb, z_fdM, z_pdM, z_adM, z_sdM, z_lkM, z_ndM, z_gdM, z_cI_some', z_cV_some', z_w_ok, Int.reduceAdd, Int.reduceSub, Int.reduceMul, Int.reduceNeg, Int.reduceEq, Int.reduceLT, Int.reduceLE, Int.reduceNe, reduceIte, true_and, and_true, false_and, and_false, if_true, if_false, ne_eq, not_true_eq_false, not_false_eq_true]
        · rw [if_neg c2]
          refine ⟨s, ?_, fx, s29, s41, ⟨hit, trivial⟩, ?_⟩
          · simp (disch := omega) only [e, ef, ep, z_B1220_53, h27, s28, if_pos, z_fdM, z_pdM, z_adM, z_sdM, z_lkM, z_ndM, z_gdM, z_cI_some', z_cV_some', z_w_ok, Int.reduceAdd, Int.reduceSub, Int.reduceMul, Int.reduceNeg, Int.reduceEq, Int.reduceLT, Int.reduceLE, Int.reduceNe, reduceIte, true_and, and_true, false_and, and_false, if_true, if_false, ne_eq, not_true_eq_false, not_false_eq_true]
          · show i + 1 ≤ 60
            omega
/-- roads, tolled roads, journeys of an item -/
def z_cR (it : List Int) : Int := match it with | [_, _, _, _, _, _] => 1 | _ => 0
def z_cT (it : List Int) : Int := match it with | [_, o, _, _, _, _] => if o = -1 then 0 else 1 | _ => 0
def z_cJ (it : List Int) : Int := match it with | [_, _, _, _, _, _, _, _, _, _] => 1 | _ => 0
def z_sR (l : List (List Int)) : Int := match l with | [] => 0 | it :: l => z_cR it + z_sR l
def z_sT (l : List (List Int)) : Int := match l with | [] => 0 | it :: l => z_cT it + z_sT l
def z_sJ (l : List (List Int)) : Int := match l with | [] => 0 | it :: l => z_cJ it + z_sJ l
theorem z_app_c {X : z_S} {it : List Int} (hi : z_iok it) : z_app X it 0 0 = X 0 0 + z_cR it ∧ z_app X it 0 1 = X 0 1 + z_cT it ∧ z_app X it 0 2 = X 0 2 + z_cJ it := by
  rcases hi with ⟨v, rfl, -⟩ | ⟨o, p, q, n, t, rfl, -⟩ | ⟨p, q, n, lo, hi, cr, sl, ho, ti, rfl, -⟩
  · have hC : ∀ i, i ≠ 3 → z_addC X v 0 i = X 0 i := fun i h => by unfold z_addC; rw [if_neg (by omega), if_neg (by omega)]
    show z_addC X v 0 0 = X 0 0 + 0 ∧ z_addC X v 0 1 = X 0 1 + 0 ∧ z_addC X v 0 2 = X 0 2 + 0
    rw [hC _ (by omega), hC _ (by omega), hC _ (by omega)]
    omega
  · show z_addR X o p q n t 0 0 = X 0 0 + 1 ∧ z_addR X o p q n t 0 1 = X 0 1 + (if o = -1 then 0 else 1) ∧ z_addR X o p q n t 0 2 = X 0 2 + 0
    rw [z_addR_c, z_addR_c, z_addR_c]
    refine ⟨by rw [if_pos rfl], ?_, by rw [if_neg (by omega), if_neg (by omega)]; omega⟩
    rw [if_neg (by omega)]
    split <;> split <;> omega
  · show z_addJ X p q n lo hi cr sl ho ti 0 0 = X 0 0 + 0 ∧ z_addJ X p q n lo hi cr sl ho ti 0 1 = X 0 1 + 0 ∧ z_addJ X p q n lo hi cr sl ho ti 0 2 = X 0 2 + 1
    rw [z_addJ_at 0 0, z_addJ_at 0 1, z_addJ_at 0 2, if_neg (by omega), if_neg (by omega), if_neg (by omega), if_neg (by omega), if_pos (by omega)]
    omega
theorem z_appl_c : ∀ {l : List (List Int)} {X : z_S}, (∀ it ∈ l, z_iok it) → z_appl X l 0 0 = X 0 0 + z_sR l ∧ z_appl X l 0 1 = X 0 1 + z_sT l ∧ z_appl X l 0 2 = X 0 2 + z_sJ l
  | [], X, _ => by
    show X 0 0 = X 0 0 + 0 ∧ X 0 1 = X 0 1 + 0 ∧ X 0 2 = X 0 2 + 0
    omega
  | it :: l, X, h => by
    have h1 := z_app_c (X := X) (h it List.mem_cons_self)
    have h2 := z_appl_c (l := l) (X := z_app X it) (fun x hx => h x (List.mem_cons_of_mem _ hx))
    show z_appl (z_app X it) l 0 0 = X 0 0 + (z_cR it + z_sR l) ∧ z_appl (z_app X it) l 0 1 = X 0 1 + (z_cT it + z_sT l) ∧ z_appl (z_app X it) l 0 2 = X 0 2 + (z_cJ it + z_sJ l)
    omega
theorem z_sC_rng : ∀ {l : List (List Int)}, (0 ≤ z_sR l ∧ z_sR l ≤ l.length) ∧ (0 ≤ z_sT l ∧ z_sT l ≤ l.length) ∧ (0 ≤ z_sJ l ∧ z_sJ l ≤ l.length)
  | [] => ⟨⟨Int.le_refl _, Int.le_refl _⟩, ⟨Int.le_refl _, Int.le_refl _⟩, ⟨Int.le_refl _, Int.le_refl _⟩⟩
  | it :: l => by
    have h := z_sC_rng (l := l)
    have a : 0 ≤ z_cR it ∧ z_cR it ≤ 1 := by unfold z_cR; split <;> omega
    have b : 0 ≤ z_cT it ∧ z_cT it ≤ 1 := by unfold z_cT; split <;> (try split) <;> omega
    have c : 0 ≤ z_cJ it ∧ z_cJ it ≤ 1 := by unfold z_cJ; split <;> omega
    show (0 ≤ z_cR it + z_sR l ∧ z_cR it + z_sR l ≤ ((it :: l).length : Nat)) ∧ (0 ≤ z_cT it + z_sT l ∧ z_cT it + z_sT l ≤ ((it :: l).length : Nat)) ∧ (0 ≤ z_cJ it + z_sJ l ∧ z_cJ it + z_sJ l ≤ ((it :: l).length : Nat))
    rw [List.length_cons]
    omega
/-- the count, an item more -/
theorem m_count_1 {σ : z_S} {it : List Int} {x1 x2 x3 x4 : Int} {u5 u6 u7 u8 : z_V} (d : Nat) (hit : m_itm σ x4 it) (h41 : x4 < σ 1 41) (h60 : σ 1 41 ≤ 60) (h1 : 0 ≤ x1 ∧ x1 ≤ 60) (h2 : 0 ≤ x2 ∧ x2 ≤ 60) (h3 : 0 ≤ x3 ∧ x3 ≤ 60) (h4 : 0 ≤ x4) :
    z_go (z_ev z_hcM (d + 6)) z_hcM 1220 102 [z_R 1, z_I x1, z_I x2, z_I x3, z_I x4, u5, u6, u7, u8] [] z_hdM σ = z_go (z_ev z_hcM (d + 6)) z_hcM 1220 102 [z_R 1, z_I (x1 + z_cR it), z_I (x2 + z_cT it), z_I (x3 + z_cJ it), z_I (x4 + 1), u5, u6, u7, u8] [] z_hdM σ := by
  rw [z_B1220_102]
  rcases hit with ⟨rfl, h⟩ | ⟨o, rfl, h⟩ | ⟨h', h⟩
  · rw [show z_cR [0, σ 24 x4] = 0 from rfl, show z_cT [0, σ 24 x4] = 0 from rfl, show z_cJ [0, σ 24 x4] = 0 from rfl]
    simp (disch := omega) only [if_neg, h, z_B1220_153, z_B1220_185, z_fdM, z_pdM, z_adM, z_sdM, z_lkM, z_ndM, z_gdM, z_cI_some', z_cV_some', z_w_ok, Int.reduceAdd, Int.reduceSub, Int.reduceMul, Int.reduceNeg, Int.reduceEq, Int.reduceLT, Int.reduceLE, Int.reduceNe, reduceIte, true_and, and_true, false_and, and_false, if_true, if_false, ne_eq, not_true_eq_false, not_false_eq_true]
  · have e1 : ∀ a b c d' e : Int, z_cR [a, o, b, c, d', e] = 1 := fun _ _ _ _ _ => rfl
    have e2 : ∀ a b c d' e : Int, z_cT [a, o, b, c, d', e] = if o = -1 then 0 else 1 := fun _ _ _ _ _ => rfl
    have e3 : ∀ a b c d' e : Int, z_cJ [a, o, b, c, d', e] = 0 := fun _ _ _ _ _ => rfl
    rw [e1, e2, e3]
    rcases h with ⟨ho, h⟩ | ⟨ho, h⟩ | ⟨ho, h⟩
    · rw [if_pos ho]
      simp (disch := omega) only [if_neg, h, z_B1220_153, z_B1220_185, z_fdM, z_pdM, z_adM, z_sdM, z_lkM, z_ndM, z_gdM, z_cI_some', z_cV_some', z_w_ok, Int.reduceAdd, Int.reduceSub, Int.reduceMul, Int.reduceNeg, Int.reduceEq, Int.reduceLT, Int.reduceLE, Int.reduceNe, reduceIte, true_and, and_true, false_and, and_false, if_true, if_false, ne_eq, not_true_eq_false, not_false_eq_true]
    · rw [if_neg (show ¬ o = -1 by omega)]
      simp (disch := omega) only [if_neg, h, z_B1220_153, z_B1220_185, z_fdM, z_pdM, z_adM, z_sdM, z_lkM, z_ndM, z_gdM, z_cI_some', z_cV_some', z_w_ok, Int.reduceAdd, Int.reduceSub, Int.reduceMul, Int.reduceNeg, Int.reduceEq, Int.reduceLT, Int.reduceLE, Int.reduceNe, reduceIte, true_and, and_true, false_and, and_false, if_true, if_false, ne_eq, not_true_eq_false, not_false_eq_true]
    · rw [if_neg (show ¬ o = -1 by omega)]
      simp (disch := omega) only [if_neg, h, z_B1220_153, z_B1220_185, z_fdM, z_pdM, z_adM, z_sdM, z_lkM, z_ndM, z_gdM, z_cI_some', z_cV_some', z_w_ok, Int.reduceAdd, Int.reduceSub, Int.reduceMul, Int.reduceNeg, Int.reduceEq, Int.reduceLT, Int.reduceLE, Int.reduceNe, reduceIte, true_and, and_true, false_and, and_false, if_true, if_false, ne_eq, not_true_eq_false, not_false_eq_true]
  · rw [h', show ∀ a b c d' e f g h i' j : Int, z_cR [a, b, c, d', e, f, g, h, i', j] = 0 from fun _ _ _ _ _ _ _ _ _ _ => rfl, show ∀ a b c d' e f g h i' j : Int, z_cT [a, b, c, d', e, f, g, h, i', j] = 0 from fun _ _ _ _ _ _ _ _ _ _ => rfl, show ∀ a b c d' e f g h i' j : Int, z_cJ [a, b, c, d', e, f, g, h, i', j] = 1 from fun _ _ _ _ _ _ _ _ _ _ => rfl]
    simp (disch := omega) only [if_neg, h, z_B1220_153, z_B1220_185, z_fdM, z_pdM, z_adM, z_sdM, z_lkM, z_ndM, z_gdM, z_cI_some', z_cV_some', z_w_ok, Int.reduceAdd, Int.reduceSub, Int.reduceMul, Int.reduceNeg, Int.reduceEq, Int.reduceLT, Int.reduceLE, Int.reduceNe, reduceIte, true_and, and_true, false_and, and_false, if_true, if_false, ne_eq, not_true_eq_false, not_false_eq_true]
theorem m_count {σ : z_S} {u5 u6 u7 u8 : z_V} (d : Nat) : ∀ {l : List (List Int)} {x1 x2 x3 x4 : Int}, m_its σ x4 l → σ 1 41 = x4 + l.length → σ 1 41 ≤ 60 → 0 ≤ x1 ∧ x1 ≤ x4 → 0 ≤ x2 ∧ x2 ≤ x4 → 0 ≤ x3 ∧ x3 ≤ x4 → 0 ≤ x4 →
    z_go (z_ev z_hcM (d + 6)) z_hcM 1220 102 [z_R 1, z_I x1, z_I x2, z_I x3, z_I x4, u5, u6, u7, u8] [] z_hdM σ = z_go (z_ev z_hcM (d + 6)) z_hcM 1220 102 [z_R 1, z_I (x1 + z_sR l), z_I (x2 + z_sT l), z_I (x3 + z_sJ l), z_I (σ 1 41), u5, u6, u7, u8] [] z_hdM σ
  | [], x1, x2, x3, x4, _, h41, _, _, _, _, _ => by
    rw [h41, show x4 + (([] : List (List Int)).length : Nat) = x4 from Int.add_zero _, show z_sR [] = 0 from rfl, show z_sT [] = 0 from rfl, show z_sJ [] = 0 from rfl, Int.add_zero, Int.add_zero, Int.add_zero]
  | it :: l, x1, x2, x3, x4, hit, h41, h60, h1, h2, h3, h4 => by
    rw [List.length_cons] at h41
    have a : 0 ≤ z_cR it ∧ z_cR it ≤ 1 := by unfold z_cR; split <;> omega
    have b : 0 ≤ z_cT it ∧ z_cT it ≤ 1 := by unfold z_cT; split <;> (try split) <;> omega
    have c : 0 ≤ z_cJ it ∧ z_cJ it ≤ 1 := by unfold z_cJ; split <;> omega
    rw [m_count_1 d hit.1 (by omega) h60 (by omega) (by omega) (by omega) h4, m_count d hit.2 (by omega) h60 (by omega) (by omega) (by omega) (by omega), Int.add_assoc, Int.add_assoc, Int.add_assoc]
    rfl
