/-! The class's Reader: a whole text; copies of lands. -/
section
variable {σ X Y : z_S} {L : Int}
/-- Reader.readItem -/
theorem c_readItem (hL : L = 6 ∨ L = 26) (ht : c_rt σ X) {B : Int} (hw : z_wl0 Y B) (hB : B ≤ 999) (hx : c_landx σ L Y) {p : Int} (hp : 0 ≤ p ∧ p ≤ 60) (d : Nat) :
    c_RI σ Y L (z_pItem (z_txt X) p) (z_ev z_hcC (d + 5) 504 [z_R 2, z_R L] z_hdC (z_rs σ p 0)) := by
  have k : ∀ ch, z_txt X p ≠ ch → z_ev z_hcC (d + 4) 508 [z_R 2, z_I ch] z_hdC (z_rs σ p 0) = some (z_I 0, z_hdC, z_rs σ p 0) := fun ch h => by
    have := c_eat ht (b := 0) (by omega : 0 ≤ p ∧ p ≤ 100) (Or.inl rfl) (d + 2) ch
    have e : z_fE X ch p 0 = (0, p, 0) := if_neg (fun z => h z.2)
    rw [e] at this; exact this
  have k' : ∀ ch, z_txt X p = ch → z_ev z_hcC (d + 4) 508 [z_R 2, z_I ch] z_hdC (z_rs σ p 0) = some (z_I 1, z_hdC, z_rs σ (p + 1) 0) := fun ch h => by
    have := c_eat ht (b := 0) (by omega : 0 ≤ p ∧ p ≤ 100) (Or.inl rfl) (d + 2) ch
    have e : z_fE X ch p 0 = (1, p + 1, 0) := if_pos ⟨rfl, h⟩
    rw [e] at this; exact this
  have cV : ∀ {r : z_PI} {o : Option z_Res}, c_RI σ Y L r o → c_RI σ Y L r (z_cV o (fun h s => some (z_U, h, s))) := fun {r o} h => by
    cases r with
    | inl e => obtain ⟨h, h'⟩ := h; rw [h]; exact ⟨rfl, h'⟩
    | inr x => obtain ⟨it, q⟩ := x; obtain ⟨σ', h, h'⟩ := h; rw [h]; exact ⟨σ', rfl, h'⟩
  unfold z_pItem
  by_cases c1 : z_txt X p = 114
  · have hlt := z_txt_lt (X := X) (p := p) (by omega)
    have q := cV (c_readRoad hL ht hw hB hx (p := p + 1) (o := -1) (by omega) (by omega) (d + 1))
    have a := k' 114 c1
    rw [if_pos c1]
    simp (disch := omega) only [z_E504, a, z_fdC, z_pdC, z_adC, z_sdC, z_lkC, z_ndC, z_gdC, z_mdC, z_cI_some', z_cV_some', z_w_ok, Int.reduceAdd, Int.reduceSub, Int.reduceMul, Int.reduceNeg, Int.reduceEq, Int.reduceLT, Int.reduceLE, Int.reduceNe, reduceIte, true_and, and_true, false_and, and_false, if_true, if_false, ne_eq, not_true_eq_false, not_false_eq_true]
    exact q
  · have a1 := k 114 c1
    rw [if_neg c1]
    by_cases c2 : z_txt X p = 116
    · have hlt := z_txt_lt (X := X) (p := p) (by omega)
      have q := cV (c_readRoad hL ht hw hB hx (p := p + 1) (o := 0) (by omega) (by omega) (d + 1))
      have a := k' 116 c2
      rw [if_pos c2]
      simp (disch := omega) only [z_E504, a, a1, z_fdC, z_pdC, z_adC, z_sdC, z_lkC, z_ndC, z_gdC, z_mdC, z_cI_some', z_cV_some', z_w_ok, Int.reduceAdd, Int.reduceSub, Int.reduceMul, Int.reduceNeg, Int.reduceEq, Int.reduceLT, Int.reduceLE, Int.reduceNe, reduceIte, true_and, and_true, false_and, and_false, if_true, if_false, ne_eq, not_true_eq_false, not_false_eq_true]
      exact q
    · have a2 := k 116 c2
      rw [if_neg c2]
      by_cases c3 : z_txt X p = 117
      · have hlt := z_txt_lt (X := X) (p := p) (by omega)
        have q := cV (c_readRoad hL ht hw hB hx (p := p + 1) (o := 1) (by omega) (by omega) (d + 1))
        have a := k' 117 c3
        rw [if_pos c3]
        simp (disch := omega) only [z_E504, a, a1, a2, z_fdC, z_pdC, z_adC, z_sdC, z_lkC, z_ndC, z_gdC, z_mdC, z_cI_some', z_cV_some', z_w_ok, Int.reduceAdd, Int.reduceSub, Int.reduceMul, Int.reduceNeg, Int.reduceEq, Int.reduceLT, Int.reduceLE, Int.reduceNe, reduceIte, true_and, and_true, false_and, and_false, if_true, if_false, ne_eq, not_true_eq_false, not_false_eq_true]
        exact q
      · have a3 := k 117 c3
        rw [if_neg c3]
        by_cases c4 : z_txt X p = 106
        · have hlt := z_txt_lt (X := X) (p := p) (by omega)
          have q := cV (c_readJourney hL ht hw hB hx (p := p + 1) (by omega) d)
          have a := k' 106 c4
          rw [if_pos c4]
          simp (disch := omega) only [z_E504, a, a1, a2, a3, z_fdC, z_pdC, z_adC, z_sdC, z_lkC, z_ndC, z_gdC, z_mdC, z_cI_some', z_cV_some', z_w_ok, Int.reduceAdd, Int.reduceSub, Int.reduceMul, Int.reduceNeg, Int.reduceEq, Int.reduceLT, Int.reduceLE, Int.reduceNe, reduceIte, true_and, and_true, false_and, and_false, if_true, if_false, ne_eq, not_true_eq_false, not_false_eq_true]
          exact q
        · have a4 := k 106 c4
          rw [if_neg c4]
          by_cases c5 : z_txt X p = 109
          · have hlt := z_txt_lt (X := X) (p := p) (by omega)
            have a := k' 109 c5
            rw [if_pos c5]
            have h6 := z_fN_R (X := X) (p := p + 1) (by omega) 0 20
            have k6 := c_numeral ht (b := 0) (by omega : 0 ≤ p + 1 ∧ p + 1 ≤ 60) (Or.inl rfl) (d + 2) 0 20
            unfold z_bd
            cases g6 : z_nmb (z_txt X) (p + 1) 0 20 with
            | inl e =>
              rw [g6] at h6
              obtain ⟨f1, f2, f3, f4⟩ := h6
              rw [f1, f2] at k6
              have r4 : z_rs σ e 1 2 4 = 1 := z_rs_4
              refine ⟨?_, f3, f4⟩
              simp (disch := omega) only [z_E504, a, a1, a2, a3, a4, k6, r4, z_fdC, z_pdC, z_adC, z_sdC, z_lkC, z_ndC, z_gdC, z_mdC, z_cI_some', z_cV_some', z_w_ok, Int.reduceAdd, Int.reduceSub, Int.reduceMul, Int.reduceNeg, Int.reduceEq, Int.reduceLT, Int.reduceLE, Int.reduceNe, reduceIte, true_and, and_true, false_and, and_false, if_true, if_false, ne_eq, not_true_eq_false, not_false_eq_true]
            | inr x =>
              obtain ⟨v, q⟩ := x
              rw [g6] at h6
              obtain ⟨f6, q6, q7⟩ := h6
              rw [f6] at k6
              have r4 : z_rs σ q 0 2 4 = 0 := z_rs_4
              have hx' : c_landx (z_rs σ q 0) L Y := c_landx_off z_rs_off (by omega) hx
              obtain ⟨σ', b1, b2, b3, b4⟩ := c_setCap hL hx' v (d + 3)
              have e2 : σ' 2 2 = q := by rw [z_oat b2 (by omega)]; exact z_rs_2
              have e4 : σ' 2 4 = 0 := by rw [z_oat b2 (by omega)]; exact z_rs_4
              refine ⟨σ', ?_, ⟨fun c i h1 h2 => by rw [z_oat b2 (by omega)]; exact z_rs_at (by omega), by rw [b3 _ (by omega)]; exact z_rs_at (by omega)⟩, b4, q6, q7⟩
              rw [z_rs_self e2 e4]
              simp (disch := omega) only [z_E504, a, a1, a2, a3, a4, k6, r4, c_LC hL, b1, z_fdC, z_pdC, z_adC, z_sdC, z_lkC, z_ndC, z_gdC, z_mdC, z_cI_some', z_cV_some', z_w_ok, Int.reduceAdd, Int.reduceSub, Int.reduceMul, Int.reduceNeg, Int.reduceEq, Int.reduceLT, Int.reduceLE, Int.reduceNe, reduceIte, true_and, and_true, false_and, and_false, if_true, if_false, ne_eq, not_true_eq_false, not_false_eq_true]
          · have a5 := k 109 c5
            rw [if_neg c5]
            refine ⟨?_, hp⟩
            simp (disch := omega) only [z_E504, a1, a2, a3, a4, a5, z_rs_u4, z_fdC, z_pdC, z_adC, z_sdC, z_lkC, z_ndC, z_gdC, z_mdC, z_cI_some', z_cV_some', z_w_ok, Int.reduceAdd, Int.reduceSub, Int.reduceMul, Int.reduceNeg, Int.reduceEq, Int.reduceLT, Int.reduceLE, Int.reduceNe, reduceIte, true_and, and_true, false_and, and_false, if_true, if_false, ne_eq, not_true_eq_false, not_false_eq_true]
theorem c_readItem_st (ht : c_rt σ X) {e : Int} (he : 0 ≤ e ∧ e ≤ 60) (d : Nat) : z_ev z_hcC (d + 5) 504 [z_R 2, z_R L] z_hdC (z_rs σ e 1) = some (z_U, z_hdC, z_rs σ e 1) := by
  have s8 := (c_stuck ht he (d + 2)).1
  simp (disch := omega) only [z_E504, s8, z_rs_u4, z_fdC, z_pdC, z_adC, z_sdC, z_lkC, z_ndC, z_gdC, z_mdC, z_cI_some', z_cV_some', z_w_ok, Int.reduceAdd, Int.reduceSub, Int.reduceMul, Int.reduceNeg, Int.reduceEq, Int.reduceLT, Int.reduceLE, Int.reduceNe, reduceIte, true_and, and_true, false_and, and_false, if_true, if_false, ne_eq, not_true_eq_false, not_false_eq_true]
/-- Reader.read's loop -/
theorem c_read_go (hL : L = 6 ∨ L = 26) (d : Nat) : ∀ (n : Nat) {σ Y : z_S} {p k B : Int}, c_rt σ X → z_wl0 Y B → B + n ≤ 999 → c_landx σ L Y → 0 ≤ p ∧ p ≤ 60 → 0 ≤ k ∧ k ≤ p → 61 ≤ n + p →
    (match z_pText (z_txt X) (X 0 5) n p with
    | .inr l => ∃ σ' B', z_go (z_ev z_hcC (d + 5)) z_hcC 503 27 [z_R 2, z_R L, z_I k, z_I 1] [] z_hdC (z_rs σ p 0) = some (z_I (k + l.length), z_hdC, σ') ∧ c_fx L σ σ' ∧ c_landx σ' L (z_appl Y l) ∧ z_wl0 (z_appl Y l) B'
    | .inl e => ∃ σ', z_go (z_ev z_hcC (d + 5)) z_hcC 503 27 [z_R 2, z_R L, z_I k, z_I 1] [] z_hdC (z_rs σ p 0) = some (z_I (-1 - e), z_hdC, σ') ∧ c_fx L σ σ') := by
  intro n
  induction n with
  | zero => intro σ Y p k B ht hw hB hx hp hk hn; omega
  | succ n ih =>
    intro σ Y p k B ht hw hB hx hp hk hn
    have hI := c_readItem hL ht hw (by omega) hx hp d
    have r3 : ∀ {σ : z_S} {p b : Int}, c_rt σ X → z_rs σ p b 2 3 = (if 60 < X 0 5 then 60 else X 0 5) := fun ht => by rw [z_rs_at (by omega)]; exact ht.2.1
    have r1 : ∀ {σ : z_S} {p b : Int}, c_rt σ X → z_rs σ p b 2 1 = X 0 5 := fun ht => by rw [z_rs_at (by omega)]; exact ht.1
    have r4 : ∀ {σ : z_S} {p b : Int}, z_rs σ p b 2 4 = b := z_rs_4
    have r2 : ∀ {σ : z_S} {p b : Int}, z_rs σ p b 2 2 = p := z_rs_2
    have out : ∀ {σ : z_S} {e x2 x3 : Int}, c_rt σ X → 0 ≤ e → e ≤ 60 → z_go (z_ev z_hcC (d + 5)) z_hcC 503 82 [z_R 2, z_R L, z_I x2, z_I x3] [] z_hdC (z_rs σ e 1) = some (z_I (-1 - e), z_hdC, z_rs σ e 1) := fun ht e0 e1 => by
      rw [z_B503_82]
      simp (disch := omega) only [r4, r2, z_fdC, z_pdC, z_adC, z_sdC, z_lkC, z_ndC, z_gdC, z_mdC, z_cI_some', z_cV_some', z_w_ok, Int.reduceAdd, Int.reduceSub, Int.reduceMul, Int.reduceNeg, Int.reduceEq, Int.reduceLT, Int.reduceLE, Int.reduceNe, reduceIte, true_and, and_true, false_and, and_false, if_true, if_false, ne_eq, not_true_eq_false, not_false_eq_true]
    unfold z_pText
    cases g : z_pItem (z_txt X) p with
    | inl e =>
      rw [g] at hI
      obtain ⟨h1, h2, h3⟩ := hI
      refine ⟨z_rs σ e 1, ?_, c_fx_rs hL⟩
      rw [z_B503_27]
      simp (disch := omega) only [h1, if_neg, r4, if_pos, z_fdC, z_pdC, z_adC, z_sdC, z_lkC, z_ndC, z_gdC, z_mdC, z_cI_some', z_cV_some', z_w_ok, Int.reduceAdd, Int.reduceSub, Int.reduceMul, Int.reduceNeg, Int.reduceEq, Int.reduceLT, Int.reduceLE, Int.reduceNe, reduceIte, true_and, and_true, false_and, and_false, if_true, if_false, ne_eq, not_true_eq_false, not_false_eq_true]
      rw [z_B503_27, if_pos rfl]
      exact out ht h2 h3
    | inr x =>
      obtain ⟨it, q⟩ := x
      have hio := z_pItem_ok g
      rw [g] at hI
      obtain ⟨σ1, h1, h2, h3, q0, q1⟩ := hI
      have ht1 := c_rt_fx hL h2 ht
      have hw1 := z_wl0_app hw hio.1
      have hst : (if 60 < X 0 5 then 60 else X 0 5) = (if 60 < X 0 5 then (60 : Int) else X 0 5) := rfl
      dsimp only
      by_cases c59 : z_txt X q = 59
      · rw [if_pos c59]
        have hlt : q < X 0 5 ∧ q < 60 := by
          unfold z_txt at c59
          split at c59
          · next h => exact h
          · omega
        have hq : ¬ (if 60 < X 0 5 then 60 else X 0 5) ≤ q := by split <;> omega
        have kw := c_want ht1 (b := 0) (by omega : 0 ≤ q ∧ q ≤ 100) (Or.inl rfl) (d + 2) 59
        rw [if_pos ⟨rfl, c59⟩] at kw
        have hstep : z_go (z_ev z_hcC (d + 5)) z_hcC 503 27 [z_R 2, z_R L, z_I k, z_I 1] [] z_hdC (z_rs σ p 0) = z_go (z_ev z_hcC (d + 5)) z_hcC 503 27 [z_R 2, z_R L, z_I (k + 1), z_I 1] [] z_hdC (z_rs σ1 (q + 1) 0) := by
          rw [z_B503_27]
          have e3 := r3 (p := q) (b := 0) ht1
          simp (disch := omega) only [h1, if_neg, r4, r2, e3, hq, kw, z_fdC, z_pdC, z_adC, z_sdC, z_lkC, z_ndC, z_gdC, z_mdC, z_cI_some', z_cV_some', z_w_ok, Int.reduceAdd, Int.reduceSub, Int.reduceMul, Int.reduceNeg, Int.reduceEq, Int.reduceLT, Int.reduceLE, Int.reduceNe, reduceIte, true_and, and_true, false_and, and_false, if_true, if_false, ne_eq, not_true_eq_false, not_false_eq_true]
        have := ih (p := q + 1) (k := k + 1) ht1 hw1 (by omega) h3 (by omega) (by omega) (by omega)
        cases g2 : z_pText (z_txt X) (X 0 5) n (q + 1) with
        | inl e =>
          rw [g2] at this
          obtain ⟨σ', a1, a2⟩ := this
          exact ⟨σ', hstep.trans a1, c_fx_trans h2 a2⟩
        | inr l =>
          rw [g2] at this
          obtain ⟨σ', B', a1, a2, a3, a4⟩ := this
          refine ⟨σ', B', hstep.trans (a1.trans ?_), c_fx_trans h2 a2, a3, a4⟩
          rw [List.length_cons, z_ns, show k + 1 + (l.length : Int) = k + ((l.length : Int) + 1) by omega]
      · rw [if_neg c59]
        by_cases clt : q < X 0 5
        · rw [if_pos clt]
          by_cases c60 : q < 60
          · have hq : ¬ (if 60 < X 0 5 then 60 else X 0 5) ≤ q := by split <;> omega
            have kw := c_want ht1 (b := 0) (by omega : 0 ≤ q ∧ q ≤ 100) (Or.inl rfl) (d + 2) 59
            rw [if_neg (fun h => c59 h.2)] at kw
            have kst := c_readItem_st (L := L) ht1 ⟨q0, q1⟩ d
            refine ⟨z_rs σ1 q 1, ?_, c_fx_trans h2 (c_fx_rs hL)⟩
            have e3 := r3 (p := q) (b := 0) ht1
            rw [z_B503_27]
            simp (disch := omega) only [h1, if_neg, r4, r2, e3, hq, kw, z_fdC, z_pdC, z_adC, z_sdC, z_lkC, z_ndC, z_gdC, z_mdC, z_cI_some', z_cV_some', z_w_ok, Int.reduceAdd, Int.reduceSub, Int.reduceMul, Int.reduceNeg, Int.reduceEq, Int.reduceLT, Int.reduceLE, Int.reduceNe, reduceIte, true_and, and_true, false_and, and_false, if_true, if_false, ne_eq, not_true_eq_false, not_false_eq_true]
            rw [z_B503_27]
            have hio2 := hio.2
            simp (disch := omega) only [if_neg, kst, r4, z_fdC, z_pdC, z_adC, z_sdC, z_lkC, z_ndC, z_gdC, z_mdC, z_cI_some', z_cV_some', z_w_ok, Int.reduceAdd, Int.reduceSub, Int.reduceMul, Int.reduceNeg, Int.reduceEq, Int.reduceLT, Int.reduceLE, Int.reduceNe, reduceIte, true_and, and_true, false_and, and_false, if_true, if_false, ne_eq, not_true_eq_false, not_false_eq_true]
            rw [z_B503_27, if_pos rfl]
            exact out ht1 q0 q1
          · have hq : (if 60 < X 0 5 then 60 else X 0 5) ≤ q := by split <;> omega
            have hq60 : q = 60 := by omega
            refine ⟨z_rs σ1 q 0, ?_, c_fx_trans h2 (c_fx_rs hL)⟩
            have e3 := r3 (p := q) (b := 0) ht1
            have e1 := r1 (p := q) (b := 0) ht1
            rw [z_B503_27]
            simp (disch := omega) only [h1, if_neg, r4, r2, e3, hq, z_fdC, z_pdC, z_adC, z_sdC, z_lkC, z_ndC, z_gdC, z_mdC, z_cI_some', z_cV_some', z_w_ok, Int.reduceAdd, Int.reduceSub, Int.reduceMul, Int.reduceNeg, Int.reduceEq, Int.reduceLT, Int.reduceLE, Int.reduceNe, reduceIte, true_and, and_true, false_and, and_false, if_true, if_false, ne_eq, not_true_eq_false, not_false_eq_true]
            rw [z_B503_27, if_pos rfl, z_B503_82]
            simp (disch := omega) only [r4, e1, if_neg, z_fdC, z_pdC, z_adC, z_sdC, z_lkC, z_ndC, z_gdC, z_mdC, z_cI_some', z_cV_some', z_w_ok, Int.reduceAdd, Int.reduceSub, Int.reduceMul, Int.reduceNeg, Int.reduceEq, Int.reduceLT, Int.reduceLE, Int.reduceNe, reduceIte, true_and, and_true, false_and, and_false, if_true, if_false, ne_eq, not_true_eq_false, not_false_eq_true]
            rw [hq60]; rfl
        · rw [if_neg clt]
          have hq : (if 60 < X 0 5 then 60 else X 0 5) ≤ q := by split <;> omega
          refine ⟨z_rs σ1 q 0, B + 1, ?_, c_fx_trans h2 (c_fx_rs hL), c_landx_off z_rs_off (by omega) h3, hw1⟩
          have e3 := r3 (p := q) (b := 0) ht1
          have e1 := r1 (p := q) (b := 0) ht1
          rw [z_B503_27]
          simp (disch := omega) only [h1, if_neg, r4, r2, e3, hq, z_fdC, z_pdC, z_adC, z_sdC, z_lkC, z_ndC, z_gdC, z_mdC, z_cI_some', z_cV_some', z_w_ok, Int.reduceAdd, Int.reduceSub, Int.reduceMul, Int.reduceNeg, Int.reduceEq, Int.reduceLT, Int.reduceLE, Int.reduceNe, reduceIte, true_and, and_true, false_and, and_false, if_true, if_false, ne_eq, not_true_eq_false, not_false_eq_true]
          rw [z_B503_27, if_pos rfl, z_B503_82]
          simp (disch := omega) only [r4, e1, if_pos, z_fdC, z_pdC, z_adC, z_sdC, z_lkC, z_ndC, z_gdC, z_mdC, z_cI_some', z_cV_some', z_w_ok, Int.reduceAdd, Int.reduceSub, Int.reduceMul, Int.reduceNeg, Int.reduceEq, Int.reduceLT, Int.reduceLE, Int.reduceNe, reduceIte, true_and, and_true, false_and, and_false, if_true, if_false, ne_eq, not_true_eq_false, not_false_eq_true]
          rfl
/-- Reader.read -/
theorem c_read (hL : L = 6 ∨ L = 26) {B : Int} (h1 : σ 2 1 = X 0 5) (h3 : ∀ i, 0 ≤ i → i < X 0 5 → σ 3 i = X 18 i) (h5 : 0 ≤ X 0 5 ∧ X 0 5 ≤ 100) (h18 : ∀ i, 0 ≤ i → i < X 0 5 → 0 ≤ X 18 i ∧ X 18 i ≤ 255) (hw : z_wl0 Y B) (hB : B ≤ 900) (hx : c_landx σ L Y) (d : Nat) :
    match z_pText (z_txt X) (X 0 5) 61 0 with
    | .inr l => ∃ σ' B', z_ev z_hcC (d + 6) 503 [z_R 2, z_R L] z_hdC σ = some (z_I l.length, z_hdC, σ') ∧ (∀ a i, (a < L + 1 ∨ L + 19 < a) → a ≠ 2 → σ' a i = σ a i) ∧ σ' 2 1 = σ 2 1 ∧ σ' (L + 1) 3 = σ (L + 1) 3 ∧ c_landx σ' L (z_appl Y l) ∧ z_wl0 (z_appl Y l) B'
    | .inl e => ∃ σ', z_ev z_hcC (d + 6) 503 [z_R 2, z_R L] z_hdC σ = some (z_I (-1 - e), z_hdC, σ') ∧ (∀ a i, (a < L + 1 ∨ L + 19 < a) → a ≠ 2 → σ' a i = σ a i) ∧ σ' 2 1 = σ 2 1 ∧ σ' (L + 1) 3 = σ (L + 1) 3 := by
  let σ1 := z_upd (z_upd (z_upd σ 2 2 0) 2 4 0) 2 3 (if 60 < X 0 5 then 60 else X 0 5)
  have o1 : z_off 2 2 σ σ1 := z_off_trans (z_off_trans (z_off_upd (by omega) (by omega)) (z_off_upd (by omega) (by omega))) (z_off_upd (by omega) (by omega))
  have e1 : σ1 2 1 = σ 2 1 := by show z_upd (z_upd (z_upd σ 2 2 0) 2 4 0) 2 3 _ 2 1 = _; rw [z_upd_ne (by omega), z_upd_ne (by omega), z_upd_ne (by omega)]
  have hc : z_rs σ1 0 0 = σ1 := z_rs_self (by show z_upd (z_upd (z_upd σ 2 2 0) 2 4 0) 2 3 _ 2 2 = _; rw [z_upd_ne (by omega), z_upd_ne (by omega), z_upd_same]) (by show z_upd (z_upd (z_upd σ 2 2 0) 2 4 0) 2 3 _ 2 4 = _; rw [z_upd_ne (by omega), z_upd_same])
  have ht : c_rt σ1 X := ⟨by rw [e1]; exact h1, z_upd_same, fun i i0 i1 => by rw [z_oat o1 (by omega)]; exact h3 i i0 i1, h5, h18⟩
  have key := c_read_go (X := X) (L := L) hL d 61 (σ := σ1) (Y := Y) (p := 0) (k := 0) (B := B) ht hw (by omega) (c_landx_off o1 (by omega) hx) (by omega) (by omega) (by omega)
  have hent : z_ev z_hcC (d + 6) 503 [z_R 2, z_R L] z_hdC σ = z_go (z_ev z_hcC (d + 5)) z_hcC 503 27 [z_R 2, z_R L, z_I 0, z_I 1] [] z_hdC (z_rs σ1 0 0) := by
    rw [hc]
    have e : (z_upd (z_upd σ 2 2 0) 2 4 0) 2 1 = X 0 5 := by rw [z_upd_ne (by omega), z_upd_ne (by omega)]; exact h1
    simp (disch := omega) only [z_E503, e, z_fdC, z_pdC, z_adC, z_sdC, z_lkC, z_ndC, z_gdC, z_mdC, z_cI_some', z_cV_some', z_w_ok, Int.reduceAdd, Int.reduceSub, Int.reduceMul, Int.reduceNeg, Int.reduceEq, Int.reduceLT, Int.reduceLE, Int.reduceNe, reduceIte, true_and, and_true, false_and, and_false, if_true, if_false, ne_eq, not_true_eq_false, not_false_eq_true]
    rfl
  cases g : z_pText (z_txt X) (X 0 5) 61 0 with
  | inl e =>
    rw [g] at key
    obtain ⟨σ', a1, a2⟩ := key
    refine ⟨σ', hent.trans a1, fun a i h1 h2 => ?_, ?_, ?_⟩
    · rw [a2.1 a i h1 (Or.inl h2)]; exact z_oat o1 (by omega)
    · rw [a2.1 _ _ (by omega) (by omega)]; exact e1
    · rw [a2.2]; exact z_oat o1 (by omega)
  | inr l =>
    rw [g] at key
    obtain ⟨σ', B', a1, a2, a3, a4⟩ := key
    refine ⟨σ', B', hent.trans (by rw [a1, Int.zero_add]), fun a i h1 h2 => ?_, ?_, ?_, a3, a4⟩
    · rw [a2.1 a i h1 (Or.inl h2)]; exact z_oat o1 (by omega)
    · rw [a2.1 _ _ (by omega) (by omega)]; exact e1
    · rw [a2.2]; exact z_oat o1 (by omega)
/-- Land.copy -/
theorem c_copy {A : Int} (hA : A = 6 ∧ L = 26 ∨ A = 26 ∧ L = 6) (d : Nat) :
    ∃ σ', z_ev z_hcC (d + 2) 301 [z_R L, z_R A] z_hdC σ = some (z_U, z_hdC, σ') ∧ z_off (L + 1) (L + 19) σ σ' ∧ σ' (L + 1) 0 = σ (A + 1) 0 ∧ σ' (L + 1) 1 = σ (A + 1) 1 ∧ σ' (L + 1) 2 = σ (A + 1) 2 ∧ σ' (L + 1) 3 = σ (A + 1) 3 ∧ σ' (L + 10) 0 = σ (A + 10) 0 ∧
      (∀ c i, ((c = 2 ∨ (4 ≤ c ∧ c ≤ 8)) ∧ 0 ≤ i ∧ i < 14) ∨ ((c = 3 ∨ c = 9) ∧ 0 ≤ i ∧ i < 5) ∨ ((11 ≤ c ∧ c ≤ 19) ∧ 0 ≤ i ∧ i < 8) → σ' (L + c) i = σ (A + c) i) := by
  have hcp : ∀ {β : Type} {σ : z_S} {a b n : Int} {k : z_S → Option β}, z_k z_hdC a = 1 → z_k z_hdC b = 1 → 0 ≤ n → n ≤ z_n z_hdC a → n ≤ z_n z_hdC b → z_cp z_hdC σ a 0 b 0 n k = k (z_cpy σ a 0 b 0 n) := fun {β σ a b n k} h1 h2 h3 h4 h5 => if_pos ⟨h1, h2, by omega, by omega, h3, by omega, by omega⟩
  have cp14 : ∀ {β : Type} {σ : z_S} {k : z_S → Option β} (c : Int), (c = 2 ∨ (4 ≤ c ∧ c ≤ 8)) → z_cp z_hdC σ (A + c) 0 (L + c) 0 14 k = k (z_cpy σ (A + c) 0 (L + c) 0 14) := fun {β σ k} c hc => by
    have : c = 2 ∨ c = 4 ∨ c = 5 ∨ c = 6 ∨ c = 7 ∨ c = 8 := by omega
    rcases hA with ⟨rfl, rfl⟩ | ⟨rfl, rfl⟩ <;> rcases this with rfl | rfl | rfl | rfl | rfl | rfl <;> exact hcp rfl rfl (by omega) (by decide) (by decide)
  have cp5 : ∀ {β : Type} {σ : z_S} {k : z_S → Option β} (c : Int), (c = 3 ∨ c = 9) → z_cp z_hdC σ (A + c) 0 (L + c) 0 5 k = k (z_cpy σ (A + c) 0 (L + c) 0 5) := fun {β σ k} c hc => by
    rcases hA with ⟨rfl, rfl⟩ | ⟨rfl, rfl⟩ <;> rcases hc with rfl | rfl <;> exact hcp rfl rfl (by omega) (by decide) (by decide)
  have cp8 : ∀ {β : Type} {σ : z_S} {k : z_S → Option β} (c : Int), (11 ≤ c ∧ c ≤ 19) → z_cp z_hdC σ (A + c) 0 (L + c) 0 8 k = k (z_cpy σ (A + c) 0 (L + c) 0 8) := fun {β σ k} c hc => by
    have : c = 11 ∨ c = 12 ∨ c = 13 ∨ c = 14 ∨ c = 15 ∨ c = 16 ∨ c = 17 ∨ c = 18 ∨ c = 19 := by omega
    rcases hA with ⟨rfl, rfl⟩ | ⟨rfl, rfl⟩ <;> rcases this with rfl | rfl | rfl | rfl | rfl | rfl | rfl | rfl | rfl <;> exact hcp rfl rfl (by omega) (by decide) (by decide)
  have hAL : (A = 6 ∨ A = 26) ∧ (L = 6 ∨ L = 26) := by omega
  have q2 := fun {β σ k} => cp14 (β := β) (σ := σ) (k := k) 2 (by omega)
  have q4 := fun {β σ k} => cp14 (β := β) (σ := σ) (k := k) 4 (by omega)
  have q5 := fun {β σ k} => cp14 (β := β) (σ := σ) (k := k) 5 (by omega)
  have q6 := fun {β σ k} => cp14 (β := β) (σ := σ) (k := k) 6 (by omega)
  have q7 := fun {β σ k} => cp14 (β := β) (σ := σ) (k := k) 7 (by omega)
  have q8 := fun {β σ k} => cp14 (β := β) (σ := σ) (k := k) 8 (by omega)
  have q3 := fun {β σ k} => cp5 (β := β) (σ := σ) (k := k) 3 (by omega)
  have q9 := fun {β σ k} => cp5 (β := β) (σ := σ) (k := k) 9 (by omega)
  have q11 := fun {β σ k} => cp8 (β := β) (σ := σ) (k := k) 11 (by omega)
  have q12 := fun {β σ k} => cp8 (β := β) (σ := σ) (k := k) 12 (by omega)
  have q13 := fun {β σ k} => cp8 (β := β) (σ := σ) (k := k) 13 (by omega)
  have q14 := fun {β σ k} => cp8 (β := β) (σ := σ) (k := k) 14 (by omega)
  have q15 := fun {β σ k} => cp8 (β := β) (σ := σ) (k := k) 15 (by omega)
  have q16 := fun {β σ k} => cp8 (β := β) (σ := σ) (k := k) 16 (by omega)
  have q17 := fun {β σ k} => cp8 (β := β) (σ := σ) (k := k) 17 (by omega)
  have q18 := fun {β σ k} => cp8 (β := β) (σ := σ) (k := k) 18 (by omega)
  have q19 := fun {β σ k} => cp8 (β := β) (σ := σ) (k := k) 19 (by omega)
  let σ1 := z_cpy (z_cpy (z_cpy (z_cpy (z_cpy (z_cpy (z_cpy (z_cpy (z_upd (z_upd (z_upd (z_upd σ (L + 1) 0 (σ (A + 1) 0)) (L + 1) 1 (σ (A + 1) 1)) (L + 1) 2 (σ (A + 1) 2)) (L + 1) 3 (σ (A + 1) 3)) (A + 2) 0 (L + 2) 0 14) (A + 3) 0 (L + 3) 0 5) (A + 4) 0 (L + 4) 0 14) (A + 5) 0 (L + 5) 0 14) (A + 6) 0 (L + 6) 0 14) (A + 7) 0 (L + 7) 0 14) (A + 8) 0 (L + 8) 0 14) (A + 9) 0 (L + 9) 0 5
  let σ2 := z_cpy (z_cpy (z_cpy (z_cpy (z_cpy (z_cpy (z_cpy (z_cpy (z_cpy (z_upd σ1 (L + 10) 0 (σ1 (A + 10) 0)) (A + 11) 0 (L + 11) 0 8) (A + 12) 0 (L + 12) 0 8) (A + 13) 0 (L + 13) 0 8) (A + 14) 0 (L + 14) 0 8) (A + 15) 0 (L + 15) 0 8) (A + 16) 0 (L + 16) 0 8) (A + 17) 0 (L + 17) 0 8) (A + 18) 0 (L + 18) 0 8) (A + 19) 0 (L + 19) 0 8
  have ne : ∀ {σ : z_S} {s d n b j : Int}, b ≠ d → z_cpy σ s 0 d 0 n b j = σ b j := fun {σ s d n b j} h => by rw [z_cpy_at, if_neg (fun z => h z.1)]
  have sm : ∀ {σ : z_S} {s d n j : Int}, 0 ≤ j → j < n → z_cpy σ s 0 d 0 n d j = σ s j := fun {σ s d n j} h0 h1 => by rw [z_cpy_at, if_pos ⟨rfl, h0, by omega⟩, Int.sub_zero, Int.zero_add]
  refine ⟨σ2, ?_, ?_, ?_, ?_, ?_, ?_, ?_, ?_⟩
  · have f1 : z_ev z_hcC (d + 1) 601 [z_R (L + 1), z_R (A + 1)] z_hdC σ = some (z_U, z_hdC, σ1) := by
      simp (disch := omega) only [z_E601, c_LC hAL.1, c_LC hAL.2, z_upd_at, if_neg, q2, q3, q4, q5, q6, q7, q8, q9, z_fdC, z_pdC, z_adC, z_sdC, z_lkC, z_ndC, z_gdC, z_mdC, z_cI_some', z_cV_some', z_w_ok, Int.reduceAdd, Int.reduceSub, Int.reduceMul, Int.reduceNeg, Int.reduceEq, Int.reduceLT, Int.reduceLE, Int.reduceNe, reduceIte, true_and, and_true, false_and, and_false, if_true, if_false, ne_eq, not_true_eq_false, not_false_eq_true]
      rfl
    have f2 : z_ev z_hcC (d + 1) 201 [z_R (L + 10), z_R (A + 10)] z_hdC σ1 = some (z_U, z_hdC, σ2) := by
      simp (disch := omega) only [z_E201, c_LC hAL.1, c_LC hAL.2, q11, q12, q13, q14, q15, q16, q17, q18, q19, z_fdC, z_pdC, z_adC, z_sdC, z_lkC, z_ndC, z_gdC, z_mdC, z_cI_some', z_cV_some', z_w_ok, Int.reduceAdd, Int.reduceSub, Int.reduceMul, Int.reduceNeg, Int.reduceEq, Int.reduceLT, Int.reduceLE, Int.reduceNe, reduceIte, true_and, and_true, false_and, and_false, if_true, if_false, ne_eq, not_true_eq_false, not_false_eq_true]
      rfl
    simp (disch := omega) only [z_E301, c_LC hAL.1, c_LC hAL.2, f1, f2, z_fdC, z_pdC, z_adC, z_sdC, z_lkC, z_ndC, z_gdC, z_mdC, z_cI_some', z_cV_some', z_w_ok, Int.reduceAdd, Int.reduceSub, Int.reduceMul, Int.reduceNeg, Int.reduceEq, Int.reduceLT, Int.reduceLE, Int.reduceNe, reduceIte, true_and, and_true, false_and, and_false, if_true, if_false, ne_eq, not_true_eq_false, not_false_eq_true]
  · intro a i ha
    show z_cpy _ _ _ _ _ _ a i = _
    simp (disch := omega) only [σ2, σ1, ne, z_upd_ne]
  · simp (disch := omega) only [σ2, σ1, ne, z_upd_ne]; exact z_upd_same
  · simp (disch := omega) only [σ2, σ1, ne, z_upd_ne]; exact z_upd_same
  · simp (disch := omega) only [σ2, σ1, ne, z_upd_ne]; exact z_upd_same
  · simp (disch := omega) only [σ2, σ1, ne, z_upd_ne]; exact z_upd_same
  · simp (disch := omega) only [σ2, σ1, ne, z_upd_ne]
    rw [z_upd_same]
  · intro c i hc
    have : c = 2 ∨ c = 3 ∨ c = 4 ∨ c = 5 ∨ c = 6 ∨ c = 7 ∨ c = 8 ∨ c = 9 ∨ c = 11 ∨ c = 12 ∨ c = 13 ∨ c = 14 ∨ c = 15 ∨ c = 16 ∨ c = 17 ∨ c = 18 ∨ c = 19 := by omega
    rcases this with rfl | rfl | rfl | rfl | rfl | rfl | rfl | rfl | rfl | rfl | rfl | rfl | rfl | rfl | rfl | rfl | rfl <;> simp (disch := omega) only [σ2, σ1, ne, sm, z_upd_ne]
end
