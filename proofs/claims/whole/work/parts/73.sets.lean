/-! The reference: sets of tolls. -/
section
variable {σ X : z_S} {t : Int → Int}
/-- keep -/
theorem m_keep (d : Nat) : ∃ σ', z_ev z_hcM (d + 1) 1247 [z_R 1] z_hdM σ = some (z_U, z_hdM, σ') ∧ (∀ a i, a ≠ 44 → σ' a i = σ a i) ∧ ∀ k, 0 ≤ k → k < 5 → σ' 44 k = σ 8 k := by
  have go : ∀ (j k : Nat) (σ : z_S), k + j = 5 → ∃ σ', z_go (z_ev z_hcM d) z_hcM 1247 2 [z_R 1, z_I k] [] z_hdM σ = some (z_U, z_hdM, σ') ∧ (∀ a i : Int, (a ≠ 44 ∨ i < (k : Int)) → σ' a i = σ a i) ∧ ∀ i, (k : Int) ≤ i → i < 5 → σ' 44 i = σ 8 i := by
    intro j
    induction j with
    | zero =>
      intro k σ hk
      refine ⟨σ, ?_, fun _ _ _ => rfl, fun i h0 h1 => absurd h1 (by omega)⟩
      rw [z_B1247_2, if_pos (by omega)]
    | succ j ih =>
      intro k σ hk
      obtain ⟨σ', g1, g2, g3⟩ := ih (k + 1) (z_upd σ 44 k (σ 8 k)) (by omega)
      have e1 : ((k + 1 : Nat) : Int) = (k : Int) + 1 := by omega
      rw [e1] at g1
      refine ⟨σ', ?_, fun a i h => by rw [g2 a i (by omega), z_upd_ne (by omega)], fun i i0 i1 => ?_⟩
      · rw [z_B1247_2, if_neg (by omega)]
        simp (disch := omega) only [if_neg, z_fdM, z_pdM, z_adM, z_sdM, z_lkM, z_ndM, z_gdM, z_cI_some', z_cV_some', z_w_ok, Int.reduceAdd, Int.reduceSub, Int.reduceMul, Int.reduceNeg, Int.reduceEq, Int.reduceLT, Int.reduceLE, Int.reduceNe, reduceIte, true_and, and_true, false_and, and_false, if_true, if_false, ne_eq, not_true_eq_false, not_false_eq_true]
        exact g1
      · by_cases c : i = k
        · rw [g2 _ _ (by omega), c, z_upd_same]
        · rw [g3 i (by omega) i1, z_upd_ne (by omega)]
  obtain ⟨σ', g1, g2, g3⟩ := go 5 0 σ (by omega)
  exact ⟨σ', by rw [z_E1247]; exact g1, fun a i h => g2 a i (Or.inl h), fun k k0 k1 => g3 k (by omega) k1⟩
/-- putBack -/
theorem m_putBack (d : Nat) (h : ∀ k, 0 ≤ k → k < 5 → σ 44 k = t k) : ∃ σ', z_ev z_hcM (d + 1) 1248 [z_R 1] z_hdM σ = some (z_U, z_hdM, σ') ∧ (∀ a i, a ≠ 8 → σ' a i = σ a i) ∧ m_t σ' t := by
  have go : ∀ (j k : Nat) (σ : z_S), k + j = 5 → (∀ k, 0 ≤ k → k < 5 → σ 44 k = t k) → ∃ σ', z_go (z_ev z_hcM d) z_hcM 1248 2 [z_R 1, z_I k] [] z_hdM σ = some (z_U, z_hdM, σ') ∧ (∀ a i : Int, (a ≠ 8 ∨ i < (k : Int)) → σ' a i = σ a i) ∧ ∀ i, (k : Int) ≤ i → i < 5 → σ' 8 i = t i := by
    intro j
    induction j with
    | zero =>
      intro k σ hk h
      refine ⟨σ, ?_, fun _ _ _ => rfl, fun i h0 h1 => absurd h1 (by omega)⟩
      rw [z_B1248_2, if_pos (by omega)]
    | succ j ih =>
      intro k σ hk h
      have hk1 := h k (by omega) (by omega)
      obtain ⟨σ', g1, g2, g3⟩ := ih (k + 1) (z_upd σ 8 k (t k)) (by omega) (fun i i0 i1 => by rw [z_upd_ne (by omega)]; exact h i i0 i1)
      have e1 : ((k + 1 : Nat) : Int) = (k : Int) + 1 := by omega
      rw [e1] at g1
      refine ⟨σ', ?_, fun a i h => by rw [g2 a i (by omega), z_upd_ne (by omega)], fun i i0 i1 => ?_⟩
      · rw [z_B1248_2, if_neg (by omega)]
        simp (disch := omega) only [if_neg, hk1, z_fdM, z_pdM, z_adM, z_sdM, z_lkM, z_ndM, z_gdM, z_cI_some', z_cV_some', z_w_ok, Int.reduceAdd, Int.reduceSub, Int.reduceMul, Int.reduceNeg, Int.reduceEq, Int.reduceLT, Int.reduceLE, Int.reduceNe, reduceIte, true_and, and_true, false_and, and_false, if_true, if_false, ne_eq, not_true_eq_false, not_false_eq_true]
        exact g1
      · by_cases c : i = k
        · rw [g2 _ _ (by omega), c, z_upd_same]
        · exact g3 i (by omega) i1
  obtain ⟨σ', g1, g2, g3⟩ := go 5 0 σ (by omega) h
  exact ⟨σ', by rw [z_E1248]; exact g1, fun a i h => g2 a i (Or.inl h), fun k k0 k1 => g3 k (by omega) k1⟩
/-- the slots that are moved -/
def m_pls (σ : z_S) (mv n : Int) : Prop := σ 1 56 = (z_cnt mv n.toNat : Int) ∧ ∀ k : Nat, (k : Int) < n → z_bt mv k = true → σ 43 (z_cnt mv k : Int) = k
theorem z_cnt_s {S : Int} {n : Nat} : z_cnt S (n + 1) = z_cnt S n + if z_bt S n then 1 else 0 := rfl
theorem z_cnt_mono {S : Int} {a : Nat} : ∀ {b : Nat}, a ≤ b → z_cnt S a ≤ z_cnt S b
  | 0, h => by rw [show a = 0 by omega]; exact Nat.le_refl _
  | b + 1, h => by
    by_cases e : a = b + 1
    · rw [e]; exact Nat.le_refl _
    · have := z_cnt_mono (S := S) (a := a) (b := b) (by omega)
      have h2 := z_cnt_s (S := S) (n := b)
      omega
theorem z_cnt_le' {S : Int} (n : Nat) : z_cnt S n ≤ n := by
  induction n with
  | zero => exact Nat.le_refl 0
  | succ n ih => rw [z_cnt_s (n := n)]; split <;> omega
/-- lay -/
theorem m_lay (d : Nat) (hw : z_wf X) (hl : m_land σ X) (ht : m_t σ t) {h free mv : Int} (hf : 0 ≤ free ∧ free < 32) (hmv : ∀ k : Nat, (k : Int) < X 0 1 → z_bt mv k = (decide (X 5 (X 6 k) = h) && !z_bt free k)) :
    ∃ σ', z_ev z_hcM (d + 1) 1249 [z_R 1, z_I h, z_I free] z_hdM σ = some (z_U, z_hdM, σ') ∧ (∀ a i, a ≠ 8 → a ≠ 43 → (a ≠ 1 ∨ i ≠ 56) → σ' a i = σ a i) ∧ m_t σ' (fun k => if k < X 0 1 ∧ X 5 (X 6 k) = h then 0 else t k) ∧ m_pls σ' mv (X 0 1) := by
  have hn := hw.2.1
  have hnR := hw.1
  have htol := hw.2.2.2.2.2.2.2.2.1
  have go : ∀ (j k : Nat) (σ : z_S), (k : Int) + j = X 0 1 → m_land σ X → (∀ i, 0 ≤ i → i < 5 → σ 8 i = if i < k ∧ X 5 (X 6 i) = h then 0 else t i) → m_pls σ mv k →
      ∃ σ', z_go (z_ev z_hcM d) z_hcM 1249 7 [z_R 1, z_I h, z_I free, z_I k] [] z_hdM σ = some (z_U, z_hdM, σ') ∧ (∀ a i, a ≠ 8 → a ≠ 43 → (a ≠ 1 ∨ i ≠ 56) → σ' a i = σ a i) ∧ m_t σ' (fun k => if k < X 0 1 ∧ X 5 (X 6 k) = h then 0 else t k) ∧ m_pls σ' mv (X 0 1) := by
    intro j
    induction j with
    | zero =>
      intro k σ hk hl ht hp
      obtain ⟨⟨l1, l2, l3, l4⟩, l5, l6, l7⟩ := hl
      have ek : (k : Int) = X 0 1 := by omega
      rw [ek] at ht hp
      refine ⟨σ, ?_, fun _ _ _ _ _ => rfl, ht, hp⟩
      rw [z_B1249_7]
      simp (disch := omega) only [if_pos, l2, z_fdM, z_pdM, z_adM, z_sdM, z_lkM, z_ndM, z_gdM, z_cI_some', z_cV_some', z_w_ok, Int.reduceAdd, Int.reduceSub, Int.reduceMul, Int.reduceNeg, Int.reduceEq, Int.reduceLT, Int.reduceLE, Int.reduceNe, reduceIte, true_and, and_true, false_and, and_false, if_true, if_false, ne_eq, not_true_eq_false, not_false_eq_true]
    | succ j ih =>
      intro k σ hk hl ht hp
      have hl0 := hl
      obtain ⟨⟨l1, l2, l3, l4⟩, l5, l6, l7⟩ := hl
      have hto := htol k (by omega) (by omega)
      have e6 := l6 k (by omega) (by omega)
      have e5 := (l5 (X 6 k) hto.1 hto.2.1).2.2.2.2
      have e1 : ((k + 1 : Nat) : Int) = (k : Int) + 1 := by omega
      have hbit := z_bit (m := free) (k := (k : Int)) hf.1 (by omega) (by omega) (by omega)
      have hmk := hmv k (by omega)
      obtain ⟨p1, p2⟩ := hp
      rw [Int.toNat_natCast] at p1
      have hcl := z_cnt_le' (S := mv) k
      have hcs := z_cnt_s (S := mv) (n := k)
      have hlt : ∀ i : Nat, (i : Int) < k → z_bt mv i = true → z_cnt mv i < z_cnt mv k := fun i hi hb => by
        have := z_cnt_mono (S := mv) (a := i + 1) (b := k) (by omega)
        rw [z_cnt_s, hb] at this
        simp at this
        omega
      rw [z_B1249_7]
      by_cases ch : X 5 (X 6 k) = h
      · by_cases cf : z_bt free k = true
        · rw [cf, if_pos rfl] at hbit
          have hmf : z_bt mv k = false := by rw [hmk, cf]; simp
          rw [hmf] at hcs
          obtain ⟨σ', g1, g2, g3⟩ := ih (k + 1) (z_upd σ 8 k 0) (by omega) (m_land_off (b := 99) (lo := 50) (hi := 49) (m_off_upd (by omega)) (by omega) (by omega) hl0) (fun i i0 i1 => by
            by_cases c : i = k
            · rw [c, z_upd_same, if_pos ⟨by omega, ch⟩]
            · rw [z_upd_ne (by omega), ht i i0 i1]
              by_cases c2 : i < k ∧ X 5 (X 6 i) = h
              · rw [if_pos c2, if_pos ⟨by omega, c2.2⟩]
              · rw [if_neg c2, if_neg (fun hh => c2 ⟨by omega, hh.2⟩)]) ⟨by rw [z_upd_ne (by omega), Int.toNat_natCast, hcs]; simpa using p1, fun i hi hb => by
            rw [z_upd_ne (by omega)]
            by_cases c : i = k
            · rw [c, hmf] at hb; cases hb
            · exact p2 i (by omega) hb⟩
          rw [e1] at g1
          refine ⟨σ', ?_, fun a i h1 h2 h3 => by rw [g2 a i h1 h2 h3, z_upd_ne (by omega)], g3⟩
          simp (disch := omega) only [if_neg, if_pos, l2, e6, e5, ch, hbit, z_fdM, z_pdM, z_adM, z_sdM, z_lkM, z_ndM, z_gdM, z_cI_some', z_cV_some', z_w_ok, Int.reduceAdd, Int.reduceSub, Int.reduceMul, Int.reduceNeg, Int.reduceEq, Int.reduceLT, Int.reduceLE, Int.reduceNe, reduceIte, true_and, and_true, false_and, and_false, if_true, if_false, ne_eq, not_true_eq_false, not_false_eq_true]
          exact g1
        · have cf' : z_bt free k = false := by simpa using cf
          rw [if_neg cf] at hbit
          have hmf : z_bt mv k = true := by rw [hmk, cf', ch]; simp
          rw [hmf, if_pos rfl] at hcs
          obtain ⟨σ', g1, g2, g3⟩ := ih (k + 1) (z_upd (z_upd (z_upd σ 8 k 0) 1 56 ((z_cnt mv k : Int) + 1)) 43 (z_cnt mv k : Int) k) (by omega) (m_land_off (b := 56) (lo := 43) (hi := 43) (m_off_trans (m_off_upd (by omega)) (m_off_trans (m_off_upd (by omega)) (m_off_upd (by omega)))) (by omega) (by omega) hl0) (fun i i0 i1 => by
            rw [z_upd_ne (by omega), z_upd_ne (by omega)]
            by_cases c : i = k
            · rw [c, z_upd_same, if_pos ⟨by omega, ch⟩]
            · rw [z_upd_ne (by omega), ht i i0 i1]
              by_cases c2 : i < k ∧ X 5 (X 6 i) = h
              · rw [if_pos c2, if_pos ⟨by omega, c2.2⟩]
              · rw [if_neg c2, if_neg (fun hh => c2 ⟨by omega, hh.2⟩)]) ⟨by rw [z_upd_ne (by omega), z_upd_same, Int.toNat_natCast, hcs]; omega, fun i hi hb => by
            by_cases c : i = k
            · rw [c, z_upd_same]
            · have := hlt i (by omega) hb
              rw [z_upd_ne (by omega), z_upd_ne (by omega), z_upd_ne (by omega)]
              exact p2 i (by omega) hb⟩
          rw [e1] at g1
          refine ⟨σ', ?_, fun a i h1 h2 h3 => by rw [g2 a i h1 h2 h3, z_upd_ne (by omega), z_upd_ne (by omega), z_upd_ne (by omega)], g3⟩
          simp (disch := omega) only [if_neg, if_pos, l2, e6, e5, ch, hbit, p1, z_upd_at, z_fdM, z_pdM, z_adM, z_sdM, z_lkM, z_ndM, z_gdM, z_cI_some', z_cV_some', z_w_ok, Int.reduceAdd, Int.reduceSub, Int.reduceMul, Int.reduceNeg, Int.reduceEq, Int.reduceLT, Int.reduceLE, Int.reduceNe, reduceIte, true_and, and_true, false_and, and_false, if_true, if_false, ne_eq, not_true_eq_false, not_false_eq_true]
          exact g1
      · have hmf : z_bt mv k = false := by rw [hmk]; simp [ch]
        rw [hmf] at hcs
        obtain ⟨σ', g1, g2, g3⟩ := ih (k + 1) σ (by omega) hl0 (fun i i0 i1 => by
            rw [ht i i0 i1]
            by_cases c : i = k
            · rw [c, if_neg (fun hh => ch hh.2), if_neg (fun hh => ch hh.2)]
            · by_cases c2 : i < k ∧ X 5 (X 6 i) = h
              · rw [if_pos c2, if_pos ⟨by omega, c2.2⟩]
              · rw [if_neg c2, if_neg (fun hh => c2 ⟨by omega, hh.2⟩)]) ⟨by rw [Int.toNat_natCast, hcs]; simpa using p1, fun i hi hb => by
            by_cases c : i = k
            · rw [c, hmf] at hb; cases hb
            · exact p2 i (by omega) hb⟩
        rw [e1] at g1
        refine ⟨σ', ?_, g2, g3⟩
        simp (disch := omega) only [if_neg, if_pos, l2, e6, e5, ch, z_fdM, z_pdM, z_adM, z_sdM, z_lkM, z_ndM, z_gdM, z_cI_some', z_cV_some', z_w_ok, Int.reduceAdd, Int.reduceSub, Int.reduceMul, Int.reduceNeg, Int.reduceEq, Int.reduceLT, Int.reduceLE, Int.reduceNe, reduceIte, true_and, and_true, false_and, and_false, if_true, if_false, ne_eq, not_true_eq_false, not_false_eq_true]
        exact g1
  obtain ⟨σ', g1, g2, g3⟩ := go (X 0 1).toNat 0 (z_upd σ 1 56 0) (by omega) (m_land_off (b := 56) (lo := 43) (hi := 43) (m_off_upd (by omega)) (by omega) (by omega) hl) (fun i i0 i1 => by rw [z_upd_ne (by omega), if_neg (fun hh => absurd hh.1 (by omega))]; exact ht i i0 i1) ⟨z_upd_same, fun k hk => absurd hk (by omega)⟩
  refine ⟨σ', ?_, fun a i h1 h2 h3 => by rw [g2 a i h1 h2 h3, z_upd_ne (by omega)], g3⟩
  rw [z_E1249]
  simp (disch := omega) only [if_pos, z_fdM, z_pdM, z_adM, z_sdM, z_lkM, z_ndM, z_gdM, z_cI_some', z_cV_some', z_w_ok, Int.reduceAdd, Int.reduceSub, Int.reduceMul, Int.reduceNeg, Int.reduceEq, Int.reduceLT, Int.reduceLE, Int.reduceNe, reduceIte, true_and, and_true, false_and, and_false, if_true, if_false, ne_eq, not_true_eq_false, not_false_eq_true]
  exact g1
/-- all the slots moved stand at the top -/
def z_ov (mv cp : Int) (t : Int → Int) : Nat → Bool
  | 0 => true
  | n + 1 => if z_bt mv n then decide (t n = cp) && z_ov mv cp t n else z_ov mv cp t n
theorem z_ov_congr {mv cp : Int} {t t' : Int → Int} : ∀ {n : Nat}, (∀ k : Int, 0 ≤ k → k < n → t k = t' k) → z_ov mv cp t n = z_ov mv cp t' n
  | 0, _ => rfl
  | n + 1, h => by
    unfold z_ov
    rw [h n (by omega) (by omega), z_ov_congr (fun k k0 k1 => h k k0 (by omega))]
theorem z_ov_pl {mv cp : Int} {t : Int → Int} (hc : 0 ≤ cp) (ht : z_dgc mv cp t) : ∀ {n : Nat}, n ≤ 5 → (z_ov mv cp t n = true ↔ z_pl mv cp t n + 1 = (cp + 1) ^ z_cnt mv n)
  | 0, _ => by unfold z_ov z_pl z_cnt; simp
  | n + 1, h => by
    have ih := z_ov_pl hc ht (n := n) (by omega)
    have hr := z_pl_rng' hc ht (n := n) (by omega)
    unfold z_ov z_pl z_cnt
    by_cases hb : z_bt mv n = true
    · have hd := ht n (by omega) (by omega) hb
      rw [if_pos hb, if_pos hb, if_pos hb, Int.pow_succ, Bool.and_eq_true, decide_eq_true_eq, ih]
      generalize (cp + 1) ^ z_cnt mv n = P at *
      generalize z_pl mv cp t n = p at *
      by_cases he : t n = cp
      · rw [he]
        have e : p * (cp + 1) + cp + 1 = (p + 1) * (cp + 1) := by rw [Int.add_mul]; omega
        rw [e]
        constructor
        · rintro ⟨-, h⟩; rw [h]
        · intro h
          exact ⟨rfl, Int.eq_of_mul_eq_mul_right (by omega) h⟩
      · have e : (p + 1) * (cp + 1) = p * (cp + 1) + cp + 1 := by rw [Int.add_mul]; omega
        have hle : (p + 1) * (cp + 1) ≤ P * (cp + 1) := Int.mul_le_mul_of_nonneg_right (by omega) (by omega)
        constructor
        · rintro ⟨h, -⟩; exact absurd h he
        · intro h; omega
    · rw [if_neg hb, if_neg hb, if_neg hb, Nat.add_zero]
      exact ih
/-- next -/
theorem m_next (d : Nat) {mv cp n : Int} (hn : 0 ≤ n ∧ n ≤ 5) (hmv : mv < ((2 ^ n.toNat : Nat) : Int)) (ht : m_t σ t) (ht20 : c_t20 t) (hp : m_pls σ mv n) (hd : z_dgc mv cp t) :
    ∃ σ', z_ev z_hcM (d + 1) 1250 [z_R 1, z_I cp] z_hdM σ = some (z_I (if z_ov mv cp t 5 = true then 0 else 1), z_hdM, σ') ∧ (∀ a i, a ≠ 8 → σ' a i = σ a i) ∧ m_t σ' (z_inc mv cp 5 t) := by
  have go : ∀ (k : Nat) (σ : z_S) (t : Int → Int), (k : Int) ≤ n → m_t σ t → c_t20 t → m_pls σ mv n → z_dgc mv cp t →
      ∃ σ', z_go (z_ev z_hcM d) z_hcM 1250 7 [z_R 1, z_I cp, z_I ((z_cnt mv k : Int) - 1)] [] z_hdM σ = some (z_I (if z_ov mv cp t k = true then 0 else 1), z_hdM, σ') ∧ (∀ a i, a ≠ 8 → σ' a i = σ a i) ∧ m_t σ' (z_inc mv cp k t) := by
    intro k
    induction k with
    | zero =>
      intro σ t hk ht ht20 hp hd
      refine ⟨σ, ?_, fun _ _ _ => rfl, ht⟩
      rw [z_B1250_7, if_pos (by unfold z_cnt; omega), z_B1250_44, if_neg (by unfold z_cnt; omega)]
      unfold z_ov
      rw [if_pos rfl]
    | succ k ih =>
      intro σ t hk ht ht20 hp hd
      have hcs := z_cnt_s (S := mv) (n := k)
      have hcl := z_cnt_le' (S := mv) k
      by_cases hb : z_bt mv k = true
      · rw [hb, if_pos rfl] at hcs
        have e43 := hp.2 k (by omega) hb
        have e8 := ht k (by omega) (by omega)
        have hdk := hd k (by omega) (by omega) hb
        have t20 := ht20 k (by omega) (by omega)
        have ei : ((z_cnt mv (k + 1) : Nat) : Int) - 1 = (z_cnt mv k : Int) := by omega
        rw [ei]
        have eov : z_ov mv cp t (k + 1) = (decide (t k = cp) && z_ov mv cp t k) := by
          show (if z_bt mv k = true then _ else _) = _
          rw [if_pos hb]
        have einc : z_inc mv cp (k + 1) t = if t k < cp then (fun i : Int => if i = (k : Int) then t k + 1 else t i) else z_inc mv cp k (fun i : Int => if i = (k : Int) then 0 else t i) := by
          show (if z_bt mv k = true then _ else _) = _
          rw [if_pos hb]
        by_cases c : t k = cp
        · have hcong : z_ov mv cp (fun i => if i = (k : Int) then 0 else t i) k = z_ov mv cp t k := z_ov_congr (fun i i0 i1 => by
            show (if i = (k : Int) then 0 else t i) = t i
            rw [if_neg (by omega)])
          obtain ⟨σ', g1, g2, g3⟩ := ih (z_upd σ 8 k 0) (fun i => if i = k then 0 else t i) (by omega) (fun i i0 i1 => by
            show _ = if i = (k : Int) then 0 else t i
            by_cases c2 : i = k
            · rw [c2, z_upd_same, if_pos rfl]
            · rw [z_upd_ne (by omega), if_neg c2]; exact ht i i0 i1) (fun i i0 i1 => by
            show 0 ≤ (if i = (k : Int) then 0 else t i) ∧ (if i = (k : Int) then 0 else t i) ≤ 20
            have := ht20 i i0 i1
            split <;> omega) ⟨by rw [z_upd_ne (by omega)]; exact hp.1, fun i hi hb => by rw [z_upd_ne (by omega)]; exact hp.2 i hi hb⟩ (fun i i0 i1 hb => by
            show 0 ≤ (if i = (k : Int) then 0 else t i) ∧ (if i = (k : Int) then 0 else t i) ≤ cp
            have := hd i i0 i1 hb
            split <;> omega)
          refine ⟨σ', ?_, fun a i h => by rw [g2 a i h, z_upd_ne (by omega)], by rw [einc, if_neg (by omega)]; exact g3⟩
          rw [eov, c, decide_eq_true rfl, Bool.true_and, ← hcong]
          rw [z_B1250_7]
          simp (disch := omega) only [if_neg, e43, e8, c, z_fdM, z_pdM, z_adM, z_sdM, z_lkM, z_ndM, z_gdM, z_cI_some', z_cV_some', z_w_ok, Int.reduceAdd, Int.reduceSub, Int.reduceMul, Int.reduceNeg, Int.reduceEq, Int.reduceLT, Int.reduceLE, Int.reduceNe, reduceIte, true_and, and_true, false_and, and_false, if_true, if_false, ne_eq, not_true_eq_false, not_false_eq_true]
          exact g1
        · refine ⟨z_upd σ 8 k (t k + 1), ?_, fun a i h => z_upd_ne (by omega), fun i i0 i1 => ?_⟩
          · rw [eov, decide_eq_false c, Bool.false_and, if_neg (by simp)]
            rw [z_B1250_7]
            simp (disch := omega) only [if_neg, e43, e8, c, z_B1250_44, if_pos, z_fdM, z_pdM, z_adM, z_sdM, z_lkM, z_ndM, z_gdM, z_cI_some', z_cV_some', z_w_ok, Int.reduceAdd, Int.reduceSub, Int.reduceMul, Int.reduceNeg, Int.reduceEq, Int.reduceLT, Int.reduceLE, Int.reduceNe, reduceIte, true_and, and_true, false_and, and_false, if_true, if_false, ne_eq, not_true_eq_false, not_false_eq_true]
          · rw [einc, if_pos (by omega)]
            show _ = if i = (k : Int) then t k + 1 else t i
            by_cases c2 : i = k
            · rw [c2, z_upd_same, if_pos rfl]
            · rw [z_upd_ne (by omega), if_neg c2]; exact ht i i0 i1
      · have hb' : z_bt mv k = false := by simpa using hb
        rw [hb'] at hcs
        have e0 : z_cnt mv (k + 1) = z_cnt mv k := by simpa using hcs
        have eov : z_ov mv cp t (k + 1) = z_ov mv cp t k := by
          show (if z_bt mv k = true then _ else _) = _
          rw [if_neg hb]
        have einc : z_inc mv cp (k + 1) t = z_inc mv cp k t := by
          show (if z_bt mv k = true then _ else _) = _
          rw [if_neg hb]
        rw [e0, eov, einc]
        exact ih σ t (by omega) ht ht20 hp hd
  have htop : ∀ k : Nat, n ≤ k → z_bt mv k = false := fun k hk => by
    unfold z_bt
    refine Nat.testBit_lt_two_pow (Nat.lt_of_lt_of_le (show mv.toNat < 2 ^ n.toNat from ?_) (Nat.pow_le_pow_right (by omega) (by omega)))
    have : 0 < 2 ^ n.toNat := Nat.pow_pos (by omega)
    omega
  have hup : ∀ (j : Nat), n.toNat + j ≤ 5 → z_ov mv cp t (n.toNat + j) = z_ov mv cp t n.toNat ∧ z_inc mv cp (n.toNat + j) t = z_inc mv cp n.toNat t := by
    intro j
    induction j with
    | zero => intro _; exact ⟨rfl, rfl⟩
    | succ j ih =>
      intro hj
      have hb := htop (n.toNat + j) (by omega)
      obtain ⟨i1, i2⟩ := ih (by omega)
      constructor
      · show (if z_bt mv ((n.toNat + j : Nat) : Int) = true then _ else _) = _
        rw [if_neg (by rw [hb]; simp)]; exact i1
      · show (if z_bt mv ((n.toNat + j : Nat) : Int) = true then _ else _) = _
        rw [if_neg (by rw [hb]; simp)]; exact i2
  obtain ⟨u1, u2⟩ := hup (5 - n.toNat) (by omega)
  rw [show n.toNat + (5 - n.toNat) = 5 by omega] at u1 u2
  obtain ⟨σ', g1, g2, g3⟩ := go n.toNat σ t (by omega) ht ht20 hp hd
  have hcl := z_cnt_le' (S := mv) n.toNat
  refine ⟨σ', ?_, g2, by rw [u2]; exact g3⟩
  rw [z_E1250, u1]
  have e56 := hp.1
  simp (disch := omega) only [e56, z_fdM, z_pdM, z_adM, z_sdM, z_lkM, z_ndM, z_gdM, z_cI_some', z_cV_some', z_w_ok, Int.reduceAdd, Int.reduceSub, Int.reduceMul, Int.reduceNeg, Int.reduceEq, Int.reduceLT, Int.reduceLE, Int.reduceNe, reduceIte, true_and, and_true, false_and, and_false, if_true, if_false, ne_eq, not_true_eq_false, not_false_eq_true]
  exact g1
end
