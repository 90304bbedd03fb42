/-- all stands but for cells lo to hi, counts from b on, and the tolls, of which this doesn't speak -/
def m_off (b lo hi : Int) (σ σ' : z_S) : Prop := ∀ a i : Int, a ≠ 8 → (a < lo ∨ hi < a) → (a ≠ 1 ∨ i < b) → σ' a i = σ a i
def m_t (σ : z_S) (t : Int → Int) : Prop := ∀ k : Int, 0 ≤ k → k < 5 → σ 8 k = t k
section
variable {b lo hi b' lo' hi' : Int} {σ σ' σ'' : z_S}
theorem m_off_refl : m_off b lo hi σ σ := fun _ _ _ _ _ => rfl
theorem m_off_trans (h : m_off b lo hi σ σ') (h' : m_off b lo hi σ' σ'') : m_off b lo hi σ σ'' := fun a i h1 h2 h3 => (h' a i h1 h2 h3).trans (h a i h1 h2 h3)
theorem m_off_le (h : m_off b lo hi σ σ') (h1 : lo' ≤ lo) (h2 : hi ≤ hi') (h3 : b' ≤ b) : m_off b' lo' hi' σ σ' := fun a i g1 g2 g3 => h a i g1 (by omega) (by omega)
theorem m_off_upd {a i v : Int} (h1 : (lo ≤ a ∧ a ≤ hi) ∨ a = 8 ∨ (a = 1 ∧ b ≤ i)) : m_off b lo hi σ (z_upd σ a i v) := fun c j g1 g2 g3 => by
  rw [z_upd_ne (by omega)]
theorem m_at (h : m_off b lo hi σ σ') {a i : Int} (h1 : a ≠ 8 ∧ (a < lo ∨ hi < a) ∧ (a ≠ 1 ∨ i < b)) : σ' a i = σ a i := h a i h1.1 h1.2.1 h1.2.2
end
/-- the land that the reference holds, but for its tolls -/
def m_land (σ X : z_S) : Prop :=
  (σ 1 5 = X 0 0 ∧ σ 1 8 = X 0 1 ∧ σ 1 9 = X 0 3 ∧ σ 1 20 = X 0 2) ∧
  (∀ r, 0 ≤ r → r < X 0 0 → σ 2 r = X 1 r ∧ σ 3 r = X 2 r ∧ σ 4 r = X 3 r ∧ σ 5 r = X 4 r ∧ σ 6 r = X 5 r) ∧
  (∀ k, 0 ≤ k → k < X 0 1 → σ 7 k = X 6 k) ∧
  (∀ j, 0 ≤ j → j < X 0 2 → σ 9 j = X 8 j ∧ σ 10 j = X 9 j ∧ σ 11 j = X 10 j ∧ σ 12 j = X 11 j ∧ σ 13 j = X 12 j ∧ σ 14 j = X 13 j ∧ (0 ≤ σ 15 j ∧ σ 15 j ≤ 1000 ∧ (if 14 < σ 15 j then 14 else σ 15 j) = X 14 j) ∧ σ 16 j = X 15 j ∧ σ 17 j = X 16 j)
theorem m_land_off {σ σ' X : z_S} {b lo hi : Int} (ho : m_off b lo hi σ σ') (hb : 21 ≤ b) (hlo : 18 ≤ lo) (h : m_land σ X) : m_land σ' X := by
  have e : ∀ a i : Int, 1 ≤ a → a ≤ 17 → a ≠ 8 → (a ≠ 1 ∨ i ≤ 20) → σ' a i = σ a i := fun a i h1 h2 h3 h4 => m_at ho (by omega)
  obtain ⟨⟨a1, a2, a3, a4⟩, a5, a6, a7⟩ := h
  refine ⟨⟨by rw [e _ _ (by omega) (by omega) (by omega) (by omega)]; exact a1, by rw [e _ _ (by omega) (by omega) (by omega) (by omega)]; exact a2, by rw [e _ _ (by omega) (by omega) (by omega) (by omega)]; exact a3, by rw [e _ _ (by omega) (by omega) (by omega) (by omega)]; exact a4⟩, fun r r0 r1 => ?_, fun k k0 k1 => by rw [e _ _ (by omega) (by omega) (by omega) (by omega)]; exact a6 k k0 k1, fun j j0 j1 => ?_⟩
  · rw [e 2 _ (by omega) (by omega) (by omega) (by omega), e 3 _ (by omega) (by omega) (by omega) (by omega), e 4 _ (by omega) (by omega) (by omega) (by omega), e 5 _ (by omega) (by omega) (by omega) (by omega), e 6 _ (by omega) (by omega) (by omega) (by omega)]
    exact a5 r r0 r1
  · rw [e 9 _ (by omega) (by omega) (by omega) (by omega), e 10 _ (by omega) (by omega) (by omega) (by omega), e 11 _ (by omega) (by omega) (by omega) (by omega), e 12 _ (by omega) (by omega) (by omega) (by omega), e 13 _ (by omega) (by omega) (by omega) (by omega), e 14 _ (by omega) (by omega) (by omega) (by omega), e 15 _ (by omega) (by omega) (by omega) (by omega), e 16 _ (by omega) (by omega) (by omega) (by omega), e 17 _ (by omega) (by omega) (by omega) (by omega)]
    exact a7 j j0 j1
/-- what is asked of masks, and the houses' slots -/
def m_ask (σ X : z_S) (t : Int → Int) : Prop := (∀ m, 0 ≤ m → m < ((2 ^ (X 0 1).toNat : Nat) : Int) → σ 40 m = z_pay t m) ∧ σ 41 0 = z_side X 0 (-1) ∧ σ 41 1 = z_side X 1 (-1)
theorem m_ask_off {σ σ' X : z_S} {t : Int → Int} {b lo hi : Int} (ho : m_off b lo hi σ σ') (hlo : 42 ≤ lo ∨ hi ≤ 39) (h : m_ask σ X t) : m_ask σ' X t := by
  obtain ⟨h1, h2, h3⟩ := h
  exact ⟨fun m a b => by rw [m_at ho (by omega)]; exact h1 m a b, by rw [m_at ho (by omega)]; exact h2, by rw [m_at ho (by omega)]; exact h3⟩
theorem z_pow_n {X : z_S} (hw : z_wf X) : 1 ≤ ((2 ^ (X 0 1).toNat : Nat) : Int) ∧ ((2 ^ (X 0 1).toNat : Nat) : Int) ≤ 32 := by
  have h5 : 2 ^ (X 0 1).toNat ≤ 2 ^ 5 := Nat.pow_le_pow_right (by omega) (by have := hw.2.1; omega)
  have h0 : 0 < 2 ^ (X 0 1).toNat := Nat.pow_pos (by omega)
  omega
theorem z_shl_n {X : z_S} (hw : z_wf X) : z_shl 1 (X 0 1) = ((2 ^ (X 0 1).toNat : Nat) : Int) := z_shl1 hw.2.1.1 (by have := hw.2.1; omega)
theorem m_of_z {lo hi b : Int} {σ σ' : z_S} (h : z_off lo hi σ σ') : m_off b lo hi σ σ' := fun a i _ h2 _ => h a i h2
theorem m_c_ask {σ X : z_S} {t : Int → Int} (d : Nat) (hw : z_wf X) (hl : m_land σ X) (ht : m_t σ t) (ht20 : c_t20 t) (h40 : σ 40 0 = 0) :
    ∃ σ', z_ev z_hcM (d + 2) 1230 [z_R 1] z_hdM σ = some (z_U, z_hdM, σ') ∧ z_off 40 41 σ σ' ∧ m_ask σ' X t ∧ σ' 40 0 = 0 := by
  have hn := hw.2.1
  have hnR := hw.1
  have hP := z_pow_n hw
  have hsh := z_shl_n hw
  have htol := hw.2.2.2.2.2.2.2.2.1
  -- houses
  have go2 : ∀ (j k : Nat) (u : z_V) (σ : z_S), (k : Int) + j = X 0 1 → m_land σ X → σ 41 0 = z_bs (fun k => decide (X 5 (X 6 k) = 0) && decide (X 6 k ≠ -1)) k → σ 41 1 = z_bs (fun k => decide (X 5 (X 6 k) = 1) && decide (X 6 k ≠ -1)) k →
      ∃ σ', z_go (z_ev z_hcM (d + 1)) z_hcM 1230 69 [z_R 1, z_I k, u] [] z_hdM σ = some (z_U, z_hdM, σ') ∧ (∀ a i, a ≠ 41 → σ' a i = σ a i) ∧ σ' 41 0 = z_side X 0 (-1) ∧ σ' 41 1 = z_side X 1 (-1) := by
    intro j
    induction j with
    | zero =>
      intro k u σ hk hl h0 h1
      obtain ⟨⟨l1, l2, l3, l4⟩, l5, l6, l7⟩ := hl
      have hkn : (X 0 1).toNat = k := by omega
      refine ⟨σ, ?_, fun _ _ _ => rfl, ?_, ?_⟩
      · rw [z_B1230_69]
        simp (disch := omega) only [if_pos, l2, z_fdM, z_pdM, z_adM, z_sdM, z_lkM, z_ndM, z_gdM, z_cI_some', z_cV_some', z_w_ok, Int.reduceAdd, Int.reduceSub, Int.reduceMul, Int.reduceNeg, Int.reduceEq, Int.reduceLT, Int.reduceLE, Int.reduceNe, reduceIte, true_and, and_true, false_and, and_false, if_true, if_false, ne_eq, not_true_eq_false, not_false_eq_true]
      · unfold z_side; rw [hkn]; exact h0
      · unfold z_side; rw [hkn]; exact h1
    | succ j ih =>
      intro k u σ hk hl h0 h1
      have hl0 := hl
      obtain ⟨⟨l1, l2, l3, l4⟩, l5, l6, l7⟩ := hl
      have ht := htol k (by omega) (by omega)
      have e6 := l6 k (by omega) (by omega)
      have e5 := (l5 (X 6 k) ht.1 ht.2.1).2.2.2.2
      have hho := (hw.2.2.2.2.2.2.2.1 (X 6 k) ht.1 ht.2.1).2.2.2.2.2
      have hr : ∀ h, _ := fun h => z_bs_rng (P := fun k => decide (X 5 (X 6 k) = h) && decide (X 6 k ≠ -1)) (n := k)
      have hor : ∀ h, _ := fun h => z_or_bit (m := z_bs (fun k => decide (X 5 (X 6 k) = h) && decide (X 6 k ≠ -1)) k) (k := (k : Int)) (hr h).1 (by omega) (by omega) (by rw [Int.toNat_natCast]; exact (hr h).2)
      have hbs : ∀ h, z_bs (fun k => decide (X 5 (X 6 k) = h) && decide (X 6 k ≠ -1)) (k + 1) = z_bs (fun k => decide (X 5 (X 6 k) = h) && decide (X 6 k ≠ -1)) k + if (decide (X 5 (X 6 k) = h) && decide (X 6 k ≠ -1)) = true then ((2 ^ k : Nat) : Int) else 0 := fun h => rfl
      have hne : decide (X 6 k ≠ -1) = true := decide_eq_true (by omega)
      have e1 : ((k + 1 : Nat) : Int) = (k : Int) + 1 := by omega
      rcases (show X 5 (X 6 k) = 0 ∨ X 5 (X 6 k) = 1 by omega) with hh | hh
      · obtain ⟨σ', g1, g2, g3, g4⟩ := ih (k + 1) u (z_upd σ 41 0 (z_bs (fun k => decide (X 5 (X 6 k) = 0) && decide (X 6 k ≠ -1)) (k + 1))) (by omega) (m_land_off (b := 99) (lo := 41) (hi := 41) (m_off_upd (by omega)) (by omega) (by omega) hl0) z_upd_same (by
          rw [z_upd_ne (by omega), h1, hbs, hh, if_neg (by simp), Int.add_zero])
        rw [hbs, hh, hne, if_pos (by simp)] at g1
        refine ⟨σ', ?_, fun a i ha => by rw [g2 a i ha, z_upd_ne (by omega)], g3, g4⟩
        rw [z_B1230_69]
        have := hor 0
        rw [Int.toNat_natCast] at this
        simp (disch := omega) only [if_neg, l2, e6, e5, hh, h0, this, z_fdM, z_pdM, z_adM, z_sdM, z_lkM, z_ndM, z_gdM, z_cI_some', z_cV_some', z_w_ok, Int.reduceAdd, Int.reduceSub, Int.reduceMul, Int.reduceNeg, Int.reduceEq, Int.reduceLT, Int.reduceLE, Int.reduceNe, reduceIte, true_and, and_true, false_and, and_false, if_true, if_false, ne_eq, not_true_eq_false, not_false_eq_true]
        rw [← e1]; exact g1
      · obtain ⟨σ', g1, g2, g3, g4⟩ := ih (k + 1) u (z_upd σ 41 1 (z_bs (fun k => decide (X 5 (X 6 k) = 1) && decide (X 6 k ≠ -1)) (k + 1))) (by omega) (m_land_off (b := 99) (lo := 41) (hi := 41) (m_off_upd (by omega)) (by omega) (by omega) hl0) (by
          rw [z_upd_ne (by omega), h0, hbs, hh, if_neg (by simp), Int.add_zero]) z_upd_same
        rw [hbs, hh, hne, if_pos (by simp)] at g1
        refine ⟨σ', ?_, fun a i ha => by rw [g2 a i ha, z_upd_ne (by omega)], g3, g4⟩
        rw [z_B1230_69]
        have := hor 1
        rw [Int.toNat_natCast] at this
        simp (disch := omega) only [if_neg, l2, e6, e5, hh, h1, this, z_fdM, z_pdM, z_adM, z_sdM, z_lkM, z_ndM, z_gdM, z_cI_some', z_cV_some', z_w_ok, Int.reduceAdd, Int.reduceSub, Int.reduceMul, Int.reduceNeg, Int.reduceEq, Int.reduceLT, Int.reduceLE, Int.reduceNe, reduceIte, true_and, and_true, false_and, and_false, if_true, if_false, ne_eq, not_true_eq_false, not_false_eq_true]
        rw [← e1]; exact g1
  -- sums
  have go1 : ∀ (j : Nat) (m : Int) (u : z_V) (σ : z_S), m + j = ((2 ^ (X 0 1).toNat : Nat) : Int) → 1 ≤ m → m_land σ X → m_t σ t → (∀ i, 0 ≤ i → i < m → σ 40 i = z_pay t i) →
      ∃ σ', z_go (z_ev z_hcM (d + 1)) z_hcM 1230 2 [z_R 1, z_I m, u] [] z_hdM σ = some (z_U, z_hdM, σ') ∧ (∀ a i, a ≠ 40 → a ≠ 41 → σ' a i = σ a i) ∧ m_ask σ' X t := by
    intro j
    induction j with
    | zero =>
      intro m u σ hm m1 hl ht hs
      have hu1 : ∀ i, z_upd (z_upd (z_upd σ 40 0 0) 41 0 0) 41 1 0 40 i = if i = 0 then 0 else σ 40 i := fun i => by
        rw [z_upd_ne (by omega), z_upd_ne (by omega), z_upd_at]
        simp
      obtain ⟨σ', g1, g2, g3, g4⟩ := go2 (X 0 1).toNat 0 u (z_upd (z_upd (z_upd σ 40 0 0) 41 0 0) 41 1 0) (by omega) (m_land_off (b := 99) (lo := 40) (hi := 41) (m_off_trans (m_off_upd (by omega)) (m_off_trans (m_off_upd (by omega)) (m_off_upd (by omega)))) (by omega) (by omega) hl) (by rw [z_upd_ne (by omega), z_upd_same]; rfl) (by rw [z_upd_same]; rfl)
      refine ⟨σ', ?_, fun a i h1 h2 => by rw [g2 a i h2, z_upd_ne (by omega), z_upd_ne (by omega), z_upd_ne (by omega)], fun i i0 i1 => ?_, g3, g4⟩
      · obtain ⟨⟨l1, l2, l3, l4⟩, l5, l6, l7⟩ := hl
        rw [z_B1230_2]
        simp (disch := omega) only [if_pos, l2, hsh, z_fdM, z_pdM, z_adM, z_sdM, z_lkM, z_ndM, z_gdM, z_cI_some', z_cV_some', z_w_ok, Int.reduceAdd, Int.reduceSub, Int.reduceMul, Int.reduceNeg, Int.reduceEq, Int.reduceLT, Int.reduceLE, Int.reduceNe, reduceIte, true_and, and_true, false_and, and_false, if_true, if_false, ne_eq, not_true_eq_false, not_false_eq_true]
        exact g1
      · rw [g2 _ _ (by omega), hu1]
        by_cases c : i = 0
        · rw [if_pos c, c, z_pay_0]
        · rw [if_neg c]; exact hs i i0 (by omega)
    | succ j ih =>
      intro m u σ hm m1 hl ht hs
      obtain ⟨k1, k2, k3, k4⟩ := z_nt_ok (m := m) m1 (by omega) t
      have hkn : z_nt m < X 0 1 := by
        rcases Int.lt_or_le (z_nt m) (X 0 1) with h | h
        · exact h
        · have : 2 ^ (X 0 1).toNat ≤ 2 ^ (z_nt m).toNat := Nat.pow_le_pow_right (by omega) (by omega)
          omega
      have e1 := hs (z_and m (m - 1)) k2.1 k2.2
      have e2 := ht (z_nt m) k1.1 k1.2
      have p1 := c_t20_pay ht20 (z_and m (m - 1))
      have p2 := ht20 (z_nt m) k1.1 k1.2
      obtain ⟨σ', g1, g2, g3⟩ := ih (m + 1) (z_I (z_nt m)) (z_upd σ 40 m (z_pay t m)) (by omega) (by omega) (m_land_off (b := 99) (lo := 40) (hi := 41) (m_off_upd (by omega)) (by omega) (by omega) hl) (fun k k0 k1 => by rw [z_upd_ne (by omega)]; exact ht k k0 k1) (fun i i0 i1 => by
        by_cases c : i = m
        · rw [c, z_upd_same]
        · rw [z_upd_ne (by omega)]; exact hs i i0 (by omega))
      refine ⟨σ', ?_, fun a i h1 h2 => by rw [g2 a i h1 h2, z_upd_ne (by omega)], g3⟩
      obtain ⟨⟨l1, l2, l3, l4⟩, l5, l6, l7⟩ := hl
      rw [z_B1230_2]
      simp (disch := omega) only [if_neg, l2, hsh, c_nt, e1, e2, k4, z_fdM, z_pdM, z_adM, z_sdM, z_lkM, z_ndM, z_gdM, z_cI_some', z_cV_some', z_w_ok, Int.reduceAdd, Int.reduceSub, Int.reduceMul, Int.reduceNeg, Int.reduceEq, Int.reduceLT, Int.reduceLE, Int.reduceNe, reduceIte, true_and, and_true, false_and, and_false, if_true, if_false, ne_eq, not_true_eq_false, not_false_eq_true]
      exact g1
  obtain ⟨σ', g1, g2, g3⟩ := go1 (((2 ^ (X 0 1).toNat : Nat) : Int) - 1).toNat 1 z_U σ (by omega) (by omega) hl ht (fun i i0 i1 => by rw [show i = 0 by omega, h40, z_pay_0])
  refine ⟨σ', ?_, fun a i h => g2 a i (by omega) (by omega), g3, by rw [g3.1 0 (by omega) (by omega), z_pay_0]⟩
  rw [z_E1230]
  exact g1
