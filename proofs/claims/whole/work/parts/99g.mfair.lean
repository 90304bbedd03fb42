/-! The reference: fair. -/
theorem z_i64v {x : Int} (h0 : -9223372036854775808 ≤ x) (h1 : x ≤ 9223372036854775807) : (Int64.ofInt x).toInt = x := z_wl_ok h0 h1
theorem z_ldiv_ok {x y : Int} (h0 : 0 ≤ x) (h1 : x < 9223372036854775808) (h2 : 0 < y) (h3 : y < 9223372036854775808) : z_ldiv x y = x / y := by
  unfold z_ldiv
  have hle : x / y ≤ x := Int.ediv_le_self _ h0
  have hge : 0 ≤ x / y := Int.ediv_nonneg h0 (by omega)
  rw [Int64.toInt_div, z_i64v (by omega) (by omega), z_i64v (by omega) (by omega), Int.tdiv_eq_ediv_of_nonneg h0]
  exact Int.bmod_eq_of_le (by omega) (by omega)
theorem z_lrem_ok {x y : Int} (h0 : 0 ≤ x) (h1 : x < 9223372036854775808) (h2 : 0 < y) (h3 : y < 9223372036854775808) : z_lrem x y = x % y := by
  have hd := z_ldiv_ok h0 h1 h2 h3
  unfold z_ldiv at hd
  unfold z_lrem
  have hle : x / y ≤ x := Int.ediv_le_self _ h0
  have hge : 0 ≤ x / y := Int.ediv_nonneg h0 (by omega)
  have hm := Int.emod_def x y
  have h4 := Int.emod_nonneg x (show y ≠ 0 by omega)
  have h5 := Int.emod_lt_of_pos x h2
  have hmul : 0 ≤ y * (x / y) := Int.mul_nonneg (by omega) hge
  rw [Int64.toInt_sub, Int64.toInt_mul, hd, z_i64v (by omega) (by omega), z_i64v (by omega) (by omega), Int.mul_comm (x / y) y]
  have e1 : (y * (x / y)).bmod (2 ^ 64) = y * (x / y) := Int.bmod_eq_of_le (by omega) (by omega)
  rw [e1, hm]
  exact Int.bmod_eq_of_le (by omega) (by omega)
section
variable {σ0 σ σ' σ'' X : z_S} {D : z_D} {nw : Int → Bool} {t t' T : Int → Int} {l : List Int}
theorem m_gcd (c : z_Call) {r k mine : Int} : ∀ (y x : Nat) (u5 u7 u8 u9 : z_V), x < 1000000000000000 → y < 1000000000000000 → ∃ v5 v7 v8 v9 : z_V, z_go c z_hcM 1287 166 [z_R 1, z_I r, z_I k, z_I mine, z_L x, u5, z_L y, u7, u8, u9] [] z_hdM σ = z_go c z_hcM 1287 166 [z_R 1, z_I r, z_I k, z_I mine, z_L (Nat.gcd x y : Nat), v5, z_L 0, v7, v8, v9] [] z_hdM σ := by
  intro y
  induction y using Nat.strongRecOn with
  | _ y ih =>
    intro x u5 u7 u8 u9 hx hy
    by_cases h0 : y = 0
    · subst h0
      rw [Nat.gcd_zero_right]
      exact ⟨u5, u7, u8, u9, rfl⟩
    · have hr := z_lrem_ok (x := x) (y := y) (by omega) (by omega) (by omega) (by omega)
      have e : (x : Int) % (y : Int) = ((x % y : Nat) : Int) := by norm_cast
      rw [e] at hr
      have hlt := Nat.mod_lt x (show 0 < y by omega)
      obtain ⟨v5, v7, v8, v9, g⟩ := ih (x % y) hlt y z_U z_U (z_L ((x % y : Nat) : Int)) z_U hy (by omega)
      refine ⟨v5, v7, v8, v9, ?_⟩
      have hg : Nat.gcd x y = Nat.gcd y (x % y) := by rw [Nat.gcd_comm x y, Nat.gcd_rec y x, Nat.gcd_comm]
      have hc : z_lcmp (y : Int) 0 = 1 := if_pos (by omega)
      rw [hg, ← g, z_B1287_166, hc, if_neg (show ¬ (1 : Int) = 0 by omega), if_neg (show ¬ (y : Int) = 0 by omega), hr]
theorem m_fairEnd (h : m_inv σ0 X) (h26 : σ0 1 26 = 0) (q : m_on σ0 σ X D nw (X 7)) (d : Nat) {r k mine U N : Int} (hU : 0 ≤ U ∧ U ≤ 364953600) (hN : 1 ≤ N ∧ N ≤ 120) (h73 : σ 1 73 = U) (h74 : σ 1 74 = N) (u8 u9 : z_V) :
    m_does (z_go (z_ev z_hcM (d + 19)) z_hcM 1287 166 [z_R 1, z_I r, z_I k, z_I mine, z_L U, z_U, z_L N, z_U, u8, u9] [] z_hdM σ) (U / N, z_srow X [U / (Nat.gcd U.toNat N.toNat : Nat), N / (Nat.gcd U.toNat N.toNat : Nat)]) := by
  obtain ⟨v5, v7, v8, v9, g⟩ := m_gcd (σ := σ) (z_ev z_hcM (d + 19)) (r := r) (k := k) (mine := mine) N.toNat U.toNat z_U z_U u8 u9 (by omega) (by omega)
  rw [Int.toNat_of_nonneg hU.1, Int.toNat_of_nonneg (show 0 ≤ N by omega)] at g
  rw [g]
  have hgp : 1 ≤ Nat.gcd U.toNat N.toNat := Nat.gcd_pos_of_pos_right _ (by omega)
  have hgl : Nat.gcd U.toNat N.toNat ≤ N.toNat := Nat.gcd_le_right _ (by omega)
  generalize Nat.gcd U.toNat N.toNat = G at *
  have d1 := z_ldiv_ok (x := U) (y := (G : Int)) hU.1 (by omega) (by omega) (by omega)
  have d2 := z_ldiv_ok (x := N) (y := (G : Int)) (by omega) (by omega) (by omega) (by omega)
  have d3 := z_ldiv_ok (x := U) (y := N) hU.1 (by omega) (by omega) (by omega)
  have w1 : U / (G : Int) ≤ U := Int.ediv_le_self _ hU.1
  have w1' : 0 ≤ U / (G : Int) := Int.ediv_nonneg hU.1 (by omega)
  have w2 : N / (G : Int) ≤ N := Int.ediv_le_self _ (by omega)
  have w2' : 0 ≤ N / (G : Int) := Int.ediv_nonneg (by omega) (by omega)
  have w3 : U / N ≤ U := Int.ediv_le_self _ hU.1
  have w3' : 0 ≤ U / N := Int.ediv_nonneg hU.1 (by omega)
  obtain ⟨s1, s2, g1, g2, g3, g4⟩ := m_two h q (d + 18) (U / (G : Int)) (N / (G : Int))
  have ro1 : m_ro (z_upd σ 1 25 0) s1 := by
    obtain ⟨x1, a1, -, a3⟩ := m_tell1 (σ := z_upd σ 1 25 0) m_rw0 (by simp) (d + 18) (U / (G : Int))
    rw [a1] at g1
    cases g1
    exact a3
  obtain ⟨x2, a1, -, a3⟩ := m_tell1 (σ := s1) (l := [U / (G : Int)]) (by
    obtain ⟨x1, a1, a2, -⟩ := m_tell1 (σ := z_upd σ 1 25 0) m_rw0 (by simp) (d + 18) (U / (G : Int))
    rw [a1] at g1
    cases g1
    exact a2) (by simp) (d + 18) (N / (G : Int))
  rw [a1] at g2
  cases g2
  have e73 : z_upd σ 1 25 0 1 73 = U := by rw [z_upd_ne (by omega)]; exact h73
  have e74 : s1 1 74 = N := by rw [ro1 _ _ (by omega) (by omega), z_upd_ne (by omega)]; exact h74
  have e732 : s2 1 73 = U := by rw [a3 _ _ (by omega) (by omega), ro1 _ _ (by omega) (by omega), z_upd_ne (by omega)]; exact h73
  have e742 : s2 1 74 = N := by rw [a3 _ _ (by omega) (by omega), ro1 _ _ (by omega) (by omega), z_upd_ne (by omega)]; exact h74
  refine ⟨s2, ?_, g3, by rw [g4]; exact h26⟩
  have hc : z_lcmp (0 : Int) 0 = 0 := rfl
  rw [z_B1287_166, hc, if_pos rfl]
  simp (disch := omega) only [if_neg, e73, d1, g1, e74, d2, a1, e732, e742, d3, z_fdM, z_pdM, z_adM, z_sdM, z_lkM, z_ndM, z_gdM, z_cI_some', z_cV_some', z_w_ok, Int.reduceAdd, Int.reduceSub, Int.reduceMul, Int.reduceNeg, Int.reduceEq, Int.reduceLT, Int.reduceLE, Int.reduceNe, reduceIte, true_and, and_true, false_and, and_false, if_true, if_false, ne_eq, not_true_eq_false, not_false_eq_true]
end
