/-! The reference: ceiling, spare. -/
theorem z_lst_last {f b : Int → Int} {N : Nat} (hf : ∀ k : Int, 0 ≤ k → k < N → 0 ≤ f k) : ∀ {n : Nat}, n ≤ N → 0 < n → ∃ k : Nat, k < n ∧ z_lst (fun _ => true) f b true n = (f k, (k : Int), b k) ∧ ∀ j : Nat, j < n → f k ≤ f j ∧ (k < j → f k < f j)
  | 0, _, h => absurd h (by omega)
  | n + 1, hn, _ => by
    have h0 := hf n (by omega) (by omega)
    have hs : z_lst (fun _ => true) f b true (n + 1) = if true = true ∧ ((z_lst (fun _ => true) f b true n).1 < 0 ∨ f n < (z_lst (fun _ => true) f b true n).1 ∨ (true = true ∧ f n = (z_lst (fun _ => true) f b true n).1)) then (f n, (n : Int), b n) else z_lst (fun _ => true) f b true n := rfl
    rw [hs]
    by_cases hm : n = 0
    · subst hm
      rw [if_pos ⟨rfl, Or.inl (by show (-1 : Int) < 0; omega)⟩]
      exact ⟨0, by omega, rfl, fun j hj => by rw [show j = 0 by omega]; exact ⟨Int.le_refl _, fun h => absurd h (by omega)⟩⟩
    · obtain ⟨k, k1, k2, k3⟩ := z_lst_last (f := f) (b := b) hf (n := n) (by omega) (by omega)
      have hk := hf k (by omega) (by omega)
      rw [k2]
      dsimp only
      by_cases c : f n ≤ f k
      · rw [if_pos ⟨rfl, by rcases Int.lt_or_eq_of_le c with c | c; exact Or.inr (Or.inl c); exact Or.inr (Or.inr ⟨rfl, c⟩)⟩]
        refine ⟨n, by omega, rfl, fun j hj => ?_⟩
        by_cases cj : j = n
        · rw [cj]; exact ⟨Int.le_refl _, fun h => absurd h (by omega)⟩
        · have := (k3 j (by omega)).1
          exact ⟨by omega, fun h => absurd h (by omega)⟩
      · have hneg : ¬ (true = true ∧ (f k < 0 ∨ f n < f k ∨ (true = true ∧ f n = f k))) := fun z => by
          rcases z.2 with z | z | ⟨-, z⟩
          · omega
          · omega
          · omega
        rw [if_neg hneg]
        refine ⟨k, by omega, rfl, fun j hj => ?_⟩
        by_cases cj : j = n
        · rw [cj]; exact ⟨by omega, fun _ => by omega⟩
        · exact k3 j (by omega)
section
variable {σ0 σ σ' σ'' X : z_S} {D : z_D} {nw : Int → Bool} {t T : Int → Int} {l : List Int}
theorem m_on.sufr (h : m_inv σ0 X) (q : m_on σ0 σ X D nw t) {u : Int → Int} (hu : c_t20 u) (lean : Int) : 0 ≤ z_suf D.op D.mn D.gN lean u ∧ z_suf D.op D.mn D.gN lean u ≤ 9979200 := by
  have hg := q.gn.1
  have := z_sm_rng (n := D.gN.toNat) (f := fun g => D.mn g * z_pn (D.op g) u lean) (b := 207900) (fun g g0 g1 => by
    have h1 := (q.goer h g0 (by omega)).2.2.2.2.2.1
    have h2 := z_pn_rng (t := u) (lean := lean) (q.goer h g0 (by omega)).1 hu
    exact z_mul_rng (b := 99) (by omega) h1.2 h2.1 h2.2)
  unfold z_suf
  omega
/-- two numbers told at the end -/
theorem m_two (h : m_inv σ0 X) (q : m_on σ0 σ X D nw (X 7)) (d : Nat) (a b : Int) : ∃ σ1 σ2, z_ev z_hcM (d + 1) 1204 [z_R 1, z_I a] z_hdM (z_upd σ 1 25 0) = some (z_U, z_hdM, σ1) ∧ z_ev z_hcM (d + 1) 1204 [z_R 1, z_I b] z_hdM σ1 = some (z_U, z_hdM, σ2) ∧ m_inv σ2 (z_srow X [a, b]) ∧ σ2 1 26 = σ0 1 26 := by
  obtain ⟨σ1, e1, r1, o1⟩ := m_tell1 (σ := z_upd σ 1 25 0) m_rw0 (by simp) d a
  obtain ⟨σ2, e2, r2, o2⟩ := m_tell1 r1 (by simp) d b
  have o : m_ro σ σ2 := m_ro_trans m_ro0 (m_ro_trans o1 o2)
  exact ⟨σ1, σ2, e1, e2, m_inv_row h (m_ofr_ro (m_ofr_of q.1) o) (fun k k0 k1 => by rw [o _ _ (by omega) (by omega)]; exact q.2.2.2.1 k k0 k1) (by rw [o _ _ (by omega) (by omega)]; exact q.2.2.2.2) r2 (by simp), by rw [o _ _ (by omega) (by omega)]; exact m_at q.1 (by omega)⟩
theorem M_ceiling (h : m_inv σ X) (d : Nat) (w : Int) : m_does (z_ev z_hcM (d + 20) 1276 [z_R 1, z_I w] z_hdM σ) (s_ceiling X w) := by
  have hi := m_inv_thr h
  have hcp := h.cp
  have k := m_canSet (d + 17) h.1 hi.2.1 w
  unfold s_ceiling
  by_cases c : z_seek X w = true
  · rw [if_pos c] at k ⊢
    obtain ⟨cw, ctot⟩ := z_seek_t.mp c
    obtain ⟨σ1, e1, q1⟩ := m_gat0 hi (d + 14)
    have l3 := q1.capv hi
    have hti : ∀ v : Int, 0 ≤ v → v ≤ (X 0 3) → ∀ i, c_t20 (z_ti (z_side X w (-1)) v (X 7) i) := fun v _ v1 i => z_tcap_20 hcp.2 (z_ti_cap v1 hcp.1 h.tc i)
    have hf0 : ∀ v : Int, 0 ≤ v → v < ((X 0 3) + 1).toNat → 0 ≤ z_suf (z_Dm X (-1)).op (z_Dm X (-1)).mn (z_Dm X (-1)).gN (X 0 4) (z_ht (z_Dm X (-1)) (X 0 4) (z_Dm X (-1)).mn (z_side X w (-1)) (z_side X w (-1)) v (X 7)) := fun v v0 v1 => (q1.sufr hi (hti v v0 (by omega) _) (X 0 4)).1
    obtain ⟨kk, kk1, kk2, kk3⟩ := z_lst_last (b := fun c => z_hv (z_Dm X (-1)) (X 0 4) (z_Dm X (-1)).mn (z_side X w (-1)) (z_side X w (-1)) c (X 7)) hf0 (Nat.le_refl _) (show 0 < ((X 0 3) + 1).toNat by omega)
    have hCL : z_CL X w = (z_suf (z_Dm X (-1)).op (z_Dm X (-1)).mn (z_Dm X (-1)).gN (X 0 4) (z_ht (z_Dm X (-1)) (X 0 4) (z_Dm X (-1)).mn (z_side X w (-1)) (z_side X w (-1)) kk (X 7)), (kk : Int), z_hv (z_Dm X (-1)) (X 0 4) (z_Dm X (-1)).mn (z_side X w (-1)) (z_side X w (-1)) kk (X 7)) := kk2
    rw [hCL]
    generalize hf : (fun v : Int => z_suf (z_Dm X (-1)).op (z_Dm X (-1)).mn (z_Dm X (-1)).gN (X 0 4) (z_ht (z_Dm X (-1)) (X 0 4) (z_Dm X (-1)).mn (z_side X w (-1)) (z_side X w (-1)) v (X 7))) = f at *
    generalize hb : (fun v : Int => z_hv (z_Dm X (-1)) (X 0 4) (z_Dm X (-1)).mn (z_side X w (-1)) (z_side X w (-1)) v (X 7)) = b at *
    have hfv : ∀ v, z_suf (z_Dm X (-1)).op (z_Dm X (-1)).mn (z_Dm X (-1)).gN (X 0 4) (z_ht (z_Dm X (-1)) (X 0 4) (z_Dm X (-1)).mn (z_side X w (-1)) (z_side X w (-1)) v (X 7)) = f v := fun v => by rw [← hf]
    have hbv : ∀ v, z_hv (z_Dm X (-1)) (X 0 4) (z_Dm X (-1)).mn (z_side X w (-1)) (z_side X w (-1)) v (X 7) = b v := fun v => by rw [← hb]
    simp only [hfv, hbv] at hf0 kk3 ⊢
    have go : ∀ (v : Nat) (x2 x3 x4 : Int) (u : z_V) (x : z_S), v ≤ ((X 0 3) + 1).toNat → m_on (z_upd σ 1 26 0) x X (z_Dm X (-1)) (z_nwD X (-1)) (X 7) → ((v = ((X 0 3) + 1).toNat ∧ x2 = -1) ∨ ∃ k2 : Nat, v ≤ k2 ∧ k2 < ((X 0 3) + 1).toNat ∧ x2 = f k2 ∧ x3 = k2 ∧ x4 = b k2 ∧ ∀ j : Nat, v ≤ j → j < ((X 0 3) + 1).toNat → f k2 ≤ f j ∧ (k2 < j → f k2 < f j)) →
        ∃ x', z_go (z_ev z_hcM (d + 19)) z_hcM 1276 32 [z_R 1, z_I w, z_I x2, z_I x3, z_I x4, z_I ((v : Int) - 1), u] [] z_hdM x = some (z_I (f kk), z_hdM, x') ∧ m_inv x' (z_srow X [(kk : Int), b kk]) ∧ x' 1 26 = 0 := by
      intro v
      induction v with
      | zero =>
        intro x2 x3 x4 u x hv qx hI
        rcases hI with ⟨h0, -⟩ | ⟨k2, -, k2l, rfl, rfl, rfl, k2m⟩
        · omega
        · have a1 := kk3 k2 k2l
          have a2 := k2m kk (Nat.zero_le _) kk1
          have ek : k2 = kk := by
            rcases Nat.lt_trichotomy k2 kk with cc | cc | cc
            · have := a2.2 cc; omega
            · exact cc
            · have := a1.2 cc; omega
          subst ek
          obtain ⟨s1, s2, g1, g2, g3, g4⟩ := m_two hi qx (d + 18) (k2 : Int) (b k2)
          rw [z_upd_same] at g4
          refine ⟨s2, ?_, g3, g4⟩
          rw [z_B1276_32]
          simp (disch := omega) only [if_pos, g1, g2, z_fdM, z_pdM, z_adM, z_sdM, z_lkM, z_ndM, z_gdM, z_cI_some', z_cV_some', z_w_ok, Int.reduceAdd, Int.reduceSub, Int.reduceMul, Int.reduceNeg, Int.reduceEq, Int.reduceLT, Int.reduceLE, Int.reduceNe, reduceIte, true_and, and_true, false_and, and_false, if_true, if_false, ne_eq, not_true_eq_false, not_false_eq_true]
      | succ v ih =>
        intro x2 x3 x4 u x hv qx hI
        obtain ⟨x1, g1, o1, r1, -, g2⟩ := qx.best hi (d + 13) (cp := (v : Int)) cw h.tc ⟨by omega, by omega⟩
        rw [hfv] at g2
        rw [hbv] at g1
        have hfn := hf0 v (by omega) (by omega)
        have ex : ((v + 1 : Nat) : Int) - 1 = (v : Int) := by omega
        have ex2 : z_w ((v : Int) + -1) = (v : Int) - 1 := (z_w_ok (by omega) (by omega)).trans (by omega)
        have take : (x2 = -1 ∨ f v < x2) → ∃ x', z_go (z_ev z_hcM (d + 19)) z_hcM 1276 32 [z_R 1, z_I w, z_I x2, z_I x3, z_I x4, z_I (((v + 1 : Nat) : Int) - 1), u] [] z_hdM x = some (z_I (f kk), z_hdM, x') ∧ m_inv x' (z_srow X [(kk : Int), b kk]) ∧ x' 1 26 = 0 := fun hh => by
          obtain ⟨x', y1, y2, y3⟩ := ih (f v) v (b v) (z_I (b v)) x1 (by omega) r1 (Or.inr ⟨v, Nat.le_refl _, by omega, rfl, rfl, rfl, fun j j0 j1 => by
            by_cases cj : j = v
            · rw [cj]; exact ⟨Int.le_refl _, fun h => absurd h (by omega)⟩
            · rcases hI with ⟨h0, -⟩ | ⟨k2, k21, k22, k23, -, -, k2m⟩
              · omega
              · have hf2 := hf0 k2 (by omega) (by omega)
                have := (k2m j (by omega) j1).1
                exact ⟨by omega, fun _ => by omega⟩⟩)
          refine ⟨x', ?_, y2, y3⟩
          rw [← y1, ex, z_B1276_32]
          by_cases c1 : x2 = -1
          · simp (disch := omega) only [if_neg, if_pos, g1, c1, z_B1276_63, g2, ex2, z_fdM, z_pdM, z_adM, z_sdM, z_lkM, z_ndM, z_gdM, z_cI_some', z_cV_some', z_w_ok, Int.reduceAdd, Int.reduceSub, Int.reduceMul, Int.reduceNeg, Int.reduceEq, Int.reduceLT, Int.reduceLE, Int.reduceNe, reduceIte, true_and, and_true, false_and, and_false, if_true, if_false, ne_eq, not_true_eq_false, not_false_eq_true]
          · simp (disch := omega) only [if_neg, if_pos, g1, z_B1276_63, g2, ex2, z_fdM, z_pdM, z_adM, z_sdM, z_lkM, z_ndM, z_gdM, z_cI_some', z_cV_some', z_w_ok, Int.reduceAdd, Int.reduceSub, Int.reduceMul, Int.reduceNeg, Int.reduceEq, Int.reduceLT, Int.reduceLE, Int.reduceNe, reduceIte, true_and, and_true, false_and, and_false, if_true, if_false, ne_eq, not_true_eq_false, not_false_eq_true]
        by_cases c1 : x2 = -1 ∨ f v < x2
        · exact take c1
        · rcases hI with ⟨h0, h1⟩ | ⟨k2, k21, k22, k23, k24, k25, k2m⟩
          · exact absurd (Or.inl h1) c1
          · obtain ⟨x', y1, y2, y3⟩ := ih x2 x3 x4 (z_I (b v)) x1 (by omega) r1 (Or.inr ⟨k2, by omega, k22, k23, k24, k25, fun j j0 j1 => by
              by_cases cj : j = v
              · rw [cj]; exact ⟨by omega, fun h => absurd h (by omega)⟩
              · exact k2m j (by omega) j1⟩)
            refine ⟨x', ?_, y2, y3⟩
            rw [← y1, ex, z_B1276_32]
            simp (disch := omega) only [if_neg, if_pos, g1, g2, ex2, z_fdM, z_pdM, z_adM, z_sdM, z_lkM, z_ndM, z_gdM, z_cI_some', z_cV_some', z_w_ok, Int.reduceAdd, Int.reduceSub, Int.reduceMul, Int.reduceNeg, Int.reduceEq, Int.reduceLT, Int.reduceLE, Int.reduceNe, reduceIte, true_and, and_true, false_and, and_false, if_true, if_false, ne_eq, not_true_eq_false, not_false_eq_true]
    obtain ⟨x', y1, y2, y3⟩ := go ((X 0 3) + 1).toNat (-1) 0 0 z_U σ1 (Nat.le_refl _) q1 (Or.inl ⟨rfl, rfl⟩)
    rw [show ((((X 0 3) + 1).toNat : Nat) : Int) - 1 = (X 0 3) by omega] at y1
    refine ⟨x', ?_, y2, y3⟩
    simp (disch := omega) only [z_E1276, k, if_pos, e1, l3, z_fdM, z_pdM, z_adM, z_sdM, z_lkM, z_ndM, z_gdM, z_cI_some', z_cV_some', z_w_ok, Int.reduceAdd, Int.reduceSub, Int.reduceMul, Int.reduceNeg, Int.reduceEq, Int.reduceLT, Int.reduceLE, Int.reduceNe, reduceIte, true_and, and_true, false_and, and_false, if_true, if_false, ne_eq, not_true_eq_false, not_false_eq_true]
    exact y1
  · rw [if_neg c] at k ⊢
    refine ⟨_, ?_, hi, z_upd_same⟩
    simp (disch := omega) only [z_E1276, k, z_fdM, z_pdM, z_adM, z_sdM, z_lkM, z_ndM, z_gdM, z_cI_some', z_cV_some', z_w_ok, Int.reduceAdd, Int.reduceSub, Int.reduceMul, Int.reduceNeg, Int.reduceEq, Int.reduceLT, Int.reduceLE, Int.reduceNe, reduceIte, true_and, and_true, false_and, and_false, if_true, if_false, ne_eq, not_true_eq_false, not_false_eq_true]
end
