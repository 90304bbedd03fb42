/-! The reference: mean, safe. -/
section
variable {σ0 σ σ' σ'' X : z_S} {D : z_D} {nw : Int → Bool} {t T : Int → Int} {l : List Int}
theorem m_tellSet (h : m_inv σ0 X) (o : m_off 27 35 57 σ0 σ) (ht : m_t σ (X 7)) (h40 : σ 40 0 = 0) (d : Nat) {w : Int} (cw : w = 0 ∨ w = 1) {N : Nat} (hN : N < z_tot (z_side X w (-1)) (X 0 3)) (hT : (z_tot (z_side X w (-1)) (X 0 3) : Int) ≤ 20000) :
    ∃ σ', z_ev z_hcM (d + 4) 1281 [z_R 1, z_I w, z_I N] z_hdM σ = some (z_U, z_hdM, σ') ∧ m_inv σ' (z_srow X (z_tl (z_side X w (-1)) (z_ti (z_side X w (-1)) (X 0 3) (X 7) N) 5)) ∧ σ' 1 26 = σ0 1 26 ∧ ∀ a i, a = 55 ∨ a = 56 → σ' a i = σ a i := by
  have hcp := h.cp
  have hsr := z_side_rng h.1 w (-1)
  have hl := m_land_off o (by omega) (by omega) h.2.1
  obtain ⟨σ1, e1, o1, k1⟩ := m_keep (σ := σ) (d + 2)
  have hl1 : m_land σ1 X := m_land_off (b := 99) (lo := 44) (hi := 44) (fun a i _ h2 _ => o1 a i (by omega)) (by omega) (by omega) hl
  obtain ⟨σ2, e2, o2, t2, p2⟩ := m_lay (σ := σ1) (t := X 7) (h := w) (free := 0) (mv := (z_side X w (-1))) (d + 2) h.1 hl1 (fun k k0 k1' => by rw [o1 _ _ (by omega)]; exact ht k k0 k1') (by omega) (m_mvb h.1)
  have o12 : ∀ a i, a ≠ 8 → a ≠ 43 → a ≠ 44 → (a ≠ 1 ∨ i ≠ 56) → σ2 a i = σ a i := fun a i h1 h2 h3 h4 => by rw [o2 a i h1 h2 h4, o1 a i h3]
  obtain ⟨σ3, e3, o3, t3, p3⟩ := z_for (fun (k : Nat) (x : z_S) => z_go (z_ev z_hcM (d + 3)) z_hcM 1281 12 [z_R 1, z_I w, z_I N, z_I k] [] z_hdM x) (fun x => z_go (z_ev z_hcM (d + 3)) z_hcM 1281 12 [z_R 1, z_I w, z_I N, z_I N] [] z_hdM x) (fun k x => (∀ a i, a ≠ 8 → x a i = σ2 a i) ∧ m_t x (z_ti (z_side X w (-1)) (X 0 3) (X 7) k) ∧ m_pls x (z_side X w (-1)) (X 0 1)) N (s := σ2) ⟨fun _ _ _ => rfl, fun k k0 k1' => by rw [t2 k k0 k1']; exact m_ti0 h.1 k k0, p2⟩
    (fun k x hk ⟨xo, xt, xp⟩ => by
      have hti := z_ti_cap (mv := (z_side X w (-1))) (Int.le_refl (X 0 3)) hcp.1 h.tc k
      obtain ⟨x', g1, g2, g3⟩ := m_next (σ := x) (t := z_ti (z_side X w (-1)) (X 0 3) (X 7) k) (cp := (X 0 3)) (d + 2) h.1.2.1 hsr.2.2 xt (z_tcap_20 hcp.2 hti) xp (z_ti_dgc hcp.1 k)
      have l3 : x 1 9 = (X 0 3) := by rw [xo _ _ (by omega), o12 _ _ (by omega) (by omega) (by omega) (by omega)]; exact hl.1.2.2.1
      refine ⟨x', ?_, fun a i ha => by rw [g2 a i ha]; exact xo a i ha, g3, ⟨by rw [g2 _ _ (by omega)]; exact xp.1, fun j hj hb => by rw [g2 _ _ (by omega)]; exact xp.2 j hj hb⟩⟩
      rw [z_B1281_12]
      simp (disch := omega) only [if_neg, l3, g1, z_ns, z_fdM, z_pdM, z_adM, z_sdM, z_lkM, z_ndM, z_gdM, z_cI_some', z_cV_some', z_w_ok, Int.reduceAdd, Int.reduceSub, Int.reduceMul, Int.reduceNeg, Int.reduceEq, Int.reduceLT, Int.reduceLE, Int.reduceNe, reduceIte, true_and, and_true, false_and, and_false, if_true, if_false, ne_eq, not_true_eq_false, not_false_eq_true]) (fun x _ => rfl)
  have o13 : ∀ a i, a ≠ 8 → a ≠ 43 → a ≠ 44 → (a ≠ 1 ∨ i ≠ 56) → σ3 a i = σ a i := fun a i h1 h2 h3 h4 => by rw [o3 a i h1, o12 a i h1 h2 h3 h4]
  have off3 : m_off 27 35 57 σ0 σ3 := fun a i h1 h2 h3 => by rw [o13 a i h1 (by omega) (by omega) (by omega)]; exact o a i h1 h2 h3
  obtain ⟨σ4, e4, r4, o4⟩ := m_tellTolls (σ := z_upd σ3 1 25 0) (l := []) (m := (z_side X w (-1))) (t := z_ti (z_side X w (-1)) (X 0 3) (X 7) N) h.1 (m_land_ro m_ro0 (m_land_off off3 (by omega) (by omega) h.2.1)) m_rw0 (by simp) (d + 1) (Or.inl rfl) (fun k k0 k1' => by rw [z_upd_ne (by omega)]; exact t3 k k0 k1') (Or.inr ⟨cw, rfl⟩)
  have ro : m_ro σ3 σ4 := m_ro_trans m_ro0 o4
  obtain ⟨σ5, e5, o5, t5⟩ := m_putBack (σ := σ4) (t := X 7) (d + 2) (fun k k0 k1' => by rw [ro _ _ (by omega) (by omega), o3 _ _ (by omega), o2 _ _ (by omega) (by omega) (by omega), k1 k k0 k1']; exact ht k k0 k1')
  refine ⟨σ5, ?_, m_inv_row h (fun a i h1 h2 h3 h4 => by rw [o5 a i h1, ro a i h2 (by omega)]; exact off3 a i h1 h3 (by omega)) t5 (by rw [o5 _ _ (by omega), ro _ _ (by omega) (by omega), o13 _ _ (by omega) (by omega) (by omega) (by omega)]; exact h40) ⟨by rw [o5 _ _ (by omega)]; exact r4.1, fun i hi => by rw [o5 _ _ (by omega)]; exact r4.2 i hi⟩ z_tl5, by rw [o5 _ _ (by omega), ro _ _ (by omega) (by omega)]; exact m_at off3 (by omega), fun a i ha => by rw [o5 _ _ (by omega), ro _ _ (by omega) (by omega), o13 _ _ (by omega) (by omega) (by omega) (by omega)]⟩
  have e3' : z_go (z_ev z_hcM (d + 3)) z_hcM 1281 12 [z_R 1, z_I w, z_I N, z_I 0] [] z_hdM σ2 = some (z_U, z_hdM, σ5) := by
    refine e3.trans ?_
    rw [z_B1281_12]
    simp (disch := omega) only [if_pos, e4, e5, z_fdM, z_pdM, z_adM, z_sdM, z_lkM, z_ndM, z_gdM, z_cI_some', z_cV_some', z_w_ok, Int.reduceAdd, Int.reduceSub, Int.reduceMul, Int.reduceNeg, Int.reduceEq, Int.reduceLT, Int.reduceLE, Int.reduceNe, reduceIte, true_and, and_true, false_and, and_false, if_true, if_false, ne_eq, not_true_eq_false, not_false_eq_true]
  simp (disch := omega) only [z_E1281, e1, e2, z_fdM, z_pdM, z_adM, z_sdM, z_lkM, z_ndM, z_gdM, z_cI_some', z_cV_some', z_w_ok, Int.reduceAdd, Int.reduceSub, Int.reduceMul, Int.reduceNeg, Int.reduceEq, Int.reduceLT, Int.reduceLE, Int.reduceNe, reduceIte, true_and, and_true, false_and, and_false, if_true, if_false, ne_eq, not_true_eq_false, not_false_eq_true]
  exact e3'
theorem z_SW_eq (hw : z_wf X) {w : Int} (i : Nat) : z_SW X w i 10 = z_Bi (z_Dm X (-1)) (X 0 4) (fun g => (z_Dm X (-1)).mn g * (if X 13 ((z_Dm X (-1)).gj g) ≠ 0 then X 17 ((z_Dm X (-1)).gw g) else z_sm 10 (X 17))) (z_side X w (-1)) (z_side X w (-1)) (X 0 3) (X 7) i := by
  have hn := hw.2.2.1
  unfold z_SW
  have e1 : z_sm 10 (fun u => X 17 u * z_tk1 X (z_side X w (-1)) (z_ti (z_side X w (-1)) (X 0 3) (X 7) i) u) = z_sm 10 (fun u => z_sm (z_Dm X (-1)).gN.toNat (fun g => X 17 u * (if z_inw X (z_Dm X (-1)) u g then (z_Dm X (-1)).mn g * z_gp (z_Dm X (-1)) (X 0 4) (z_side X w (-1)) (z_ti (z_side X w (-1)) (X 0 3) (X 7) i) g else 0))) := z_sm_congr (fun u u0 u1 => by
    rw [z_tk1_wv hw u0]
    unfold z_wv
    rw [z_sm_mulc])
  rw [e1, z_sm_swap]
  show _ = z_sm (z_Dm X (-1)).gN.toNat (fun g => (z_Dm X (-1)).mn g * (if X 13 ((z_Dm X (-1)).gj g) ≠ 0 then X 17 ((z_Dm X (-1)).gw g) else z_sm 10 (X 17)) * z_gp (z_Dm X (-1)) (X 0 4) (z_side X w (-1)) (z_ti (z_side X w (-1)) (X 0 3) (X 7) i) g)
  refine z_sm_congr (fun g g0 g1 => ?_)
  have hgw := (z_gjw_rng hw (g := g) g0 (by
    have hr := z_gs_rng hw (n := (X 0 2).toNat) (by omega)
    have g1' : g < ((z_gs X (X 0 2).toNat).toNat : Int) := g1
    omega)).2.2
  have hgw' : 0 ≤ (z_Dm X (-1)).gw g ∧ (z_Dm X (-1)).gw g ≤ 9 := hgw
  generalize (z_Dm X (-1)).mn g = a
  generalize z_gp (z_Dm X (-1)) (X 0 4) (z_side X w (-1)) (z_ti (z_side X w (-1)) (X 0 3) (X 7) i) g = b
  by_cases c : X 13 ((z_Dm X (-1)).gj g) = 0
  · have e2 : z_sm 10 (fun u => X 17 u * (if z_inw X (z_Dm X (-1)) u g then a * b else 0)) = z_sm 10 (fun u => (a * b) * X 17 u) := z_sm_congr (fun u _ _ => by
      have : z_inw X (z_Dm X (-1)) u g = true := by unfold z_inw; simp [c]
      rw [this, if_pos rfl, Int.mul_comm])
    rw [e2, ← z_sm_mulc, if_neg (by simpa using c), Int.mul_assoc, Int.mul_assoc, Int.mul_comm b]
  · have e2 : z_sm 10 (fun u => X 17 u * (if z_inw X (z_Dm X (-1)) u g then a * b else 0)) = z_sm 10 (fun u => (fun _ => (0 : Int)) u + (if u = (z_Dm X (-1)).gw g then X 17 ((z_Dm X (-1)).gw g) * (a * b) else 0)) := z_sm_congr (fun u _ _ => by
      have : z_inw X (z_Dm X (-1)) u g = decide ((z_Dm X (-1)).gw g = u) := by unfold z_inw; simp [c]
      rw [this]
      by_cases cu : u = (z_Dm X (-1)).gw g
      · rw [if_pos cu, if_pos (decide_eq_true cu.symm), cu]
        show _ = 0 + _
        omega
      · rw [if_neg cu, if_neg (show ¬ decide ((z_Dm X (-1)).gw g = u) = true by rw [decide_eq_true_eq]; exact fun e => cu e.symm), Int.mul_zero]
        rfl)
    rw [e2, z_sm_one hgw'.1 (by omega), z_sm_0, if_pos c, Int.zero_add, Int.mul_assoc, Int.mul_left_comm]
theorem m_26 (d : Nat) {σ : z_S} {w i b n F G : Int} (hi : 0 ≤ i ∧ i < n) (hb : 0 ≤ b ∧ b < n) (hn : n ≤ 20000) (fi : σ 55 i = F) (fb : σ 55 b = G) : z_go (z_ev z_hcM (d + 19)) z_hcM 1282 26 [z_R 1, z_I w, z_I n, z_I b, z_I i] [] z_hdM σ = z_go (z_ev z_hcM (d + 19)) z_hcM 1282 26 [z_R 1, z_I w, z_I n, z_I (if G < F then i else b), z_I (i + 1)] [] z_hdM σ := by
  rw [z_B1282_26]
  by_cases c : G < F
  · rw [if_pos c]
    simp (disch := omega) only [if_neg, fi, fb, z_fdM, z_pdM, z_adM, z_sdM, z_lkM, z_ndM, z_gdM, z_cI_some', z_cV_some', z_w_ok, Int.reduceAdd, Int.reduceSub, Int.reduceMul, Int.reduceNeg, Int.reduceEq, Int.reduceLT, Int.reduceLE, Int.reduceNe, reduceIte, true_and, and_true, false_and, and_false, if_true, if_false, ne_eq, not_true_eq_false, not_false_eq_true]
  · rw [if_neg c]
    simp (disch := omega) only [if_neg, if_pos, fi, fb, z_fdM, z_pdM, z_adM, z_sdM, z_lkM, z_ndM, z_gdM, z_cI_some', z_cV_some', z_w_ok, Int.reduceAdd, Int.reduceSub, Int.reduceMul, Int.reduceNeg, Int.reduceEq, Int.reduceLT, Int.reduceLE, Int.reduceNe, reduceIte, true_and, and_true, false_and, and_false, if_true, if_false, ne_eq, not_true_eq_false, not_false_eq_true]
theorem m_26e (d : Nat) {σ σ' : z_S} {w b n F : Int} (hb : 0 ≤ b ∧ b < 20000) (e : z_ev z_hcM (d + 19) 1281 [z_R 1, z_I w, z_I b] z_hdM σ = some (z_U, z_hdM, σ')) (f : σ' 55 b = F) : z_go (z_ev z_hcM (d + 19)) z_hcM 1282 26 [z_R 1, z_I w, z_I n, z_I b, z_I n] [] z_hdM σ = some (z_I F, z_hdM, σ') := by
  rw [z_B1282_26]
  simp (disch := omega) only [if_pos, e, f, z_fdM, z_pdM, z_adM, z_sdM, z_lkM, z_ndM, z_gdM, z_cI_some', z_cV_some', z_w_ok, Int.reduceAdd, Int.reduceSub, Int.reduceMul, Int.reduceNeg, Int.reduceEq, Int.reduceLT, Int.reduceLE, Int.reduceNe, reduceIte, true_and, and_true, false_and, and_false, if_true, if_false, ne_eq, not_true_eq_false, not_false_eq_true]
theorem m_66e (d : Nat) {σ σ' : z_S} {w b n F : Int} (hb : 0 ≤ b ∧ b < 20000) (e : z_ev z_hcM (d + 19) 1281 [z_R 1, z_I w, z_I b] z_hdM σ = some (z_U, z_hdM, σ')) (f : σ' 56 b = F) : z_go (z_ev z_hcM (d + 19)) z_hcM 1283 66 [z_R 1, z_I w, z_I 1, z_I n, z_I b, z_I n] [] z_hdM σ = some (z_I F, z_hdM, σ') := by
  rw [z_B1283_66]
  simp (disch := omega) only [if_pos, e, f, z_fdM, z_pdM, z_adM, z_sdM, z_lkM, z_ndM, z_gdM, z_cI_some', z_cV_some', z_w_ok, Int.reduceAdd, Int.reduceSub, Int.reduceMul, Int.reduceNeg, Int.reduceEq, Int.reduceLT, Int.reduceLE, Int.reduceNe, reduceIte, true_and, and_true, false_and, and_false, if_true, if_false, ne_eq, not_true_eq_false, not_false_eq_true]
theorem m_66 (d : Nat) {σ : z_S} {w i b n F G : Int} (hi : 0 ≤ i ∧ i < n) (hb : 0 ≤ b ∧ b < n) (hn : n ≤ 20000) (fi : σ 56 i = F) (fb : σ 56 b = G) : z_go (z_ev z_hcM (d + 19)) z_hcM 1283 66 [z_R 1, z_I w, z_I 1, z_I n, z_I b, z_I i] [] z_hdM σ = z_go (z_ev z_hcM (d + 19)) z_hcM 1283 66 [z_R 1, z_I w, z_I 1, z_I n, z_I (if G < F then i else b), z_I (i + 1)] [] z_hdM σ := by
  rw [z_B1283_66]
  by_cases c : G < F
  · rw [if_pos c]
    simp (disch := omega) only [if_neg, fi, fb, z_fdM, z_pdM, z_adM, z_sdM, z_lkM, z_ndM, z_gdM, z_cI_some', z_cV_some', z_w_ok, Int.reduceAdd, Int.reduceSub, Int.reduceMul, Int.reduceNeg, Int.reduceEq, Int.reduceLT, Int.reduceLE, Int.reduceNe, reduceIte, true_and, and_true, false_and, and_false, if_true, if_false, ne_eq, not_true_eq_false, not_false_eq_true]
  · rw [if_neg c]
    simp (disch := omega) only [if_neg, if_pos, fi, fb, z_fdM, z_pdM, z_adM, z_sdM, z_lkM, z_ndM, z_gdM, z_cI_some', z_cV_some', z_w_ok, Int.reduceAdd, Int.reduceSub, Int.reduceMul, Int.reduceNeg, Int.reduceEq, Int.reduceLT, Int.reduceLE, Int.reduceNe, reduceIte, true_and, and_true, false_and, and_false, if_true, if_false, ne_eq, not_true_eq_false, not_false_eq_true]
theorem M_mean (h : m_inv σ X) (d : Nat) (w : Int) : m_does (z_ev z_hcM (d + 20) 1282 [z_R 1, z_I w] z_hdM σ) (s_mean X w) := by
  have hi := m_inv_thr h
  have hcp := h.cp
  have k := m_canSet (d + 17) h.1 hi.2.1 w
  unfold s_mean
  by_cases c : z_seek X w = true
  · rw [if_pos c] at k ⊢
    obtain ⟨cw, ctot0⟩ := z_seek_t.mp c
    have ctot : (z_tot (z_side X w (-1)) (X 0 3) : Int) ≤ 20000 := by omega
    clear ctot0
    have htp := z_tot_pos (mv := (z_side X w (-1))) hcp.1
    obtain ⟨σ1, e1, o1, t1, z1, f1⟩ := m_byW hi (d + 12) cw ctot
    have hB : z_Bi (z_Dm X (-1)) (X 0 4) (fun g => (z_Dm X (-1)).mn g * (if X 13 ((z_Dm X (-1)).gj g) ≠ 0 then X 17 ((z_Dm X (-1)).gw g) else z_sm 10 (X 17))) (z_side X w (-1)) (z_side X w (-1)) (X 0 3) (X 7) = fun i => z_SW X w i 10 := funext fun i => (z_SW_eq h.1 i).symm
    have hht : z_ht (z_Dm X (-1)) (X 0 4) (fun g => (z_Dm X (-1)).mn g * (if X 13 ((z_Dm X (-1)).gj g) ≠ 0 then X 17 ((z_Dm X (-1)).gw g) else z_sm 10 (X 17))) (z_side X w (-1)) (z_side X w (-1)) (X 0 3) (X 7) = z_ti (z_side X w (-1)) (X 0 3) (X 7) (z_am (fun i => z_SW X w i 10) (z_tot (z_side X w (-1)) (X 0 3))) := by unfold z_ht; rw [hB]
    have hhv : z_hv (z_Dm X (-1)) (X 0 4) (fun g => (z_Dm X (-1)).mn g * (if X 13 ((z_Dm X (-1)).gj g) ≠ 0 then X 17 ((z_Dm X (-1)).gw g) else z_sm 10 (X 17))) (z_side X w (-1)) (z_side X w (-1)) (X 0 3) (X 7) = z_SW X w (z_am (fun i => z_SW X w i 10) (z_tot (z_side X w (-1)) (X 0 3))) 10 := by
      rw [z_SW_eq h.1]
      unfold z_hv
      rw [hht]
      rfl
    rw [hht, hhv]
    have hlt := z_am_lt (F := fun i => z_SW X w i 10) htp
    have go : ∀ (n i : Nat), i + n = z_tot (z_side X w (-1)) (X 0 3) → 0 < i → z_go (z_ev z_hcM (d + 19)) z_hcM 1282 26 [z_R 1, z_I w, z_I (z_tot (z_side X w (-1)) (X 0 3)), z_I (z_am (fun i => z_SW X w i 10) i), z_I i] [] z_hdM σ1 = z_go (z_ev z_hcM (d + 19)) z_hcM 1282 26 [z_R 1, z_I w, z_I (z_tot (z_side X w (-1)) (X 0 3)), z_I (z_am (fun i => z_SW X w i 10) (z_tot (z_side X w (-1)) (X 0 3))), z_I (z_tot (z_side X w (-1)) (X 0 3))] [] z_hdM σ1 := by
      intro n
      induction n with
      | zero =>
        intro i hi' _
        rw [show i = z_tot (z_side X w (-1)) (X 0 3) by omega]
      | succ n ih =>
        intro i hi' h0
        have ha := z_am_lt (F := fun i => z_SW X w i 10) h0
        have fi := (f1 i (by omega)).1
        have fa := (f1 (z_am (fun i => z_SW X w i 10) i) (by omega)).1
        rw [← ih (i + 1) (by omega) (by omega), z_ns, m_26 d (by omega) (by omega) ctot fi fa]
        by_cases cc : z_SW X w (z_am (fun i => z_SW X w i 10) i) 10 < z_SW X w i 10
        · rw [z_am_new (F := fun i => z_SW X w i 10) cc, if_pos cc]
        · rw [z_am_keep (F := fun i => z_SW X w i 10) (Int.not_lt.mp cc), if_neg cc]
    have g1 := go (z_tot (z_side X w (-1)) (X 0 3) - 1) 1 (by omega) (by omega)
    have a1 : z_am (fun i => z_SW X w i 10) 1 = 0 := by show (if _ then _ else _) = _; split <;> rfl
    rw [a1] at g1
    generalize hN : z_am (fun i => z_SW X w i 10) (z_tot (z_side X w (-1)) (X 0 3)) = N at *
    obtain ⟨σ2, e2, i2, t2, f2⟩ := m_tellSet hi o1 t1 z1 (d + 15) cw hlt ctot
    have e55 : σ2 55 N = z_SW X w N 10 := by rw [f2 _ _ (by omega)]; exact (f1 N hlt).1
    refine ⟨σ2, ?_, i2, by rw [t2, z_upd_same]⟩
    have g1' : z_go (z_ev z_hcM (d + 19)) z_hcM 1282 26 [z_R 1, z_I w, z_I (z_tot (z_side X w (-1)) (X 0 3)), z_I 0, z_I 1] [] z_hdM σ1 = some (z_I (z_SW X w N 10), z_hdM, σ2) := by
      exact g1.trans (m_26e d (by omega) e2 e55)
    simp (disch := omega) only [z_E1282, k, if_pos, e1, z_fdM, z_pdM, z_adM, z_sdM, z_lkM, z_ndM, z_gdM, z_cI_some', z_cV_some', z_w_ok, Int.reduceAdd, Int.reduceSub, Int.reduceMul, Int.reduceNeg, Int.reduceEq, Int.reduceLT, Int.reduceLE, Int.reduceNe, reduceIte, true_and, and_true, false_and, and_false, if_true, if_false, ne_eq, not_true_eq_false, not_false_eq_true]
    exact g1'
  · rw [if_neg c] at k ⊢
    refine ⟨_, ?_, hi, z_upd_same⟩
    simp (disch := omega) only [z_E1282, k, z_fdM, z_pdM, z_adM, z_sdM, z_lkM, z_ndM, z_gdM, z_cI_some', z_cV_some', z_w_ok, Int.reduceAdd, Int.reduceSub, Int.reduceMul, Int.reduceNeg, Int.reduceEq, Int.reduceLT, Int.reduceLE, Int.reduceNe, reduceIte, true_and, and_true, false_and, and_false, if_true, if_false, ne_eq, not_true_eq_false, not_false_eq_true]
theorem z_LM_eq (hw : z_wf X) {w : Int} (i : Nat) : z_LM X w i 10 = z_Si X (z_Dm X (-1)) (X 0 4) (z_side X w (-1)) (z_side X w (-1)) (X 0 3) (X 7) i := by
  show z_lm _ _ 10 = z_lm (fun w => decide (0 < X 17 w)) (fun u => z_wv X (z_Dm X (-1)) (fun g => (z_Dm X (-1)).mn g * z_gp (z_Dm X (-1)) (X 0 4) (z_side X w (-1)) (z_ti (z_side X w (-1)) (X 0 3) (X 7) i) g) u) 10
  have e : (fun u : Nat => z_tk1 X (z_side X w (-1)) (z_ti (z_side X w (-1)) (X 0 3) (X 7) i) u) = fun u : Nat => z_wv X (z_Dm X (-1)) (fun g => (z_Dm X (-1)).mn g * z_gp (z_Dm X (-1)) (X 0 4) (z_side X w (-1)) (z_ti (z_side X w (-1)) (X 0 3) (X 7) i) g) u := funext fun u => z_tk1_wv hw (by omega)
  rw [e]
theorem M_safe (h : m_inv σ X) (d : Nat) (w : Int) : m_does (z_ev z_hcM (d + 20) 1283 [z_R 1, z_I w] z_hdM σ) (s_safe X w) := by
  have hi := m_inv_thr h
  have hcp := h.cp
  have k := m_canSet (d + 17) h.1 hi.2.1 w
  have h17 := h.1.2.2.2.2.2.2.2.2.2.2.2.2.2.2.1
  -- any weight
  have any : z_go (z_ev z_hcM (d + 19)) z_hcM 1283 9 [z_R 1, z_I w, z_I 0, z_I 0, z_U, z_U] [] z_hdM (z_upd σ 1 26 0) = z_go (z_ev z_hcM (d + 19)) z_hcM 1283 9 [z_R 1, z_I w, z_I (if z_anyw X 10 = true then 1 else 0), z_I 10, z_U, z_U] [] z_hdM (z_upd σ 1 26 0) := z_forv (S := Unit) (fun k _ => z_go (z_ev z_hcM (d + 19)) z_hcM 1283 9 [z_R 1, z_I w, z_I (if z_anyw X k = true then 1 else 0), z_I k, z_U, z_U] [] z_hdM (z_upd σ 1 26 0)) _ 10 () (fun k _ hk => ⟨(), by
    have e := hi.2.2.2.2.2.2.1 k (by omega) (by omega)
    have hs : z_anyw X (k + 1) = (z_anyw X k || decide (0 < X 17 k)) := rfl
    rw [hs, z_B1283_9]
    cases hb : z_anyw X k with
    | true => simp (disch := omega) only [if_neg, z_ns, Bool.true_or, z_fdM, z_pdM, z_adM, z_sdM, z_lkM, z_ndM, z_gdM, z_cI_some', z_cV_some', z_w_ok, Int.reduceAdd, Int.reduceSub, Int.reduceMul, Int.reduceNeg, Int.reduceEq, Int.reduceLT, Int.reduceLE, Int.reduceNe, reduceIte, true_and, and_true, false_and, and_false, if_true, if_false, ne_eq, not_true_eq_false, not_false_eq_true]
    | false =>
      by_cases c : 0 < X 17 k
      · have cd : decide (0 < X 17 k) = true := by simpa using c
        simp (disch := omega) only [if_neg, z_ns, Bool.false_or, Bool.false_eq_true, cd, e, z_fdM, z_pdM, z_adM, z_sdM, z_lkM, z_ndM, z_gdM, z_cI_some', z_cV_some', z_w_ok, Int.reduceAdd, Int.reduceSub, Int.reduceMul, Int.reduceNeg, Int.reduceEq, Int.reduceLT, Int.reduceLE, Int.reduceNe, reduceIte, true_and, and_true, false_and, and_false, if_true, if_false, ne_eq, not_true_eq_false, not_false_eq_true]
      · have cd : decide (0 < X 17 k) = false := by simpa using c
        simp (disch := omega) only [if_neg, if_pos, z_ns, Bool.false_or, Bool.false_eq_true, cd, e, z_fdM, z_pdM, z_adM, z_sdM, z_lkM, z_ndM, z_gdM, z_cI_some', z_cV_some', z_w_ok, Int.reduceAdd, Int.reduceSub, Int.reduceMul, Int.reduceNeg, Int.reduceEq, Int.reduceLT, Int.reduceLE, Int.reduceNe, reduceIte, true_and, and_true, false_and, and_false, if_true, if_false, ne_eq, not_true_eq_false, not_false_eq_true]⟩) (fun _ => rfl)
  unfold s_safe
  by_cases c : z_seek X w = true
  · rw [if_pos c] at k
    by_cases ca : z_anyw X 10 = true
    · rw [if_pos ⟨c, ca⟩]
      rw [if_pos ca] at any
      obtain ⟨cw, ctot0⟩ := z_seek_t.mp c
      have ctot : (z_tot (z_side X w (-1)) (X 0 3) : Int) ≤ 20000 := by omega
      clear ctot0
      have htp := z_tot_pos (mv := (z_side X w (-1))) hcp.1
      obtain ⟨σ1, e1, o1, t1, z1, f1⟩ := m_byW hi (d + 12) cw ctot
      obtain ⟨xx, -, qq⟩ := m_gat0 hi 0
      have hmr : ∀ (i : Nat) (g : Int), 0 ≤ g → g < (z_Dm X (-1)).gN → 0 ≤ (z_Dm X (-1)).mn g * z_gp (z_Dm X (-1)) (X 0 4) (z_side X w (-1)) (z_ti (z_side X w (-1)) (X 0 3) (X 7) i) g ∧ (z_Dm X (-1)).mn g * z_gp (z_Dm X (-1)) (X 0 4) (z_side X w (-1)) (z_ti (z_side X w (-1)) (X 0 3) (X 7) i) g ≤ 9900 := fun i g g0 g1 => by
        have a := m_mn99 hi qq g g0 g1
        have b := c_t20_pay (z_tcap_20 hcp.2 (z_ti_cap (mv := (z_side X w (-1))) (Int.le_refl _) hcp.1 h.tc i)) (z_and (z_ch ((z_Dm X (-1)).op g) (z_ti (z_side X w (-1)) (X 0 3) (X 7) i) (X 0 4)) (z_side X w (-1)))
        have m := z_mul_rng a.1 a.2 b.1 b.2
        exact ⟨m.1, by unfold z_gp; omega⟩
      have hLM0 : ∀ i, 0 ≤ z_LM X w i 10 := fun i => by
        rw [z_LM_eq h.1]
        exact z_lm_pos (fun u => (z_sm_rng (b := 9900) (fun g g0 g1 => z_if_rng (hmr i g g0 (by have := qq.gn.1; omega)).1 (hmr i g g0 (by have := qq.gn.1; omega)).2)).1) ca
      have hLW : ∀ i, z_LW X w i 10 = z_Si X (z_Dm X (-1)) (X 0 4) (z_side X w (-1)) (z_side X w (-1)) (X 0 3) (X 7) i := fun i => by
        unfold z_LW
        rw [if_neg (Int.not_lt.mpr (hLM0 i)), z_LM_eq h.1]
      have f1' : ∀ i, i < z_tot (z_side X w (-1)) (X 0 3) → σ1 56 i = z_Si X (z_Dm X (-1)) (X 0 4) (z_side X w (-1)) (z_side X w (-1)) (X 0 3) (X 7) i := fun i hi' => by rw [← hLW]; exact (f1 i hi').2
      have hgr : z_gr (z_Si X (z_Dm X (-1)) (X 0 4) (z_side X w (-1)) (z_side X w (-1)) (X 0 3) (X 7)) (z_tot (z_side X w (-1)) (X 0 3)) = z_Si X (z_Dm X (-1)) (X 0 4) (z_side X w (-1)) (z_side X w (-1)) (X 0 3) (X 7) (z_am (z_Si X (z_Dm X (-1)) (X 0 4) (z_side X w (-1)) (z_side X w (-1)) (X 0 3) (X 7)) (z_tot (z_side X w (-1)) (X 0 3))) := by
        obtain ⟨m, hm⟩ : ∃ m, z_tot (z_side X w (-1)) (X 0 3) = m + 1 := ⟨z_tot (z_side X w (-1)) (X 0 3) - 1, by omega⟩
        rw [hm]
        rfl
      rw [hgr]
      generalize z_Si X (z_Dm X (-1)) (X 0 4) (z_side X w (-1)) (z_side X w (-1)) (X 0 3) (X 7) = F at *
      have hlt := z_am_lt (F := F) htp
      have go : ∀ (n i : Nat), i + n = z_tot (z_side X w (-1)) (X 0 3) → 0 < i → z_go (z_ev z_hcM (d + 19)) z_hcM 1283 66 [z_R 1, z_I w, z_I 1, z_I (z_tot (z_side X w (-1)) (X 0 3)), z_I (z_am F i), z_I i] [] z_hdM σ1 = z_go (z_ev z_hcM (d + 19)) z_hcM 1283 66 [z_R 1, z_I w, z_I 1, z_I (z_tot (z_side X w (-1)) (X 0 3)), z_I (z_am F (z_tot (z_side X w (-1)) (X 0 3))), z_I (z_tot (z_side X w (-1)) (X 0 3))] [] z_hdM σ1 := by
        intro n
        induction n with
        | zero =>
          intro i hi' _
          rw [show i = z_tot (z_side X w (-1)) (X 0 3) by omega]
        | succ n ih =>
          intro i hi' h0
          have ha := z_am_lt (F := F) h0
          have fi := f1' i (by omega)
          have fa := f1' (z_am F i) (by omega)
          rw [← ih (i + 1) (by omega) (by omega), z_ns, m_66 d (by omega) (by omega) ctot fi fa]
          by_cases cc : F (z_am F i) < F i
          · rw [z_am_new cc, if_pos cc]
          · rw [z_am_keep (Int.not_lt.mp cc), if_neg cc]
      have g1 := go (z_tot (z_side X w (-1)) (X 0 3) - 1) 1 (by omega) (by omega)
      have a1 : z_am F 1 = 0 := by show (if _ then _ else _) = _; split <;> rfl
      rw [a1] at g1
      generalize z_am F (z_tot (z_side X w (-1)) (X 0 3)) = N at *
      obtain ⟨σ2, e2, i2, t2, f2⟩ := m_tellSet hi o1 t1 z1 (d + 15) cw hlt ctot
      have e56 : σ2 56 N = F N := by rw [f2 _ _ (by omega)]; exact f1' N hlt
      refine ⟨σ2, ?_, i2, by rw [t2, z_upd_same]⟩
      have g1' : z_go (z_ev z_hcM (d + 19)) z_hcM 1283 66 [z_R 1, z_I w, z_I 1, z_I (z_tot (z_side X w (-1)) (X 0 3)), z_I 0, z_I 1] [] z_hdM σ1 = some (z_I (F N), z_hdM, σ2) := by
        exact g1.trans (m_66e d (by omega) e2 e56)
      simp (disch := omega) only [z_E1283, z_fdM, z_pdM, z_adM, z_sdM, z_lkM, z_ndM, z_gdM, z_cI_some', z_cV_some', z_w_ok, Int.reduceAdd, Int.reduceSub, Int.reduceMul, Int.reduceNeg, Int.reduceEq, Int.reduceLT, Int.reduceLE, Int.reduceNe, reduceIte, true_and, and_true, false_and, and_false, if_true, if_false, ne_eq, not_true_eq_false, not_false_eq_true]
      rw [any, z_B1283_9]
      simp (disch := omega) only [k, if_pos, if_neg, e1, z_fdM, z_pdM, z_adM, z_sdM, z_lkM, z_ndM, z_gdM, z_cI_some', z_cV_some', z_w_ok, Int.reduceAdd, Int.reduceSub, Int.reduceMul, Int.reduceNeg, Int.reduceEq, Int.reduceLT, Int.reduceLE, Int.reduceNe, reduceIte, true_and, and_true, false_and, and_false, if_true, if_false, ne_eq, not_true_eq_false, not_false_eq_true]
      exact g1'
    · rw [if_neg (fun z => ca z.2)]
      rw [if_neg ca] at any
      refine ⟨_, ?_, hi, z_upd_same⟩
      simp (disch := omega) only [z_E1283, z_fdM, z_pdM, z_adM, z_sdM, z_lkM, z_ndM, z_gdM, z_cI_some', z_cV_some', z_w_ok, Int.reduceAdd, Int.reduceSub, Int.reduceMul, Int.reduceNeg, Int.reduceEq, Int.reduceLT, Int.reduceLE, Int.reduceNe, reduceIte, true_and, and_true, false_and, and_false, if_true, if_false, ne_eq, not_true_eq_false, not_false_eq_true]
      rw [any, z_B1283_9]
      simp (disch := omega) only [k, if_pos, if_neg, z_fdM, z_pdM, z_adM, z_sdM, z_lkM, z_ndM, z_gdM, z_cI_some', z_cV_some', z_w_ok, Int.reduceAdd, Int.reduceSub, Int.reduceMul, Int.reduceNeg, Int.reduceEq, Int.reduceLT, Int.reduceLE, Int.reduceNe, reduceIte, true_and, and_true, false_and, and_false, if_true, if_false, ne_eq, not_true_eq_false, not_false_eq_true]
  · rw [if_neg c] at k
    rw [if_neg (fun z => c z.1)]
    refine ⟨_, ?_, hi, z_upd_same⟩
    simp (disch := omega) only [z_E1283, z_fdM, z_pdM, z_adM, z_sdM, z_lkM, z_ndM, z_gdM, z_cI_some', z_cV_some', z_w_ok, Int.reduceAdd, Int.reduceSub, Int.reduceMul, Int.reduceNeg, Int.reduceEq, Int.reduceLT, Int.reduceLE, Int.reduceNe, reduceIte, true_and, and_true, false_and, and_false, if_true, if_false, ne_eq, not_true_eq_false, not_false_eq_true]
    rw [any, z_B1283_9]
    simp (disch := omega) only [k, if_pos, if_neg, z_fdM, z_pdM, z_adM, z_sdM, z_lkM, z_ndM, z_gdM, z_cI_some', z_cV_some', z_w_ok, Int.reduceAdd, Int.reduceSub, Int.reduceMul, Int.reduceNeg, Int.reduceEq, Int.reduceLT, Int.reduceLE, Int.reduceNe, reduceIte, true_and, and_true, false_and, and_false, if_true, if_false, ne_eq, not_true_eq_false, not_false_eq_true]
end
