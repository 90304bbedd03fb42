/-! The reference: fair told. -/
theorem z_xor_sub : ∀ s : Nat, s < 32 → ∀ m : Nat, m < 32 → z_dm (m : Int) s = 0 → z_xor (s : Int) m = z_dm s m := by decide +kernel
theorem z_dm_sub : ∀ s : Nat, s < 32 → ∀ m : Nat, m < 32 → (z_dm (m : Int) s = 0 ↔ m ||| s = s) := by decide +kernel
theorem z_pc_n : ∀ m : Nat, m < 32 → z_pc (m : Int) = (z_pcn m : Int) ∧ z_pcn m ≤ 5 := by decide +kernel
theorem z_and_tb : ∀ a : Nat, a < 32 → ∀ k : Nat, k < 5 → (z_and (a : Int) ((2 ^ k : Nat) : Int) = 0 ↔ a.testBit k = false) := by decide +kernel
section
variable {σ0 σ σ' σ'' X : z_S} {D : z_D} {nw : Int → Bool} {t t' T : Int → Int} {l : List Int}
theorem m_mine40 (d : Nat) (hw : z_wf X) (hl : m_land σ X) {r k w : Int} (hr : 0 ≤ r ∧ r < X 0 0) (h5 : X 5 r = w) (u5 u6 u7 u8 u9 : z_V) : z_go (z_ev z_hcM d) z_hcM 1287 40 [z_R 1, z_I r, z_I k, z_I 0, z_I 0, u5, u6, u7, u8, u9] [] z_hdM σ = z_go (z_ev z_hcM d) z_hcM 1287 90 [z_R 1, z_I r, z_I k, z_I (z_side X w (-1)), z_I 0, u5, u6, u7, u8, u9] [] z_hdM σ := by
  have hn := hw.2.1
  have hR := hw.1
  obtain ⟨⟨l1, l2, l3, l4⟩, l5, l6, l7⟩ := hl
  have er : σ 6 r = w := by rw [← h5]; exact (l5 r hr.1 hr.2).2.2.2.2
  have go : ∀ (n j : Nat), (j : Int) + n = X 0 1 → z_go (z_ev z_hcM d) z_hcM 1287 40 [z_R 1, z_I r, z_I k, z_I (z_bs (fun k => decide (X 5 (X 6 k) = w) && decide (X 6 k ≠ -1)) j), z_I j, u5, u6, u7, u8, u9] [] z_hdM σ = z_go (z_ev z_hcM d) z_hcM 1287 90 [z_R 1, z_I r, z_I k, z_I (z_side X w (-1)), z_I 0, u5, u6, u7, u8, u9] [] z_hdM σ := by
    intro n
    induction n with
    | zero =>
      intro j hj
      have e : z_bs (fun k => decide (X 5 (X 6 k) = w) && decide (X 6 k ≠ -1)) j = (z_side X w (-1)) := by
        unfold z_side
        rw [show (X 0 1).toNat = j by omega]
      rw [e, z_B1287_40]
      simp (disch := omega) only [l2, if_pos, z_fdM, z_pdM, z_adM, z_sdM, z_lkM, z_ndM, z_gdM, z_cI_some', z_cV_some', z_w_ok, Int.reduceAdd, Int.reduceSub, Int.reduceMul, Int.reduceNeg, Int.reduceEq, Int.reduceLT, Int.reduceLE, Int.reduceNe, reduceIte, true_and, and_true, false_and, and_false, if_true, if_false, ne_eq, not_true_eq_false, not_false_eq_true]
    | succ n ih =>
      intro j hj
      have ht := hw.2.2.2.2.2.2.2.2.1 j (by omega) (by omega)
      have e6 := l6 j (by omega) (by omega)
      have e5 := (l5 (X 6 j) ht.1 ht.2.1).2.2.2.2
      have hrr := z_bs_rng (P := fun k => decide (X 5 (X 6 k) = w) && decide (X 6 k ≠ -1)) (n := j)
      have hor := z_or_bit (m := z_bs (fun k => decide (X 5 (X 6 k) = w) && decide (X 6 k ≠ -1)) j) (k := (j : Int)) hrr.1 (by omega) (by omega) (by rw [Int.toNat_natCast]; exact hrr.2)
      rw [Int.toNat_natCast] at hor
      have hbs : z_bs (fun k => decide (X 5 (X 6 k) = w) && decide (X 6 k ≠ -1)) (j + 1) = z_bs (fun k => decide (X 5 (X 6 k) = w) && decide (X 6 k ≠ -1)) j + if (decide (X 5 (X 6 j) = w) && decide (X 6 j ≠ -1)) = true then ((2 ^ j : Nat) : Int) else 0 := rfl
      have hne : decide (X 6 j ≠ -1) = true := decide_eq_true (by omega)
      have h25 : 2 ^ j ≤ 2 ^ 5 := Nat.pow_le_pow_right (by omega) (by omega)
      have hz := z_or_0 (x := z_bs (fun k => decide (X 5 (X 6 k) = w) && decide (X 6 k ≠ -1)) j) hrr.1 (by omega)
      have next := ih (j + 1) (by omega)
      rw [hbs, hne, z_ns] at next
      rw [z_B1287_40]
      by_cases cc : X 5 (X 6 j) = w
      · rw [decide_eq_true cc, if_pos (by simp)] at next
        simp (disch := omega) only [if_neg, l2, e6, e5, er, cc, hor, z_fdM, z_pdM, z_adM, z_sdM, z_lkM, z_ndM, z_gdM, z_cI_some', z_cV_some', z_w_ok, Int.reduceAdd, Int.reduceSub, Int.reduceMul, Int.reduceNeg, Int.reduceEq, Int.reduceLT, Int.reduceLE, Int.reduceNe, reduceIte, true_and, and_true, false_and, and_false, if_true, if_false, ne_eq, not_true_eq_false, not_false_eq_true]
        exact next
      · rw [decide_eq_false cc, if_neg (by simp), Int.add_zero] at next
        simp (disch := omega) only [if_neg, if_pos, l2, e6, e5, er, hz, z_fdM, z_pdM, z_adM, z_sdM, z_lkM, z_ndM, z_gdM, z_cI_some', z_cV_some', z_w_ok, Int.reduceAdd, Int.reduceSub, Int.reduceMul, Int.reduceNeg, Int.reduceEq, Int.reduceLT, Int.reduceLE, Int.reduceNe, reduceIte, true_and, and_true, false_and, and_false, if_true, if_false, ne_eq, not_true_eq_false, not_false_eq_true]
        exact next
  have := go (X 0 1).toNat 0 (by omega)
  exact this
theorem m_90s (d : Nat) {r k S m w C v : Int} (hr : 0 ≤ r ∧ r < 15) (hm : 0 ≤ m ∧ m < 32) (hle : m ≤ S) (hS : S < 32) (h0 : z_and m (z_xor S (-1)) = 0) (er : σ 6 r = w) (l3 : σ 1 9 = C) (e : z_ev z_hcM d 1253 [z_R 1, z_I w, z_I (z_xor S m), z_I C] z_hdM σ = some (z_I v, z_hdM, σ')) (u5 u6 u7 u8 u9 : z_V) : z_go (z_ev z_hcM d) z_hcM 1287 90 [z_R 1, z_I r, z_I k, z_I S, z_I m, u5, u6, u7, u8, u9] [] z_hdM σ = z_go (z_ev z_hcM d) z_hcM 1287 90 [z_R 1, z_I r, z_I k, z_I S, z_I (m + 1), u5, u6, u7, u8, u9] [] z_hdM (z_upd σ' 57 m v) := by
  rw [z_B1287_90]
  simp (disch := omega) only [if_neg, h0, er, l3, e, z_fdM, z_pdM, z_adM, z_sdM, z_lkM, z_ndM, z_gdM, z_cI_some', z_cV_some', z_w_ok, Int.reduceAdd, Int.reduceSub, Int.reduceMul, Int.reduceNeg, Int.reduceEq, Int.reduceLT, Int.reduceLE, Int.reduceNe, reduceIte, true_and, and_true, false_and, and_false, if_true, if_false, ne_eq, not_true_eq_false, not_false_eq_true]
theorem m_90 (h : m_inv σ0 X) (q : m_on σ0 σ X (z_Dm X (-1)) (z_nwD X (-1)) (X 7)) (d : Nat) {r k w : Int} (hr : 0 ≤ r ∧ r < X 0 0) (h5 : X 5 r = w) (cw : w = 0 ∨ w = 1) (u5 u6 u7 u8 u9 : z_V) :
    ∃ σ', z_go (z_ev z_hcM (d + 19)) z_hcM 1287 90 [z_R 1, z_I r, z_I k, z_I (z_side X w (-1)), z_I 0, u5, u6, u7, u8, u9] [] z_hdM σ = z_go (z_ev z_hcM (d + 19)) z_hcM 1287 90 [z_R 1, z_I r, z_I k, z_I (z_side X w (-1)), z_I ((z_side X w (-1)) + 1), u5, u6, u7, u8, u9] [] z_hdM σ' ∧ m_on σ0 σ' X (z_Dm X (-1)) (z_nwD X (-1)) (X 7) ∧ ∀ b : Nat, (b : Int) ≤ (z_side X w (-1)) → z_dm (b : Int) (z_side X w (-1)) = 0 → σ' 57 b = z_Wm (z_Dm X (-1)) (X 0 4) (z_Dm X (-1)).mn (z_side X w (-1)) (X 0 3) (X 7) b := by
  have hcp := h.cp
  have hR := h.1.1
  have hsr := z_side_rng h.1 w (-1)
  obtain ⟨σ', e, q2, f2⟩ := z_for (fun (m : Nat) (x : z_S) => z_go (z_ev z_hcM (d + 19)) z_hcM 1287 90 [z_R 1, z_I r, z_I k, z_I (z_side X w (-1)), z_I m, u5, u6, u7, u8, u9] [] z_hdM x) (fun x => z_go (z_ev z_hcM (d + 19)) z_hcM 1287 90 [z_R 1, z_I r, z_I k, z_I (z_side X w (-1)), z_I ((z_side X w (-1)) + 1), u5, u6, u7, u8, u9] [] z_hdM x) (fun m x => m_on σ0 x X (z_Dm X (-1)) (z_nwD X (-1)) (X 7) ∧ ∀ b : Nat, b < m → z_dm (b : Int) (z_side X w (-1)) = 0 → x 57 b = z_Wm (z_Dm X (-1)) (X 0 4) (z_Dm X (-1)).mn (z_side X w (-1)) (X 0 3) (X 7) b) (((z_side X w (-1))).toNat + 1) (s := σ) ⟨q, fun b hb => absurd hb (Nat.not_lt_zero b)⟩
    (fun m x hm ⟨qx, fx⟩ => by
      have hdme : z_and (m : Int) (z_xor (z_side X w (-1)) (-1)) = z_dm m (z_side X w (-1)) := rfl
      have hdm := z_dm_ok (x := (m : Int)) (y := (z_side X w (-1))) ⟨by omega, by omega⟩ ⟨hsr.1, hsr.2.1⟩
      by_cases c : z_dm (m : Int) (z_side X w (-1)) = 0
      · have hx := z_xor_sub ((z_side X w (-1))).toNat (by omega) m (by omega)
        rw [Int.toNat_of_nonneg hsr.1] at hx
        have hx' := hx c
        obtain ⟨dm0, -, dmb⟩ := z_dm_ok (x := (z_side X w (-1))) (y := (m : Int)) ⟨hsr.1, hsr.2.1⟩ ⟨by omega, by omega⟩
        obtain ⟨x1, g1, o1, q1, -, -⟩ := qx.bestF h (d + 13) (w := w) (free := z_dm (z_side X w (-1)) m) cw h.tc dm0 (fun j j0 j1 hj => by
          rw [dmb j j0 j1, Bool.and_eq_true] at hj
          exact hj.1)
        have er : x 6 r = w := by rw [← h5]; exact ((qx.land h).2.1 r hr.1 hr.2).2.2.2.2
        rw [← hx'] at g1
        have hgo := m_90s (d + 19) (r := r) (k := k) (S := (z_side X w (-1))) (m := (m : Int)) (w := w) (C := (X 0 3)) (v := z_Wm (z_Dm X (-1)) (X 0 4) (z_Dm X (-1)).mn (z_side X w (-1)) (X 0 3) (X 7) m) (by omega) (by omega) (by omega) hsr.2.1 (hdme.trans c) er (qx.capv h) (by rw [hx'] at g1 ⊢; exact g1) u5 u6 u7 u8 u9
        refine ⟨z_upd x1 57 m (z_Wm (z_Dm X (-1)) (X 0 4) (z_Dm X (-1)).mn (z_side X w (-1)) (X 0 3) (X 7) m), ?_, q1.keep (m_off_upd (by omega)) (fun j j0 j1 => by rw [z_upd_ne (by omega)]; exact q1.2.2.2.1 j j0 j1) (by rw [z_upd_ne (by omega)]; exact q1.2.2.2.2), fun b hb hb0 => ?_⟩
        · rw [z_ns]
          exact hgo
        · by_cases cb : b = m
          · rw [cb, z_upd_same]
          · rw [z_upd_ne (by omega), m_at o1 (by omega)]
            exact fx b (by omega) hb0
      · refine ⟨x, ?_, qx, fun b hb hb0 => ?_⟩
        · rw [z_ns, z_B1287_90]
          simp (disch := omega) only [if_neg, if_pos, hdme, z_fdM, z_pdM, z_adM, z_sdM, z_lkM, z_ndM, z_gdM, z_cI_some', z_cV_some', z_w_ok, Int.reduceAdd, Int.reduceSub, Int.reduceMul, Int.reduceNeg, Int.reduceEq, Int.reduceLT, Int.reduceLE, Int.reduceNe, reduceIte, true_and, and_true, false_and, and_false, if_true, if_false, ne_eq, not_true_eq_false, not_false_eq_true]
        · by_cases cb : b = m
          · rw [cb] at hb0; exact absurd hb0 c
          · exact fx b (by omega) hb0) (fun x _ => by rw [show ((((z_side X w (-1))).toNat + 1 : Nat) : Int) = (z_side X w (-1)) + 1 by omega])
  exact ⟨σ', e, q2, fun b hb hb0 => f2 b (by omega) hb0⟩
theorem M_fair (h : m_inv σ X) (d : Nat) (r : Int) : m_does (z_ev z_hcM (d + 20) 1287 [z_R 1, z_I r] z_hdM σ) (s_fair X r) := by
  have hi := m_inv_thr h
  have hcp := h.cp
  have hn := h.1.2.1
  have kp := m_placeOf (d + 16) h.1 hi.2.1 r
  have hslr := z_slr_rng h.1 r
  have hR := h.1.1
  unfold s_fair
  by_cases c : 0 ≤ z_slr X r
  · obtain ⟨hr, es, hlt, e6, hho, hb⟩ := z_slr_pos h.1 c
    have e5 : (z_upd σ 1 26 0) 6 r = X 5 r := (hi.2.1.2.1 r hr.1 hr.2).2.2.2.2
    have k := m_canSet (d + 17) h.1 hi.2.1 (X 5 r)
    by_cases c2 : z_seek X (X 5 r) = true
    · rw [if_pos ⟨c, c2⟩]
      rw [if_pos c2] at k
      have hbit := hb _ rfl
      generalize hww : X 5 r = w at *
      have hsr := z_side_rng h.1 w (-1)
      obtain ⟨σ1, e1, q1⟩ := m_gat0 hi (d + 14)
      have g40 := m_mine40 (σ := σ1) (d + 19) h.1 (q1.land hi) (r := r) (k := z_slr X r) (w := w) hr hww z_U z_U z_U z_U z_U
      obtain ⟨σ2, g90, q2, f2⟩ := m_90 hi q1 d (r := r) (k := z_slr X r) (w := w) hr hww hho z_U z_U z_U z_U z_U
      have hM : ((((z_side X w (-1))).toNat : Nat) : Int) = (z_side X w (-1)) := Int.toNat_of_nonneg hsr.1
      have hK : (((z_slr X r).toNat : Nat) : Int) = z_slr X r := Int.toNat_of_nonneg c
      have htb : ((z_side X w (-1))).toNat.testBit (z_slr X r).toNat = true := hbit
      have hWr : ∀ a : Nat, 0 ≤ z_Wm (z_Dm X (-1)) (X 0 4) (z_Dm X (-1)).mn (z_side X w (-1)) (X 0 3) (X 7) (a : Int) ∧ z_Wm (z_Dm X (-1)) (X 0 4) (z_Dm X (-1)).mn (z_side X w (-1)) (X 0 3) (X 7) (a : Int) ≤ 475200 := fun a => z_brt_475 q1.gn.1 (m_mn99 hi q1) (z_tcap_20 hcp.2 (z_ti_cap (Int.le_refl _) hcp.1 (z_t0_cap hcp.1 h.tc) _))
      obtain ⟨hpcM, hpc5⟩ := z_pc_n ((z_side X w (-1))).toNat (by omega)
      rw [hM] at hpcM
      -- the sum
      have hFU : z_FU X r = z_og (fun a => z_Wm (z_Dm X (-1)) (X 0 4) (z_Dm X (-1)).mn (z_side X w (-1)) (X 0 3) (X 7) (a : Int)) ((z_side X w (-1))).toNat (z_slr X r).toNat (z_pcn ((z_side X w (-1))).toNat) 0 := by
        unfold z_FU
        rw [z_og_oc _ 0 (by omega), hww]
        refine z_sm_congr (fun a a0 a1 => ?_)
        have hoc := z_oc_all ((z_side X w (-1))).toNat (by omega) (z_slr X r).toNat (by omega) htb a.toNat (by omega)
        rw [hoc]
        have ha : ((a.toNat : Nat) : Int) = a := Int.toNat_of_nonneg a0
        have c1 := z_dm_sub ((z_side X w (-1))).toNat (by omega) a.toNat (by omega)
        have c3 := z_and_tb a.toNat (by omega) (z_slr X r).toNat (by omega)
        have hpa := (z_pc_n a.toNat (by omega)).1
        rw [ha] at c1 c3 hpa
        rw [hM] at c1
        have hor := z_or_n (a := a.toNat) (i := (z_slr X r).toNat) (by omega) (by omega)
        rw [hK, z_shl1 c (by omega), ha] at hor
        unfold z_add1
        by_cases cc : a.toNat ||| ((z_side X w (-1))).toNat = ((z_side X w (-1))).toNat ∧ a.toNat.testBit (z_slr X r).toNat = false
        · rw [if_pos cc, if_pos ⟨c1.mpr cc.1, c3.mpr cc.2⟩, hor, hpa, hpcM, Int.toNat_natCast, show ((z_pcn ((z_side X w (-1))).toNat : Int) - (z_pcn a.toNat : Int) - 1).toNat = z_pcn ((z_side X w (-1))).toNat - z_pcn a.toNat - 1 by omega, ha]
        · rw [if_neg cc, if_neg (fun z => cc ⟨c1.mp z.1, c3.mp z.2⟩), Int.zero_mul]
      have hFN : z_FN X r = z_fc (z_pcn ((z_side X w (-1))).toNat) := by
        unfold z_FN
        rw [hww, hpcM, Int.toNat_natCast]
      have hU0 : 0 ≤ z_FU X r ∧ z_FU X r ≤ 364953600 := by
        unfold z_FU
        have hs := z_sm_rng (n := 32) (f := z_add1 (z_Dm X (-1)) (X 0 4) (z_side X (X 5 r) (-1)) (X 0 3) (X 7) (z_slr X r)) (b := 11404800) (fun a a0 a1 => by
          rw [hww]
          unfold z_add1
          split
          · next cc =>
            have hp32 := z_pow_32 c (by omega)
            have hsub := z_sub_pc ((z_side X w (-1))).toNat (by omega) a.toNat (by omega) (z_slr X r).toNat (by omega) (by rw [hM, Int.toNat_of_nonneg a0, hK]; exact ⟨cc.1, cc.2, hbit⟩)
            rw [hM, Int.toNat_of_nonneg a0] at hsub
            have p1 := z_pc_le (z_side X w (-1))
            have p2 := z_pc_le a
            have hor := z_or_n (a := a.toNat) (i := (z_slr X r).toNat) (by omega) (by omega)
            rw [hK, z_shl1 c (by omega), Int.toNat_of_nonneg a0] at hor
            have h32 := z_or_lt32 (a := a.toNat) (i := (z_slr X r).toNat) (by omega) (by omega)
            have hmo := z_Wm_mono (D := (z_Dm X (-1))) (lean := (X 0 4)) (share := (z_Dm X (-1)).mn) (t := X 7) (fun g g0 g1 => (q1.goer hi g0 g1).1) ⟨hsr.1, hsr.2.1⟩ hcp.1 h.tc (a := a) (a' := z_or a ((2 ^ (z_slr X r).toNat : Nat) : Int)) ⟨a0, by omega⟩ (by rw [hor]; omega) (fun j j0 j1 hj => by
              rw [hor]
              unfold z_bt at hj ⊢
              rw [Int.toNat_natCast, Nat.testBit_or, hj]
              rfl)
            have f24 := z_fc_2 (z_pc a).toNat (by omega) (z_pc (z_side X w (-1)) - z_pc a - 1).toNat (by omega) (by omega)
            rw [hor] at hmo ⊢
            have wa := hWr a.toNat
            rw [Int.toNat_of_nonneg a0] at wa
            have wb := hWr (a.toNat ||| 2 ^ (z_slr X r).toNat)
            have mm := z_mul_rng (show 0 ≤ z_fc (z_pc a).toNat * z_fc (z_pc (z_side X w (-1)) - z_pc a - 1).toNat by omega) f24.2 (show 0 ≤ z_Wm (z_Dm X (-1)) (X 0 4) (z_Dm X (-1)).mn (z_side X w (-1)) (X 0 3) (X 7) ((a.toNat ||| 2 ^ (z_slr X r).toNat : Nat) : Int) - z_Wm (z_Dm X (-1)) (X 0 4) (z_Dm X (-1)).mn (z_side X w (-1)) (X 0 3) (X 7) a by omega) (show z_Wm (z_Dm X (-1)) (X 0 4) (z_Dm X (-1)).mn (z_side X w (-1)) (X 0 3) (X 7) ((a.toNat ||| 2 ^ (z_slr X r).toNat : Nat) : Int) - z_Wm (z_Dm X (-1)) (X 0 4) (z_Dm X (-1)).mn (z_side X w (-1)) (X 0 3) (X 7) a ≤ 475200 by omega)
            exact ⟨mm.1, by omega⟩
          · omega)
        exact ⟨hs.1, by omega⟩
      have hN0 : 1 ≤ z_FN X r ∧ z_FN X r ≤ 120 := by rw [hFN]; exact z_fc_rng _ hpc5
      -- the orders
      have s3 := m_orders (X := X) h.1 (W := fun a => z_Wm (z_Dm X (-1)) (X 0 4) (z_Dm X (-1)).mn (z_side X w (-1)) (X 0 3) (X 7) (a : Int)) (mine := ((z_side X w (-1))).toNat) (k := (z_slr X r).toNat) (by omega) (by omega) (fun i hi' => by
        have := z_side_b0 h.1 (w := w) (k := i) hi'
        unfold z_bt at this
        rw [Int.toNat_natCast] at this
        exact this) hWr (z_pcn ((z_side X w (-1))).toNat) 0 (z_upd (z_upd σ2 1 73 0) 1 74 0) 0 0 (d + 18 - z_pcn ((z_side X w (-1))).toNat) hpc5 (by omega) (Nat.zero_or _) (by show 0 + _ = _; omega) (by rw [z_upd_ne (by omega), z_upd_ne (by omega)]; exact (q2.land hi).1.2.1) (fun b hb hbs => by
        have := (z_dm_sub ((z_side X w (-1))).toNat (by omega) b hb).mpr hbs
        rw [hM] at this
        rw [z_upd_ne (by omega), z_upd_ne (by omega)]
        refine f2 b ?_ this
        have := z_dm_top ((z_side X w (-1))).toNat (by omega) b hb (by rw [hM]; exact this)
        omega) z_upd_same (by rw [z_upd_ne (by omega), z_upd_same]) (by omega) (by omega)
      obtain ⟨σ3, e3, o3, p3, r3⟩ := s3
      rw [show d + 18 - z_pcn ((z_side X w (-1))).toNat + z_pcn ((z_side X w (-1))).toNat + 1 = d + 19 by omega, hM, hK] at e3
      rw [← hFN, Int.zero_add] at p3
      rw [← hFU, Int.zero_add] at r3
      have q3 : m_on (z_upd σ 1 26 0) σ3 X (z_Dm X (-1)) (z_nwD X (-1)) (X 7) := q2.keep (fun a i _ _ h3 => by rw [o3 a i (by omega), z_upd_ne (by omega), z_upd_ne (by omega)]) (fun j j0 j1 => by rw [o3 _ _ (by omega), z_upd_ne (by omega), z_upd_ne (by omega)]; exact q2.2.2.2.1 j j0 j1) (by rw [o3 _ _ (by omega), z_upd_ne (by omega), z_upd_ne (by omega)]; exact q2.2.2.2.2)
      have hend := m_fairEnd hi z_upd_same q3 d (r := r) (k := z_slr X r) (mine := (z_side X w (-1))) hU0 hN0 r3 p3 z_U z_U
      have g166 : z_go (z_ev z_hcM (d + 19)) z_hcM 1287 40 [z_R 1, z_I r, z_I (z_slr X r), z_I 0, z_I 0, z_U, z_U, z_U, z_U, z_U] [] z_hdM σ1 = z_go (z_ev z_hcM (d + 19)) z_hcM 1287 166 [z_R 1, z_I r, z_I (z_slr X r), z_I (z_side X w (-1)), z_L (z_FU X r), z_U, z_L (z_FN X r), z_U, z_U, z_U] [] z_hdM σ3 := by
        refine (g40.trans g90).trans ?_
        rw [z_B1287_90]
        have e3' : z_ev z_hcM (d + 19) 1286 [z_R 1, z_I (z_side X w (-1)), z_I 0, z_I (z_slr X r)] z_hdM (z_upd (z_upd σ2 1 73 0) 1 74 0) = some (z_U, z_hdM, σ3) := e3
        simp (disch := omega) only [if_pos, e3', p3, r3, z_fdM, z_pdM, z_adM, z_sdM, z_lkM, z_ndM, z_gdM, z_cI_some', z_cV_some', z_w_ok, Int.reduceAdd, Int.reduceSub, Int.reduceMul, Int.reduceNeg, Int.reduceEq, Int.reduceLT, Int.reduceLE, Int.reduceNe, reduceIte, true_and, and_true, false_and, and_false, if_true, if_false, ne_eq, not_true_eq_false, not_false_eq_true]
      rw [← g166] at hend
      have es' : z_ev z_hcM (d + 20) 1287 [z_R 1, z_I r] z_hdM σ = z_go (z_ev z_hcM (d + 19)) z_hcM 1287 40 [z_R 1, z_I r, z_I (z_slr X r), z_I 0, z_I 0, z_U, z_U, z_U, z_U, z_U] [] z_hdM σ1 := by
        simp (disch := omega) only [z_E1287, kp, if_neg, if_pos, e5, k, e1, z_fdM, z_pdM, z_adM, z_sdM, z_lkM, z_ndM, z_gdM, z_cI_some', z_cV_some', z_w_ok, Int.reduceAdd, Int.reduceSub, Int.reduceMul, Int.reduceNeg, Int.reduceEq, Int.reduceLT, Int.reduceLE, Int.reduceNe, reduceIte, true_and, and_true, false_and, and_false, if_true, if_false, ne_eq, not_true_eq_false, not_false_eq_true]
      rw [es']
      exact hend
    · rw [if_neg (fun z => c2 z.2)]
      rw [if_neg c2] at k
      refine ⟨_, ?_, hi, z_upd_same⟩
      simp (disch := omega) only [z_E1287, kp, if_neg, if_pos, e5, k, z_fdM, z_pdM, z_adM, z_sdM, z_lkM, z_ndM, z_gdM, z_cI_some', z_cV_some', z_w_ok, Int.reduceAdd, Int.reduceSub, Int.reduceMul, Int.reduceNeg, Int.reduceEq, Int.reduceLT, Int.reduceLE, Int.reduceNe, reduceIte, true_and, and_true, false_and, and_false, if_true, if_false, ne_eq, not_true_eq_false, not_false_eq_true]
  · rw [if_neg (fun z => c z.1)]
    have e : z_slr X r = -1 := by omega
    rw [e] at kp
    refine ⟨_, ?_, hi, z_upd_same⟩
    rw [z_E1287, z_pdM, z_fdM, kp, z_cI_some', if_pos rfl]
end
