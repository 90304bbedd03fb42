/-! The reference: what isn't known: learn, mean, safe. -/
theorem z_sm_mulc {c : Int} {f : Int → Int} : ∀ {n : Nat}, c * z_sm n f = z_sm n (fun k => c * f k)
  | 0 => Int.mul_zero _
  | n + 1 => by rw [z_sm_s, z_sm_s, Int.mul_add, z_sm_mulc]
theorem z_sm_0 : ∀ {n : Nat}, z_sm n (fun _ => 0) = 0
  | 0 => rfl
  | n + 1 => by rw [z_sm_s, z_sm_0]; rfl
theorem z_sm_swap {f : Int → Int → Int} {m : Nat} : ∀ {n : Nat}, z_sm n (fun u => z_sm m (fun g => f u g)) = z_sm m (fun g => z_sm n (fun u => f u g))
  | 0 => z_sm_0.symm
  | n + 1 => by
    have ih := z_sm_swap (f := f) (m := m) (n := n)
    rw [z_sm_s, ih, ← z_sm_add]
    rfl
section
variable {σ0 σ σ' σ'' X : z_S} {D : z_D} {nw : Int → Bool} {t T : Int → Int} {l : List Int}
theorem z_LWs {A B : Int} (h0 : 0 ≤ A) (h1 : A < 2147483647) (h2 : -1 ≤ B ∧ B < 2147483647) : (if (if B < 0 ∨ A < B then A else B) < 0 then (2147483647 : Int) else if B < 0 ∨ A < B then A else B) = if A < (if B < 0 then 2147483647 else B) then A else if B < 0 then 2147483647 else B := by
  by_cases c : B < 0
  · simp only [c, true_or, if_true]
    rw [if_neg (show ¬ A < 0 by omega), if_pos h1]
  · by_cases c2 : A < B
    · simp only [c, c2, or_true, if_true, if_false]
      rw [if_neg (show ¬ A < 0 by omega)]
    · simp only [c, c2, or_false, if_false]
/-- the goers of world u -/
def z_GW (X : z_S) (u : Int) : List (Int × Int) := (z_gln X (X 0 2).toNat).filter (z_gpr X (-1) u)
theorem z_gpr_w {u : Int} (hu : 0 ≤ u) (g : Int) : z_gpr X (-1) u (z_gj X g, z_gw X g) = z_inw X (z_Dm X (-1)) u g := by
  unfold z_gpr z_inw
  rw [decide_eq_false (show ¬ u = -1 by omega)]
  show ((decide ((-1 : Int) = -1) || _) && (false || (decide (X 13 (z_gj X g) = 0) || decide (z_gw X g = u)))) = (decide (X 13 (z_gj X g) = 0) || decide (z_gw X g = u))
  simp
/-- what a set brings in world u -/
noncomputable def z_tk1 (X : z_S) (side : Int) (t : Int → Int) (u : Int) : Int := z_brt (z_DG X (-1) (z_GW X u)).op (z_DG X (-1) (z_GW X u)).mn (z_DG X (-1) (z_GW X u)).gN (X 0 4) side t
theorem z_tk1_wv (hw : z_wf X) {side u : Int} (hu : 0 ≤ u) : z_tk1 X side t u = z_wv X (z_Dm X (-1)) (fun g => (z_Dm X (-1)).mn g * z_gp (z_Dm X (-1)) (X 0 4) side t g) u := by
  unfold z_tk1 z_GW
  rw [z_brt_flt hw]
  unfold z_wv
  refine z_sm_congr (fun g g0 g1 => ?_)
  show (if z_gpr X (-1) u (z_gj X g, z_gw X g) = true then (z_Dm X (-1)).mn g else 0) * z_gp (z_Dm X (-1)) (X 0 4) side t g = if z_inw X (z_Dm X (-1)) u g = true then (z_Dm X (-1)).mn g * z_gp (z_Dm X (-1)) (X 0 4) side t g else 0
  rw [z_gpr_w hu]
  by_cases c : z_inw X (z_Dm X (-1)) u g = true
  · rw [if_pos c, if_pos c]
  · rw [if_neg c, if_neg c, Int.zero_mul]
theorem M_learn (h : m_inv σ X) (d : Nat) (r v : Int) : m_does (z_ev z_hcM (d + 20) 1284 [z_R 1, z_I r, z_I v] z_hdM σ) (s_learn X r v) := by
  have hi := m_inv_thr h
  have hcp := h.cp
  have kr := m_isRoad (d + 17) h.1 hi.2.1 r
  unfold s_learn
  by_cases c : 0 ≤ r ∧ r < X 0 0
  · rw [if_pos c] at kr
    by_cases c2 : 0 ≤ v
    · rw [if_pos ⟨c, c2⟩]
      have hbw : ∀ u : Nat, z_sm (z_DG X (-1) (z_GW X u)).gN.toNat (fun g => if z_pass (z_DG X (-1) (z_GW X u)) (X 0 4) (X 7) r g then (z_DG X (-1) (z_GW X u)).mn g else 0) = z_bw X (z_Dm X (-1)) (X 0 4) (X 7) r u := fun u => by
        have hs := z_sum_flt h.1 (z_gpr X (-1) u) (fun q => if z_ps (match z_opG X (-1) q (z_ch (z_opG X (-1) q) (X 7) (X 0 4)) with | some p => p.2 | none => 0) r (z_steps (match z_opG X (-1) q (z_ch (z_opG X (-1) q) (X 7) (X 0 4)) with | some p => p.2 | none => 0)) = true then X 10 q.1 else 0)
        refine Eq.trans hs ?_
        unfold z_bw z_wv
        refine z_sm_congr (fun g g0 g1 => ?_)
        rw [z_gpr_w (by omega)]
        rfl
      obtain ⟨σ2, e2, o2, t2, z2⟩ := z_for (fun (k : Nat) (x : z_S) => z_go (z_ev z_hcM (d + 19)) z_hcM 1284 24 [z_R 1, z_I r, z_I v, z_I (z_bs (fun u => decide (z_bw X (z_Dm X (-1)) (X 0 4) (X 7) r u = v)) k), z_I k] [] z_hdM x) (fun x => some (z_I (z_bs (fun u => decide (z_bw X (z_Dm X (-1)) (X 0 4) (X 7) r u = v)) 10), z_hdM, x)) (fun k x => m_off 27 35 57 (z_upd σ 1 26 0) x ∧ m_t x (X 7) ∧ x 40 0 = 0) 10 (s := z_upd σ 1 26 0) ⟨m_off_refl, hi.2.2.2.1, hi.2.2.2.2.1⟩
        (fun k x hk ⟨ho, ht, hz⟩ => by
          obtain ⟨x1, g1, o1, q1⟩ := m_gatG hi ho ht hz (d + 15) (-1) (-1) k
          obtain ⟨x2, g2, q2⟩ := q1.goBy hi (d + 14) h.t20 r
          rw [show (z_gln X (X 0 2).toNat).filter (z_gpr X (-1) k) = z_GW X k from rfl, hbw k] at g2
          have hr := z_bs_rng (P := fun u => decide (z_bw X (z_Dm X (-1)) (X 0 4) (X 7) r u = v)) (n := k)
          have h29 : 2 ^ k ≤ 2 ^ 10 := Nat.pow_le_pow_right (by omega) (by omega)
          have hor := z_or_bit (m := z_bs (fun u => decide (z_bw X (z_Dm X (-1)) (X 0 4) (X 7) r u = v)) k) (k := (k : Int)) hr.1 (by omega) (by omega) (by rw [Int.toNat_natCast]; exact hr.2)
          rw [Int.toNat_natCast] at hor
          have hbs : z_bs (fun u => decide (z_bw X (z_Dm X (-1)) (X 0 4) (X 7) r u = v)) (k + 1) = z_bs (fun u => decide (z_bw X (z_Dm X (-1)) (X 0 4) (X 7) r u = v)) k + if decide (z_bw X (z_Dm X (-1)) (X 0 4) (X 7) r k = v) = true then ((2 ^ k : Nat) : Int) else 0 := rfl
          refine ⟨x2, ?_, q2.1, q2.2.2.2.1, q2.2.2.2.2⟩
          rw [hbs, z_B1284_24]
          by_cases cc : z_bw X (z_Dm X (-1)) (X 0 4) (X 7) r k = v
          · rw [if_pos (decide_eq_true cc)]
            simp (disch := omega) only [if_neg, g1, g2, cc, hor, z_ns, z_fdM, z_pdM, z_adM, z_sdM, z_lkM, z_ndM, z_gdM, z_cI_some', z_cV_some', z_w_ok, Int.reduceAdd, Int.reduceSub, Int.reduceMul, Int.reduceNeg, Int.reduceEq, Int.reduceLT, Int.reduceLE, Int.reduceNe, reduceIte, true_and, and_true, false_and, and_false, if_true, if_false, ne_eq, not_true_eq_false, not_false_eq_true]
          · rw [if_neg (show ¬ decide (z_bw X (z_Dm X (-1)) (X 0 4) (X 7) r k = v) = true by simpa using cc), Int.add_zero]
            simp (disch := omega) only [if_neg, if_pos, g1, g2, z_ns, z_fdM, z_pdM, z_adM, z_sdM, z_lkM, z_ndM, z_gdM, z_cI_some', z_cV_some', z_w_ok, Int.reduceAdd, Int.reduceSub, Int.reduceMul, Int.reduceNeg, Int.reduceEq, Int.reduceLT, Int.reduceLE, Int.reduceNe, reduceIte, true_and, and_true, false_and, and_false, if_true, if_false, ne_eq, not_true_eq_false, not_false_eq_true]) (fun x _ => by
          rw [z_B1284_24]
          simp (disch := omega) only [if_pos, z_fdM, z_pdM, z_adM, z_sdM, z_lkM, z_ndM, z_gdM, z_cI_some', z_cV_some', z_w_ok, Int.reduceAdd, Int.reduceSub, Int.reduceMul, Int.reduceNeg, Int.reduceEq, Int.reduceLT, Int.reduceLE, Int.reduceNe, reduceIte, true_and, and_true, false_and, and_false, if_true, if_false, ne_eq, not_true_eq_false, not_false_eq_true])
      refine ⟨σ2, ?_, m_inv_off (m_off_le o2 (by omega) (by omega) (by omega)) t2 z2 hi, by rw [m_at o2 (by omega), z_upd_same]⟩
      have e2' : z_go (z_ev z_hcM (d + 19)) z_hcM 1284 24 [z_R 1, z_I r, z_I v, z_I 0, z_I 0] [] z_hdM (z_upd σ 1 26 0) = _ := e2
      simp (disch := omega) only [z_E1284, kr, if_pos, if_neg, e2', z_fdM, z_pdM, z_adM, z_sdM, z_lkM, z_ndM, z_gdM, z_cI_some', z_cV_some', z_w_ok, Int.reduceAdd, Int.reduceSub, Int.reduceMul, Int.reduceNeg, Int.reduceEq, Int.reduceLT, Int.reduceLE, Int.reduceNe, reduceIte, true_and, and_true, false_and, and_false, if_true, if_false, ne_eq, not_true_eq_false, not_false_eq_true]
    · rw [if_neg (fun z => c2 z.2)]
      refine ⟨_, ?_, hi, z_upd_same⟩
      simp (disch := omega) only [z_E1284, kr, if_pos, if_neg, z_fdM, z_pdM, z_adM, z_sdM, z_lkM, z_ndM, z_gdM, z_cI_some', z_cV_some', z_w_ok, Int.reduceAdd, Int.reduceSub, Int.reduceMul, Int.reduceNeg, Int.reduceEq, Int.reduceLT, Int.reduceLE, Int.reduceNe, reduceIte, true_and, and_true, false_and, and_false, if_true, if_false, ne_eq, not_true_eq_false, not_false_eq_true]
  · rw [if_neg c] at kr
    rw [if_neg (fun z => c z.1)]
    refine ⟨_, ?_, hi, z_upd_same⟩
    rw [z_E1284, z_pdM, z_fdM, kr, z_cI_some', if_pos rfl]
theorem m_on.lay0 (h : m_inv σ0 X) (q : m_on σ0 σ X D nw t) (d : Nat) (w : Int) {cp : Int} : ∃ σb, z_ev z_hcM (d + 1) 1249 [z_R 1, z_I w, z_I 0] z_hdM σ = some (z_U, z_hdM, σb) ∧ m_on σ0 σb X D nw (z_ti (z_side X w (-1)) cp t 0) ∧ m_pls σb (z_side X w (-1)) (X 0 1) ∧ ∀ a i, a ≠ 8 → a ≠ 43 → (a ≠ 1 ∨ i ≠ 56) → σb a i = σ a i := by
  obtain ⟨σ2, e2, o2, t2, p2⟩ := m_lay (σ := σ) (t := t) (h := w) (free := 0) (mv := (z_side X w (-1))) d h.1 (q.land h) q.2.2.2.1 (by omega) (m_mvb h.1)
  exact ⟨σ2, e2, q.keep (fun a i h1 h2 h3 => o2 a i h1 (by omega) (by omega)) (fun k k0 k1 => by rw [t2 k k0 k1]; exact m_ti0 h.1 k k0) (by rw [o2 _ _ (by omega) (by omega) (by omega)]; exact q.2.2.2.2), p2, o2⟩
/-- sums and least takes of set i over the first n worlds -/
noncomputable def z_SW (X : z_S) (w : Int) (i : Nat) (n : Nat) : Int := z_sm n (fun u => X 17 u * z_tk1 X (z_side X w (-1)) (z_ti (z_side X w (-1)) (X 0 3) (X 7) i) u)
noncomputable def z_LM (X : z_S) (w : Int) (i : Nat) (n : Nat) : Int := z_lm (fun u => decide (0 < X 17 u)) (fun u => z_tk1 X (z_side X w (-1)) (z_ti (z_side X w (-1)) (X 0 3) (X 7) i) u) n
noncomputable def z_LW (X : z_S) (w : Int) (i : Nat) (n : Nat) : Int := if z_LM X w i n < 0 then 2147483647 else z_LM X w i n
theorem z_LW_0 {w : Int} {i : Nat} : z_LW X w i 0 = 2147483647 := by
  unfold z_LW
  exact if_pos (show (-1 : Int) < 0 by omega)
theorem m_29z (d : Nat) {s s1 : z_S} {w i : Int} (hi : 0 ≤ i ∧ i < 20000) (f1 : z_ev z_hcM (d + 6) 1233 [z_R 1] z_hdM s = some (z_U, z_hdM, s1)) : z_go (z_ev z_hcM (d + 6)) z_hcM 1280 29 [z_R 1, z_I w, z_I i, z_I 0] [] z_hdM s = z_go (z_ev z_hcM (d + 6)) z_hcM 1280 53 [z_R 1, z_I w, z_I i, z_I 0] [] z_hdM (z_upd (z_upd s1 55 i 0) 56 i 2147483647) := by
  rw [z_B1280_29]
  simp (disch := omega) only [f1, if_pos, if_neg, z_fdM, z_pdM, z_adM, z_sdM, z_lkM, z_ndM, z_gdM, z_cI_some', z_cV_some', z_w_ok, Int.reduceAdd, Int.reduceSub, Int.reduceMul, Int.reduceNeg, Int.reduceEq, Int.reduceLT, Int.reduceLE, Int.reduceNe, reduceIte, true_and, and_true, false_and, and_false, if_true, if_false, ne_eq, not_true_eq_false, not_false_eq_true]
theorem m_byW (h : m_inv σ X) (d : Nat) {w : Int} (cw : w = 0 ∨ w = 1) (ctot : (z_tot (z_side X w (-1)) (X 0 3) : Int) ≤ 20000) :
    ∃ σ', z_ev z_hcM (d + 7) 1280 [z_R 1, z_I w] z_hdM σ = some (z_I (z_tot (z_side X w (-1)) (X 0 3)), z_hdM, σ') ∧ m_off 27 35 57 σ σ' ∧ m_t σ' (X 7) ∧ σ' 40 0 = 0 ∧ ∀ i : Nat, i < z_tot (z_side X w (-1)) (X 0 3) → σ' 55 i = z_SW X w i 10 ∧ σ' 56 i = z_LW X w i 10 := by
  have hcp := h.cp
  have hsr := z_side_rng h.1 w (-1)
  have htp := z_tot_pos (mv := (z_side X w (-1))) hcp.1
  have h17 := h.1.2.2.2.2.2.2.2.2.2.2.2.2.2.2.1
  obtain ⟨σ1, e1, o1, k1⟩ := m_keep (σ := σ) (d + 5)
  have off1 : m_off 27 35 57 σ σ1 := fun a i _ h2 _ => o1 a i (by omega)
  have htk : ∀ (u : Int) (i : Nat), 0 ≤ u → 0 ≤ z_tk1 X (z_side X w (-1)) (z_ti (z_side X w (-1)) (X 0 3) (X 7) i) u ∧ z_tk1 X (z_side X w (-1)) (z_ti (z_side X w (-1)) (X 0 3) (X 7) i) u ≤ 475200 := fun u i hu => by
    obtain ⟨x1, g1, -, q1⟩ := m_gatG h m_off_refl h.2.2.2.1 h.2.2.2.2.1 0 (-1) (-1) u
    exact z_brt_475 q1.gn.1 (m_mn99 h q1) (z_tcap_20 hcp.2 (z_ti_cap (Int.le_refl _) hcp.1 h.tc i))
  have hSW : ∀ (i n : Nat), n ≤ 10 → 0 ≤ z_SW X w i n ∧ z_SW X w i n ≤ n * 47044800 := fun i n hn => z_sm_rng (fun u u0 u1 => by
    have a := h17 u u0 (by omega)
    have b := htk u i u0
    have m := z_mul_rng a.1 a.2 b.1 b.2
    exact ⟨m.1, by omega⟩)
  have hLM : ∀ (i n : Nat), -1 ≤ z_LM X w i n ∧ z_LM X w i n ≤ 475200 := fun i n => by
    refine ⟨z_lm_ge (fun u => Int.le_trans (by decide) (htk u i (Int.natCast_nonneg u)).1) n, ?_⟩
    unfold z_LM
    induction n with
    | zero => unfold z_lm; omega
    | succ n ih =>
      unfold z_lm
      split
      · exact (htk n i (by omega)).2
      · exact ih
  obtain ⟨u9, σ2, e2, o2, t2, z2, k2, f2⟩ := z_foru (U := Int) (fun (u : Nat) (y : Int) (x : z_S) => z_go (z_ev z_hcM (d + 6)) z_hcM 1280 8 [z_R 1, z_I w, z_I (if u = 0 then 0 else (z_tot (z_side X w (-1)) (X 0 3) : Int)), z_I u] [] z_hdM x) (fun _ x => some (z_I (z_tot (z_side X w (-1)) (X 0 3)), z_hdM, x)) (fun u x => m_off 27 35 57 σ x ∧ m_t x (X 7) ∧ x 40 0 = 0 ∧ (∀ k, 0 ≤ k → k < 5 → x 44 k = X 7 k) ∧ (0 < u → ∀ i : Nat, i < z_tot (z_side X w (-1)) (X 0 3) → x 55 i = z_SW X w i u ∧ x 56 i = z_LW X w i u)) 10 (u := 0) (s := σ1) ⟨off1, fun k k0 k1' => by rw [o1 _ _ (by omega)]; exact h.2.2.2.1 k k0 k1', by rw [o1 _ _ (by omega)]; exact h.2.2.2.2.1, fun k k0 k1' => by rw [k1 k k0 k1']; exact h.2.2.2.1 k k0 k1', fun h0 => absurd h0 (by omega)⟩
    (fun u y x hu ⟨xo, xt, xz, xk, xf⟩ => by
      obtain ⟨x1, g1, p1, q1⟩ := m_gatG h xo xt xz (d + 2) (-1) (-1) u
      obtain ⟨x2, g2, q2, pl2, p2⟩ := q1.lay0 h (d + 5) w (cp := (X 0 3))
      have hwu := h17 u (by omega) (by omega)
      have htkd : ∀ i : Nat, z_brt (z_DG X (-1) ((z_gln X (X 0 2).toNat).filter (z_gpr X (-1) u))).op (z_DG X (-1) ((z_gln X (X 0 2).toNat).filter (z_gpr X (-1) u))).mn (z_DG X (-1) ((z_gln X (X 0 2).toNat).filter (z_gpr X (-1) u))).gN (X 0 4) (z_side X w (-1)) (z_ti (z_side X w (-1)) (X 0 3) (X 7) i) = z_tk1 X (z_side X w (-1)) (z_ti (z_side X w (-1)) (X 0 3) (X 7) i) u := fun i => rfl
      have fr : ∀ a i, a = 44 ∨ a = 55 ∨ a = 56 → x2 a i = x a i := fun a i ha => by rw [p2 a i (by omega) (by omega) (by omega), p1 a i (by omega) (by omega)]
      obtain ⟨n9, x3, g3, hn9, q3, k3, pl3, f3⟩ := z_dow (z_tot (z_side X w (-1)) (X 0 3)) (fun (n : Int) (s : z_S) => z_go (z_ev z_hcM (d + 6)) z_hcM 1280 29 [z_R 1, z_I w, z_I n, z_I u] [] z_hdM s) (fun n s => z_cV (z_ev z_hcM (d + 6) 1248 [z_R 1] z_hdM s) (fun h4 s5 => z_go (z_ev z_hcM (d + 6)) z_hcM 1280 8 [z_R 1, z_I w, z_I n, z_I ((u : Int) + 1)] [] h4 s5)) (fun i n s => n = (i : Int) ∧ m_on σ s X (z_DG X (-1) ((z_gln X (X 0 2).toNat).filter (z_gpr X (-1) u))) (z_nwl X (-1) ((z_gln X (X 0 2).toNat).filter (z_gpr X (-1) u))) (z_ti (z_side X w (-1)) (X 0 3) (X 7) i) ∧ (∀ k, 0 ≤ k → k < 5 → s 44 k = X 7 k) ∧ m_pls s (z_side X w (-1)) (X 0 1) ∧ ∀ j : Nat, j < z_tot (z_side X w (-1)) (X 0 3) → (j < i → s 55 j = z_SW X w j (u + 1) ∧ s 56 j = z_LW X w j (u + 1)) ∧ (i ≤ j → 0 < u → s 55 j = z_SW X w j u ∧ s 56 j = z_LW X w j u)) htp (u := 0) (s := x2) ⟨rfl, q2, fun k k0 k1 => by rw [fr _ _ (by omega)]; exact xk k k0 k1, pl2, fun j hj => ⟨fun h0 => absurd h0 (by omega), fun _ h0 => by rw [fr _ _ (by omega), fr _ _ (by omega)]; exact xf h0 j hj⟩⟩
        (fun i n s hi' ⟨hn, qs, ks, ps, fs⟩ => by
          have hti := z_ti_cap (mv := (z_side X w (-1))) (Int.le_refl (X 0 3)) hcp.1 h.tc i
          obtain ⟨s1, f1, r1, qs1, -, b1, -⟩ := qs.work h (d + 2) (z_tcap_20 hcp.2 hti)
          have b1' := b1 w cw
          rw [htkd] at b1'
          have htki := htk u i (by omega)
          have hSWi := hSW i u (by omega)
          have hLMi := hLM i u
          have s18 : s1 18 u = X 17 u := by rw [m_at qs1.1 (by omega)]; exact h.2.2.2.2.2.2.1 u (by omega) (by omega)
          -- the two entries made ready
          have pre : ∃ s2, z_go (z_ev z_hcM (d + 6)) z_hcM 1280 29 [z_R 1, z_I w, z_I n, z_I u] [] z_hdM s = z_go (z_ev z_hcM (d + 6)) z_hcM 1280 53 [z_R 1, z_I w, z_I i, z_I u] [] z_hdM s2 ∧ (∀ a j, (a ≠ 55 ∧ a ≠ 56) ∨ j ≠ (i : Int) → s2 a j = s1 a j) ∧ s2 55 i = z_SW X w i u ∧ s2 56 i = z_LW X w i u := by
            rw [hn]
            by_cases cu : u = 0
            · refine ⟨z_upd (z_upd s1 55 i 0) 56 i 2147483647, ?_, fun a j ha => by rw [z_upd_ne (by omega), z_upd_ne (by omega)], ?_, ?_⟩
              · rw [show (u : Int) = 0 by omega]
                exact m_29z d (by omega) f1
              · rw [z_upd_ne (by omega), z_upd_same, cu]; rfl
              · rw [z_upd_same, cu]; exact (z_LW_0).symm
            · refine ⟨s1, ?_, fun _ _ _ => rfl, ?_, ?_⟩
              · rw [z_B1280_29]
                simp (disch := omega) only [f1, if_pos, z_fdM, z_pdM, z_adM, z_sdM, z_lkM, z_ndM, z_gdM, z_cI_some', z_cV_some', z_w_ok, Int.reduceAdd, Int.reduceSub, Int.reduceMul, Int.reduceNeg, Int.reduceEq, Int.reduceLT, Int.reduceLE, Int.reduceNe, reduceIte, true_and, and_true, false_and, and_false, if_true, if_false, ne_eq, not_true_eq_false, not_false_eq_true]
              · rw [r1 _ _ (by omega) (by omega)]; exact ((fs i hi').2 (Nat.le_refl _) (by omega)).1
              · rw [r1 _ _ (by omega) (by omega)]; exact ((fs i hi').2 (Nat.le_refl _) (by omega)).2
          obtain ⟨s2, g2, r2, a2, c2⟩ := pre
          have hsS : z_SW X w i (u + 1) = z_SW X w i u + X 17 u * z_tk1 X (z_side X w (-1)) (z_ti (z_side X w (-1)) (X 0 3) (X 7) i) u := rfl
          have hsL : z_LM X w i (u + 1) = if decide (0 < X 17 u) = true ∧ (z_LM X w i u < 0 ∨ z_tk1 X (z_side X w (-1)) (z_ti (z_side X w (-1)) (X 0 3) (X 7) i) u < z_LM X w i u) then z_tk1 X (z_side X w (-1)) (z_ti (z_side X w (-1)) (X 0 3) (X 7) i) u else z_LM X w i u := rfl
          have hm := z_mul_rng hwu.1 hwu.2 htki.1 htki.2
          have s218 : s2 18 u = X 17 u := by rw [r2 _ _ (by omega)]; exact s18
          have s242 : s2 42 w = z_tk1 X (z_side X w (-1)) (z_ti (z_side X w (-1)) (X 0 3) (X 7) i) u := by rw [r2 _ _ (by omega)]; exact b1'
          have mid : ∃ s3, z_go (z_ev z_hcM (d + 6)) z_hcM 1280 53 [z_R 1, z_I w, z_I i, z_I u] [] z_hdM s2 = z_go (z_ev z_hcM (d + 6)) z_hcM 1280 105 [z_R 1, z_I w, z_I i, z_I u] [] z_hdM s3 ∧ (∀ a j, (a ≠ 55 ∧ a ≠ 56) ∨ j ≠ (i : Int) → s3 a j = s1 a j) ∧ s3 55 i = z_SW X w i (u + 1) ∧ s3 56 i = z_LW X w i (u + 1) := by
            have hc56 := c2
            unfold z_LW at hc56
            by_cases cx : X 17 u ≤ 0
            · refine ⟨z_upd s2 55 i (z_SW X w i u + X 17 u * z_tk1 X (z_side X w (-1)) (z_ti (z_side X w (-1)) (X 0 3) (X 7) i) u), ?_, fun a j ha => by rw [z_upd_ne (by omega)]; exact r2 a j ha, by rw [z_upd_same, hsS], ?_⟩
              · rw [z_B1280_53]
                simp (disch := omega) only [a2, s218, s242, z_upd_ne, if_pos, z_fdM, z_pdM, z_adM, z_sdM, z_lkM, z_ndM, z_gdM, z_cI_some', z_cV_some', z_w_ok, Int.reduceAdd, Int.reduceSub, Int.reduceMul, Int.reduceNeg, Int.reduceEq, Int.reduceLT, Int.reduceLE, Int.reduceNe, reduceIte, true_and, and_true, false_and, and_false, if_true, if_false, ne_eq, not_true_eq_false, not_false_eq_true]
              · rw [z_upd_ne (by omega), hc56]
                unfold z_LW
                rw [hsL, if_neg (show ¬ (decide (0 < X 17 (u : Int)) = true ∧ _) from fun z => by have := z.1; rw [decide_eq_true_eq] at this; omega)]
            · refine ⟨z_upd (z_upd s2 55 i (z_SW X w i u + X 17 u * z_tk1 X (z_side X w (-1)) (z_ti (z_side X w (-1)) (X 0 3) (X 7) i) u)) 56 i (z_LW X w i (u + 1)), ?_, fun a j ha => by rw [z_upd_ne (by omega), z_upd_ne (by omega)]; exact r2 a j ha, by rw [z_upd_ne (by omega), z_upd_same, hsS], z_upd_same⟩
              have hd : decide (0 < X 17 (u : Int)) = true := decide_eq_true (by omega)
              have hLw : z_LW X w i (u + 1) = if z_tk1 X (z_side X w (-1)) (z_ti (z_side X w (-1)) (X 0 3) (X 7) i) u < z_LW X w i u then z_tk1 X (z_side X w (-1)) (z_ti (z_side X w (-1)) (X 0 3) (X 7) i) u else z_LW X w i u := by
                unfold z_LW
                rw [hsL]
                simp only [hd, true_and]
                generalize z_LM X w i u = B at *
                generalize z_tk1 X (z_side X w (-1)) (z_ti (z_side X w (-1)) (X 0 3) (X 7) i) u = A at *
                exact z_LWs htki.1 (by omega) (by omega)
              rw [hLw, z_B1280_53]
              simp (disch := omega) only [a2, s218, s242, z_upd_ne, if_neg, c2, z_fdM, z_pdM, z_adM, z_sdM, z_lkM, z_ndM, z_gdM, z_cI_some', z_cV_some', z_w_ok, Int.reduceAdd, Int.reduceSub, Int.reduceMul, Int.reduceNeg, Int.reduceEq, Int.reduceLT, Int.reduceLE, Int.reduceNe, reduceIte, true_and, and_true, false_and, and_false, if_true, if_false, ne_eq, not_true_eq_false, not_false_eq_true]
          obtain ⟨s3, g3, r3, a3, c3⟩ := mid
          have off3 : m_off 49 40 57 s1 s3 := fun a j _ h2 _ => r3 a j (by omega)
          have qs3 := qs1.keep off3 (t' := z_ti (z_side X w (-1)) (X 0 3) (X 7) i) (fun k k0 k1 => by rw [r3 _ _ (by omega)]; exact qs1.2.2.2.1 k k0 k1) (by rw [r3 _ _ (by omega)]; exact qs1.2.2.2.2)
          have p3 : m_pls s3 (z_side X w (-1)) (X 0 1) := ⟨by rw [r3 _ _ (by omega), r1 _ _ (by omega) (by omega)]; exact ps.1, fun k hk hb => by rw [r3 _ _ (by omega), r1 _ _ (by omega) (by omega)]; exact ps.2 k hk hb⟩
          obtain ⟨s4, g4, r4, qs4, p4⟩ := qs3.nextI h p3 (d + 5) ⟨hsr.1, hsr.2.2⟩ ⟨hcp.1, Int.le_refl _⟩ h.tc hi'
          have l3 := qs3.capv h
          refine ⟨(i : Int) + 1, s4, ⟨by omega, qs4, fun k k0 k1 => by rw [r4 _ _ (by omega), r3 _ _ (by omega), r1 _ _ (by omega) (by omega)]; exact ks k k0 k1, p4, fun j hj => ⟨fun h0 => ?_, fun h0 h1 => ?_⟩⟩, fun hne => ?_, fun heq => ?_⟩
          · rw [r4 _ _ (by omega), r4 _ _ (by omega)]
            by_cases cj : j = i
            · rw [cj]; exact ⟨a3, c3⟩
            · rw [r3 _ _ (by omega), r3 _ _ (by omega), r1 _ _ (by omega) (by omega), r1 _ _ (by omega) (by omega)]
              exact (fs j hj).1 (by omega)
          · rw [r4 _ _ (by omega), r4 _ _ (by omega), r3 _ _ (by omega), r3 _ _ (by omega), r1 _ _ (by omega) (by omega), r1 _ _ (by omega) (by omega)]
            exact (fs j hj).2 (by omega) h1
          · rw [if_neg hne] at g4
            refine (g2.trans g3).trans ?_
            rw [z_B1280_105]
            simp (disch := omega) only [l3, g4, z_fdM, z_pdM, z_adM, z_sdM, z_lkM, z_ndM, z_gdM, z_cI_some', z_cV_some', z_w_ok, Int.reduceAdd, Int.reduceSub, Int.reduceMul, Int.reduceNeg, Int.reduceEq, Int.reduceLT, Int.reduceLE, Int.reduceNe, reduceIte, true_and, and_true, false_and, and_false, if_true, if_false, ne_eq, not_true_eq_false, not_false_eq_true]
          · rw [if_pos heq] at g4
            refine (g2.trans g3).trans ?_
            rw [z_B1280_105]
            simp (disch := omega) only [l3, g4, z_fdM, z_pdM, z_adM, z_sdM, z_lkM, z_ndM, z_gdM, z_cI_some', z_cV_some', z_w_ok, Int.reduceAdd, Int.reduceSub, Int.reduceMul, Int.reduceNeg, Int.reduceEq, Int.reduceLT, Int.reduceLE, Int.reduceNe, reduceIte, true_and, and_true, false_and, and_false, if_true, if_false, ne_eq, not_true_eq_false, not_false_eq_true])
      obtain ⟨x4, g4, p4, q4⟩ := q3.put (d + 5) k3
      refine ⟨0, x4, ?_, q4.1, q4.2.2.2.1, q4.2.2.2.2, fun k k0 k1 => by rw [p4 _ _ (by omega)]; exact k3 k k0 k1, fun _ i hi' => by rw [p4 _ _ (by omega), p4 _ _ (by omega)]; exact (f3 i hi').1 hi'⟩
      have g3' : z_go (z_ev z_hcM (d + 6)) z_hcM 1280 29 [z_R 1, z_I w, z_I 0, z_I u] [] z_hdM x2 = z_go (z_ev z_hcM (d + 6)) z_hcM 1280 8 [z_R 1, z_I w, z_I (z_tot (z_side X w (-1)) (X 0 3)), z_I ((u : Int) + 1)] [] z_hdM x4 := by
        refine g3.trans ?_
        simp (disch := omega) only [g4, hn9, z_fdM, z_pdM, z_adM, z_sdM, z_lkM, z_ndM, z_gdM, z_cI_some', z_cV_some', z_w_ok, Int.reduceAdd, Int.reduceSub, Int.reduceMul, Int.reduceNeg, Int.reduceEq, Int.reduceLT, Int.reduceLE, Int.reduceNe, reduceIte, true_and, and_true, false_and, and_false, if_true, if_false, ne_eq, not_true_eq_false, not_false_eq_true]
      rw [z_B1280_8, if_neg (show ¬ u + 1 = 0 by omega)]
      simp (disch := omega) only [if_neg, g1, g2, z_ns, z_fdM, z_pdM, z_adM, z_sdM, z_lkM, z_ndM, z_gdM, z_cI_some', z_cV_some', z_w_ok, Int.reduceAdd, Int.reduceSub, Int.reduceMul, Int.reduceNeg, Int.reduceEq, Int.reduceLT, Int.reduceLE, Int.reduceNe, reduceIte, true_and, and_true, false_and, and_false, if_true, if_false, ne_eq, not_true_eq_false, not_false_eq_true]
      exact g3') (fun y x _ => by
      rw [z_B1280_8, if_neg (show ¬ 10 = 0 by omega)]
      simp (disch := omega) only [if_pos, z_fdM, z_pdM, z_adM, z_sdM, z_lkM, z_ndM, z_gdM, z_cI_some', z_cV_some', z_w_ok, Int.reduceAdd, Int.reduceSub, Int.reduceMul, Int.reduceNeg, Int.reduceEq, Int.reduceLT, Int.reduceLE, Int.reduceNe, reduceIte, true_and, and_true, false_and, and_false, if_true, if_false, ne_eq, not_true_eq_false, not_false_eq_true])
  refine ⟨σ2, ?_, o2, t2, z2, f2 (by omega)⟩
  have e2' : z_go (z_ev z_hcM (d + 6)) z_hcM 1280 8 [z_R 1, z_I w, z_I 0, z_I 0] [] z_hdM σ1 = _ := e2
  rw [← e2']
  simp (disch := omega) only [z_E1280, e1, z_fdM, z_pdM, z_adM, z_sdM, z_lkM, z_ndM, z_gdM, z_cI_some', z_cV_some', z_w_ok, Int.reduceAdd, Int.reduceSub, Int.reduceMul, Int.reduceNeg, Int.reduceEq, Int.reduceLT, Int.reduceLE, Int.reduceNe, reduceIte, true_and, and_true, false_and, and_false, if_true, if_false, ne_eq, not_true_eq_false, not_false_eq_true]
end
