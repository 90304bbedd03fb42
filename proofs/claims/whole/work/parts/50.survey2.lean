/-! The class's Goers: survey, whole. -/
section
variable {σ X : z_S} {L s : Int}
/-- survey's loop, ahead of journey n: how its rows stand -/
def c_sy (σ0 σ X : z_S) (L s : Int) (n : Nat) : Prop := z_off 46 57 σ0 σ ∧ σ 46 0 = z_gs X n ∧ σ 46 1 = L + 10 ∧ (∀ g, 0 ≤ g → g < z_gs X n → σ 48 g = z_gj X g ∧ σ 49 g = z_gw X g ∧ σ 50 g = X 10 (z_gj X g)) ∧
  (z_fit X s n = true → (∀ i : Nat, i < n → σ 52 i = z_wc X s i ∧ σ 51 i = z_gs X i) ∧ ∀ g, 0 ≤ g → g < z_gs X n → c_opt σ g (z_opD X s g) ∧ c_list σ (z_opD X s g) g (X 0 3))
theorem c_survey_step (hL : L = 6 ∨ L = 26) (hw : z_wf X) (hl0 : c_land σ L X) (hs0 : c_shut σ (L + 1) s) (d : Nat) {n : Nat} (hn : (n : Int) < X 0 2) {x : z_S} (hx : c_sy σ x X L s n) (u : z_V) :
    ∃ (u' : z_V) (x' : z_S), z_go (z_ev z_hcC (d + 13)) z_hcC 101 17 [z_R 46, z_R L, z_I (if z_fit X s n then 1 else 0), z_I n, u] [] z_hdC x = z_go (z_ev z_hcC (d + 13)) z_hcC 101 17 [z_R 46, z_R L, z_I (if z_fit X s (n + 1) then 1 else 0), z_I ((n : Int) + 1), u'] [] z_hdC x' ∧ c_sy σ x' X L s (n + 1) := by
  obtain ⟨ho, hx0, hx1, hxr, hxf⟩ := hx
  have hn8 := hw.2.2.1
  have hj : 0 ≤ (n : Int) ∧ (n : Int) < X 0 2 := by omega
  have hlx : c_land x L X := c_land_off hL ho (by omega) hl0
  have hsx : c_shut x (L + 1) s := c_shut_off hL ho (by omega) hs0
  have hg0 := z_gs_rng hw (n := n) (by omega)
  have hg1 := z_gs_rng hw (n := n + 1) (by omega)
  have hgs := z_gs_s (X := X) n
  have hJ := z_wfj hw hj
  have hcap := hw.2.2.2.1
  have hR := hw.2.2.2.2.2.2.2.2.2.2.2.2.2.1 n hj.1 hj.2
  -- enter
  obtain ⟨σ1, e1, o1, a0, a51, ar⟩ := c_enter hL hw hlx hj hx0 hx1 (by omega) (d + 10)
  rw [← hgs] at a0 ar
  have o1' : z_off 46 57 x σ1 := fun a i ha => o1 a i (by omega)
  have hl1 := c_land_off hL o1' (by omega) hlx
  have hs1 := c_shut_off hL o1' (by omega) hsx
  -- trip
  obtain ⟨σ2, e2, o2, t2⟩ := c_tbegin hL hw hl1 hj (d + 10)
  have b0 : σ2 46 0 = z_gs X (n + 1) := by rw [z_oat o2 (by omega)]; exact a0
  have b1 : σ2 46 1 = L + 10 := by rw [z_oat o2 (by omega), o1 _ _ (by omega)]; exact hx1
  have b51 : σ2 51 n = z_gs X n := by rw [z_oat o2 (by omega)]; exact a51
  let σ3 := z_upd (z_upd σ2 47 5 (z_gs X n)) 47 6 (z_gs X (n + 1))
  have o3 : z_off 47 47 σ1 σ3 := z_off_trans o2 (z_off_trans (z_off_upd (by omega) (by omega)) (z_off_upd (by omega) (by omega)))
  have hl3 := c_land_off hL o3 (by omega) hl1
  have hs3 := c_shut_off hL o3 (by omega) hs1
  have hgj : ∀ g, z_gs X n ≤ g → g < z_gs X (n + 1) → z_gj X g = n ∧ z_gw X g = X 11 n + (g - z_gs X n) := fun g g0 g1 => z_gj_at hw hj.2 g0 g1
  have hwd : c_wd σ3 X L s n (z_gs X n) (z_gs X (n + 1)) (z_gw X) := ⟨hL, hw, hl3, hs3, hj, by omega, fun g g0 g1 => by
    have h1 := ar g g0 g1
    have h2 := hgj g g0 g1
    rw [z_oat o3 (by omega), h1.2.1, h2.2]
    rw [hgs] at g1
    omega⟩
  have hk3 : c_wk σ3 σ3 X L n (z_gs X n) (z_gs X (n + 1)) (z_gw X) [] (z_shl 1 (X 8 n)) [] := ⟨c_fr_refl, t2 _ _, fun g g0 g1 => c_opt_same (ar g g0 g1).2.2.2 (fun m m0 m1 => ⟨z_oat o3 (by omega), z_oat o3 (by omega)⟩)⟩
  have hsh := z_shl1 (k := X 8 n) (by omega) (by omega)
  have hp8 : 2 ^ (X 8 n).toNat < 2 ^ 8 := Nat.pow_lt_pow_right (by omega) (by omega)
  obtain ⟨σ4, e4, w4⟩ := c_walk hwd (d + 1) 7 hk3 (Nat.zero_le _) (fun l hl => by cases hl) (fun r hr => by cases hr) rfl (by rw [hsh]; exact ⟨Int.natCast_nonneg _, by have h8 : (2 ^ (X 8 n).toNat : Nat) < 256 := hp8; omega⟩) (c := X 8 n) (fun _ => hR.2.2.1) (by rw [hsh, z_bt_pow (by omega) (by omega)]; simp)
  have hV : [] ++ (z_dfs X s (X 9 n) (z_K X n) 7 (X 8 n) (z_shl 1 (X 8 n))).map (fun l => [] ++ l) = z_wys X s n := by
    simp [z_wys]
  rw [hV] at w4
  obtain ⟨f4, t4, op4⟩ := w4
  have hl4 := c_land_off hL (c_fr_off f4) (by omega) hl3
  have c1 : σ4 46 1 = L + 10 := by
    rw [f4 _ _ (by omega) (by omega)]
    show z_upd (z_upd σ2 47 5 _) 47 6 _ 46 1 = _
    rw [z_upd_ne (by omega), z_upd_ne (by omega)]; exact b1
  have k13 := (c_jr hL hw hl4 hj (d + 11)).2.2.2.2.2.2
  have t47 := t4.2.2.2.2.1
  have hvw := z_wys_ok (s := s) hw hj
  -- the count
  let V := (z_wys X s n).take 201
  let v : Int := (V.length : Int) + (if X 15 n < 0 then 0 else 1)
  have hv : v = (V.length : Int) + (if X 15 n < 0 then 0 else 1) := rfl
  have hVl : V.length = min 201 (z_wys X s n).length := List.length_take
  have hVok : z_wok X V := fun l hl => hvw l (List.mem_of_mem_take hl)
  let σ5 := z_upd σ4 52 n v
  have hl5 : c_land σ5 L X := c_land_off hL (z_off_upd (lo := 52) (hi := 52) (by omega) (by omega)) (by omega) hl4
  have q5 : σ5 47 5 = z_gs X n := by show z_upd σ4 52 n v 47 5 = _; rw [z_upd_ne (by omega)]; exact t4.2.2.2.2.2.1
  have q6 : σ5 47 6 = z_gs X (n + 1) := by show z_upd σ4 52 n v 47 6 = _; rw [z_upd_ne (by omega)]; exact t4.2.2.2.2.2.2.1
  have hgw9 : ∀ g, z_gs X n ≤ g → g < z_gs X (n + 1) → 0 ≤ z_gw X g ∧ z_gw X g ≤ 9 := fun g g0 g1 => (hwd.2.2.2.2.2.2 g g0 g1).2
  have hhe : ∀ g, z_hop (X 15 n) v (z_opl (z_msk X) (z_pnf X n (z_gw X g)) V (fun _ => none)) = z_opl (z_msk X) (z_pnf X n (z_gw X g)) (z_wzl (X 15 n) V) (fun _ => none) := fun g => z_hop_eq hw (fun c => by rw [hv, if_pos c]; omega)
  obtain ⟨σ6, e6, o6, r6⟩ := c_settle (σ := σ5) (f := z_gs X n) (b := z_gs X (n + 1)) (home := X 15 n) (wys := v) (cap := X 0 3) (op := fun g => z_opl (z_msk X) (z_pnf X n (z_gw X g)) V (fun _ => none)) (d + 9) (by omega) q5 q6 hcap
    (fun g g0 g1 => c_opt_same (op4 g g0 g1) (fun m m0 m1 => ⟨z_upd_ne (by omega), z_upd_ne (by omega)⟩))
    (fun g g0 g1 q hq => z_opl_pos hw hj (hgw9 g g0 g1) hVok hq)
    (fun g g0 g1 => by
      rw [hhe g]
      exact z_opl_ok hw (z_wzl_ok hVok).1 (z_wzl_ok hVok).2 hj (hgw9 g g0 g1))
  have hX2 : σ5 (L + 1) 2 = X 0 3 := hl5.2.2.1
  have fst : z_fit X s (n + 1) = (z_fit X s n && decide (z_wc X s n ≤ 200)) := rfl
  have hwc : z_wc X s n = (z_wys X s n).length + (if X 15 n < 0 then 0 else 1) := rfl
  have hle : v ≤ 200 ↔ z_wc X s n ≤ 200 := by rw [hv, hwc]; split <;> omega
  have s52 : σ5 52 n = v := z_upd_same
  -- the whole step
  have hgo : ∀ (F : Bool) (u : z_V), z_go (z_ev z_hcC (d + 13)) z_hcC 101 17 [z_R 46, z_R L, z_I (if F then 1 else 0), z_I n, u] [] z_hdC x = z_go (z_ev z_hcC (d + 13)) z_hcC 101 17 [z_R 46, z_R L, z_I (if F && decide (z_wc X s n ≤ 200) then 1 else 0), z_I ((n : Int) + 1), z_I (X 15 n)] [] z_hdC σ6 := by
    intro F u
    have x1 : x 46 1 = L + 10 := hx1
    have x4 : x (L + 10) 0 = X 0 2 := hlx.2.2.2.1
    have hb144 : ∀ t : Int, z_go (z_ev z_hcC (d + 13)) z_hcC 101 144 [z_R 46, z_R L, z_I (if F then 1 else 0), z_I n, z_I (X 15 n)] [z_I t] z_hdC σ5 = z_go (z_ev z_hcC (d + 13)) z_hcC 101 17 [z_R 46, z_R L, z_I t, z_I ((n : Int) + 1), z_I (X 15 n)] [] z_hdC σ6 := fun t => by
      rw [z_B101_144]
      simp (disch := omega) only [c_LC hL, s52, hX2, e6, z_fdC, z_pdC, z_adC, z_sdC, z_lkC, z_ndC, z_gdC, z_mdC, z_cI_some', z_cV_some', z_w_ok, Int.reduceAdd, Int.reduceSub, Int.reduceMul, Int.reduceNeg, Int.reduceEq, Int.reduceLT, Int.reduceLE, Int.reduceNe, reduceIte, true_and, and_true, false_and, and_false, if_true, if_false, ne_eq, not_true_eq_false, not_false_eq_true]
    have hb121 : ∀ h : Int, h = (if X 15 n < 0 then 0 else 1) → z_go (z_ev z_hcC (d + 13)) z_hcC 101 121 [z_R 46, z_R L, z_I (if F then 1 else 0), z_I n, z_I (X 15 n)] [z_I h, z_I (V.length : Int), z_I n, z_R 52] z_hdC σ4 = z_go (z_ev z_hcC (d + 13)) z_hcC 101 17 [z_R 46, z_R L, z_I (if F && decide (z_wc X s n ≤ 200) then 1 else 0), z_I ((n : Int) + 1), z_I (X 15 n)] [] z_hdC σ6 := fun h hh => by
      have hvv : (V.length : Int) + h = v := by rw [hv, hh]
      have hvr : 0 ≤ v ∧ v ≤ 202 := by rw [hv]; split <;> omega
      rw [z_B101_121, hvv, z_w_ok (by omega) (by omega)]
      have hst : ∀ {k : z_S → Option z_Res}, z_st z_hdC σ4 1 52 n v k = k σ5 := fun {k} => by
        simp (disch := omega) only [z_fdC, z_pdC, z_adC, z_sdC, z_lkC, z_ndC, z_gdC, z_mdC, z_cI_some', z_cV_some', z_w_ok, Int.reduceAdd, Int.reduceSub, Int.reduceMul, Int.reduceNeg, Int.reduceEq, Int.reduceLT, Int.reduceLE, Int.reduceNe, reduceIte, true_and, and_true, false_and, and_false, if_true, if_false, ne_eq, not_true_eq_false, not_false_eq_true]
        rfl
      rw [hst]
      cases F with
      | false =>
        simp (disch := omega) only [Bool.false_and, Bool.false_eq_true, z_fdC, z_pdC, z_adC, z_sdC, z_lkC, z_ndC, z_gdC, z_mdC, z_cI_some', z_cV_some', z_w_ok, Int.reduceAdd, Int.reduceSub, Int.reduceMul, Int.reduceNeg, Int.reduceEq, Int.reduceLT, Int.reduceLE, Int.reduceNe, reduceIte, true_and, and_true, false_and, and_false, if_true, if_false, ne_eq, not_true_eq_false, not_false_eq_true]
        exact hb144 0
      | true =>
        by_cases c : z_wc X s n ≤ 200
        · have c' := hle.mpr c
          simp (disch := omega) only [Bool.true_and, c, decide_true, s52, if_neg, z_fdC, z_pdC, z_adC, z_sdC, z_lkC, z_ndC, z_gdC, z_mdC, z_cI_some', z_cV_some', z_w_ok, Int.reduceAdd, Int.reduceSub, Int.reduceMul, Int.reduceNeg, Int.reduceEq, Int.reduceLT, Int.reduceLE, Int.reduceNe, reduceIte, true_and, and_true, false_and, and_false, if_true, if_false, ne_eq, not_true_eq_false, not_false_eq_true]
          exact hb144 1
        · have c' : 200 < v := by rcases Int.lt_or_le 200 v with h | h; exact h; exact absurd (hle.mp h) c
          simp (disch := omega) only [Bool.true_and, c, decide_false, s52, if_pos, Bool.false_eq_true, z_fdC, z_pdC, z_adC, z_sdC, z_lkC, z_ndC, z_gdC, z_mdC, z_cI_some', z_cV_some', z_w_ok, Int.reduceAdd, Int.reduceSub, Int.reduceMul, Int.reduceNeg, Int.reduceEq, Int.reduceLT, Int.reduceLE, Int.reduceNe, reduceIte, true_and, and_true, false_and, and_false, if_true, if_false, ne_eq, not_true_eq_false, not_false_eq_true]
          exact hb144 0
    have e4' : z_ev z_hcC (d + 13) 103 [z_R 46, z_R 47, z_I (X 8 n), z_I 0] z_hdC σ3 = some (z_U, z_hdC, σ4) := e4
    have e206 : z_ev z_hcC (d + 13) 206 [z_R (L + 10), z_I n] z_hdC σ3 = some (z_I (X 8 n), z_hdC, σ3) := (c_jr hL hw hl3 hj (d + 11)).1
    have hu3 : z_upd (z_upd σ2 47 5 (z_gs X n)) 47 6 (z_gs X (n + 1)) = σ3 := rfl
    have k46 : (z_upd σ2 47 5 (z_gs X n)) 46 0 = z_gs X (n + 1) := by rw [z_upd_ne (by omega)]; exact b0
    have k461 : σ3 46 1 = L + 10 := by show z_upd (z_upd σ2 47 5 _) 47 6 _ 46 1 = _; rw [z_upd_ne (by omega), z_upd_ne (by omega)]; exact b1
    have hF : (if F = true then (1 : Int) else 0) = 0 ∨ (if F = true then (1 : Int) else 0) = 1 := by cases F <;> simp
    rw [z_B101_17]
    have hlt : ¬ X 0 2 ≤ (n : Int) := by omega
    have h8 : ¬ (8 : Int) ≤ (n : Int) := by omega
    have t47' : σ4 47 4 = (V.length : Int) := t47
    by_cases c : X 15 n < 0
    · have := hb121 0 (by rw [if_pos c])
      simp (disch := omega) only [c_LC hL, x1, x4, hlt, h8, e1, e2, b51, k46, hu3, k461, e206, e4', c1, k13, c, t47', z_fdC, z_pdC, z_adC, z_sdC, z_lkC, z_ndC, z_gdC, z_mdC, z_cI_some', z_cV_some', z_w_ok, Int.reduceAdd, Int.reduceSub, Int.reduceMul, Int.reduceNeg, Int.reduceEq, Int.reduceLT, Int.reduceLE, Int.reduceNe, reduceIte, true_and, and_true, false_and, and_false, if_true, if_false, ne_eq, not_true_eq_false, not_false_eq_true]
      exact this
    · have := hb121 1 (by rw [if_neg c])
      simp (disch := omega) only [c_LC hL, x1, x4, hlt, h8, e1, e2, b51, k46, hu3, k461, e206, e4', c1, k13, c, t47', z_fdC, z_pdC, z_adC, z_sdC, z_lkC, z_ndC, z_gdC, z_mdC, z_cI_some', z_cV_some', z_w_ok, Int.reduceAdd, Int.reduceSub, Int.reduceMul, Int.reduceNeg, Int.reduceEq, Int.reduceLT, Int.reduceLE, Int.reduceNe, reduceIte, true_and, and_true, false_and, and_false, if_true, if_false, ne_eq, not_true_eq_false, not_false_eq_true]
      exact this
  have tot : ∀ a i, (a < 46 ∨ 57 < a) ∨ (a = 46 ∧ i ≠ 0) ∨ (48 ≤ a ∧ a ≤ 50 ∧ i < z_gs X n) ∨ ((a = 51 ∨ a = 52) ∧ i ≠ n) ∨ (53 ≤ a ∧ a ≤ 55 ∧ i < z_gs X n * 32) ∨ (56 ≤ a ∧ i < z_gs X n) → σ6 a i = x a i := fun a i ha => by
    rw [o6 _ _ (by omega)]
    show z_upd σ4 52 n v a i = _
    rw [z_upd_ne (by omega), f4 _ _ (by omega) (by omega), z_oat o3 (by omega), o1 _ _ (by omega)]
  have r48 : ∀ a g, 48 ≤ a → a ≤ 51 → σ6 a g = σ1 a g := fun a g h0 h1 => by
    rw [o6 _ _ (by omega)]
    show z_upd σ4 52 n v a g = _
    rw [z_upd_ne (by omega), f4 _ _ (by omega) (by omega), z_oat o3 (by omega)]
  refine ⟨z_I (X 15 n), σ6, by rw [hgo]; rfl, z_off_trans ho (fun a i ha => tot a i (by omega)), ?_, ?_, fun g g0 g1 => ?_, fun hfit => ?_⟩
  · rw [o6 _ _ (by omega)]
    show z_upd σ4 52 n v 46 0 = _
    rw [z_upd_ne (by omega), f4 _ _ (by omega) (by omega), z_oat o3 (by omega)]; exact a0
  · rw [tot _ _ (by omega)]; exact hx1
  · by_cases hg : g < z_gs X n
    · have := hxr g g0 hg
      rw [tot _ _ (by omega), tot _ _ (by omega), tot _ _ (by omega)]
      exact this
    · have h1 := ar g (by omega) g1
      have h2 := hgj g (by omega) g1
      rw [r48 _ _ (by omega) (by omega), r48 _ _ (by omega) (by omega), r48 _ _ (by omega) (by omega), h2.1, h2.2]
      exact ⟨h1.1, h1.2.1, h1.2.2.1⟩
  · rw [fst, Bool.and_eq_true, decide_eq_true_eq] at hfit
    obtain ⟨hf1, hf2⟩ := hxf hfit.1
    have hVV : V = z_wys X s n := List.take_of_length_le (by rw [hwc] at hfit; split at hfit <;> omega)
    have hvv : v = z_wc X s n := by rw [hv, hwc, hVV]
    refine ⟨fun i hi => ?_, fun g g0 g1 => ?_⟩
    · by_cases hin : i = n
      · subst hin
        refine ⟨?_, ?_⟩
        · rw [o6 _ _ (by omega), s52]; exact hvv
        · rw [r48 _ _ (by omega) (by omega)]; exact a51
      · rw [tot _ _ (by omega), tot _ _ (by omega)]
        exact hf1 i (by omega)
    · by_cases hg : g < z_gs X n
      · have := hf2 g g0 hg
        exact ⟨c_opt_off this.1 (fun m m0 m1 a ha => tot _ _ (by omega)), c_list_same this.2 (fun i i0 i1 => tot _ _ (by omega)) (tot _ _ (by omega)) (tot _ _ (by omega))⟩
      · have h2 := hgj g (by omega) g1
        have := r6 g (by omega) g1
        have e : z_opD X s g = z_hop (X 15 n) v (z_opl (z_msk X) (z_pnf X n (z_gw X g)) V (fun _ => none)) := by
          rw [hhe g, hVV]
          unfold z_opD z_wz
          rw [h2.1]
        rw [e]
        exact this
/-- Goers.survey -/
theorem c_survey (hL : L = 6 ∨ L = 26) (hw : z_wf X) (hl : c_land σ L X) (hs : c_shut σ (L + 1) s) (d : Nat) :
    ∃ σ', z_ev z_hcC (d + 14) 101 [z_R 46, z_R L] z_hdC σ = some (z_I (if z_fit X s (X 0 2).toNat then 1 else 0), z_hdC, σ') ∧ z_off 46 57 σ σ' ∧ (z_fit X s (X 0 2).toNat = true → c_Q σ' X L s (z_Dm X s) ∧ c_sv σ' X s) := by
  have hn8 := hw.2.2.1
  have hN : (((X 0 2).toNat : Nat) : Int) = X 0 2 := by omega
  have hfree : ∀ {β : Type} {k : Option β}, z_free (z_hcC 46 1) k = k := fun {_ _} => rfl
  obtain ⟨u', σ2, e2, h2⟩ := z_foru (fun (n : Nat) (u : z_V) (x : z_S) => z_go (z_ev z_hcC (d + 13)) z_hcC 101 17 [z_R 46, z_R L, z_I (if z_fit X s n then 1 else 0), z_I n, u] [] z_hdC x) (fun _ x => some (z_I (if z_fit X s (X 0 2).toNat then 1 else 0), z_hdC, x))
    (fun n x => c_sy σ x X L s n) (X 0 2).toNat (u := z_U) (s := z_upd (z_upd σ 46 1 (L + 10)) 46 0 0)
    ⟨z_off_trans (z_off_upd (by omega) (by omega)) (z_off_upd (by omega) (by omega)), z_upd_same, by rw [z_upd_ne (by omega), z_upd_same], fun g g0 g1 => by unfold z_gs z_sm at g1; omega, fun _ => ⟨fun i hi => by omega, fun g g0 g1 => by unfold z_gs z_sm at g1; omega⟩⟩
    (fun n u x hn hx => by
      obtain ⟨u', x', h1, h2⟩ := c_survey_step hL hw hl hs d (by omega) hx u
      exact ⟨u', x', by rw [z_ns]; exact h1, h2⟩)
    (fun u x hx => by
      have x4 := (c_land_off hL hx.1 (by omega) hl).2.2.2.1
      have hF : (if z_fit X s (X 0 2).toNat = true then (1 : Int) else 0) = 0 ∨ (if z_fit X s (X 0 2).toNat = true then (1 : Int) else 0) = 1 := by split <;> simp
      rw [z_B101_17]
      have hle : X 0 2 ≤ (((X 0 2).toNat : Nat) : Int) := by omega
      have x1 := hx.2.2.1
      simp (disch := omega) only [c_LC hL, x1, x4, hle, hF, z_fdC, z_pdC, z_adC, z_sdC, z_lkC, z_ndC, z_gdC, z_mdC, z_cI_some', z_cV_some', z_w_ok, Int.reduceAdd, Int.reduceSub, Int.reduceMul, Int.reduceNeg, Int.reduceEq, Int.reduceLT, Int.reduceLE, Int.reduceNe, reduceIte, true_and, and_true, false_and, and_false, if_true, if_false, ne_eq, not_true_eq_false, not_false_eq_true])
  refine ⟨σ2, ?_, h2.1, fun hfit => ?_⟩
  · rw [← e2]
    simp (disch := omega) only [z_E101, z_B101_121, z_B101_144, c_LC hL, hfree, z_fit, z_fdC, z_pdC, z_adC, z_sdC, z_lkC, z_ndC, z_gdC, z_mdC, z_cI_some', z_cV_some', z_w_ok, Int.reduceAdd, Int.reduceSub, Int.reduceMul, Int.reduceNeg, Int.reduceEq, Int.reduceLT, Int.reduceLE, Int.reduceNe, reduceIte, true_and, and_true, false_and, and_false, if_true, if_false, ne_eq, not_true_eq_false, not_false_eq_true]
    rfl
  · obtain ⟨ho, h0, h1, hr, hf⟩ := h2
    obtain ⟨f1, f2⟩ := hf hfit
    have hgr := z_gs_rng hw (n := (X 0 2).toNat) (by omega)
    refine ⟨⟨hL, hw, c_land_off hL ho (by omega) hl, c_shut_off hL ho (by omega) hs, ⟨h0, by show 0 ≤ z_gs X _ ∧ z_gs X _ ≤ 48; omega, hw.2.1, hw.2.2.2.1, fun g g0 g1 => ?_⟩, h1, fun g g0 g1 => ?_⟩, fun j hj => ⟨(f1 j (by omega)).1, (f1 j (by omega)).2⟩⟩
    · obtain ⟨k1, k2, k3⟩ := z_gjw_rng hw g0 g1
      obtain ⟨k4, k5⟩ := f2 g g0 g1
      have hV := z_wzl_ok (home := X 15 (z_gj X g)) (z_wys_ok (s := s) hw k1)
      exact ⟨z_opl_ok hw hV.1 hV.2 k1 k3, k5, fun m q _ _ hq => z_opl_msk hw hq, (hr g g0 g1).2.2, (hw.2.2.2.2.2.2.2.2.2.2.2.2.2.1 _ k1.1 k1.2).2.2.2.1, fun m m0 m1 hm => (k4 m m0 m1).1 hm, fun m q m0 m1 hm => (k4 m m0 m1).2 q hm⟩
    · obtain ⟨k1, k2, k3⟩ := z_gjw_rng hw g0 g1
      have := hr g g0 g1
      exact ⟨this.1, this.2.1, k1, k2⟩
end
