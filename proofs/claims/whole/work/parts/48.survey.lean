/-! The class's Goers: settle, enter, survey. -/
/-- what settle leaves alone -/
def c_fs (f b : Int) (σ σ' : z_S) : Prop := ∀ a i, (a < 53 ∨ 57 < a) ∨ (a ≤ 55 ∧ (i < f * 32 ∨ b * 32 ≤ i)) ∨ (56 ≤ a ∧ (i < f ∨ b ≤ i)) → σ' a i = σ a i
theorem c_fs_refl {f b : Int} {σ : z_S} : c_fs f b σ σ := fun _ _ _ => rfl
theorem c_fs_trans {f b : Int} {σ σ' σ'' : z_S} (h : c_fs f b σ σ') (h' : c_fs f b σ' σ'') : c_fs f b σ σ'' := fun a i h1 => (h' a i h1).trans (h a i h1)
theorem c_fs_le {f b f' b' : Int} {σ σ' : z_S} (h : c_fs f b σ σ') (h1 : f' ≤ f) (h2 : b ≤ b') : c_fs f' b' σ σ' := fun a i hh => h a i (by omega)
theorem c_fs_list {f b cap : Int} {σ σ' : z_S} {op : z_Opt} {g : Int} (h : c_fs f b σ σ') (hg : g < f ∨ b ≤ g) (hl : c_list σ op g cap) : c_list σ' op g cap := by
  obtain ⟨l1, l2, l3, l4, l5, l6⟩ := hl
  have e56 : σ' 56 g = σ 56 g := h _ _ (by omega)
  have e57 : σ' 57 g = σ 57 g := h _ _ (by omega)
  have e55 : ∀ i, 0 ≤ i → i < 32 → σ' 55 (g * 32 + i) = σ 55 (g * 32 + i) := fun i i0 i1 => h _ _ (by omega)
  have hent : ∀ i m q, 0 ≤ i → i < σ 56 g → (c_ent σ' op g i m q ↔ c_ent σ op g i m q) := fun i m q i0 i1 => by
    unfold c_ent
    rw [e55 i i0 (by omega)]
  refine ⟨by rw [e56]; exact l1, by rw [e56]; exact l2, by rw [e57]; exact l3, fun i i0 i1 => ?_, fun i i' m m' q q' i0 i1 i2 h1 h2 => ?_, fun t lean m q ht m0 m1 hq => ?_⟩
  · rw [e56] at i1
    obtain ⟨m, q, a, b⟩ := l4 i i0 i1
    exact ⟨m, q, (hent i m q i0 i1).mpr a, by rw [e57]; exact b⟩
  · rw [e56] at i2
    exact l5 i i' m m' q q' i0 i1 i2 ((hent i m q i0 (by omega)).mp h1) ((hent i' m' q' (by omega) i2).mp h2)
  · rw [e56]
    rcases l6 t lean m q ht m0 m1 hq with ⟨i, i0, i1, hi⟩ | ⟨i, m', q', i0, i1, hi, ha⟩
    · exact Or.inl ⟨i, i0, i1, (hent i m q i0 i1).mpr hi⟩
    · exact Or.inr ⟨i, m', q', i0, i1, (hent i m' q' i0 i1).mpr hi, ha⟩
theorem c_fs_opt {f b : Int} {σ σ' : z_S} {op : z_Opt} {g : Int} (h : c_fs f b σ σ') (hg : g < f ∨ b ≤ g) (hl : c_opt σ g op) : c_opt σ' g op := c_opt_same hl (fun m m0 m1 => ⟨h _ _ (by omega), h _ _ (by omega)⟩)
/-- the options with staying at home -/
def z_hop (home ways : Int) (op : z_Opt) : z_Opt := if home < 0 then (if ways = 0 then z_ins op 0 (0, 0) else op) else z_ins op 0 (home, 0)
/-- Goers.settle -/
theorem c_settle {σ : z_S} {f b home wys cap : Int} {op : Int → z_Opt} (d : Nat) (hfb : 0 ≤ f ∧ f ≤ b ∧ b ≤ 48) (h5 : σ 47 5 = f) (h6 : σ 47 6 = b) (hcap : 0 ≤ cap ∧ cap ≤ 20) (hO : ∀ g, f ≤ g → g < b → c_opt σ g (op g)) (hpos : ∀ g, f ≤ g → g < b → ∀ q, op g 0 = some q → 0 ≤ q.1) (hok : ∀ g, f ≤ g → g < b → z_opok (z_hop home wys (op g))) :
    ∃ σ', z_ev z_hcC (d + 4) 106 [z_R 46, z_I home, z_I wys, z_I cap] z_hdC σ = some (z_U, z_hdC, σ') ∧ c_fs f b σ σ' ∧ ∀ g, f ≤ g → g < b → c_opt σ' g (z_hop home wys (op g)) ∧ c_list σ' (z_hop home wys (op g)) g cap := by
  obtain ⟨u', σ2, e2, o2, f2⟩ := z_foru (fun (i : Nat) (u : z_V) (x : z_S) => z_go (z_ev z_hcC (d + 3)) z_hcC 106 9 [z_R 46, z_I home, z_I wys, z_I cap, z_I (f + i), u] [] z_hdC x) (fun _ x => some (z_U, z_hdC, x))
    (fun i x => c_fs f (f + i) σ x ∧ ∀ g, f ≤ g → g < f + i → c_opt x g (z_hop home wys (op g)) ∧ c_list x (z_hop home wys (op g)) g cap) (b - f).toNat (u := z_U) (s := σ) ⟨c_fs_refl, fun g g0 g1 => by omega⟩
    (fun i u x hi ⟨ho, hx⟩ => by
      have g0 : f ≤ f + (i : Int) := by omega
      have g1 : f + (i : Int) < b := by omega
      generalize hg : f + (i : Int) = g at *
      have q5 : x 47 5 = f := by rw [ho _ _ (by omega)]; exact h5
      have q6 : x 47 6 = b := by rw [ho _ _ (by omega)]; exact h6
      have hx0 : c_opt x g (op g) := c_fs_opt ho (by omega) (hO g g0 g1)
      -- home
      have hhome : ∃ x1, (∀ u, z_go (z_ev z_hcC (d + 3)) z_hcC 106 9 [z_R 46, z_I home, z_I wys, z_I cap, z_I g, u] [] z_hdC x = z_go (z_ev z_hcC (d + 3)) z_hcC 106 57 [z_R 46, z_I home, z_I wys, z_I cap, z_I g, u] [] z_hdC x1) ∧ c_fs g (g + 1) x x1 ∧ c_opt x1 g (z_hop home wys (op g)) := by
        unfold z_hop
        by_cases c1 : home < 0
        · by_cases c2 : wys = 0
          · obtain ⟨x1, k1, k2, k3⟩ := c_offer (σ := x) (d + 2) (g := g) (m := 0) (pain := 0) (order := 0) hx0 (by omega) (by omega) (hpos g g0 g1)
            refine ⟨x1, fun u => ?_, fun a k hak => k2 a k (by omega), by rw [if_pos c1, if_pos c2]; exact k3⟩
            rw [z_B106_9]
            simp (disch := omega) only [if_neg, if_pos, q6, c2, k1, z_fdC, z_pdC, z_adC, z_sdC, z_lkC, z_ndC, z_gdC, z_mdC, z_cI_some', z_cV_some', z_w_ok, Int.reduceAdd, Int.reduceSub, Int.reduceMul, Int.reduceNeg, Int.reduceEq, Int.reduceLT, Int.reduceLE, Int.reduceNe, reduceIte, true_and, and_true, false_and, and_false, if_true, if_false, ne_eq, not_true_eq_false, not_false_eq_true]
          · refine ⟨x, fun u => ?_, c_fs_refl, by rw [if_pos c1, if_neg c2]; exact hx0⟩
            rw [z_B106_9]
            simp (disch := omega) only [if_neg, if_pos, q6, c2, z_fdC, z_pdC, z_adC, z_sdC, z_lkC, z_ndC, z_gdC, z_mdC, z_cI_some', z_cV_some', z_w_ok, Int.reduceAdd, Int.reduceSub, Int.reduceMul, Int.reduceNeg, Int.reduceEq, Int.reduceLT, Int.reduceLE, Int.reduceNe, reduceIte, true_and, and_true, false_and, and_false, if_true, if_false, ne_eq, not_true_eq_false, not_false_eq_true]
        · obtain ⟨x1, k1, k2, k3⟩ := c_offer (σ := x) (d + 2) (g := g) (m := 0) (pain := home) (order := 0) hx0 (by omega) (by omega) (hpos g g0 g1)
          refine ⟨x1, fun u => ?_, fun a k hak => k2 a k (by omega), by rw [if_neg c1]; exact k3⟩
          rw [z_B106_9]
          simp (disch := omega) only [if_neg, if_pos, q6, k1, z_fdC, z_pdC, z_adC, z_sdC, z_lkC, z_ndC, z_gdC, z_mdC, z_cI_some', z_cV_some', z_w_ok, Int.reduceAdd, Int.reduceSub, Int.reduceMul, Int.reduceNeg, Int.reduceEq, Int.reduceLT, Int.reduceLE, Int.reduceNe, reduceIte, true_and, and_true, false_and, and_false, if_true, if_false, ne_eq, not_true_eq_false, not_false_eq_true]
      obtain ⟨x1, a1, a2, a3⟩ := hhome
      have hokg := hok g g0 g1
      generalize hop : z_hop home wys (op g) = og at *
      let x2 := z_upd (z_upd x1 56 g 0) 57 g 0
      have b2 : c_fs g (g + 1) x1 x2 := fun a k hak => by
        show z_upd (z_upd x1 56 g 0) 57 g 0 a k = _
        rw [z_upd_ne (by omega), z_upd_ne (by omega)]
      have b3 : c_opt x2 g og := c_opt_same a3 (fun m m0 m1 => by
        show z_upd (z_upd x1 56 g 0) 57 g 0 53 _ = _ ∧ z_upd (z_upd x1 56 g 0) 57 g 0 54 _ = _
        rw [z_upd_ne (by omega), z_upd_ne (by omega), z_upd_ne (by omega), z_upd_ne (by omega)]
        exact ⟨rfl, rfl⟩)
      have b56 : x2 56 g = 0 := by show z_upd (z_upd x1 56 g 0) 57 g 0 56 g = 0; rw [z_upd_ne (by omega), z_upd_same]
      have b57 : x2 57 g = 0 := z_upd_same
      have b4 : c_ls x2 og g cap 0 := ⟨by rw [b56]; omega, by rw [b56]; omega, by rw [b57]; omega, fun k k0 k1 => by rw [b56] at k1; omega, fun k k' m m' q q' k0 k1 k2 => by rw [b56] at k2; omega, fun m q m0 m1 => by omega⟩
      obtain ⟨x3, c1, c2, c3, c4⟩ := z_for (fun (m : Nat) (y : z_S) => z_go (z_ev z_hcC (d + 3)) z_hcC 106 76 [z_R 46, z_I home, z_I wys, z_I cap, z_I g, z_I m] [] z_hdC y) (fun y => z_go (z_ev z_hcC (d + 3)) z_hcC 106 9 [z_R 46, z_I home, z_I wys, z_I cap, z_I (g + 1), z_I 32] [] z_hdC y)
        (fun m y => c_fs g (g + 1) x2 y ∧ c_opt y g og ∧ c_ls y og g cap m) 32 (s := x2) ⟨c_fs_refl, b3, b4⟩ (fun m y hm ⟨hy, hyo, hyl⟩ => by
          cases hq : og (m : Int) with
          | none =>
            have e := (hyo m (by omega) (by omega)).1 hq
            refine ⟨y, ?_, hy, hyo, ?_⟩
            · rw [z_B106_76]
              simp (disch := omega) only [if_neg, if_pos, e, z_ns, z_fdC, z_pdC, z_adC, z_sdC, z_lkC, z_ndC, z_gdC, z_mdC, z_cI_some', z_cV_some', z_w_ok, Int.reduceAdd, Int.reduceSub, Int.reduceMul, Int.reduceNeg, Int.reduceEq, Int.reduceLT, Int.reduceLE, Int.reduceNe, reduceIte, true_and, and_true, false_and, and_false, if_true, if_false, ne_eq, not_true_eq_false, not_false_eq_true]
            · obtain ⟨l1, l2, l3, l4, l5, l6⟩ := hyl
              refine ⟨l1, by omega, l3, fun k k0 k1 => ?_, l5, fun m1 q m0 m1' hq1 => ?_⟩
              · obtain ⟨m', q', h1, h2, h3⟩ := l4 k k0 k1
                exact ⟨m', q', h1, by omega, h3⟩
              · by_cases he : m1 = (m : Int)
                · subst he; rw [hq] at hq1; cases hq1
                · exact l6 m1 q m0 (by omega) hq1
          | some q =>
            have e := (hyo m (by omega) (by omega)).2 q hq
            have hqv := hokg.1 m q (by omega) (by omega) hq
            obtain ⟨v, v1, v2⟩ := c_isBeaten (d + 1) hyo (fun m q m0 m1 hq => ⟨(hokg.1 m q m0 m1 hq).1, (hokg.1 m q m0 m1 hq).2.1⟩) (by omega : 0 ≤ g ∧ g < 48) (by omega : 0 ≤ (m : Int) ∧ (m : Int) < 32) hcap hq
            rcases v2 with rfl | ⟨rfl, hb⟩
            · obtain ⟨y', w1, w2, w3⟩ := c_insert (d + 2) hyo hokg (by omega : 0 ≤ g ∧ g < 48) (by omega : 0 ≤ (m : Int) ∧ (m : Int) < 32) hq hyl
              refine ⟨y', ?_, c_fs_trans hy (fun a k hak => w2 a k (by omega)), c_opt_same hyo (fun m' m0 m1 => ⟨w2 _ _ (by omega), w2 _ _ (by omega)⟩), by rw [z_ns]; exact w3⟩
              rw [z_B106_76]
              simp (disch := omega) only [if_neg, if_pos, e.1, v1, w1, z_ns, z_fdC, z_pdC, z_adC, z_sdC, z_lkC, z_ndC, z_gdC, z_mdC, z_cI_some', z_cV_some', z_w_ok, Int.reduceAdd, Int.reduceSub, Int.reduceMul, Int.reduceNeg, Int.reduceEq, Int.reduceLT, Int.reduceLE, Int.reduceNe, reduceIte, true_and, and_true, false_and, and_false, if_true, if_false, ne_eq, not_true_eq_false, not_false_eq_true]
            · refine ⟨y, ?_, hy, hyo, ?_⟩
              · rw [z_B106_76]
                simp (disch := omega) only [if_neg, if_pos, e.1, v1, z_ns, z_fdC, z_pdC, z_adC, z_sdC, z_lkC, z_ndC, z_gdC, z_mdC, z_cI_some', z_cV_some', z_w_ok, Int.reduceAdd, Int.reduceSub, Int.reduceMul, Int.reduceNeg, Int.reduceEq, Int.reduceLT, Int.reduceLE, Int.reduceNe, reduceIte, true_and, and_true, false_and, and_false, if_true, if_false, ne_eq, not_true_eq_false, not_false_eq_true]
              · obtain ⟨l1, l2, l3, l4, l5, l6⟩ := hyl
                refine ⟨l1, by omega, l3, fun k k0 k1 => ?_, l5, fun m1 q m0 m1' hq1 => ?_⟩
                · obtain ⟨m', q', h1, h2, h3⟩ := l4 k k0 k1
                  exact ⟨m', q', h1, by omega, h3⟩
                · by_cases he : m1 = (m : Int)
                  · subst he; exact Or.inl hb
                  · exact l6 m1 q m0 (by omega) hq1) (fun y _ => by
          rw [z_B106_76]
          simp (disch := omega) only [if_pos, z_fdC, z_pdC, z_adC, z_sdC, z_lkC, z_ndC, z_gdC, z_mdC, z_cI_some', z_cV_some', z_w_ok, Int.reduceAdd, Int.reduceSub, Int.reduceMul, Int.reduceNeg, Int.reduceEq, Int.reduceLT, Int.reduceLE, Int.reduceNe, reduceIte, true_and, and_true, false_and, and_false, if_true, if_false, ne_eq, not_true_eq_false, not_false_eq_true]
          rfl)
      have hfs : c_fs g (g + 1) x x3 := c_fs_trans a2 (c_fs_trans b2 c2)
      refine ⟨z_I 32, x3, ?_, c_fs_trans (c_fs_le ho (by omega) (by omega)) (c_fs_le hfs (by omega) (by omega)), fun g' h0 h1 => ?_⟩
      · rw [show f + ((i + 1 : Nat) : Int) = g + 1 by omega, ← c1, a1, z_B106_57]
        simp (disch := omega) only [z_fdC, z_pdC, z_adC, z_sdC, z_lkC, z_ndC, z_gdC, z_mdC, z_cI_some', z_cV_some', z_w_ok, Int.reduceAdd, Int.reduceSub, Int.reduceMul, Int.reduceNeg, Int.reduceEq, Int.reduceLT, Int.reduceLE, Int.reduceNe, reduceIte, true_and, and_true, false_and, and_false, if_true, if_false, ne_eq, not_true_eq_false, not_false_eq_true]
        rfl
      · by_cases hgg : g' = g
        · subst hgg
          rw [hop]
          exact ⟨c3, c_ls_list hokg hcap.1 c4⟩
        · have := hx g' h0 (by omega)
          exact ⟨c_fs_opt hfs (by omega) this.1, c_fs_list hfs (by omega) this.2⟩)
    (fun u x ⟨ho, _⟩ => by
      have q6 : x 47 6 = b := by rw [ho _ _ (by omega)]; exact h6
      rw [z_B106_9]
      simp (disch := omega) only [if_pos, q6, z_fdC, z_pdC, z_adC, z_sdC, z_lkC, z_ndC, z_gdC, z_mdC, z_cI_some', z_cV_some', z_w_ok, Int.reduceAdd, Int.reduceSub, Int.reduceMul, Int.reduceNeg, Int.reduceEq, Int.reduceLT, Int.reduceLE, Int.reduceNe, reduceIte, true_and, and_true, false_and, and_false, if_true, if_false, ne_eq, not_true_eq_false, not_false_eq_true])
  have hbf : f + ((b - f).toNat : Int) = b := by omega
  rw [hbf] at o2 f2
  refine ⟨σ2, ?_, o2, f2⟩
  rw [← e2]
  simp (disch := omega) only [z_E106, z_B106_57, h5, z_fdC, z_pdC, z_adC, z_sdC, z_lkC, z_ndC, z_gdC, z_mdC, z_cI_some', z_cV_some', z_w_ok, Int.reduceAdd, Int.reduceSub, Int.reduceMul, Int.reduceNeg, Int.reduceEq, Int.reduceLT, Int.reduceLE, Int.reduceNe, reduceIte, true_and, and_true, false_and, and_false, if_true, if_false, ne_eq, not_true_eq_false, not_false_eq_true]
  rw [show f + ((0 : Nat) : Int) = f by omega]
theorem c_jr {σ X : z_S} {L j : Int} (hL : L = 6 ∨ L = 26) (hw : z_wf X) (hl : c_land σ L X) (hj : 0 ≤ j ∧ j < X 0 2) (d : Nat) :
    z_ev z_hcC (d + 2) 206 [z_R (L + 10), z_I j] z_hdC σ = some (z_I (X 8 j), z_hdC, σ) ∧ z_ev z_hcC (d + 2) 207 [z_R (L + 10), z_I j] z_hdC σ = some (z_I (X 9 j), z_hdC, σ) ∧ z_ev z_hcC (d + 2) 208 [z_R (L + 10), z_I j] z_hdC σ = some (z_I (X 10 j), z_hdC, σ) ∧
    z_ev z_hcC (d + 2) 209 [z_R (L + 10), z_I j] z_hdC σ = some (z_I (X 11 j), z_hdC, σ) ∧ z_ev z_hcC (d + 2) 210 [z_R (L + 10), z_I j] z_hdC σ = some (z_I (X 12 j), z_hdC, σ) ∧ z_ev z_hcC (d + 2) 212 [z_R (L + 10), z_I j] z_hdC σ = some (z_I (X 14 j), z_hdC, σ) ∧ z_ev z_hcC (d + 2) 213 [z_R (L + 10), z_I j] z_hdC σ = some (z_I (X 15 j), z_hdC, σ) := by
  have hq : L + 10 = 16 ∨ L + 10 = 36 := by omega
  have hn := hw.2.2.1
  have hlj := hl.2.2.2.2.2.2.2 j hj.1 hj.2
  have h4 := hl.2.2.2.1
  have c : 0 ≤ j ∧ j < σ (L + 10) 0 ∧ j < 8 := by rw [h4]; omega
  obtain ⟨e1, e2, e3, e4, e5, e6, e7, e8, e9⟩ := hlj
  refine ⟨?_, ?_, ?_, ?_, ?_, ?_, ?_⟩
  · rw [c_fromOf hq, if_pos c, show L + 10 + 1 = L + 11 by omega, e1]
  · rw [c_toOf hq, if_pos c, show L + 10 + 2 = L + 12 by omega, e2]
  · rw [c_jmanyOf hq, if_pos c, show L + 10 + 3 = L + 13 by omega, e3]
  · rw [c_lowOf hq, if_pos c, show L + 10 + 4 = L + 14 by omega, e4]
  · rw [c_highOf hq, if_pos c, show L + 10 + 5 = L + 15 by omega, e5]
  · rw [c_knownOf hq, if_pos c, show L + 10 + 7 = L + 17 by omega, e7]
  · rw [c_homeOf hq, if_pos c, show L + 10 + 8 = L + 18 by omega, e8]
/-- what enter leaves alone -/
def c_fe (N j : Int) (σ σ' : z_S) : Prop := ∀ a i, (a < 46 ∨ a = 47 ∨ a = 52 ∨ 53 < a) ∨ (a = 46 ∧ i ≠ 0) ∨ (48 ≤ a ∧ a ≤ 50 ∧ i < N) ∨ (a = 51 ∧ i ≠ j) ∨ (a = 53 ∧ i < N * 32) → σ' a i = σ a i
/-- Goers.enter -/
theorem c_enter {σ X : z_S} {L j N : Int} (hL : L = 6 ∨ L = 26) (hw : z_wf X) (hl : c_land σ L X) (hj : 0 ≤ j ∧ j < X 0 2) (h0 : σ 46 0 = N) (h1 : σ 46 1 = L + 10) (hN : 0 ≤ N ∧ N + (X 12 j - X 11 j + 1) ≤ 48) (d : Nat) :
    ∃ σ', z_ev z_hcC (d + 3) 102 [z_R 46, z_I j] z_hdC σ = some (z_U, z_hdC, σ') ∧ c_fe N j σ σ' ∧ σ' 46 0 = N + (X 12 j - X 11 j + 1) ∧ σ' 51 j = N ∧ ∀ g, N ≤ g → g < N + (X 12 j - X 11 j + 1) → σ' 48 g = j ∧ σ' 49 g = X 11 j + (g - N) ∧ σ' 50 g = X 10 j ∧ c_opt σ' g (fun _ => none) := by
  have hJ := hw.2.2.2.2.2.2.2.2.2.2.2.2.2.1 j hj.1 hj.2
  have hn := hw.2.2.1
  let σ1 := z_upd σ 51 j N
  obtain ⟨u', σ2, e2, o2, f0, f2⟩ := z_foru (fun (i : Nat) (u : z_V) (x : z_S) => z_go (z_ev z_hcC (d + 2)) z_hcC 102 19 [z_R 46, z_I j, z_I (X 11 j + i), u] [] z_hdC x) (fun _ x => some (z_U, z_hdC, x))
    (fun i x => c_fe N j σ x ∧ (x 46 0 = N + i ∧ x 51 j = N) ∧ ∀ g, N ≤ g → g < N + i → x 48 g = j ∧ x 49 g = X 11 j + (g - N) ∧ x 50 g = X 10 j ∧ c_opt x g (fun _ => none)) (X 12 j - X 11 j + 1).toNat (u := z_U) (s := σ1)
    ⟨fun a i hai => by show z_upd σ 51 j N a i = _; rw [z_upd_ne (by omega)], ⟨by show z_upd σ 51 j N 46 0 = _; rw [z_upd_ne (by omega)]; omega, z_upd_same⟩, fun g g0 g1 => by omega⟩
    (fun i u x hi ⟨ho, ⟨hx0, hx51⟩, hx⟩ => by
      have hlx : c_land x L X := c_land_off hL (lo := 46) (hi := 53) (fun a k hak => ho a k (by omega)) (by omega) hl
      obtain ⟨-, -, r10, -, r12, -, -⟩ := c_jr hL hw hlx hj (d)
      have x1 : x 46 1 = L + 10 := by rw [ho _ _ (by omega)]; exact h1
      let x3 := z_upd (z_upd (z_upd x 48 (N + i) j) 49 (N + i) (X 11 j + i)) 50 (N + i) (X 10 j)
      have hl3 : c_land (z_upd (z_upd x 48 (N + i) j) 49 (N + i) (X 11 j + i)) L X := c_land_off hL (lo := 48) (hi := 49) (z_off_trans (z_off_upd (by omega) (by omega)) (z_off_upd (by omega) (by omega))) (by omega) hlx
      obtain ⟨-, -, r10', -, -, -, -⟩ := c_jr hL hw hl3 hj (d)
      obtain ⟨x4, c1, c2, c3⟩ := z_for (fun (m : Nat) (y : z_S) => z_go (z_ev z_hcC (d + 2)) z_hcC 102 79 [z_R 46, z_I j, z_I (X 11 j + i), z_I m] [] z_hdC y) (fun y => z_go (z_ev z_hcC (d + 2)) z_hcC 102 19 [z_R 46, z_I j, z_I (X 11 j + i + 1), z_I 32] [] z_hdC (z_upd y 46 0 (N + i + 1)))
        (fun m y => (∀ a k, a ≠ 53 ∨ k < (N + i) * 32 → y a k = x3 a k) ∧ ∀ k : Int, 0 ≤ k → k < m → y 53 ((N + i) * 32 + k) = -1) 32 (s := x3) ⟨fun a k _ => rfl, fun k k0 k1 => by omega⟩ (fun m y hm ⟨hy, hym⟩ => by
          have y0 : y 46 0 = N + i := by
            rw [hy _ _ (by omega)]
            show z_upd (z_upd (z_upd x 48 _ _) 49 _ _) 50 _ _ 46 0 = _
            rw [z_upd_ne (by omega), z_upd_ne (by omega), z_upd_ne (by omega)]; exact hx0
          refine ⟨z_upd y 53 ((N + i) * 32 + m) (-1), ?_, fun a k hak => by rw [z_upd_ne (by omega)]; exact hy a k hak, fun k k0 k1 => ?_⟩
          · rw [z_B102_79]
            simp (disch := omega) only [if_neg, y0, z_ns, z_fdC, z_pdC, z_adC, z_sdC, z_lkC, z_ndC, z_gdC, z_mdC, z_cI_some', z_cV_some', z_w_ok, Int.reduceAdd, Int.reduceSub, Int.reduceMul, Int.reduceNeg, Int.reduceEq, Int.reduceLT, Int.reduceLE, Int.reduceNe, reduceIte, true_and, and_true, false_and, and_false, if_true, if_false, ne_eq, not_true_eq_false, not_false_eq_true]
          · by_cases hk : k = (m : Int)
            · subst hk; exact z_upd_same
            · rw [z_upd_ne (by omega)]; exact hym k k0 (by omega)) (fun y ⟨hy, _⟩ => by
          have y0 : y 46 0 = N + i := by
            rw [hy _ _ (by omega)]
            show z_upd (z_upd (z_upd x 48 _ _) 49 _ _) 50 _ _ 46 0 = _
            rw [z_upd_ne (by omega), z_upd_ne (by omega), z_upd_ne (by omega)]; exact hx0
          rw [z_B102_79]
          simp (disch := omega) only [if_pos, y0, z_fdC, z_pdC, z_adC, z_sdC, z_lkC, z_ndC, z_gdC, z_mdC, z_cI_some', z_cV_some', z_w_ok, Int.reduceAdd, Int.reduceSub, Int.reduceMul, Int.reduceNeg, Int.reduceEq, Int.reduceLT, Int.reduceLE, Int.reduceNe, reduceIte, true_and, and_true, false_and, and_false, if_true, if_false, ne_eq, not_true_eq_false, not_false_eq_true]
          rfl)
      have x4at : ∀ a k, (a ≠ 53 ∨ k < (N + i) * 32) → (a < 48 ∨ 50 < a ∨ k ≠ N + i) → x4 a k = x a k := fun a k h1 h2 => by
        rw [c2 a k h1]
        show z_upd (z_upd (z_upd x 48 _ _) 49 _ _) 50 _ _ a k = _
        rw [z_upd_ne (by omega), z_upd_ne (by omega), z_upd_ne (by omega)]
      refine ⟨z_I 32, z_upd x4 46 0 (N + i + 1), ?_, fun a k hak => ?_, ⟨by rw [z_upd_same]; omega, by rw [z_upd_ne (by omega), x4at _ _ (by omega) (by omega)]; exact hx51⟩, fun g g0 g1 => ?_⟩
      · rw [show X 11 j + ((i + 1 : Nat) : Int) = X 11 j + i + 1 by omega, ← c1, z_B102_19]
        simp (disch := omega) only [if_neg, if_pos, x1, c_LC hL, r12, hx0, z_upd_at, r10', z_fdC, z_pdC, z_adC, z_sdC, z_lkC, z_ndC, z_gdC, z_mdC, z_cI_some', z_cV_some', z_w_ok, Int.reduceAdd, Int.reduceSub, Int.reduceMul, Int.reduceNeg, Int.reduceEq, Int.reduceLT, Int.reduceLE, Int.reduceNe, reduceIte, true_and, and_true, false_and, and_false, if_true, if_false, ne_eq, not_true_eq_false, not_false_eq_true]
        rfl
      · rw [z_upd_ne (by omega), x4at _ _ (by omega) (by omega)]
        exact ho a k hak
      · by_cases hg : g = N + i
        · subst hg
          have e48 : x3 48 (N + i) = j := by
            show z_upd (z_upd (z_upd x 48 _ _) 49 _ _) 50 _ _ 48 _ = _
            rw [z_upd_ne (by omega), z_upd_ne (by omega), z_upd_same]
          have e49 : x3 49 (N + i) = X 11 j + i := by
            show z_upd (z_upd (z_upd x 48 _ _) 49 _ _) 50 _ _ 49 _ = _
            rw [z_upd_ne (by omega), z_upd_same]
          have e50 : x3 50 (N + i) = X 10 j := z_upd_same
          rw [z_upd_ne (by omega), z_upd_ne (by omega), z_upd_ne (by omega), c2 _ _ (by omega), c2 _ _ (by omega), c2 _ _ (by omega), e48, e49, e50]
          refine ⟨rfl, by omega, rfl, fun m m0 m1 => ⟨fun _ => ?_, fun q hq => by cases hq⟩⟩
          rw [z_upd_ne (by omega)]
          exact c3 m m0 m1
        · have := hx g g0 (by omega)
          rw [z_upd_ne (by omega), z_upd_ne (by omega), z_upd_ne (by omega), x4at _ _ (by omega) (by omega), x4at _ _ (by omega) (by omega), x4at _ _ (by omega) (by omega)]
          refine ⟨this.1, this.2.1, this.2.2.1, fun m m0 m1 => ⟨fun _ => ?_, fun q hq => by cases hq⟩⟩
          rw [z_upd_ne (by omega), x4at _ _ (by omega) (by omega)]
          exact (this.2.2.2 m m0 m1).1 rfl)
    (fun u x ⟨ho, ⟨hx0, _⟩, _⟩ => by
      have hlx : c_land x L X := c_land_off hL (lo := 46) (hi := 53) (fun a k hak => ho a k (by omega)) (by omega) hl
      obtain ⟨-, -, -, -, r12, -, -⟩ := c_jr hL hw hlx hj (d)
      have x1 : x 46 1 = L + 10 := by rw [ho _ _ (by omega)]; exact h1
      rw [z_B102_19]
      simp (disch := omega) only [if_pos, x1, c_LC hL, r12, z_fdC, z_pdC, z_adC, z_sdC, z_lkC, z_ndC, z_gdC, z_mdC, z_cI_some', z_cV_some', z_w_ok, Int.reduceAdd, Int.reduceSub, Int.reduceMul, Int.reduceNeg, Int.reduceEq, Int.reduceLT, Int.reduceLE, Int.reduceNe, reduceIte, true_and, and_true, false_and, and_false, if_true, if_false, ne_eq, not_true_eq_false, not_false_eq_true])
  have hcn : (((X 12 j - X 11 j + 1).toNat : Nat) : Int) = X 12 j - X 11 j + 1 := by omega
  rw [hcn] at f0 f2
  refine ⟨σ2, ?_, o2, f0.1, f0.2, f2⟩
  have hl1 : c_land σ1 L X := c_land_off hL (lo := 51) (hi := 51) (z_off_upd (by omega) (by omega)) (by omega) hl
  obtain ⟨-, -, -, r11, -, -, -⟩ := c_jr hL hw hl1 hj (d)
  have x1 : σ1 46 1 = L + 10 := by show z_upd σ 51 j N 46 1 = _; rw [z_upd_ne (by omega)]; exact h1
  rw [← e2]
  have key : z_ev z_hcC (d + 3) 102 [z_R 46, z_I j] z_hdC σ = z_cI (z_ev z_hcC (d + 2) 209 [z_R (L + 10), z_I j] z_hdC σ1) (fun v4 h2 s3 => z_go (z_ev z_hcC (d + 2)) z_hcC 102 19 [z_R 46, z_I j, z_I v4, z_U] [] h2 s3) := by
    simp (disch := omega) only [z_E102, h0, z_upd_at, if_neg, h1, c_LC hL, z_fdC, z_pdC, z_adC, z_sdC, z_lkC, z_ndC, z_gdC, z_mdC, z_cI_some', z_cV_some', z_w_ok, Int.reduceAdd, Int.reduceSub, Int.reduceMul, Int.reduceNeg, Int.reduceEq, Int.reduceLT, Int.reduceLE, Int.reduceNe, reduceIte, true_and, and_true, false_and, and_false, if_true, if_false, ne_eq, not_true_eq_false, not_false_eq_true]
    rfl
  rw [key, r11, z_cI_some']
  rw [show X 11 j + ((0 : Nat) : Int) = X 11 j by omega]
