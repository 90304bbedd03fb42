/-! The reference: one goer more. -/
def m_wj (σ : z_S) (j : Int) (V : List (List Int)) : Prop := σ 34 j = (V.length : Int) ∧ V.length ≤ 200 ∧ ∀ i : Nat, i < V.length → m_way σ (200 * j + i) (V.getD i [])
theorem m_wj_off {σ σ' : z_S} {j b lo hi : Int} {V : List (List Int)} (ho : m_off b lo hi σ σ') (hlo : 35 ≤ lo) (h : m_wj σ j V) : m_wj σ' j V := ⟨by rw [m_at ho (by omega)]; exact h.1, h.2.1, fun i hi => m_way_off ho (Or.inl (by omega)) (h.2.2 i hi)⟩
/-- may this way be gone, road but being shut -/
def m_ok (but : Int) (l : List Int) : Prop := but = -1 ∨ but ∉ l
/-- the goer's table after k ways -/
def m_tb (σ X : z_S) (g j v but : Int) (V : List (List Int)) (k : Nat) : Prop := ∀ m, 0 ≤ m → m < 32 →
  (σ 38 (32 * g + m) = -1 ∧ ∀ i : Nat, i < k → m_ok but (V.getD i []) → z_msk X (V.getD i []) ≠ m) ∨
  ∃ i : Nat, i < k ∧ m_ok but (V.getD i []) ∧ z_msk X (V.getD i []) = m ∧ σ 38 (32 * g + m) = 200 * j + i ∧ σ 39 (32 * g + m) = z_pnf X j v (V.getD i []) ∧ ∀ i' : Nat, i' < k → m_ok but (V.getD i' []) → z_msk X (V.getD i' []) = m → z_pnf X j v (V.getD i []) < z_pnf X j v (V.getD i' []) ∨ (z_pnf X j v (V.getD i []) = z_pnf X j v (V.getD i' []) ∧ i ≤ i')
section
variable {σ X : z_S}
theorem z_getDl {V : List (List Int)} {i : Nat} (h : i < V.length) : V.getD i [] ∈ V := by
  rw [List.getD_eq_getElem?_getD, List.getElem?_eq_getElem h]
  exact List.getElem_mem h
theorem m_addGoer (d : Nat) (hX : z_wf X) (hl : m_land σ X) {j v but g : Int} {V : List (List Int)} (hj : 0 ≤ j ∧ j < X 0 2) (hv : 0 ≤ v ∧ v ≤ 9) (hg : σ 1 48 = g) (hg48 : 0 ≤ g ∧ g < 48) (hV : m_wj σ j V)
    (hok : ∀ l ∈ V, (∀ r ∈ l, 0 ≤ r ∧ r < X 0 0) ∧ l.length ≤ 7 ∧ (l = [] → 0 ≤ X 15 j)) :
    ∃ σ', z_ev z_hcM (d + 3) 1227 [z_R 1, z_I j, z_I v, z_I but] z_hdM σ = some (z_U, z_hdM, σ') ∧ (∀ a i, (a < 36 ∨ 39 < a) → (a ≠ 1 ∨ i ≠ 48) → σ' a i = σ a i) ∧ (∀ i, i ≠ g → σ' 36 i = σ 36 i ∧ σ' 37 i = σ 37 i) ∧ (∀ i, i < 32 * g → σ' 38 i = σ 38 i ∧ σ' 39 i = σ 39 i) ∧
      σ' 1 48 = g + 1 ∧ σ' 36 g = j ∧ σ' 37 g = v ∧ m_tb σ' X g j v but V V.length := by
  have hnJ := hX.2.2.1
  have go2 : ∀ (n k : Nat) (u6 u7 u8 : z_V) (σ2 : z_S), k + n = V.length → m_land σ2 X → m_wj σ2 j V → m_tb σ2 X g j v but V k →
      ∃ σ', z_go (z_ev z_hcM (d + 2)) z_hcM 1227 65 [z_R 1, z_I j, z_I v, z_I but, z_I g, z_I k, u6, u7, u8] [] z_hdM σ2 = some (z_U, z_hdM, σ') ∧ (∀ a i, a ≠ 38 → a ≠ 39 → σ' a i = σ2 a i) ∧ (∀ i, i < 32 * g → σ' 38 i = σ2 38 i ∧ σ' 39 i = σ2 39 i) ∧ m_tb σ' X g j v but V V.length := by
    intro n
    induction n with
    | zero =>
      intro k u6 u7 u8 σ2 hk hl2 hV2 ht
      have h34 := hV2.1
      refine ⟨σ2, ?_, fun _ _ _ _ => rfl, fun _ _ => ⟨rfl, rfl⟩, by rw [show V.length = k by omega]; exact ht⟩
      rw [z_B1227_65]
      simp (disch := omega) only [h34, if_pos, z_fdM, z_pdM, z_adM, z_sdM, z_lkM, z_ndM, z_gdM, z_cI_some', z_cV_some', z_w_ok, Int.reduceAdd, Int.reduceSub, Int.reduceMul, Int.reduceNeg, Int.reduceEq, Int.reduceLT, Int.reduceLE, Int.reduceNe, reduceIte, true_and, and_true, false_and, and_false, if_true, if_false, ne_eq, not_true_eq_false, not_false_eq_true]
    | succ n ih =>
      intro k u6 u7 u8 σ2 hk hl2 hV2 ht
      obtain ⟨h34, h200, hway⟩ := hV2
      have hV2' : m_wj σ2 j V := ⟨h34, h200, hway⟩
      have hk' : k < V.length := by omega
      have hwy := hway k hk'
      obtain ⟨o1, o2, o3⟩ := hok _ (z_getDl hk')
      have hmr := z_msk_rng hX (V.getD k [])
      have e1 : ((k + 1 : Nat) : Int) = (k : Int) + 1 := by omega
      have hhas := m_has (d + 1) (w := 200 * j + k) (by omega) hwy o2 but
      have hmk := m_maskOf d (w := 200 * j + k) hX hl2 (by omega) hwy o2
      have hpp := m_plainPains (d + 1) (w := 200 * j + k) hX hl2 hj hv (by omega) hwy o2 o1 o3
      have hpr := z_pnf_rng (w := v) hX hj hv o1 o2
      by_cases hk1 : m_ok but (V.getD k [])
      · have start : z_go (z_ev z_hcM (d + 2)) z_hcM 1227 65 [z_R 1, z_I j, z_I v, z_I but, z_I g, z_I k, u6, u7, u8] [] z_hdM σ2 = z_go (z_ev z_hcM (d + 2)) z_hcM 1227 104 [z_R 1, z_I j, z_I v, z_I but, z_I g, z_I k, z_I (200 * j + k), u7, u8] [] z_hdM σ2 := by
          rw [z_B1227_65]
          by_cases cb : but = -1
          · simp (disch := omega) only [h34, if_neg, if_pos, cb, z_fdM, z_pdM, z_adM, z_sdM, z_lkM, z_ndM, z_gdM, z_cI_some', z_cV_some', z_w_ok, Int.reduceAdd, Int.reduceSub, Int.reduceMul, Int.reduceNeg, Int.reduceEq, Int.reduceLT, Int.reduceLE, Int.reduceNe, reduceIte, true_and, and_true, false_and, and_false, if_true, if_false, ne_eq, not_true_eq_false, not_false_eq_true]
          · have hn : but ∉ V.getD k [] := by rcases hk1 with h | h; exact absurd h cb; exact h
            rw [if_neg hn] at hhas
            simp (disch := omega) only [h34, if_neg, if_pos, hhas, z_fdM, z_pdM, z_adM, z_sdM, z_lkM, z_ndM, z_gdM, z_cI_some', z_cV_some', z_w_ok, Int.reduceAdd, Int.reduceSub, Int.reduceMul, Int.reduceNeg, Int.reduceEq, Int.reduceLT, Int.reduceLE, Int.reduceNe, reduceIte, true_and, and_true, false_and, and_false, if_true, if_false, ne_eq, not_true_eq_false, not_false_eq_true]
        rcases ht (z_msk X (V.getD k [])) hmr.1 hmr.2.1 with ⟨t1, t2⟩ | ⟨i, t1, t2, t3, t4, t5, t6⟩
        · have hoff : m_off 99 38 39 σ2 (z_upd (z_upd σ2 38 (32 * g + z_msk X (V.getD k [])) (200 * j + k)) 39 (32 * g + z_msk X (V.getD k [])) (z_pnf X j v (V.getD k []))) := m_off_trans (m_off_upd (by omega)) (m_off_upd (by omega))
          obtain ⟨σ', g1, g2, g3, g4⟩ := ih (k + 1) (z_I (200 * j + k)) (z_I (32 * g + z_msk X (V.getD k []))) (z_I (z_pnf X j v (V.getD k []))) _ (by omega) (m_land_off hoff (by omega) (by omega) hl2) (m_wj_off hoff (by omega) hV2') (fun m m0 m1 => by
            by_cases cm : m = z_msk X (V.getD k [])
            · right
              refine ⟨k, by omega, hk1, cm.symm, by rw [z_upd_ne (by omega), cm, z_upd_same], by rw [cm, z_upd_same], fun i' hi' ho' hm' => ?_⟩
              by_cases ci : i' = k
              · rw [ci]; right; exact ⟨rfl, Nat.le_refl _⟩
              · exact absurd (hm'.trans cm) (t2 i' (by omega) ho')
            · rw [z_upd_ne (by omega), z_upd_ne (by omega), z_upd_at, if_neg (by omega), z_upd_at, if_neg (by omega)]
              rcases ht m m0 m1 with ⟨s1, s2⟩ | ⟨i, s1, s2, s3, s4, s5, s6⟩
              · left
                refine ⟨s1, fun i' hi' ho' => ?_⟩
                by_cases ci : i' = k
                · rw [ci]; exact fun e => cm e.symm
                · exact s2 i' (by omega) ho'
              · right
                refine ⟨i, by omega, s2, s3, s4, s5, fun i' hi' ho' hm' => ?_⟩
                by_cases ci : i' = k
                · rw [ci] at hm'; exact absurd hm'.symm cm
                · exact s6 i' (by omega) ho' hm')
          refine ⟨σ', ?_, fun a i h1 h2 => by rw [g2 a i h1 h2, z_upd_ne (by omega), z_upd_ne (by omega)], fun i hi => ?_, g4⟩
          · rw [start, z_B1227_104]
            simp (disch := omega) only [hmk, hpp, t1, if_pos, z_B1227_154, z_fdM, z_pdM, z_adM, z_sdM, z_lkM, z_ndM, z_gdM, z_cI_some', z_cV_some', z_w_ok, Int.reduceAdd, Int.reduceSub, Int.reduceMul, Int.reduceNeg, Int.reduceEq, Int.reduceLT, Int.reduceLE, Int.reduceNe, reduceIte, true_and, and_true, false_and, and_false, if_true, if_false, ne_eq, not_true_eq_false, not_false_eq_true]
            rw [← e1]
            exact g1
          · rw [(g3 i hi).1, (g3 i hi).2, z_upd_ne (by omega), z_upd_ne (by omega), z_upd_ne (by omega), z_upd_ne (by omega)]
            exact ⟨rfl, rfl⟩
        · by_cases cp : z_pnf X j v (V.getD k []) < z_pnf X j v (V.getD i [])
          · have hoff : m_off 99 38 39 σ2 (z_upd (z_upd σ2 38 (32 * g + z_msk X (V.getD k [])) (200 * j + k)) 39 (32 * g + z_msk X (V.getD k [])) (z_pnf X j v (V.getD k []))) := m_off_trans (m_off_upd (by omega)) (m_off_upd (by omega))
            obtain ⟨σ', g1, g2, g3, g4⟩ := ih (k + 1) (z_I (200 * j + k)) (z_I (32 * g + z_msk X (V.getD k []))) (z_I (z_pnf X j v (V.getD k []))) _ (by omega) (m_land_off hoff (by omega) (by omega) hl2) (m_wj_off hoff (by omega) hV2') (fun m m0 m1 => by
              by_cases cm : m = z_msk X (V.getD k [])
              · right
                refine ⟨k, by omega, hk1, cm.symm, by rw [z_upd_ne (by omega), cm, z_upd_same], by rw [cm, z_upd_same], fun i' hi' ho' hm' => ?_⟩
                by_cases ci : i' = k
                · rw [ci]; right; exact ⟨rfl, Nat.le_refl _⟩
                · have := t6 i' (by omega) ho' (hm'.trans cm)
                  left; omega
              · rw [z_upd_ne (by omega), z_upd_ne (by omega), z_upd_at, if_neg (by omega), z_upd_at, if_neg (by omega)]
                rcases ht m m0 m1 with ⟨s1, s2⟩ | ⟨i, s1, s2, s3, s4, s5, s6⟩
                · left
                  refine ⟨s1, fun i' hi' ho' => ?_⟩
                  by_cases ci : i' = k
                  · rw [ci]; exact fun e => cm e.symm
                  · exact s2 i' (by omega) ho'
                · right
                  refine ⟨i, by omega, s2, s3, s4, s5, fun i' hi' ho' hm' => ?_⟩
                  by_cases ci : i' = k
                  · rw [ci] at hm'; exact absurd hm'.symm cm
                  · exact s6 i' (by omega) ho' hm')
            refine ⟨σ', ?_, fun a i h1 h2 => by rw [g2 a i h1 h2, z_upd_ne (by omega), z_upd_ne (by omega)], fun i hi => ?_, g4⟩
            · rw [start, z_B1227_104]
              simp (disch := omega) only [hmk, hpp, t4, t5, if_neg, if_pos, z_B1227_154, z_fdM, z_pdM, z_adM, z_sdM, z_lkM, z_ndM, z_gdM, z_cI_some', z_cV_some', z_w_ok, Int.reduceAdd, Int.reduceSub, Int.reduceMul, Int.reduceNeg, Int.reduceEq, Int.reduceLT, Int.reduceLE, Int.reduceNe, reduceIte, true_and, and_true, false_and, and_false, if_true, if_false, ne_eq, not_true_eq_false, not_false_eq_true]
              rw [← e1]
              exact g1
            · rw [(g3 i hi).1, (g3 i hi).2, z_upd_ne (by omega), z_upd_ne (by omega), z_upd_ne (by omega), z_upd_ne (by omega)]
              exact ⟨rfl, rfl⟩
          · obtain ⟨σ', g1, g2, g3, g4⟩ := ih (k + 1) (z_I (200 * j + k)) (z_I (32 * g + z_msk X (V.getD k []))) (z_I (z_pnf X j v (V.getD k []))) σ2 (by omega) hl2 hV2' (fun m m0 m1 => by
              rcases ht m m0 m1 with ⟨s1, s2⟩ | ⟨i2, s1, s2, s3, s4, s5, s6⟩
              · left
                refine ⟨s1, fun i' hi' ho' => ?_⟩
                by_cases ci : i' = k
                · intro e
                  rw [ci] at e
                  rw [← e] at s2
                  exact s2 i t1 t2 t3
                · exact s2 i' (by omega) ho'
              · right
                refine ⟨i2, by omega, s2, s3, s4, s5, fun i' hi' ho' hm' => ?_⟩
                by_cases ci : i' = k
                · rw [ci] at hm' ⊢
                  have := s6 i t1 t2 (t3.trans hm')
                  have := t6 i2 s1 s2 (s3.trans hm'.symm)
                  omega
                · exact s6 i' (by omega) ho' hm')
            refine ⟨σ', ?_, g2, g3, g4⟩
            rw [start, z_B1227_104]
            simp (disch := omega) only [hmk, hpp, t4, t5, if_neg, if_pos, z_fdM, z_pdM, z_adM, z_sdM, z_lkM, z_ndM, z_gdM, z_cI_some', z_cV_some', z_w_ok, Int.reduceAdd, Int.reduceSub, Int.reduceMul, Int.reduceNeg, Int.reduceEq, Int.reduceLT, Int.reduceLE, Int.reduceNe, reduceIte, true_and, and_true, false_and, and_false, if_true, if_false, ne_eq, not_true_eq_false, not_false_eq_true]
            rw [← e1]
            exact g1
      · have cb : but ≠ -1 := fun e => hk1 (Or.inl e)
        have hin : but ∈ V.getD k [] := Classical.byContradiction fun e => hk1 (Or.inr e)
        rw [if_pos hin] at hhas
        obtain ⟨σ', g1, g2, g3, g4⟩ := ih (k + 1) (z_I (200 * j + k)) u7 u8 σ2 (by omega) hl2 hV2' (fun m m0 m1 => by
          rcases ht m m0 m1 with ⟨s1, s2⟩ | ⟨i, s1, s2, s3, s4, s5, s6⟩
          · left
            refine ⟨s1, fun i' hi' ho' => ?_⟩
            by_cases ci : i' = k
            · rw [ci] at ho'; exact absurd ho' hk1
            · exact s2 i' (by omega) ho'
          · right
            refine ⟨i, by omega, s2, s3, s4, s5, fun i' hi' ho' hm' => ?_⟩
            by_cases ci : i' = k
            · rw [ci] at ho'; exact absurd ho' hk1
            · exact s6 i' (by omega) ho' hm')
        refine ⟨σ', ?_, g2, g3, g4⟩
        rw [z_B1227_65]
        simp (disch := omega) only [h34, if_neg, if_pos, hhas, z_fdM, z_pdM, z_adM, z_sdM, z_lkM, z_ndM, z_gdM, z_cI_some', z_cV_some', z_w_ok, Int.reduceAdd, Int.reduceSub, Int.reduceMul, Int.reduceNeg, Int.reduceEq, Int.reduceLT, Int.reduceLE, Int.reduceNe, reduceIte, true_and, and_true, false_and, and_false, if_true, if_false, ne_eq, not_true_eq_false, not_false_eq_true]
        rw [← e1]
        exact g1
  have go1 : ∀ (n k : Nat) (u6 u7 u8 : z_V) (σ2 : z_S), k + n = 32 → ∃ σ3, z_go (z_ev z_hcM (d + 2)) z_hcM 1227 35 [z_R 1, z_I j, z_I v, z_I but, z_I g, z_I k, u6, u7, u8] [] z_hdM σ2 = z_go (z_ev z_hcM (d + 2)) z_hcM 1227 65 [z_R 1, z_I j, z_I v, z_I but, z_I g, z_I 0, u6, u7, u8] [] z_hdM σ3 ∧ (∀ a i : Int, (a ≠ 38 ∨ i < 32 * g + k) → σ3 a i = σ2 a i) ∧ ∀ m : Int, (k : Int) ≤ m → m < 32 → σ3 38 (32 * g + m) = -1 := by
    intro n
    induction n with
    | zero =>
      intro k u6 u7 u8 σ2 hk
      refine ⟨σ2, ?_, fun _ _ _ => rfl, fun m m0 m1 => absurd m1 (by omega)⟩
      rw [z_B1227_35, if_pos (by omega)]
    | succ n ih =>
      intro k u6 u7 u8 σ2 hk
      obtain ⟨σ3, g1, g2, g3⟩ := ih (k + 1) u6 u7 u8 (z_upd σ2 38 (32 * g + k) (-1)) (by omega)
      have e1 : ((k + 1 : Nat) : Int) = (k : Int) + 1 := by omega
      rw [e1] at g1
      refine ⟨σ3, ?_, fun a i h => by rw [g2 a i (by omega), z_upd_ne (by omega)], fun m m0 m1 => ?_⟩
      · rw [z_B1227_35, if_neg (by omega)]
        simp (disch := omega) only [if_neg, z_fdM, z_pdM, z_adM, z_sdM, z_lkM, z_ndM, z_gdM, z_cI_some', z_cV_some', z_w_ok, Int.reduceAdd, Int.reduceSub, Int.reduceMul, Int.reduceNeg, Int.reduceEq, Int.reduceLT, Int.reduceLE, Int.reduceNe, reduceIte, true_and, and_true, false_and, and_false, if_true, if_false, ne_eq, not_true_eq_false, not_false_eq_true]
        exact g1
      · by_cases c : m = k
        · rw [g2 _ _ (by omega), c, z_upd_same]
        · exact g3 m (by omega) m1
  obtain ⟨σ3, e3, o3, f3⟩ := go1 32 0 z_U z_U z_U (z_upd (z_upd (z_upd σ 1 48 (g + 1)) 36 g j) 37 g v) (by omega)
  have off3 : m_off 48 36 39 σ σ3 := m_off_trans (m_off_upd (a := 1) (i := 48) (v := g + 1) (by omega)) (m_off_trans (m_off_upd (a := 36) (i := g) (v := j) (by omega)) (m_off_trans (m_off_upd (a := 37) (i := g) (v := v) (by omega)) (fun a i h1 h2 h3 => o3 a i (by omega))))
  obtain ⟨σ', g1, g2, g3, g4⟩ := go2 V.length 0 z_U z_U z_U σ3 (by omega) (m_land_off off3 (by omega) (by omega) hl) (m_wj_off off3 (by omega) hV) (fun m m0 m1 => Or.inl ⟨f3 m (by omega) m1, fun i hi => absurd hi (by omega)⟩)
  refine ⟨σ', ?_, fun a i h h' => by rw [g2 a i (by omega) (by omega), o3 a i (by omega), z_upd_ne (by omega), z_upd_ne (by omega), z_upd_ne (by omega)], fun i hi => ⟨by rw [g2 _ _ (by omega) (by omega), o3 _ _ (by omega), z_upd_ne (by omega), z_upd_ne (by omega), z_upd_ne (by omega)], by rw [g2 _ _ (by omega) (by omega), o3 _ _ (by omega), z_upd_ne (by omega), z_upd_ne (by omega), z_upd_ne (by omega)]⟩, fun i hi => ⟨by rw [(g3 i hi).1, o3 _ _ (by omega), z_upd_ne (by omega), z_upd_ne (by omega), z_upd_ne (by omega)], by rw [(g3 i hi).2, o3 _ _ (by omega), z_upd_ne (by omega), z_upd_ne (by omega), z_upd_ne (by omega)]⟩, by rw [g2 _ _ (by omega) (by omega), o3 _ _ (by omega), z_upd_ne (by omega), z_upd_ne (by omega), z_upd_same], by rw [g2 _ _ (by omega) (by omega), o3 _ _ (by omega), z_upd_ne (by omega), z_upd_same], by rw [g2 _ _ (by omega) (by omega), o3 _ _ (by omega), z_upd_same], g4⟩
  rw [z_E1227]
  simp (disch := omega) only [hg, z_fdM, z_pdM, z_adM, z_sdM, z_lkM, z_ndM, z_gdM, z_cI_some', z_cV_some', z_w_ok, Int.reduceAdd, Int.reduceSub, Int.reduceMul, Int.reduceNeg, Int.reduceEq, Int.reduceLT, Int.reduceLE, Int.reduceNe, reduceIte, true_and, and_true, false_and, and_false, if_true, if_false, ne_eq, not_true_eq_false, not_false_eq_true]
  exact e3.trans g1
end
