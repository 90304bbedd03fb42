/-! The class's own methods: without, ford. -/
noncomputable def s_without (X : z_S) (w r : Int) : Int × z_S := (if z_seek X w = true ∧ 0 ≤ r ∧ r < X 0 0 then z_hv (z_Dm X r) (X 0 4) (z_Dm X r).mn (z_side X w r) (z_side X w r) (X 0 3) (X 7) - z_hv (z_Dm X (-1)) (X 0 4) (z_Dm X (-1)).mn (z_side X w (-1)) (z_side X w (-1)) (X 0 3) (X 7) else -1, X)
/-- the land with a road more -/
def z_XF (X : z_S) (a b c : Int) : z_S := z_addR X (-1) a b c 0
noncomputable def s_ford (X : z_S) (w a b c : Int) : Int × z_S := (if z_seek X w = true ∧ (0 ≤ a ∧ a < 8 ∧ 0 ≤ b ∧ b < 8 ∧ a ≠ b ∧ 0 ≤ c ∧ c ≤ 99) ∧ X 0 0 < 14 ∧ z_fit (z_XF X a b c) (-1) (X 0 2).toNat = true then z_hv (z_Dm (z_XF X a b c) (-1)) (X 0 4) (z_Dm (z_XF X a b c) (-1)).mn (z_side X w (-1)) (z_side X w (-1)) (X 0 3) (X 7) - z_hv (z_Dm X (-1)) (X 0 4) (z_Dm X (-1)).mn (z_side X w (-1)) (z_side X w (-1)) (X 0 3) (X 7) else -1, X)
theorem z_wc_shut {X : z_S} {s j : Int} : z_wc X s j ≤ z_wc X (-1) j := by
  unfold z_wc z_wys
  rw [z_dfs_shut]
  have := List.length_filter_le (fun l => !decide (s ∈ l)) (z_dfs X (-1) (X 9 j) (z_K X j) 7 (X 8 j) (z_shl 1 (X 8 j)))
  split <;> omega
theorem z_fit_shut {X : z_S} {s : Int} : ∀ {n : Nat}, z_fit X (-1) n = true → z_fit X s n = true
  | 0, _ => rfl
  | n + 1, h => by
    unfold z_fit at h ⊢
    rw [Bool.and_eq_true, decide_eq_true_eq] at h ⊢
    have := z_wc_shut (X := X) (s := s) (j := n)
    exact ⟨z_fit_shut h.1, by omega⟩
section
variable {X σ : z_S} {L A : Int}
theorem z_side_shut (hw : z_wf X) (w s : Int) {cp : Int} (hc : 0 ≤ cp) : z_tot (z_side X w s) cp ≤ z_tot (z_side X w (-1)) cp := by
  have h1 := z_side_rng hw w s
  have h2 := z_side_rng hw w (-1)
  refine z_tot_le ?_ hc
  unfold z_pc
  refine z_sm_le (fun k k0 k1 => ?_)
  cases c : z_bt (z_side X w s) k with
  | false => simp; split <;> omega
  | true =>
    have := (z_side_bt hw k0).mp c
    rw [(z_side_bt hw k0).mpr ⟨this.1, this.2.1, by have := hw.2.2.2.2.2.2.2.2.1 k k0 this.1; omega⟩]
    simp
/-- the draft is the land -/
theorem c_iw.copy (h : c_iw σ X L A) (d : Nat) : ∃ σ', z_ev z_hcC (d + 2) 301 [z_R A, z_R L] z_hdC σ = some (z_U, z_hdC, σ') ∧ z_off (A + 1) (A + 19) σ σ' ∧ c_land σ' A X ∧ σ' (A + 1) 3 = 0 := by
  have hQ := h.Q
  have hwf := hQ.wf
  have h1 := h.1
  have hn := hwf.1
  have hn1 := hwf.2.1
  have hn2 := hwf.2.2.1
  obtain ⟨σ', e, o, c0, c1, c2, c3, c4, cc⟩ := c_copy (σ := σ) (L := A) (A := L) (by omega) d
  obtain ⟨l1, l2, l3, l4, l5, l6, l7, l8⟩ := hQ.land
  refine ⟨σ', e, o, ⟨by rw [c0]; exact l1, by rw [c1]; exact l2, by rw [c2]; exact l3, by rw [c4]; exact l4, fun r r0 r1 => ?_, fun k k0 k1 => by rw [cc _ _ (by omega)]; exact l6 k k0 k1, fun k k0 k1 => by rw [cc _ _ (by omega)]; exact l7 k k0 k1, fun j j0 j1 => ?_⟩, ?_⟩
  · rw [cc _ _ (by omega), cc _ _ (by omega), cc _ _ (by omega), cc _ _ (by omega), cc _ _ (by omega), cc _ _ (by omega)]
    exact l5 r r0 r1
  · rw [cc _ _ (by omega), cc _ _ (by omega), cc _ _ (by omega), cc _ _ (by omega), cc _ _ (by omega), cc _ _ (by omega), cc _ _ (by omega), cc _ _ (by omega), cc _ _ (by omega)]
    exact l8 j j0 j1
  · rw [c3]
    rcases hQ.shut with ⟨-, h⟩ | ⟨h, -⟩
    · exact h
    · omega
/-- the goers surveyed anew -/
theorem c_iw_again (h : c_iw σ X L A) {σ1 σ2 : z_S} (d : Nat) (ho : ∀ a i, (a < A + 1 ∨ A + 19 < a) → (a < 46 ∨ 75 < a) → σ1 a i = σ a i) (h61 : σ1 61 0 = 0) (h62 : σ1 62 0 = 0) :
    ∃ σ2, z_ev z_hcC (d + 14) 101 [z_R 46, z_R L] z_hdC σ1 = some (z_I 1, z_hdC, σ2) ∧ z_off 46 57 σ1 σ2 ∧ c_iw σ2 X L A := by
  obtain ⟨a1, ⟨b1, b2, b3⟩, a3, a4, a5, a6, a7, a8, a9⟩ := h
  have hL := a7.hL
  have hA : A = 6 ∨ A = 26 := by omega
  have e : ∀ b i : Int, 1 ≤ b → b ≤ 19 → σ1 (L + b) i = σ (L + b) i := fun b i b0 b1 => ho _ _ (by omega) (by omega)
  have hl : c_land σ1 L X := by
    obtain ⟨l1, l2, l3, l4, l5, l6, l7, l8⟩ := a7.land
    refine ⟨by rw [e _ _ (by omega) (by omega)]; exact l1, by rw [e _ _ (by omega) (by omega)]; exact l2, by rw [e _ _ (by omega) (by omega)]; exact l3, by rw [e _ _ (by omega) (by omega)]; exact l4, fun r a b => ?_, fun k a b => by rw [e _ _ (by omega) (by omega)]; exact l6 k a b, fun k a b => by rw [e _ _ (by omega) (by omega)]; exact l7 k a b, fun j a b => ?_⟩
    · rw [e _ _ (by omega) (by omega), e _ _ (by omega) (by omega), e _ _ (by omega) (by omega), e _ _ (by omega) (by omega), e _ _ (by omega) (by omega), e _ _ (by omega) (by omega)]
      exact l5 r a b
    · rw [e _ _ (by omega) (by omega), e _ _ (by omega) (by omega), e _ _ (by omega) (by omega), e _ _ (by omega) (by omega), e _ _ (by omega) (by omega), e _ _ (by omega) (by omega), e _ _ (by omega) (by omega), e _ _ (by omega) (by omega), e _ _ (by omega) (by omega)]
      exact l8 j a b
  have hs : c_shut σ1 (L + 1) (-1) := by
    have := a7.shut
    unfold c_shut at *
    rw [e _ _ (by omega) (by omega)]; exact this
  obtain ⟨σ2, k1, k2, k3⟩ := c_survey hL a7.wf hl hs d
  obtain ⟨q1, q2⟩ := k3 a6
  refine ⟨σ2, by rw [k1, if_pos a6], k2, a1, ⟨by rw [z_oat k2 (by omega), ho _ _ (by omega) (by omega)]; exact b1, by rw [z_oat k2 (by omega), ho _ _ (by omega) (by omega)]; exact b2, by rw [z_oat k2 (by omega), ho _ _ (by omega) (by omega)]; exact b3⟩, fun w w0 w1 => by rw [z_oat k2 (by omega), ho _ _ (by omega) (by omega)]; exact a3 w w0 w1, by rw [z_oat k2 (by omega), ho _ _ (by omega) (by omega)]; exact a4, fun i i0 i1 => by rw [z_oat k2 (by omega), ho _ _ (by omega) (by omega)]; exact a5 i i0 i1, a6, q1, q2, by rw [z_oat k2 (by omega)]; exact h61, by rw [z_oat k2 (by omega)]; exact h62⟩
theorem C_without (h : c_inv σ X) (d : Nat) (w r : Int) : c_does (z_ev z_hcC (d + 20) 1128 [z_R 1, z_I w, z_I r] z_hdC σ) (s_without X w r) := by
  have h0 := h
  obtain ⟨L, A, hv⟩ := h
  have hL := hv.1.hL
  have hLA := hv.1.1
  have hA : A = 6 ∨ A = 26 := by omega
  have hQ := hv.1.Q
  have hwf := hQ.wf
  obtain ⟨b1, b2, b3⟩ := hv.1.2.1
  have hh := hv.1.has (d + 18) r
  unfold s_without
  by_cases c : z_seek X w = true
  · have kc := hv.1.can (d + 15) c
    by_cases cr : 0 ≤ r ∧ r < X 0 0
    · rw [if_pos cr] at hh
      rw [if_pos ⟨c, cr.1, cr.2⟩]
      have hn := hwf.1
      obtain ⟨σ1, e1, o1, h1⟩ := hv.1.openNow (d + 14)
      obtain ⟨σ2, e2, o2, f2, h2⟩ := h1.rd.best (d + 14) (z_seek_t.mp c).2
      have o12 : z_off 58 75 σ σ2 := z_off_trans (z_off_le o1 (by omega) (by omega)) (z_off_le o2 (by omega) (by omega))
      have hw2 := c_iw_off hv.1 o12 h2.rd.z61 h2.rd.z62
      obtain ⟨σ3, e3, o3, l3, s3⟩ := hw2.copy (d + 17)
      -- shut
      let σ4 := z_upd σ3 (A + 1) 3 (z_shl 1 r)
      have o4 : z_off (A + 1) (A + 1) σ3 σ4 := z_off_upd (by omega) (by omega)
      have l4 : c_land σ4 A X := by
        have hx : ∀ a i, (a ≠ A + 1 ∨ i ≠ 3) → σ4 a i = σ3 a i := fun a i h => z_upd_ne h
        obtain ⟨g1, g2, g3, g4, g5, g6, g7, g8⟩ := l3
        exact ⟨by rw [hx _ _ (by omega)]; exact g1, by rw [hx _ _ (by omega)]; exact g2, by rw [hx _ _ (by omega)]; exact g3, by rw [hx _ _ (by omega)]; exact g4, fun r a b => by rw [hx _ _ (by omega), hx _ _ (by omega), hx _ _ (by omega), hx _ _ (by omega), hx _ _ (by omega), hx _ _ (by omega)]; exact g5 r a b, fun k a b => by rw [hx _ _ (by omega)]; exact g6 k a b, fun k a b => by rw [hx _ _ (by omega)]; exact g7 k a b, fun j a b => by rw [hx _ _ (by omega), hx _ _ (by omega), hx _ _ (by omega), hx _ _ (by omega), hx _ _ (by omega), hx _ _ (by omega), hx _ _ (by omega), hx _ _ (by omega), hx _ _ (by omega)]; exact g8 j a b⟩
      have s4 : c_shut σ4 (A + 1) r := Or.inr ⟨cr.1, by omega, z_upd_same⟩
      obtain ⟨σ5, e5, o5, f5⟩ := c_survey hA hwf l4 s4 (d + 5)
      have hfit := z_fit_shut (s := r) hv.1.2.2.2.2.2.1
      rw [if_pos hfit] at e5
      obtain ⟨hQ5, -⟩ := f5 hfit
      have z615 : σ5 61 0 = 0 := by rw [z_oat o5 (by omega), z_oat o4 (by omega), z_oat o3 (by omega)]; exact h2.rd.z61
      have z625 : σ5 62 0 = 0 := by rw [z_oat o5 (by omega), z_oat o4 (by omega), z_oat o3 (by omega)]; exact h2.rd.z62
      obtain ⟨σ6, e6, o6, m6, s6⟩ := c_open (d + 15) hA hwf hQ5.land hwf.2.2.2.2.1 hQ5.tab z615 z625
      have hc0 := c_sets_0 s6
      have h6 : c_rd σ6 X A r (z_Dm X r) (X 0 4) (z_Dm X r).mn := ⟨c_Q_off o6 (by omega) hQ5, m6, s6.1, hc0.1, hc0.2⟩
      have hle := z_side_shut hwf w r hwf.2.2.2.1.1
      obtain ⟨σ7, e7, o7, f7, h7⟩ := h6.best (d + 14) (w := w) (by have := (z_seek_t.mp c).2; omega)
      have e57 : ∀ a i, (a < A + 1 ∨ A + 19 < a) → (a < 46 ∨ 75 < a) → σ7 a i = σ2 a i := fun a i h1 h2 => by rw [z_oat o7 (by omega), z_oat o6 (by omega), z_oat o5 (by omega), z_oat o4 (by omega), z_oat o3 (by omega)]
      obtain ⟨σ8, e8, o8, hw8⟩ := c_iw_again hw2 (σ1 := σ7) (σ2 := σ7) (d + 5) e57 h7.rd.z61 h7.rd.z62
      have v1 := h1.rd.brt (h1.rd.htc (side := (z_side X w (-1))) (mv := (z_side X w (-1))) h1.rd.tc (Int.le_refl _)) (z_side X w (-1))
      have v1' : 0 ≤ z_hv (z_Dm X (-1)) (X 0 4) (z_Dm X (-1)).mn (z_side X w (-1)) (z_side X w (-1)) (X 0 3) (X 7) ∧ z_hv (z_Dm X (-1)) (X 0 4) (z_Dm X (-1)).mn (z_side X w (-1)) (z_side X w (-1)) (X 0 3) (X 7) ≤ 480000000 := v1
      have v2 := h6.brt (h6.htc (side := z_side X w r) (mv := z_side X w r) h6.tc (Int.le_refl _)) (z_side X w r)
      have v2' : 0 ≤ z_hv (z_Dm X r) (X 0 4) (z_Dm X r).mn (z_side X w r) (z_side X w r) (X 0 3) (X 7) ∧ z_hv (z_Dm X r) (X 0 4) (z_Dm X r).mn (z_side X w r) (z_side X w r) (X 0 3) (X 7) ≤ 480000000 := v2
      have p27 : σ2 1 7 = L := hw2.2.1.1
      have p28 : σ2 1 8 = A := hw2.2.1.2.1
      have p38 : σ3 1 8 = A := by rw [z_oat o3 (by omega)]; exact p28
      have p48 : σ4 1 8 = A := by rw [z_oat o4 (by omega)]; exact p38
      have p58 : σ5 1 8 = A := by rw [z_oat o5 (by omega)]; exact p48
      have p59 : σ5 1 9 = X 0 4 := by rw [z_oat o5 (by omega), z_oat o4 (by omega), z_oat o3 (by omega)]; exact hw2.2.1.2.2
      have p77 : σ7 1 7 = L := by rw [e57 _ _ (by omega) (by omega)]; exact p27
      have esh : z_ev z_hcC (d + 19) 604 [z_R (A + 1), z_I r] z_hdC σ3 = some (z_U, z_hdC, σ4) := by
        simp (disch := omega) only [z_E604, c_LC hA, z_fdC, z_pdC, z_adC, z_sdC, z_lkC, z_ndC, z_gdC, z_mdC, z_cI_some', z_cV_some', z_w_ok, Int.reduceAdd, Int.reduceSub, Int.reduceMul, Int.reduceNeg, Int.reduceEq, Int.reduceLT, Int.reduceLE, Int.reduceNe, reduceIte, true_and, and_true, false_and, and_false, if_true, if_false, ne_eq, not_true_eq_false, not_false_eq_true]
        rfl
      refine c_does_i (s := σ8) ?_ ⟨L, A, hw8, by rw [z_oat o8 (by omega), e57 _ _ (by omega) (by omega), z_oat o12 (by omega)]; exact hv.2.1, fun i i0 i1 => by rw [z_oat o8 (by omega), e57 _ _ (by omega) (by omega), z_oat o12 (by omega)]; exact hv.2.2 i i0 i1⟩
      simp (disch := omega) only [z_E1128, kc, b1, c_LC hL, c_LC hA, hh, e1, e2, p27, p28, e3, p38, esh, p48, e5, p58, p59, e6, e7, p77, e8, z_fdC, z_pdC, z_adC, z_sdC, z_lkC, z_ndC, z_gdC, z_mdC, z_cI_some', z_cV_some', z_w_ok, Int.reduceAdd, Int.reduceSub, Int.reduceMul, Int.reduceNeg, Int.reduceEq, Int.reduceLT, Int.reduceLE, Int.reduceNe, reduceIte, true_and, and_true, false_and, and_false, if_true, if_false, ne_eq, not_true_eq_false, not_false_eq_true]
    · rw [if_neg cr] at hh
      rw [if_neg (fun z => cr z.2)]
      refine c_does_i (s := σ) ?_ h0
      simp (disch := omega) only [z_E1128, kc, b1, c_LC hL, hh, z_fdC, z_pdC, z_adC, z_sdC, z_lkC, z_ndC, z_gdC, z_mdC, z_cI_some', z_cV_some', z_w_ok, Int.reduceAdd, Int.reduceSub, Int.reduceMul, Int.reduceNeg, Int.reduceEq, Int.reduceLT, Int.reduceLE, Int.reduceNe, reduceIte, true_and, and_true, false_and, and_false, if_true, if_false, ne_eq, not_true_eq_false, not_false_eq_true]
  · rw [if_neg (fun z => c z.1)]
    have kc := hv.1.not (d + 15) c
    refine c_does_i (s := σ) ?_ h0
    simp (disch := omega) only [z_E1128, kc, z_fdC, z_pdC, z_adC, z_sdC, z_lkC, z_ndC, z_gdC, z_mdC, z_cI_some', z_cV_some', z_w_ok, Int.reduceAdd, Int.reduceSub, Int.reduceMul, Int.reduceNeg, Int.reduceEq, Int.reduceLT, Int.reduceLE, Int.reduceNe, reduceIte, true_and, and_true, false_and, and_false, if_true, if_false, ne_eq, not_true_eq_false, not_false_eq_true]
theorem z_wf_addR (hw : z_wf X) {o a b c t : Int} (ho : o = -1 ∨ o = 0 ∨ o = 1) (ha : 0 ≤ a ∧ a ≤ 7) (hb : 0 ≤ b ∧ b ≤ 7) (hab : a ≠ b) (hc : 0 ≤ c ∧ c ≤ 99) (ht : 0 ≤ t ∧ t ≤ 9) (h14 : X 0 0 < 14) (h5 : o ≠ -1 → X 0 1 < 5) : z_wf (z_addR X o a b c t) := by
  obtain ⟨w0, w1, w2, w3, w4, w5, w6, w7, w8, w9, wa, wb, wc, wd, we, wf⟩ := hw
  have c0 : ∀ i, i ≠ 0 → i ≠ 1 → z_addR X o a b c t 0 i = X 0 i := fun i h0 h1 => by rw [z_addR_c, if_neg h0, if_neg (fun z => h1 z.1)]
  have e0 : z_addR X o a b c t 0 0 = X 0 0 + 1 := by rw [z_addR_c, if_pos rfl]
  have e1 : z_addR X o a b c t 0 1 = if o ≠ -1 then X 0 1 + 1 else X 0 1 := by
    rw [z_addR_c, if_neg (by omega)]
    by_cases h : o = -1
    · rw [if_neg (by omega), if_neg (by omega)]
    · rw [if_pos (by omega), if_pos (by omega)]
  have n1 : z_addR X o a b c t 0 1 = X 0 1 ∨ (o ≠ -1 ∧ z_addR X o a b c t 0 1 = X 0 1 + 1) := by
    rw [e1]; split
    · next h => exact Or.inr ⟨h, rfl⟩
    · exact Or.inl rfl
  have rnew : ∀ q, 1 ≤ q → q ≤ 5 → z_addR X o a b c t q (X 0 0) = (if q = 1 then a else if q = 2 then b else if q = 3 then c else if q = 4 then t else o) := fun q q0 q1 => by rw [z_addR_r q _ ⟨q0, q1⟩, if_pos rfl]
  have rold : ∀ q r, 1 ≤ q → q ≤ 5 → r ≠ X 0 0 → z_addR X o a b c t q r = X q r := fun q r q0 q1 hr => by rw [z_addR_r q _ ⟨q0, q1⟩, if_neg hr]
  have k6 : ∀ k, 0 ≤ k → k < X 0 1 → z_addR X o a b c t 6 k = X 6 k := fun k k0 k1 => by rw [z_addR_6, if_neg (by omega)]
  have n6 : o ≠ -1 → z_addR X o a b c t 6 (X 0 1) = X 0 0 := fun h => by rw [z_addR_6, if_pos ⟨rfl, h⟩]
  have o8 : ∀ q i, 8 ≤ q → z_addR X o a b c t q i = X q i := fun q i h => z_addR_o q i h
  unfold z_wf
  rw [e0, c0 2 (by omega) (by omega), c0 3 (by omega) (by omega), c0 4 (by omega) (by omega), c0 5 (by omega) (by omega), c0 6 (by omega) (by omega)]
  refine ⟨by omega, ?_, w2, w3, w4, w5, w6, fun r r0 r1 => ?_, fun k k0 k1 => ?_, fun k k' k0 hk k1 => ?_, fun r r0 r1 hr => ?_, fun k k0 k1 => ?_, fun k k0 k1 => ?_, fun j j0 j1 => ?_, fun u u0 u1 => by rw [o8 _ _ (by omega)]; exact we u u0 u1, fun i i0 i1 => by rw [o8 _ _ (by omega)]; exact wf i i0 i1⟩
  · rcases n1 with h | ⟨h, h'⟩
    · rw [h]; exact w1
    · rw [h']; have := h5 h; omega
  · by_cases hr : r = X 0 0
    · subst hr
      rw [rnew 1 (by omega) (by omega), rnew 2 (by omega) (by omega), rnew 3 (by omega) (by omega), rnew 4 (by omega) (by omega), rnew 5 (by omega) (by omega)]
      exact ⟨ha, hb, hab, hc, ht, ho⟩
    · rw [rold 1 r (by omega) (by omega) hr, rold 2 r (by omega) (by omega) hr, rold 3 r (by omega) (by omega) hr, rold 4 r (by omega) (by omega) hr, rold 5 r (by omega) (by omega) hr]
      exact w7 r r0 (by omega)
  · by_cases hk : k < X 0 1
    · have := w8 k k0 hk
      rw [k6 k k0 hk, rold 5 _ (by omega) (by omega) (by omega)]
      exact ⟨this.1, by omega, this.2.2⟩
    · rcases n1 with h | ⟨h, h'⟩
      · omega
      · have : k = X 0 1 := by omega
        subst this
        rw [n6 h, rnew 5 (by omega) (by omega)]
        exact ⟨by omega, by omega, h⟩
  · by_cases hk' : k' < X 0 1
    · rw [k6 k k0 (by omega), k6 k' (by omega) hk']
      exact w9 k k' k0 hk hk'
    · rcases n1 with h | ⟨h, h'⟩
      · omega
      · have : k' = X 0 1 := by omega
        subst this
        have := w8 k k0 (by omega)
        rw [n6 h, k6 k k0 (by omega)]
        exact this.2.1
  · by_cases hrn : r = X 0 0
    · subst hrn
      rw [rnew 5 (by omega) (by omega)] at hr
      have hr' : o ≠ -1 := hr
      refine ⟨X 0 1, w1.1, ?_, n6 hr'⟩
      rcases n1 with h | ⟨h, h'⟩
      · rw [e1, if_pos hr'] at h; omega
      · omega
    · rw [rold 5 r (by omega) (by omega) hrn] at hr
      obtain ⟨k, k0, k1, k2⟩ := wa r r0 (by omega) hr
      exact ⟨k, k0, by omega, by rw [k6 k k0 k1]; exact k2⟩
  · rw [z_addR_7]
    split
    · omega
    · exact wb k k0 k1
  · rw [z_addR_7]
    by_cases h : k = X 0 1 ∧ o ≠ -1
    · rw [if_pos h]
    · rw [if_neg h]
      exact wc k (by omega) k1
  · rw [o8 _ _ (by omega), o8 _ _ (by omega), o8 _ _ (by omega), o8 _ _ (by omega), o8 _ _ (by omega), o8 _ _ (by omega), o8 _ _ (by omega), o8 _ _ (by omega), o8 _ _ (by omega)]
    exact wd j j0 j1
theorem z_XF_side (hw : z_wf X) {a b c : Int} (w s : Int) : z_side (z_XF X a b c) w s = z_side X w s := by
  have h1 : z_XF X a b c 0 1 = X 0 1 := by unfold z_XF; rw [z_addR_c, if_neg (by omega), if_neg (by omega)]
  have h6 : ∀ k, z_XF X a b c 6 k = X 6 k := fun k => by unfold z_XF; rw [z_addR_6, if_neg (by omega)]
  have key : ∀ n : Nat, (n : Int) ≤ X 0 1 → z_bs (fun k => decide (z_XF X a b c 5 (z_XF X a b c 6 k) = w) && decide (z_XF X a b c 6 k ≠ s)) n = z_bs (fun k => decide (X 5 (X 6 k) = w) && decide (X 6 k ≠ s)) n := fun n => by
    induction n with
    | zero => intro _; rfl
    | succ n ih =>
      intro hn
      have h8 := hw.2.2.2.2.2.2.2.2.1 n (by omega) (by omega)
      have h5 : z_XF X a b c 5 (X 6 n) = X 5 (X 6 n) := by unfold z_XF; rw [z_addR_r 5 _ (by omega), if_neg (by omega)]
      unfold z_bs
      rw [ih (by omega), h6, h5]
  unfold z_side
  rw [h1]
  exact key _ (by have := hw.2.1; omega)
theorem C_ford (h : c_inv σ X) (d : Nat) (w a b c : Int) : c_does (z_ev z_hcC (d + 20) 1129 [z_R 1, z_I w, z_I a, z_I b, z_I c] z_hdC σ) (s_ford X w a b c) := by
  have h0 := h
  obtain ⟨L, A, hv⟩ := h
  have hL := hv.1.hL
  have hLA := hv.1.1
  have hA : A = 6 ∨ A = 26 := by omega
  have hQ := hv.1.Q
  have hwf := hQ.wf
  have hn := hwf.1
  obtain ⟨b1, b2, b3⟩ := hv.1.2.1
  have l0 := hQ.land.1
  have kst := c_canStand (σ := σ) (d + 18) a b c
  unfold s_ford
  by_cases cw : z_seek X w = true
  · have kc := hv.1.can (d + 15) cw
    by_cases cs : 0 ≤ a ∧ a < 8 ∧ 0 ≤ b ∧ b < 8 ∧ a ≠ b ∧ 0 ≤ c ∧ c ≤ 99
    · rw [if_pos cs] at kst
      by_cases c14 : X 0 0 < 14
      · obtain ⟨σ1, e1, o1, h1⟩ := hv.1.openNow (d + 14)
        obtain ⟨σ2, e2, o2, f2, h2⟩ := h1.rd.best (d + 14) (z_seek_t.mp cw).2
        have o12 : z_off 58 75 σ σ2 := z_off_trans (z_off_le o1 (by omega) (by omega)) (z_off_le o2 (by omega) (by omega))
        have hw2 := c_iw_off hv.1 o12 h2.rd.z61 h2.rd.z62
        obtain ⟨σ3, e3, o3, l3, s3⟩ := hw2.copy (d + 17)
        have hwX : z_wf (z_XF X a b c) := z_wf_addR hwf (Or.inl rfl) (by omega) (by omega) cs.2.2.2.2.1 (by omega) (by omega) c14 (fun h => absurd rfl h)
        have hwl : z_wl0 X 14 := ⟨hn, by have := hwf.2.1; omega, by have := hwf.2.2.1; omega, fun k k0 k1 => ⟨(hwf.2.2.2.2.2.2.2.2.1 k k0 k1).1, (hwf.2.2.2.2.2.2.2.2.1 k k0 k1).2.1⟩⟩
        obtain ⟨σ4, e4, o4, p4, x4⟩ := c_addR (o := -1) (a := a) (b := b) (n := c) (h := 0) hA hwl (by omega) (c_landx_of l3) (by omega) (d + 18)
        have l4 : c_land σ4 A (z_XF X a b c) := c_landx_to x4 hwX.1.2 hwX.2.1.2 hwX.2.2.1.2
        have s4 : c_shut σ4 (A + 1) (-1) := Or.inl ⟨rfl, by rw [p4 _ (by omega) (by omega)]; exact s3⟩
        obtain ⟨σ5, e5, o5, f5⟩ := c_survey hA hwX l4 s4 (d + 5)
        have ej : z_XF X a b c 0 2 = X 0 2 := by unfold z_XF; rw [z_addR_c, if_neg (by omega), if_neg (by omega)]
        have e03 : z_XF X a b c 0 3 = X 0 3 := by unfold z_XF; rw [z_addR_c, if_neg (by omega), if_neg (by omega)]
        have e04 : z_XF X a b c 0 4 = X 0 4 := by unfold z_XF; rw [z_addR_c, if_neg (by omega), if_neg (by omega)]
        have eT : z_XF X a b c 7 = X 7 := by funext i; unfold z_XF; rw [z_addR_7, if_neg (by omega)]
        rw [ej] at e5 f5
        have z615 : σ5 61 0 = 0 := by rw [z_oat o5 (by omega), z_oat o4 (by omega), z_oat o3 (by omega)]; exact h2.rd.z61
        have z625 : σ5 62 0 = 0 := by rw [z_oat o5 (by omega), z_oat o4 (by omega), z_oat o3 (by omega)]; exact h2.rd.z62
        have p27 : σ2 1 7 = L := hw2.2.1.1
        have p28 : σ2 1 8 = A := hw2.2.1.2.1
        have p38 : σ3 1 8 = A := by rw [z_oat o3 (by omega)]; exact p28
        have p48 : σ4 1 8 = A := by rw [z_oat o4 (by omega)]; exact p38
        have p58 : σ5 1 8 = A := by rw [z_oat o5 (by omega)]; exact p48
        have p57 : σ5 1 7 = L := by rw [z_oat o5 (by omega), z_oat o4 (by omega), z_oat o3 (by omega)]; exact p27
        have p59 : σ5 1 9 = X 0 4 := by rw [z_oat o5 (by omega), z_oat o4 (by omega), z_oat o3 (by omega)]; exact hw2.2.1.2.2
        have e45 : ∀ q i, (q < A + 1 ∨ A + 19 < q) → (q < 46 ∨ 75 < q) → σ5 q i = σ2 q i := fun q i h1 h2 => by rw [z_oat o5 (by omega), z_oat o4 (by omega), z_oat o3 (by omega)]
        by_cases cf : z_fit (z_XF X a b c) (-1) (X 0 2).toNat = true
        · rw [if_pos ⟨cw, cs, c14, cf⟩]
          rw [if_pos cf] at e5
          obtain ⟨hQ5, -⟩ := f5 cf
          obtain ⟨σ6, e6, o6, m6, s6⟩ := c_open (d + 15) hA hwX hQ5.land hwX.2.2.2.2.1 hQ5.tab z615 z625
          rw [e04] at e6 m6 s6
          have hc0 := c_sets_0 s6
          have h6 : c_rd σ6 (z_XF X a b c) A (-1) (z_Dm (z_XF X a b c) (-1)) (X 0 4) (z_Dm (z_XF X a b c) (-1)).mn := ⟨c_Q_off o6 (by omega) hQ5, m6, s6.1, hc0.1, hc0.2⟩
          obtain ⟨σ7, e7, o7, f7, h7⟩ := h6.best (d + 14) (w := w) (by rw [z_XF_side hwf, e03]; exact (z_seek_t.mp cw).2)
          rw [z_XF_side hwf, e03, eT] at e7
          have e57 : ∀ q i, (q < A + 1 ∨ A + 19 < q) → (q < 46 ∨ 75 < q) → σ7 q i = σ2 q i := fun q i h1 h2 => by rw [z_oat o7 (by omega), z_oat o6 (by omega)]; exact e45 q i h1 h2
          obtain ⟨σ8, e8, o8, hw8⟩ := c_iw_again hw2 (σ1 := σ7) (σ2 := σ7) (d + 5) e57 h7.rd.z61 h7.rd.z62
          have v1 := h1.rd.brt (h1.rd.htc (side := (z_side X w (-1))) (mv := (z_side X w (-1))) h1.rd.tc (Int.le_refl _)) (z_side X w (-1))
          have v1' : 0 ≤ z_hv (z_Dm X (-1)) (X 0 4) (z_Dm X (-1)).mn (z_side X w (-1)) (z_side X w (-1)) (X 0 3) (X 7) ∧ z_hv (z_Dm X (-1)) (X 0 4) (z_Dm X (-1)).mn (z_side X w (-1)) (z_side X w (-1)) (X 0 3) (X 7) ≤ 480000000 := v1
          have v2 := h6.brt (h6.htc (side := (z_side X w (-1))) (mv := (z_side X w (-1))) h6.tc (Int.le_refl _)) (z_side X w (-1))
          rw [e03, eT] at v2
          have v2' : 0 ≤ z_hv (z_Dm (z_XF X a b c) (-1)) (X 0 4) (z_Dm (z_XF X a b c) (-1)).mn (z_side X w (-1)) (z_side X w (-1)) (X 0 3) (X 7) ∧ z_hv (z_Dm (z_XF X a b c) (-1)) (X 0 4) (z_Dm (z_XF X a b c) (-1)).mn (z_side X w (-1)) (z_side X w (-1)) (X 0 3) (X 7) ≤ 480000000 := v2
          have p77 : σ7 1 7 = L := by rw [e57 _ _ (by omega) (by omega)]; exact p27
          refine c_does_i (s := σ8) ?_ ⟨L, A, hw8, by rw [z_oat o8 (by omega), e57 _ _ (by omega) (by omega), z_oat o12 (by omega)]; exact hv.2.1, fun i i0 i1 => by rw [z_oat o8 (by omega), e57 _ _ (by omega) (by omega), z_oat o12 (by omega)]; exact hv.2.2 i i0 i1⟩
          simp (disch := omega) only [z_E1129, kc, b1, c_LC hL, c_LC hA, kst, l0, if_pos, if_neg, e1, e2, p27, p28, e3, p38, e4, p48, e5, p58, p59, e6, e7, p77, e8, z_fdC, z_pdC, z_adC, z_sdC, z_lkC, z_ndC, z_gdC, z_mdC, z_cI_some', z_cV_some', z_w_ok, Int.reduceAdd, Int.reduceSub, Int.reduceMul, Int.reduceNeg, Int.reduceEq, Int.reduceLT, Int.reduceLE, Int.reduceNe, reduceIte, true_and, and_true, false_and, and_false, if_true, if_false, ne_eq, not_true_eq_false, not_false_eq_true]
        · rw [if_neg (fun z => cf z.2.2.2)]
          rw [if_neg cf] at e5
          obtain ⟨σ8, e8, o8, hw8⟩ := c_iw_again hw2 (σ1 := σ5) (σ2 := σ5) (d + 5) e45 z615 z625
          refine c_does_i (s := σ8) ?_ ⟨L, A, hw8, by rw [z_oat o8 (by omega), e45 _ _ (by omega) (by omega), z_oat o12 (by omega)]; exact hv.2.1, fun i i0 i1 => by rw [z_oat o8 (by omega), e45 _ _ (by omega) (by omega), z_oat o12 (by omega)]; exact hv.2.2 i i0 i1⟩
          simp (disch := omega) only [z_E1129, kc, b1, c_LC hL, c_LC hA, kst, l0, if_pos, if_neg, e1, e2, p27, p28, e3, p38, e4, p48, e5, p57, e8, z_fdC, z_pdC, z_adC, z_sdC, z_lkC, z_ndC, z_gdC, z_mdC, z_cI_some', z_cV_some', z_w_ok, Int.reduceAdd, Int.reduceSub, Int.reduceMul, Int.reduceNeg, Int.reduceEq, Int.reduceLT, Int.reduceLE, Int.reduceNe, reduceIte, true_and, and_true, false_and, and_false, if_true, if_false, ne_eq, not_true_eq_false, not_false_eq_true]
      · rw [if_neg (fun z => c14 z.2.2.1)]
        refine c_does_i (s := σ) ?_ h0
        simp (disch := omega) only [z_E1129, kc, b1, c_LC hL, kst, l0, if_neg, z_fdC, z_pdC, z_adC, z_sdC, z_lkC, z_ndC, z_gdC, z_mdC, z_cI_some', z_cV_some', z_w_ok, Int.reduceAdd, Int.reduceSub, Int.reduceMul, Int.reduceNeg, Int.reduceEq, Int.reduceLT, Int.reduceLE, Int.reduceNe, reduceIte, true_and, and_true, false_and, and_false, if_true, if_false, ne_eq, not_true_eq_false, not_false_eq_true]
    · rw [if_neg cs] at kst
      rw [if_neg (fun z => cs z.2.1)]
      refine c_does_i (s := σ) ?_ h0
      simp (disch := omega) only [z_E1129, kc, kst, z_fdC, z_pdC, z_adC, z_sdC, z_lkC, z_ndC, z_gdC, z_mdC, z_cI_some', z_cV_some', z_w_ok, Int.reduceAdd, Int.reduceSub, Int.reduceMul, Int.reduceNeg, Int.reduceEq, Int.reduceLT, Int.reduceLE, Int.reduceNe, reduceIte, true_and, and_true, false_and, and_false, if_true, if_false, ne_eq, not_true_eq_false, not_false_eq_true]
  · rw [if_neg (fun z => cw z.1)]
    have kc := hv.1.not (d + 15) cw
    refine c_does_i (s := σ) ?_ h0
    simp (disch := omega) only [z_E1129, kc, z_fdC, z_pdC, z_adC, z_sdC, z_lkC, z_ndC, z_gdC, z_mdC, z_cI_some', z_cV_some', z_w_ok, Int.reduceAdd, Int.reduceSub, Int.reduceMul, Int.reduceNeg, Int.reduceEq, Int.reduceLT, Int.reduceLE, Int.reduceNe, reduceIte, true_and, and_true, false_and, and_false, if_true, if_false, ne_eq, not_true_eq_false, not_false_eq_true]
end
