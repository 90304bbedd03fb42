/-! The class between calls. -/
/-- the same land, but for tolls and cap -/
def z_eqd (X X' : z_S) : Prop := (∀ a, (1 ≤ a ∧ a ≤ 6) ∨ (8 ≤ a ∧ a ≤ 16) → X' a = X a) ∧ (∀ i, 0 ≤ i → i ≤ 2 → X' 0 i = X 0 i)
section
variable {X X' : z_S}
theorem z_dfs_congr (h : z_eqd X X') {s to : Int} {K : Nat} : ∀ {n : Nat} {c seen : Int}, z_dfs X' s to K n c seen = z_dfs X s to K n c seen
  | 0, _, _ => rfl
  | n + 1, c, seen => by
    have hn : ∀ r c, z_nx X' r c = z_nx X r c := fun r c => by unfold z_nx; rw [h.1 1 (by omega), h.1 2 (by omega)]
    have ih : ∀ c seen, z_dfs X' s to K n c seen = z_dfs X s to K n c seen := fun c seen => z_dfs_congr h
    unfold z_dfs z_can
    simp only [hn, ih]
theorem z_gs_congr (h : z_eqd X X') (n : Nat) : z_gs X' n = z_gs X n := by
  unfold z_gs
  rw [h.1 11 (by omega), h.1 12 (by omega)]
theorem z_gjf_congr (h : z_eqd X X') {g : Int} : ∀ {n : Nat}, z_gjf X' n g = z_gjf X n g
  | 0 => rfl
  | n + 1 => by
    unfold z_gjf
    rw [z_gs_congr h, z_gjf_congr h]
theorem z_gj_congr (h : z_eqd X X') : z_gj X' = z_gj X := by
  funext g
  unfold z_gj
  rw [h.2 2 (by omega) (by omega), z_gjf_congr h]
theorem z_gw_congr (h : z_eqd X X') : z_gw X' = z_gw X := by
  funext g
  unfold z_gw
  rw [z_gj_congr h, z_gs_congr h, h.1 11 (by omega)]
theorem z_wys_congr (h : z_eqd X X') (s j : Int) : z_wys X' s j = z_wys X s j := by
  have hK : z_K X' j = z_K X j := by
    unfold z_K
    rw [h.2 0 (by omega) (by omega), h.1 14 (by omega)]
  unfold z_wys
  rw [z_dfs_congr h, hK, h.1 8 (by omega), h.1 9 (by omega)]
theorem z_wc_congr (h : z_eqd X X') (s j : Int) : z_wc X' s j = z_wc X s j := by
  unfold z_wc
  rw [z_wys_congr h, h.1 15 (by omega)]
theorem z_fit_congr (h : z_eqd X X') (s : Int) : ∀ n : Nat, z_fit X' s n = z_fit X s n
  | 0 => rfl
  | n + 1 => by
    unfold z_fit
    rw [z_fit_congr h s n, z_wc_congr h]
theorem z_opD_congr (h : z_eqd X X') (s g : Int) : z_opD X' s g = z_opD X s g := by
  have hm : z_msk X' = z_msk X := by
    funext l
    unfold z_msk
    rw [h.2 1 (by omega) (by omega), h.1 6 (by omega)]
  have hp : ∀ j w, z_pnf X' j w = z_pnf X j w := fun j w => by
    funext l
    unfold z_pnf
    rw [h.1 3 (by omega), h.1 4 (by omega), h.1 15 (by omega)]
  unfold z_opD z_wz
  rw [hm, hp, z_gj_congr h, z_gw_congr h, z_wys_congr h, h.1 15 (by omega)]
theorem z_Dm_congr (h : z_eqd X X') (s : Int) : z_Dm X' s = z_Dm X s := by
  unfold z_Dm
  rw [show z_opD X' s = z_opD X s from funext (z_opD_congr h s), z_gj_congr h, z_gw_congr h, z_gs_congr h, h.1 10 (by omega), h.2 2 (by omega) (by omega)]
theorem z_side_congr (h : z_eqd X X') (w s : Int) : z_side X' w s = z_side X w s := by
  unfold z_side
  rw [h.1 5 (by omega), h.1 6 (by omega), h.2 1 (by omega) (by omega)]
theorem z_slt_congr (h : z_eqd X X') (r : Int) : z_slt X' r = z_slt X r := by
  unfold z_slt
  rw [h.2 1 (by omega) (by omega)]
  exact z_slot_congr (fun k _ _ => by rw [h.1 6 (by omega)])
/-- a land with other tolls, cap as it was -/
theorem c_Q_congr {σ σ' : z_S} {L s : Int} {D : z_D} (h : z_eqd X X') (h3 : X' 0 3 = X 0 3) (hw : z_wf X') (hq : c_Q σ X L s D) (ho : ∀ a i, 1 ≤ a → a ≠ L + 3 → (a ≤ 5 ∨ 58 ≤ a) ∨ σ' a i = σ a i) (ht : ∀ k, 0 ≤ k → k < 5 → σ' (L + 3) k = X' 7 k) : c_Q σ' X' L s D := by
  obtain ⟨hL, hwf, hl, hs, hT, hG⟩ := hq
  have e : ∀ a i, 6 ≤ a → a ≤ 57 → a ≠ L + 3 → σ' a i = σ a i := fun a i h0 h1 h2 => by rcases ho a i (by omega) h2 with h | h; omega; exact h
  obtain ⟨l1, l2, l3, l4, l5, l6, l7, l8⟩ := hl
  refine ⟨hL, hw, ⟨?_, ?_, ?_, ?_, fun r r0 r1 => ?_, fun k k0 k1 => ?_, ht, fun j j0 j1 => ?_⟩, ?_, ?_, ?_⟩
  · rw [e _ _ (by omega) (by omega) (by omega), h.2 0 (by omega) (by omega)]; exact l1
  · rw [e _ _ (by omega) (by omega) (by omega), h.2 1 (by omega) (by omega)]; exact l2
  · rw [e _ _ (by omega) (by omega) (by omega), h3]; exact l3
  · rw [e _ _ (by omega) (by omega) (by omega), h.2 2 (by omega) (by omega)]; exact l4
  · rw [h.2 0 (by omega) (by omega)] at r1
    have hsl := z_slt_congr h r
    unfold z_slt at hsl
    rw [e _ _ (by omega) (by omega) (by omega), e _ _ (by omega) (by omega) (by omega), e _ _ (by omega) (by omega) (by omega), e _ _ (by omega) (by omega) (by omega), e _ _ (by omega) (by omega) (by omega), e _ _ (by omega) (by omega) (by omega), hsl, h.1 1 (by omega), h.1 2 (by omega), h.1 3 (by omega), h.1 4 (by omega), h.1 5 (by omega)]
    exact l5 r r0 r1
  · rw [h.2 1 (by omega) (by omega)] at k1
    rw [e _ _ (by omega) (by omega) (by omega), h.1 6 (by omega)]
    exact l6 k k0 k1
  · rw [h.2 2 (by omega) (by omega)] at j1
    rw [e _ _ (by omega) (by omega) (by omega), e _ _ (by omega) (by omega) (by omega), e _ _ (by omega) (by omega) (by omega), e _ _ (by omega) (by omega) (by omega), e _ _ (by omega) (by omega) (by omega), e _ _ (by omega) (by omega) (by omega), e _ _ (by omega) (by omega) (by omega), e _ _ (by omega) (by omega) (by omega), e _ _ (by omega) (by omega) (by omega)]
    rw [h.1 8 (by omega), h.1 9 (by omega), h.1 10 (by omega), h.1 11 (by omega), h.1 12 (by omega), h.1 13 (by omega), h.1 14 (by omega), h.1 15 (by omega), h.1 16 (by omega)]
    exact l8 j j0 j1
  · unfold c_shut at *
    rw [e _ _ (by omega) (by omega) (by omega)]; exact hs
  · rw [h3, h.2 1 (by omega) (by omega)]
    obtain ⟨t0, t1, t2, t3, t4⟩ := hT
    refine ⟨by rw [e _ _ (by omega) (by omega) (by omega)]; exact t0, t1, t2, t3, fun g g0 g1 => ?_⟩
    obtain ⟨a1, a2, a3, a4, a5, a6, a7⟩ := t4 g g0 g1
    refine ⟨a1, c_list_same a2 (fun i _ _ => e _ _ (by omega) (by omega) (by omega)) (e _ _ (by omega) (by omega) (by omega)) (e _ _ (by omega) (by omega) (by omega)), a3, by rw [e _ _ (by omega) (by omega) (by omega)]; exact a4, a5, fun m m0 m1 hm => by rw [e _ _ (by omega) (by omega) (by omega)]; exact a6 m m0 m1 hm, fun m q m0 m1 hm => ?_⟩
    rw [e _ _ (by omega) (by omega) (by omega), e _ _ (by omega) (by omega) (by omega)]
    exact a7 m q m0 m1 hm
  · obtain ⟨g1, g2⟩ := hG
    refine ⟨by rw [e _ _ (by omega) (by omega) (by omega)]; exact g1, fun g g0 h1 => ?_⟩
    rw [e _ _ (by omega) (by omega) (by omega), e _ _ (by omega) (by omega) (by omega), h.2 2 (by omega) (by omega), h.1 11 (by omega), h.1 12 (by omega)]
    exact g2 g g0 h1
theorem c_Q_lo {σ σ' : z_S} {L s lo hi : Int} {D : z_D} (ho : z_off lo hi σ σ') (hh : hi ≤ 5) (h : c_Q σ X L s D) : c_Q σ' X L s D :=
  c_Q_congr ⟨fun _ _ => rfl, fun _ _ _ => rfl⟩ rfl h.wf h (fun a i a1 a2 => by by_cases c : a ≤ 5; exact Or.inl (Or.inl c); exact Or.inr (ho a i (by omega))) (fun k k0 k1 => by rw [ho _ _ (by have := h.hL; omega)]; exact h.land.2.2.2.2.2.2.1 k k0 k1)
theorem c_rd_lo {σ σ' : z_S} {L s lo hi lean : Int} {D : z_D} {share : Int → Int} (ho : z_off lo hi σ σ') (hh : hi ≤ 5) (h : c_rd σ X L s D lean share) : c_rd σ' X L s D lean share := by
  obtain ⟨h1, h2, h3, h4, h5⟩ := h
  obtain ⟨m1, m2, m3, m4, m5⟩ := h2
  exact ⟨c_Q_lo ho hh h1, ⟨by rw [ho _ _ (by omega)]; exact m1, m2, by rw [ho _ _ (by omega)]; exact m3, m4, fun g a b => by rw [ho _ _ (by omega)]; exact m5 g a b⟩, by rw [ho _ _ (by omega)]; exact h3, by rw [ho _ _ (by omega)]; exact h4, by rw [ho _ _ (by omega)]; exact h5⟩
theorem c_at_lo {σ σ' : z_S} {L s lo hi lean mv cp : Int} {D : z_D} {share t : Int → Int} (ho : z_off lo hi σ σ') (hh : hi ≤ 5) (h : c_at σ X L s D lean share t mv cp) : c_at σ' X L s D lean share t mv cp := ⟨c_rd_lo ho hh h.rd, c_sets_off ho (by omega) h.sets, h.cap⟩
end
/-- the class between calls but for its row -/
def c_iw (σ X : z_S) (L A : Int) : Prop := (L = 6 ∧ A = 26 ∨ L = 26 ∧ A = 6) ∧ (σ 1 7 = L ∧ σ 1 8 = A ∧ σ 1 9 = X 0 4) ∧ (∀ w, 0 ≤ w → w < 10 → σ 76 w = X 17 w) ∧ σ 2 1 = X 0 5 ∧ (∀ i, 0 ≤ i → i < X 0 5 → σ 3 i = X 18 i) ∧
  z_fit X (-1) (X 0 2).toNat = true ∧ c_Q σ X L (-1) (z_Dm X (-1)) ∧ c_sv σ X (-1) ∧ (σ 61 0 = 0 ∧ σ 62 0 = 0)
def c_iv (σ X : z_S) (L A : Int) : Prop := c_iw σ X L A ∧ σ 4 1 = X 0 6 ∧ ∀ i, 0 ≤ i → i < X 0 6 → σ 5 i = X 19 i
def c_inv (σ X : z_S) : Prop := ∃ L A, c_iv σ X L A
/-- the row is l -/
def c_rw (σ : z_S) (l : List Int) : Prop := σ 4 1 = (l.length : Int) ∧ ∀ i : Nat, i < l.length → σ 5 i = l.getD i 0
def z_srow (X : z_S) (l : List Int) : z_S := fun a i => if a = 0 then (if i = 6 then (l.length : Int) else X 0 i) else if a = 19 then l.getD i.toNat 0 else X a i
section
variable {X σ σ' : z_S} {L A : Int}
theorem z_srow_eqd {l : List Int} : z_eqd X (z_srow X l) := ⟨fun a h => by funext i; unfold z_srow; rw [if_neg (by omega), if_neg (by omega)], fun i h0 h1 => by unfold z_srow; rw [if_pos rfl, if_neg (by omega)]⟩
theorem z_srow_0 {l : List Int} {i : Int} (h : i ≠ 6) : z_srow X l 0 i = X 0 i := by unfold z_srow; rw [if_pos rfl, if_neg h]
theorem z_srow_a {l : List Int} {a : Int} (h : a ≠ 0) (h' : a ≠ 19) : z_srow X l a = X a := by funext i; unfold z_srow; rw [if_neg h, if_neg h']
theorem z_wf_srow {l : List Int} (hw : z_wf X) (hl : l.length ≤ 24) : z_wf (z_srow X l) := by
  obtain ⟨w0, w1, w2, w3, w4, w5, w6, w7, w8, w9, wa, wb, wc, wd, we, wf⟩ := hw
  unfold z_wf
  rw [z_srow_0 (by omega), z_srow_0 (by omega), z_srow_0 (by omega), z_srow_0 (by omega), z_srow_0 (by omega), z_srow_0 (by omega), z_srow_a (a := 1) (by omega) (by omega), z_srow_a (a := 2) (by omega) (by omega), z_srow_a (a := 3) (by omega) (by omega), z_srow_a (a := 4) (by omega) (by omega), z_srow_a (a := 5) (by omega) (by omega), z_srow_a (a := 6) (by omega) (by omega), z_srow_a (a := 7) (by omega) (by omega), z_srow_a (a := 8) (by omega) (by omega), z_srow_a (a := 9) (by omega) (by omega), z_srow_a (a := 10) (by omega) (by omega), z_srow_a (a := 11) (by omega) (by omega), z_srow_a (a := 12) (by omega) (by omega), z_srow_a (a := 13) (by omega) (by omega), z_srow_a (a := 14) (by omega) (by omega), z_srow_a (a := 15) (by omega) (by omega), z_srow_a (a := 16) (by omega) (by omega), z_srow_a (a := 17) (by omega) (by omega), z_srow_a (a := 18) (by omega) (by omega)]
  have e6 : z_srow X l 0 6 = (l.length : Int) := by unfold z_srow; rw [if_pos rfl, if_pos rfl]
  rw [e6]
  exact ⟨w0, w1, w2, w3, w4, w5, by omega, w7, w8, w9, wa, wb, wc, wd, we, wf⟩
theorem c_sv_congr {X' : z_S} (h : z_eqd X X') (hs : c_sv σ X (-1)) (e : ∀ a i, a = 51 ∨ a = 52 → σ' a i = σ a i) : c_sv σ' X' (-1) := fun j hj => by
  rw [h.2 2 (by omega) (by omega)] at hj
  rw [e _ _ (by omega), e _ _ (by omega), z_wc_congr h, z_gs_congr h]
  exact hs j hj
/-- a question asked -/
theorem c_iw_off (h : c_iw σ X L A) (ho : z_off 58 75 σ σ') (h61 : σ' 61 0 = 0) (h62 : σ' 62 0 = 0) : c_iw σ' X L A := by
  obtain ⟨a1, ⟨b1, b2, b3⟩, a3, a4, a5, a6, a7, a8, a9⟩ := h
  exact ⟨a1, ⟨by rw [z_oat ho (by omega)]; exact b1, by rw [z_oat ho (by omega)]; exact b2, by rw [z_oat ho (by omega)]; exact b3⟩, fun w w0 w1 => by rw [z_oat ho (by omega)]; exact a3 w w0 w1, by rw [z_oat ho (by omega)]; exact a4, fun i i0 i1 => by rw [z_oat ho (by omega)]; exact a5 i i0 i1, a6, c_Q_off ho (by omega) a7, c_sv_congr ⟨fun _ _ => rfl, fun _ _ _ => rfl⟩ a8 (fun a i h => z_oat ho (by omega)), h61, h62⟩
/-- a row told -/
theorem c_iw_row (h : c_iw σ X L A) (ho : z_off 4 5 σ σ') : c_iw σ' X L A := by
  obtain ⟨a1, ⟨b1, b2, b3⟩, a3, a4, a5, a6, a7, a8, a9⟩ := h
  exact ⟨a1, ⟨by rw [z_oat ho (by omega)]; exact b1, by rw [z_oat ho (by omega)]; exact b2, by rw [z_oat ho (by omega)]; exact b3⟩, fun w w0 w1 => by rw [z_oat ho (by omega)]; exact a3 w w0 w1, by rw [z_oat ho (by omega)]; exact a4, fun i i0 i1 => by rw [z_oat ho (by omega)]; exact a5 i i0 i1, a6, c_Q_lo ho (by omega) a7, c_sv_congr ⟨fun _ _ => rfl, fun _ _ _ => rfl⟩ a8 (fun a i h => z_oat ho (by omega)), by rw [z_oat ho (by omega)]; exact a9.1, by rw [z_oat ho (by omega)]; exact a9.2⟩
theorem c_iv_srow {l : List Int} (h : c_iw σ X L A) (hr : c_rw σ l) (hl : l.length ≤ 24) : c_inv σ (z_srow X l) := by
  obtain ⟨a1, ⟨b1, b2, b3⟩, a3, a4, a5, a6, a7, a8, a9⟩ := h
  have hwf := z_wf_srow a7.wf hl
  refine ⟨L, A, ⟨a1, ⟨b1, b2, by rw [z_srow_0 (by omega)]; exact b3⟩, fun w w0 w1 => by rw [z_srow_a (by omega) (by omega)]; exact a3 w w0 w1, by rw [z_srow_0 (by omega)]; exact a4, fun i i0 i1 => ?_, ?_, ?_, c_sv_congr z_srow_eqd a8 (fun _ _ _ => rfl), a9⟩, ?_, fun i i0 i1 => ?_⟩
  · rw [z_srow_0 (by omega)] at i1
    rw [z_srow_a (by omega) (by omega)]
    exact a5 i i0 i1
  · rw [z_fit_congr z_srow_eqd, z_srow_0 (by omega)]; exact a6
  · rw [z_Dm_congr z_srow_eqd]
    exact c_Q_congr z_srow_eqd (z_srow_0 (by omega)) hwf a7 (fun _ _ _ _ => Or.inr rfl) (fun k k0 k1 => by rw [z_srow_a (by omega) (by omega)]; exact a7.land.2.2.2.2.2.2.1 k k0 k1)
  · rw [hr.1]; unfold z_srow; rw [if_pos rfl, if_pos rfl]
  · have e6 : z_srow X l 0 6 = (l.length : Int) := by unfold z_srow; rw [if_pos rfl, if_pos rfl]
    rw [e6] at i1
    have := hr.2 i.toNat (by omega)
    rw [Int.toNat_of_nonneg i0] at this
    rw [this]
    unfold z_srow
    rw [if_neg (by omega), if_pos rfl]
theorem c_iv_keep (h : c_iv σ X L A) (ho : z_off 58 75 σ σ') (h61 : σ' 61 0 = 0) (h62 : σ' 62 0 = 0) : c_inv σ' X :=
  ⟨L, A, c_iw_off h.1 ho h61 h62, by rw [z_oat ho (by omega)]; exact h.2.1, fun i i0 i1 => by rw [z_oat ho (by omega)]; exact h.2.2 i i0 i1⟩
theorem c_iw.hL (h : c_iw σ X L A) : L = 6 ∨ L = 26 := by have := h.1; omega
theorem c_iw.wf (h : c_iw σ X L A) : z_wf X := h.2.2.2.2.2.2.1.wf
theorem c_iw.Q (h : c_iw σ X L A) : c_Q σ X L (-1) (z_Dm X (-1)) := h.2.2.2.2.2.2.1
/-- TollsThatPay.openNow -/
theorem c_iw.openl (h : c_iw σ X L A) (d : Nat) {ln : Int} (hln : ln = 0 ∨ ln = 1) :
    ∃ σ', z_ev z_hcC (d + 4) 401 [z_R 58, z_R (L + 1), z_I ln] z_hdC σ = some (z_U, z_hdC, σ') ∧ z_off 58 64 σ σ' ∧ c_at σ' X L (-1) (z_Dm X (-1)) ln (z_Dm X (-1)).mn (X 7) 0 (X 0 3) := by
  have hQ := h.Q
  have h6 := h.2.2.2.2.2.2.2.2
  obtain ⟨σ', e, o, m, s⟩ := c_open d hQ.hL hQ.wf hQ.land hln hQ.tab h6.1 h6.2
  have h0 := c_sets_0 s
  exact ⟨σ', e, o, ⟨c_Q_off o (by omega) hQ, m, s.1, h0.1, h0.2⟩, s, hQ.wf.2.2.2.2.2.2.2.2.2.2.2.1⟩
theorem c_iw.openNow (h : c_iw σ X L A) (d : Nat) :
    ∃ σ', z_ev z_hcC (d + 5) 1139 [z_R 1] z_hdC σ = some (z_U, z_hdC, σ') ∧ z_off 58 64 σ σ' ∧ c_at σ' X L (-1) (z_Dm X (-1)) (X 0 4) (z_Dm X (-1)).mn (X 7) 0 (X 0 3) := by
  obtain ⟨σ', e, o, a⟩ := h.openl d h.wf.2.2.2.2.1
  obtain ⟨b1, b2, b3⟩ := h.2.1
  refine ⟨σ', ?_, o, a⟩
  simp (disch := omega) only [z_E1139, b1, b3, c_LC h.hL, e, z_fdC, z_pdC, z_adC, z_sdC, z_lkC, z_ndC, z_gdC, z_mdC, z_cI_some', z_cV_some', z_w_ok, Int.reduceAdd, Int.reduceSub, Int.reduceMul, Int.reduceNeg, Int.reduceEq, Int.reduceLT, Int.reduceLE, Int.reduceNe, reduceIte, true_and, and_true, false_and, and_false, if_true, if_false, ne_eq, not_true_eq_false, not_false_eq_true]
/-- a house's tolls can be gone through -/
def z_seek (X : z_S) (w : Int) : Bool := decide (w = 0 ∨ w = 1) && decide (z_tot (z_side X w (-1)) (X 0 3) ≤ 20000)
theorem z_seek_t {X : z_S} {w : Int} : z_seek X w = true ↔ (w = 0 ∨ w = 1) ∧ z_tot (z_side X w (-1)) (X 0 3) ≤ 20000 := by
  unfold z_seek
  rw [Bool.and_eq_true, decide_eq_true_eq, decide_eq_true_eq]
theorem c_iw.canSeek (h : c_iw σ X L A) (d : Nat) (w : Int) :
    z_ev z_hcC (d + 4) 1141 [z_R 1, z_I w] z_hdC σ = some (z_I (if z_seek X w then 1 else 0), z_hdC, σ) := by
  have hQ := h.Q
  have hcp := hQ.wf.2.2.2.1
  obtain ⟨b1, b2, b3⟩ := h.2.1
  have l3 := hQ.land.2.2.1
  by_cases hw : w = 0 ∨ w = 1
  · have hs := c_sideOf d hQ.hL hQ.wf hQ.land hQ.shut w
    have hr := z_side_rng hQ.wf w (-1)
    have hb := c_bitCount (hc := z_hcC) (hd := z_hdC) (σ := σ) (d + 2) hr.1 hr.2.1
    have hpl := z_pc_le (z_side X w (-1))
    have hp := c_powerOf (hc := z_hcC) (hd := z_hdC) (σ := σ) (d + 2) (b := X 0 3 + 1) (n := z_pc (z_side X w (-1))) (by omega) (by omega) hpl.1 hpl.2
    have ht := z_tot_i (mv := z_side X w (-1)) hcp.1
    rw [ht] at hp
    by_cases c : z_tot (z_side X w (-1)) (X 0 3) ≤ 20000
    · rw [if_pos (z_seek_t.mpr ⟨hw, c⟩)]
      rcases hw with rfl | rfl <;> simp (disch := omega) only [z_E1141, z_E1140, b1, c_LC h.hL, l3, hs, hb, hp, if_neg, z_fdC, z_pdC, z_adC, z_sdC, z_lkC, z_ndC, z_gdC, z_mdC, z_cI_some', z_cV_some', z_w_ok, Int.reduceAdd, Int.reduceSub, Int.reduceMul, Int.reduceNeg, Int.reduceEq, Int.reduceLT, Int.reduceLE, Int.reduceNe, reduceIte, true_and, and_true, false_and, and_false, if_true, if_false, ne_eq, not_true_eq_false, not_false_eq_true]
    · rw [if_neg (fun z => c (z_seek_t.mp z).2)]
      rcases hw with rfl | rfl <;> simp (disch := omega) only [z_E1141, z_E1140, b1, c_LC h.hL, l3, hs, hb, hp, if_pos, z_fdC, z_pdC, z_adC, z_sdC, z_lkC, z_ndC, z_gdC, z_mdC, z_cI_some', z_cV_some', z_w_ok, Int.reduceAdd, Int.reduceSub, Int.reduceMul, Int.reduceNeg, Int.reduceEq, Int.reduceLT, Int.reduceLE, Int.reduceNe, reduceIte, true_and, and_true, false_and, and_false, if_true, if_false, ne_eq, not_true_eq_false, not_false_eq_true]
  · rw [if_neg (fun z => hw (z_seek_t.mp z).1)]
    simp (disch := omega) only [z_E1141, z_E1140, if_neg, if_pos, z_fdC, z_pdC, z_adC, z_sdC, z_lkC, z_ndC, z_gdC, z_mdC, z_cI_some', z_cV_some', z_w_ok, Int.reduceAdd, Int.reduceSub, Int.reduceMul, Int.reduceNeg, Int.reduceEq, Int.reduceLT, Int.reduceLE, Int.reduceNe, reduceIte, true_and, and_true, false_and, and_false, if_true, if_false, ne_eq, not_true_eq_false, not_false_eq_true]
/-- Row: clear, add -/
theorem c_clear (d : Nat) : z_ev z_hcC (d + 1) 701 [z_R 4] z_hdC σ = some (z_U, z_hdC, z_upd σ 4 1 0) ∧ c_rw (z_upd σ 4 1 0) [] ∧ z_off 4 5 σ (z_upd σ 4 1 0) := by
  refine ⟨?_, ⟨z_upd_same, fun i hi => absurd hi (Nat.not_lt_zero _)⟩, z_off_upd (by omega) (by omega)⟩
  simp (disch := omega) only [z_E701, z_fdC, z_pdC, z_adC, z_sdC, z_lkC, z_ndC, z_gdC, z_mdC, z_cI_some', z_cV_some', z_w_ok, Int.reduceAdd, Int.reduceSub, Int.reduceMul, Int.reduceNeg, Int.reduceEq, Int.reduceLT, Int.reduceLE, Int.reduceNe, reduceIte, true_and, and_true, false_and, and_false, if_true, if_false, ne_eq, not_true_eq_false, not_false_eq_true]
theorem c_add {l : List Int} (hr : c_rw σ l) (hl : l.length < 24) (d : Nat) (v : Int) : ∃ σ', z_ev z_hcC (d + 1) 702 [z_R 4, z_I v] z_hdC σ = some (z_U, z_hdC, σ') ∧ c_rw σ' (l ++ [v]) ∧ z_off 4 5 σ σ' := by
  obtain ⟨h1, h2⟩ := hr
  refine ⟨z_upd (z_upd σ 5 l.length v) 4 1 ((l.length : Int) + 1), ?_, ⟨?_, fun i hi => ?_⟩, z_off_trans (z_off_upd (by omega) (by omega)) (z_off_upd (by omega) (by omega))⟩
  · simp (disch := omega) only [z_E702, h1, if_neg, z_upd_at, z_fdC, z_pdC, z_adC, z_sdC, z_lkC, z_ndC, z_gdC, z_mdC, z_cI_some', z_cV_some', z_w_ok, Int.reduceAdd, Int.reduceSub, Int.reduceMul, Int.reduceNeg, Int.reduceEq, Int.reduceLT, Int.reduceLE, Int.reduceNe, reduceIte, true_and, and_true, false_and, and_false, if_true, if_false, ne_eq, not_true_eq_false, not_false_eq_true]
  · rw [z_upd_same, List.length_append, List.length_singleton]; omega
  · rw [List.length_append, List.length_singleton] at hi
    rw [z_upd_ne (by omega)]
    by_cases hil : i = l.length
    · subst hil
      rw [z_upd_same]
      simp
    · rw [z_upd_ne (by omega), h2 i (by omega)]
      rw [List.getD_eq_getElem?_getD, List.getD_eq_getElem?_getD, List.getElem?_append_left (by omega)]
/-- the tolls of some slots -/
def z_tl (m : Int) (t : Int → Int) : Nat → List Int
  | 0 => []
  | n + 1 => if z_bt m n then z_tl m t n ++ [t n] else z_tl m t n
theorem z_tl_len {m : Int} {t : Int → Int} : ∀ n, (z_tl m t n).length ≤ n
  | 0 => Nat.le_refl 0
  | n + 1 => by
    have := z_tl_len (m := m) (t := t) n
    unfold z_tl
    split
    · rw [List.length_append, List.length_singleton]; omega
    · omega
/-- TollsThatPay.tellTolls -/
theorem c_tellTolls {l : List Int} (hr : c_rw σ l) (hl : l.length ≤ 19) (d : Nat) {a1 m : Int} {t : Int → Int} (ha : a1 = 63 ∨ a1 = 66 ∨ a1 = 73) (hm : 0 ≤ m ∧ m < 32) (hA : ∀ k, 0 ≤ k → k < 5 → σ a1 k = t k) :
    ∃ σ', z_ev z_hcC (d + 2) 1144 [z_R 1, z_R a1, z_I m] z_hdC σ = some (z_U, z_hdC, σ') ∧ c_rw σ' (l ++ z_tl m t 5) ∧ z_off 4 5 σ σ' := by
  obtain ⟨σ', e, h1, h2⟩ := z_for (fun (k : Nat) (x : z_S) => z_go (z_ev z_hcC (d + 1)) z_hcC 1144 2 [z_R 1, z_R a1, z_I m, z_I k] [] z_hdC x) (fun x => some (z_U, z_hdC, x)) (fun k x => c_rw x (l ++ z_tl m t k) ∧ z_off 4 5 σ x) 5 (s := σ) ⟨by show c_rw σ (l ++ []); rw [List.append_nil]; exact hr, z_off_refl⟩
    (fun k x hk ⟨hx, ho⟩ => by
      have hb := z_bit (m := m) (k := k) hm.1 (by omega) (by omega) (by omega)
      have hak : x a1 k = t k := by rw [z_oat ho (by omega)]; exact hA k (by omega) (by omega)
      have htl := z_tl_len (m := m) (t := t) k
      by_cases c : z_bt m k = true
      · rw [if_pos c] at hb
        obtain ⟨x', a1', a2, a3⟩ := c_add hx (by rw [List.length_append]; omega) d (t k)
        refine ⟨x', ?_, ?_, z_off_trans ho a3⟩
        · rw [z_B1144_2]
          rcases ha with rfl | rfl | rfl <;> simp (disch := omega) only [if_neg, hb, hak, a1', z_ns, z_fdC, z_pdC, z_adC, z_sdC, z_lkC, z_ndC, z_gdC, z_mdC, z_cI_some', z_cV_some', z_w_ok, Int.reduceAdd, Int.reduceSub, Int.reduceMul, Int.reduceNeg, Int.reduceEq, Int.reduceLT, Int.reduceLE, Int.reduceNe, reduceIte, true_and, and_true, false_and, and_false, if_true, if_false, ne_eq, not_true_eq_false, not_false_eq_true]
        · have : z_tl m t (k + 1) = z_tl m t k ++ [t k] := if_pos c
          rw [this, ← List.append_assoc]; exact a2
      · rw [if_neg c] at hb
        refine ⟨x, ?_, ?_, ho⟩
        · rw [z_B1144_2]
          rcases ha with rfl | rfl | rfl <;> simp (disch := omega) only [if_neg, if_pos, hb, z_ns, z_fdC, z_pdC, z_adC, z_sdC, z_lkC, z_ndC, z_gdC, z_mdC, z_cI_some', z_cV_some', z_w_ok, Int.reduceAdd, Int.reduceSub, Int.reduceMul, Int.reduceNeg, Int.reduceEq, Int.reduceLT, Int.reduceLE, Int.reduceNe, reduceIte, true_and, and_true, false_and, and_false, if_true, if_false, ne_eq, not_true_eq_false, not_false_eq_true]
        · have : z_tl m t (k + 1) = z_tl m t k := if_neg c
          rw [this]; exact hx) (fun x _ => by
      rw [z_B1144_2]
      rcases ha with rfl | rfl | rfl <;> simp (disch := omega) only [if_pos, z_fdC, z_pdC, z_adC, z_sdC, z_lkC, z_ndC, z_gdC, z_mdC, z_cI_some', z_cV_some', z_w_ok, Int.reduceAdd, Int.reduceSub, Int.reduceMul, Int.reduceNeg, Int.reduceEq, Int.reduceLT, Int.reduceLE, Int.reduceNe, reduceIte, true_and, and_true, false_and, and_false, if_true, if_false, ne_eq, not_true_eq_false, not_false_eq_true])
  exact ⟨σ', by rw [z_E1144]; exact e, h1, h2⟩
end
