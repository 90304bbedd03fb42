/-! The class's own methods: tell; a new object. -/
noncomputable def s_tell (X : z_S) : Int × z_S := match z_pText (z_txt X) (X 0 5) 61 0 with
  | .inl e => (-1 - e, z_upd X 0 5 0)
  | .inr l => if 14 < z_appl (z_upd X 0 5 0) l 0 0 then (-100, z_upd X 0 5 0) else if 5 < z_appl (z_upd X 0 5 0) l 0 1 then (-101, z_upd X 0 5 0) else if 8 < z_appl (z_upd X 0 5 0) l 0 2 then (-102, z_upd X 0 5 0) else
    if z_fit (z_appl (z_upd X 0 5 0) l) (-1) (z_appl (z_upd X 0 5 0) l 0 2).toNat = true then ((l.length : Int), z_appl (z_upd X 0 5 0) l) else (-103, z_upd X 0 5 0)
section
variable {X : z_S}
theorem z_app_keep {it : List Int} (hi : z_iok it) {a i : Int} (h : 17 ≤ a ∨ (a = 0 ∧ 4 ≤ i)) : z_app X it a i = X a i := by
  rcases hi with ⟨v, rfl, -⟩ | ⟨o, p, q, n, t, rfl, -⟩ | ⟨p, q, n, lo, hi, cr, sl, ho, ti, rfl, -⟩
  · show z_addC X v a i = _
    unfold z_addC
    rw [if_neg (by omega), if_neg (by omega)]
  · show z_addR X o p q n t a i = _
    rcases h with h | ⟨rfl, h⟩
    · exact z_addR_o _ _ (by omega)
    · rw [z_addR_c, if_neg (by omega), if_neg (by omega)]
  · show z_addJ X p q n lo hi cr sl ho ti a i = _
    rw [z_addJ_at, if_neg (by omega), if_neg (by omega)]
theorem z_app_mono {it : List Int} (hi : z_iok it) : X 0 0 ≤ z_app X it 0 0 ∧ X 0 1 ≤ z_app X it 0 1 ∧ X 0 2 ≤ z_app X it 0 2 := by
  rcases hi with ⟨v, rfl, -⟩ | ⟨o, p, q, n, t, rfl, -⟩ | ⟨p, q, n, lo, hi, cr, sl, ho, ti, rfl, -⟩
  · have hC : ∀ i, i ≠ 3 → z_addC X v 0 i = X 0 i := fun i h => by unfold z_addC; rw [if_neg (by omega), if_neg (by omega)]
    show X 0 0 ≤ z_addC X v 0 0 ∧ X 0 1 ≤ z_addC X v 0 1 ∧ X 0 2 ≤ z_addC X v 0 2
    rw [hC _ (by omega), hC _ (by omega), hC _ (by omega)]
    omega
  · show X 0 0 ≤ z_addR X o p q n t 0 0 ∧ X 0 1 ≤ z_addR X o p q n t 0 1 ∧ X 0 2 ≤ z_addR X o p q n t 0 2
    rw [z_addR_c, z_addR_c, z_addR_c]
    refine ⟨?_, ?_, ?_⟩ <;> (repeat' split) <;> omega
  · show X 0 0 ≤ z_addJ X p q n lo hi cr sl ho ti 0 0 ∧ X 0 1 ≤ z_addJ X p q n lo hi cr sl ho ti 0 1 ∧ X 0 2 ≤ z_addJ X p q n lo hi cr sl ho ti 0 2
    rw [z_addJ_at 0 0, z_addJ_at 0 1, z_addJ_at 0 2, if_neg (by omega), if_neg (by omega), if_neg (by omega), if_neg (by omega), if_pos (by omega)]
    omega
theorem z_wf_app (hw : z_wf X) {it : List Int} (hi : z_iok it) (h0 : z_app X it 0 0 ≤ 14) (h1 : z_app X it 0 1 ≤ 5) (h2 : z_app X it 0 2 ≤ 8) : z_wf (z_app X it) := by
  rcases hi with ⟨v, rfl, hv⟩ | ⟨o, p, q, n, t, rfl, ho, hp, hq, hpq, hn, ht⟩ | ⟨p, q, n, lo, hi, cr, sl, ho, ti, rfl, hp, hq, hpq, hn, hlh, hcr, hsl, hho, hti⟩
  · show z_wf (z_addC X v)
    have hC : ∀ c i, (c ≠ 7 ∧ (c ≠ 0 ∨ i ≠ 3)) → z_addC X v c i = X c i := fun c i h => by unfold z_addC; rw [if_neg (by omega), if_neg (by omega)]
    have h3 : z_addC X v 0 3 = v := by unfold z_addC; rw [if_pos ⟨rfl, rfl⟩]
    have h7 : ∀ k, z_addC X v 7 k = if v < X 7 k then v else X 7 k := fun k => (if_neg (by omega)).trans (if_pos rfl)
    have he : z_eqd X (z_addC X v) := ⟨fun a h => by funext i; exact hC a i (by omega), fun i h0 h1 => hC 0 i (by omega)⟩
    have hw7 := hw.2.2.2.2.2.2.2.2.2.2.2.1
    have hw7' := hw.2.2.2.2.2.2.2.2.2.2.2.2.1
    exact z_wf_gen hw he (by rw [h3]; exact hv) (by rw [hC _ _ (by omega)]; exact hw.2.2.2.2.1) (by rw [hC _ _ (by omega)]; exact hw.2.2.2.2.2.1) (by rw [hC _ _ (by omega)]; exact hw.2.2.2.2.2.2.1) (fun k k0 k1 => by
      have := hw7 k k0 k1
      rw [h7, h3]
      split <;> omega) (fun k k0 k1 => by
      have := hw7' k k0 k1
      rw [h7]
      split <;> omega) (fun u u0 u1 => by rw [hC _ _ (by omega)]; exact hw.2.2.2.2.2.2.2.2.2.2.2.2.2.2.1 u u0 u1) (fun i i0 i1 => by rw [hC _ _ (by omega)] at i1; rw [hC _ _ (by omega)]; exact hw.2.2.2.2.2.2.2.2.2.2.2.2.2.2.2 i i0 i1)
  · have e0 : z_addR X o p q n t 0 0 = X 0 0 + 1 := by rw [z_addR_c, if_pos rfl]
    have h0' : z_addR X o p q n t 0 0 ≤ 14 := h0
    have h1' : z_addR X o p q n t 0 1 ≤ 5 := h1
    exact z_wf_addR hw ho hp hq hpq hn ht (by omega) (fun h => by
      rw [z_addR_c, if_neg (by omega), if_pos (by omega)] at h1'
      omega)
  · have hA : ∀ c i, (c < 8 ∨ 16 < c) → (c ≠ 0 ∨ i ≠ 2) → z_addJ X p q n lo hi cr sl ho ti c i = X c i := fun c i h h' => by rw [z_addJ_at, if_neg (by omega), if_neg (by omega)]
    have hO : ∀ c j, 8 ≤ c → c ≤ 16 → j ≠ X 0 2 → z_addJ X p q n lo hi cr sl ho ti c j = X c j := fun c j _ _ h => by rw [z_addJ_at, if_neg (by omega), if_neg (by omega)]
    have hN : ∀ c, 8 ≤ c → c ≤ 16 → z_addJ X p q n lo hi cr sl ho ti c (X 0 2) = z_jv p q n lo hi cr sl ho ti c := fun c c0 c1 => by rw [z_addJ_at, if_neg (by omega), if_pos (by omega)]
    have e2 : z_addJ X p q n lo hi cr sl ho ti 0 2 = X 0 2 + 1 := by rw [z_addJ_at, if_pos (by omega)]
    have h2' : z_addJ X p q n lo hi cr sl ho ti 0 2 ≤ 8 := h2
    obtain ⟨w0, w1, w2, w3, w4, w5, w6, w7, w8, w9, wa, wb, wc, wd, we, wf⟩ := hw
    show z_wf (z_addJ X p q n lo hi cr sl ho ti)
    unfold z_wf
    rw [e2, hA 0 0 (by omega) (by omega), hA 0 1 (by omega) (by omega), hA 0 3 (by omega) (by omega), hA 0 4 (by omega) (by omega), hA 0 5 (by omega) (by omega), hA 0 6 (by omega) (by omega)]
    refine ⟨w0, w1, by omega, w3, w4, w5, w6, fun r r0 r1 => ?_, fun k k0 k1 => ?_, fun k k' k0 hk k1 => ?_, fun r r0 r1 hr => ?_, fun k k0 k1 => ?_, fun k k0 k1 => ?_, fun j j0 j1 => ?_, fun u u0 u1 => by rw [hA _ _ (by omega) (by omega)]; exact we u u0 u1, fun i i0 i1 => by rw [hA _ _ (by omega) (by omega)]; exact wf i i0 i1⟩
    · rw [hA 1 r (by omega) (by omega), hA 2 r (by omega) (by omega), hA 3 r (by omega) (by omega), hA 4 r (by omega) (by omega), hA 5 r (by omega) (by omega)]
      exact w7 r r0 r1
    · rw [hA 6 k (by omega) (by omega), hA 5 _ (by omega) (by omega)]
      exact w8 k k0 k1
    · rw [hA 6 k (by omega) (by omega), hA 6 k' (by omega) (by omega)]
      exact w9 k k' k0 hk k1
    · rw [hA 5 r (by omega) (by omega)] at hr
      obtain ⟨k, k0, k1, k2⟩ := wa r r0 r1 hr
      exact ⟨k, k0, k1, by rw [hA 6 k (by omega) (by omega)]; exact k2⟩
    · rw [hA 7 k (by omega) (by omega)]; exact wb k k0 k1
    · rw [hA 7 k (by omega) (by omega)]; exact wc k k0 k1
    · by_cases hj : j = X 0 2
      · subst hj
        rw [hN 8 (by omega) (by omega), hN 9 (by omega) (by omega), hN 10 (by omega) (by omega), hN 11 (by omega) (by omega), hN 12 (by omega) (by omega), hN 13 (by omega) (by omega), hN 14 (by omega) (by omega), hN 15 (by omega) (by omega), hN 16 (by omega) (by omega)]
        refine ⟨hp, hq, hpq, hn, hlh, hcr, ?_, hho, hti⟩
        show 0 ≤ (if 14 < sl then (14 : Int) else sl) ∧ (if 14 < sl then (14 : Int) else sl) ≤ 14
        split <;> omega
      · rw [hO 8 j (by omega) (by omega) hj, hO 9 j (by omega) (by omega) hj, hO 10 j (by omega) (by omega) hj, hO 11 j (by omega) (by omega) hj, hO 12 j (by omega) (by omega) hj, hO 13 j (by omega) (by omega) hj, hO 14 j (by omega) (by omega) hj, hO 15 j (by omega) (by omega) hj, hO 16 j (by omega) (by omega) hj]
        exact wd j j0 (by omega)
end
theorem z_appl_mono : ∀ (l : List (List Int)) (Y : z_S), (∀ it ∈ l, z_iok it) → Y 0 0 ≤ z_appl Y l 0 0 ∧ Y 0 1 ≤ z_appl Y l 0 1 ∧ Y 0 2 ≤ z_appl Y l 0 2
  | [], Y, _ => ⟨Int.le_refl _, Int.le_refl _, Int.le_refl _⟩
  | it :: l, Y, h => by
    have h1 := z_app_mono (X := Y) (h it List.mem_cons_self)
    have h2 := z_appl_mono l (z_app Y it) (fun x hx => h x (List.mem_cons_of_mem _ hx))
    show Y 0 0 ≤ z_appl (z_app Y it) l 0 0 ∧ Y 0 1 ≤ z_appl (z_app Y it) l 0 1 ∧ Y 0 2 ≤ z_appl (z_app Y it) l 0 2
    omega
theorem z_appl_keep' : ∀ (l : List (List Int)) (Y : z_S), (∀ it ∈ l, z_iok it) → ∀ (a i : Int), (17 ≤ a ∨ (a = 0 ∧ 4 ≤ i)) → z_appl Y l a i = Y a i
  | [], Y, _ => fun _ _ _ => rfl
  | it :: l, Y, h => fun a i ha => by
    show z_appl (z_app Y it) l a i = _
    rw [z_appl_keep' l (z_app Y it) (fun x hx => h x (List.mem_cons_of_mem _ hx)) a i ha, z_app_keep (h it List.mem_cons_self) ha]
theorem z_appl_keep {l : List (List Int)} {Y : z_S} (h : ∀ it ∈ l, z_iok it) {a i : Int} (ha : 17 ≤ a ∨ (a = 0 ∧ 4 ≤ i)) : z_appl Y l a i = Y a i := z_appl_keep' l Y h a i ha
theorem z_wf_appl' : ∀ (l : List (List Int)) (Y : z_S), z_wf Y → (∀ it ∈ l, z_iok it) → z_appl Y l 0 0 ≤ 14 → z_appl Y l 0 1 ≤ 5 → z_appl Y l 0 2 ≤ 8 → z_wf (z_appl Y l)
  | [], Y, hw, _, _, _, _ => hw
  | it :: l, Y, hw, h, h0, h1, h2 => by
    have hm := z_appl_mono l (z_app Y it) (fun x hx => h x (List.mem_cons_of_mem _ hx))
    have h0' : z_appl (z_app Y it) l 0 0 ≤ 14 := h0
    have h1' : z_appl (z_app Y it) l 0 1 ≤ 5 := h1
    have h2' : z_appl (z_app Y it) l 0 2 ≤ 8 := h2
    exact z_wf_appl' l (z_app Y it) (z_wf_app hw (h it List.mem_cons_self) (by omega) (by omega) (by omega)) (fun x hx => h x (List.mem_cons_of_mem _ hx)) h0 h1 h2
theorem z_wf_appl {l : List (List Int)} {Y : z_S} (hw : z_wf Y) (h : ∀ it ∈ l, z_iok it) (h0 : z_appl Y l 0 0 ≤ 14) (h1 : z_appl Y l 0 1 ≤ 5) (h2 : z_appl Y l 0 2 ≤ 8) : z_wf (z_appl Y l) := z_wf_appl' l Y hw h h0 h1 h2
section
variable {X : z_S}
theorem z_cor_e {T : Int → Int} {p b e : Int} (h : z_cor T p b = .inl e) : e = p := by
  unfold z_cor at h
  split at h
  · cases h
  · cases h; rfl
theorem z_dgt_e {T : Int → Int} {p a b e : Int} (h : z_dgt T p a b = .inl e) : e = p := by
  unfold z_dgt at h
  split at h
  · cases h
  · cases h; rfl
theorem z_nmb_e {T : Int → Int} {p a b e : Int} (h : z_nmb T p a b = .inl e) : p ≤ e := by
  have := z_nct_rng (T := T) p
  unfold z_nmb at h
  split at h
  · cases h; omega
  · split at h
    · cases h
    · cases h; omega
theorem z_opn_e {T : Int → Int} {p a b c e : Int} (h : z_opn T p a b c = .inl e) : p ≤ e := by
  unfold z_opn at h
  split at h
  · have := z_nmb_e h; omega
  · cases h
theorem z_opg_e {T : Int → Int} {p a b e : Int} (h : z_opg T p a b = .inl e) : p ≤ e := by
  unfold z_opg at h
  split at h
  · have := z_dgt_e h; omega
  · cases h
theorem z_bd_e {α : Type} {r : z_P} {k : Int → Int → Int ⊕ α} {e : Int} (h : z_bd r k = .inl e) : r = .inl e ∨ ∃ v q, r = .inr (v, q) ∧ k v q = .inl e := by
  unfold z_bd at h
  split at h
  · cases h; exact Or.inl rfl
  · next v q => exact Or.inr ⟨v, q, rfl, h⟩
theorem z_pRoad_e {T : Int → Int} {o p e : Int} (h : z_pRoad T o p = .inl e) : p ≤ e := by
  rcases z_bd_e h with h | ⟨a, p1, h1, h⟩
  · have := z_cor_e h; omega
  have g1 := z_cor_ok h1
  rcases z_bd_e h with h | ⟨b, p2, h2, h⟩
  · have := z_cor_e h; omega
  have g2 := z_cor_ok h2
  rcases z_bd_e h with h | ⟨n, p3, h3, h⟩
  · have := z_nmb_e h; omega
  have g3 := z_nmb_ok h3
  rcases z_bd_e h with h | ⟨t, p4, h4, h⟩
  · have := z_opg_e h; omega
  cases h
theorem z_pWor_e {T : Int → Int} {p e : Int} (h : z_pWor T p = .inl e) : p ≤ e := by
  unfold z_pWor at h
  split at h
  · rcases z_bd_e h with h | ⟨a, p1, h1, h⟩
    · have := z_dgt_e h; omega
    cases h
  · split at h
    · rcases z_bd_e h with h | ⟨a, p1, h1, h⟩
      · have := z_dgt_e h; omega
      have g1 := z_dgt_ok h1
      split at h
      · rcases z_bd_e h with h | ⟨a, p2, h2, h⟩
        · have := z_dgt_e h; omega
        cases h
      · cases h; omega
    · cases h
theorem z_pJour_e {T : Int → Int} {p e : Int} (h : z_pJour T p = .inl e) : p ≤ e := by
  rcases z_bd_e h with h | ⟨a, p1, h1, h⟩
  · have := z_cor_e h; omega
  have g1 := z_cor_ok h1
  rcases z_bd_e h with h | ⟨b, p2, h2, h⟩
  · have := z_cor_e h; omega
  have g2 := z_cor_ok h2
  split at h
  · rcases z_bd_e h with h | ⟨n, p3, h3, h⟩
    · have := z_nmb_e h; omega
    have g3 := z_nmb_ok h3
    cases hw : z_pWor T p3 with
    | inl e' => rw [hw] at h; have := z_pWor_e hw; cases h; omega
    | inr x =>
      obtain ⟨⟨lo, hi, cr⟩, p4⟩ := x
      rw [hw] at h
      have gw := z_pWor_ok hw
      rcases z_bd_e h with h | ⟨sl, p5, h5, h⟩
      · have := z_opn_e h; omega
      have g5 := z_opn_ok h5
      rcases z_bd_e h with h | ⟨ho, p6, h6, h⟩
      · have := z_opn_e h; omega
      have g6 := z_opn_ok h6
      rcases z_bd_e h with h | ⟨ti, p7, h7, h⟩
      · have := z_opg_e h; omega
      cases h
  · cases h; omega
theorem z_pItem_e {T : Int → Int} {p e : Int} (h : z_pItem T p = .inl e) : p ≤ e := by
  unfold z_pItem at h
  split at h
  · have := z_pRoad_e h; omega
  · split at h
    · have := z_pRoad_e h; omega
    · split at h
      · have := z_pRoad_e h; omega
      · split at h
        · have := z_pJour_e h; omega
        · split at h
          · rcases z_bd_e h with h | ⟨v, p1, h1, h⟩
            · have := z_nmb_e h; omega
            cases h
          · cases h; omega
theorem z_pText_pos {T : Int → Int} {len : Int} : ∀ {n : Nat} {p e : Int}, 0 ≤ p → z_pText T len n p = .inl e → 0 ≤ e
  | 0, p, e, hp, h => by cases h; exact hp
  | n + 1, p, e, hp, h => by
    unfold z_pText at h
    split at h
    · next e' hq => have := z_pItem_e hq; cases h; omega
    · next it q hq =>
      have g := (z_pItem_ok hq).2
      split at h
      · cases hr : z_pText T len n (q + 1) with
        | inl e' => rw [hr] at h; cases h; exact z_pText_pos (by omega) hr
        | inr l => rw [hr] at h; cases h
      · split at h
        · cases h; omega
        · cases h
variable {σ : z_S} {L A : Int}
/-- the draft is of no account -/
theorem c_iw_dr (h : c_iw σ X L A) {σ1 : z_S} (ho : ∀ a i, (a < A + 1 ∨ A + 19 < a) → σ1 a i = σ a i) : c_iw σ1 X L A := by
  obtain ⟨a1, ⟨b1, b2, b3⟩, a3, a4, a5, a6, a7, a8, a9⟩ := h
  have hL := a7.hL
  have e : ∀ b i : Int, 1 ≤ b → b ≤ 19 → σ1 (L + b) i = σ (L + b) i := fun b i b0 b1 => ho _ _ (by omega)
  have f : ∀ a i : Int, 46 ≤ a → σ1 a i = σ a i := fun a i h => ho _ _ (by omega)
  obtain ⟨-, hwf, ⟨l1, l2, l3, l4, l5, l6, l7, l8⟩, hs, ⟨t0, t1, t2, t3, t4⟩, g1, g2⟩ := a7
  refine ⟨a1, ⟨by rw [ho _ _ (by omega)]; exact b1, by rw [ho _ _ (by omega)]; exact b2, by rw [ho _ _ (by omega)]; exact b3⟩, fun w w0 w1 => by rw [ho _ _ (by omega)]; exact a3 w w0 w1, by rw [ho _ _ (by omega)]; exact a4, fun i i0 i1 => by rw [ho _ _ (by omega)]; exact a5 i i0 i1, a6, ⟨hL, hwf, ⟨by rw [e _ _ (by omega) (by omega)]; exact l1, by rw [e _ _ (by omega) (by omega)]; exact l2, by rw [e _ _ (by omega) (by omega)]; exact l3, by rw [e _ _ (by omega) (by omega)]; exact l4, fun r a b => ?_, fun k a b => by rw [e _ _ (by omega) (by omega)]; exact l6 k a b, fun k a b => by rw [e _ _ (by omega) (by omega)]; exact l7 k a b, fun j a b => ?_⟩, ?_, ⟨by rw [f _ _ (by omega)]; exact t0, t1, t2, t3, fun g g0 h1 => ?_⟩, by rw [f _ _ (by omega)]; exact g1, fun g g0 h1 => by rw [f _ _ (by omega), f _ _ (by omega)]; exact g2 g g0 h1⟩, fun j hj => by rw [f _ _ (by omega), f _ _ (by omega)]; exact a8 j hj, by rw [f _ _ (by omega)]; exact a9.1, by rw [f _ _ (by omega)]; exact a9.2⟩
  · rw [e _ _ (by omega) (by omega), e _ _ (by omega) (by omega), e _ _ (by omega) (by omega), e _ _ (by omega) (by omega), e _ _ (by omega) (by omega), e _ _ (by omega) (by omega)]
    exact l5 r a b
  · rw [e _ _ (by omega) (by omega), e _ _ (by omega) (by omega), e _ _ (by omega) (by omega), e _ _ (by omega) (by omega), e _ _ (by omega) (by omega), e _ _ (by omega) (by omega), e _ _ (by omega) (by omega), e _ _ (by omega) (by omega), e _ _ (by omega) (by omega)]
    exact l8 j a b
  · unfold c_shut at *
    rw [e _ _ (by omega) (by omega)]; exact hs
  · obtain ⟨a1, a2, a3, a4, a5, a6, a7⟩ := t4 g g0 h1
    refine ⟨a1, c_list_same a2 (fun i _ _ => f _ _ (by omega)) (f _ _ (by omega)) (f _ _ (by omega)), a3, by rw [f _ _ (by omega)]; exact a4, a5, fun m m0 m1 hm => by rw [f _ _ (by omega)]; exact a6 m m0 m1 hm, fun m q m0 m1 hm => ?_⟩
    rw [f _ _ (by omega), f _ _ (by omega)]
    exact a7 m q m0 m1 hm
theorem z_wf_len (hw : z_wf X) : z_wf (z_upd X 0 5 0) := z_wf_gen hw (z_eqd_0 (by omega)) (by rw [z_upd_ne (by omega)]; exact hw.2.2.2.1) (by rw [z_upd_ne (by omega)]; exact hw.2.2.2.2.1) (by rw [z_upd_same]; omega) (by rw [z_upd_ne (by omega)]; exact hw.2.2.2.2.2.2.1) (fun k k0 k1 => by rw [z_upd_ne (by omega), z_upd_ne (by omega)]; exact hw.2.2.2.2.2.2.2.2.2.2.2.1 k k0 k1) (fun k k0 k1 => by rw [z_upd_ne (by omega)]; exact hw.2.2.2.2.2.2.2.2.2.2.2.2.1 k k0 k1) (fun w w0 w1 => by rw [z_upd_ne (by omega)]; exact hw.2.2.2.2.2.2.2.2.2.2.2.2.2.2.1 w w0 w1) (fun i i0 i1 => by rw [z_upd_same] at i1; omega)
theorem C_tell (h : c_inv σ X) (d : Nat) : c_does (z_ev z_hcC (d + 20) 1103 [z_R 1] z_hdC σ) (s_tell X) := by
  have h0 := h
  obtain ⟨L, A, hv, hr1, hr2⟩ := h
  have hLA := hv.1
  have hL := hv.hL
  have hA : A = 6 ∨ A = 26 := by omega
  have hQ := hv.Q
  have hwf := hQ.wf
  have hw1 := z_wf_len hwf
  obtain ⟨b1, b2, b3⟩ := hv.2.1
  have hlen := hwf.2.2.2.2.2.1
  obtain ⟨σ1, e1, o1, l1, s1⟩ := hv.copy (d + 17)
  have hl1 : c_landx σ1 A (z_upd X 0 5 0) := by
    obtain ⟨⟨x0, x1, x2, x3⟩, x4, x5, x6, x7⟩ := c_landx_of l1
    refine ⟨⟨by rw [z_upd_ne (by omega)]; exact x0, by rw [z_upd_ne (by omega)]; exact x1, by rw [z_upd_ne (by omega)]; exact x2, by rw [z_upd_ne (by omega)]; exact x3⟩, fun r r0 r1 r2 => ?_, fun k k0 k1 k2 => ?_, fun k k0 k1 => by rw [z_upd_ne (by omega)]; exact x6 k k0 k1, fun j j0 j1 j2 => ?_⟩
    · rw [z_upd_ne (by omega)] at r1
      have hs : z_slot (z_upd X 0 5 0) ((z_upd X 0 5 0) 0 1).toNat r = z_slot X (X 0 1).toNat r := by
        rw [z_upd_ne (by omega)]
        exact z_slot_congr (fun k _ _ => z_upd_ne (by omega))
      rw [hs, z_upd_ne (by omega), z_upd_ne (by omega), z_upd_ne (by omega), z_upd_ne (by omega), z_upd_ne (by omega)]
      exact x4 r r0 r1 r2
    · rw [z_upd_ne (by omega)] at k1
      rw [z_upd_ne (by omega)]; exact x5 k k0 k1 k2
    · rw [z_upd_ne (by omega)] at j1
      rw [z_upd_ne (by omega), z_upd_ne (by omega), z_upd_ne (by omega), z_upd_ne (by omega), z_upd_ne (by omega), z_upd_ne (by omega), z_upd_ne (by omega), z_upd_ne (by omega), z_upd_ne (by omega)]
      exact x7 j j0 j1 j2
  have hwl : z_wl0 (z_upd X 0 5 0) 14 := by
    refine ⟨by rw [z_upd_ne (by omega)]; exact hwf.1, by rw [z_upd_ne (by omega)]; have := hwf.2.1; omega, by rw [z_upd_ne (by omega)]; have := hwf.2.2.1; omega, fun k k0 k1 => ?_⟩
    rw [z_upd_ne (by omega)] at k1
    rw [z_upd_ne (by omega), z_upd_ne (by omega)]
    exact ⟨(hwf.2.2.2.2.2.2.2.2.1 k k0 k1).1, (hwf.2.2.2.2.2.2.2.2.1 k k0 k1).2.1⟩
  have p18 : σ1 1 8 = A := by rw [z_oat o1 (by omega)]; exact b2
  have p17 : σ1 1 7 = L := by rw [z_oat o1 (by omega)]; exact b1
  have hrd := c_read (σ := σ1) (X := X) (Y := z_upd X 0 5 0) (L := A) hA (by rw [z_oat o1 (by omega)]; exact hv.2.2.2.1) (fun i i0 i1 => by rw [z_oat o1 (by omega)]; exact hv.2.2.2.2.1 i i0 i1) hlen hwf.2.2.2.2.2.2.2.2.2.2.2.2.2.2.2 hwl (by omega) hl1 (d + 13)
  -- with the text cut
  have cut : ∀ σ2 : z_S, (∀ a i, (a < A + 1 ∨ A + 19 < a) → a ≠ 2 → σ2 a i = σ1 a i) → σ2 2 1 = σ1 2 1 → z_ev z_hcC (d + 19) 502 [z_R 2, z_I 0] z_hdC σ2 = some (z_I 1, z_hdC, z_upd σ2 2 1 0) ∧ c_iv (z_upd σ2 2 1 0) (z_upd X 0 5 0) L A := fun σ2 h2 h21 => by
    have hl2 : 0 ≤ σ2 2 1 := by rw [h21, z_oat o1 (by omega), hv.2.2.2.1]; omega
    refine ⟨by simp (disch := omega) only [z_E502, if_pos, z_fdC, z_pdC, z_adC, z_sdC, z_lkC, z_ndC, z_gdC, z_mdC, z_cI_some', z_cV_some', z_w_ok, Int.reduceAdd, Int.reduceSub, Int.reduceMul, Int.reduceNeg, Int.reduceEq, Int.reduceLT, Int.reduceLE, Int.reduceNe, reduceIte, true_and, and_true, false_and, and_false, if_true, if_false, ne_eq, not_true_eq_false, not_false_eq_true], ?_⟩
    have hg := c_iv_gen (σ' := z_upd σ 2 1 0) hv (z_eqd_0 (X := X) (v := 0) (i := 5) (by omega)) (z_upd_ne (by omega)) hw1 (fun a i h1 h2 _ => z_upd_ne (by omega)) (fun k k0 k1 => by rw [z_upd_ne (by omega), z_upd_ne (by omega)]; exact hv.tolls k0 k1) (by rw [z_upd_ne (by omega)]; exact hv.2.2.2.2.2.2.2.2.1) (by rw [z_upd_ne (by omega)]; exact hv.2.2.2.2.2.2.2.2.2) (by rw [z_upd_ne (by omega)]; exact b1) (by rw [z_upd_ne (by omega)]; exact b2) (by rw [z_upd_ne (by omega), z_upd_ne (by omega)]; exact b3) (fun w w0 w1 => by rw [z_upd_ne (by omega), z_upd_ne (by omega)]; exact hv.2.2.1 w w0 w1) (by rw [z_upd_same, z_upd_same]) (fun i i0 i1 => by rw [z_upd_same] at i1; omega) (by rw [z_upd_ne (by omega), z_upd_ne (by omega)]; exact hr1) (fun i i0 i1 => by rw [z_upd_ne (by omega)] at i1; rw [z_upd_ne (by omega), z_upd_ne (by omega)]; exact hr2 i i0 i1)
    obtain ⟨L', A', hg1, hg2, hg3⟩ := hg
    have q7 := hg1.2.1.1
    have q8 := hg1.2.1.2.1
    rw [z_upd_ne (by omega)] at q7 q8
    have eL : L' = L := by omega
    have eA : A' = A := by omega
    subst eL eA
    -- cells of the reader that are of no account
    have hx : ∀ a i, (a < A' + 1 ∨ A' + 19 < a) → (a ≠ 2 ∨ i = 1) → z_upd σ2 2 1 0 a i = z_upd σ 2 1 0 a i := fun a i h1 h3 => by
      by_cases c : a = 2 ∧ i = 1
      · obtain ⟨rfl, rfl⟩ := c; rw [z_upd_same, z_upd_same]
      · rw [z_upd_ne (by omega), z_upd_ne (by omega), h2 a i h1 (by omega), z_oat o1 (by omega)]
    let σ3 : z_S := fun a i => if a = 2 then z_upd σ 2 1 0 a i else z_upd σ2 2 1 0 a i
    have h3 : c_iw σ3 (z_upd X 0 5 0) L' A' := c_iw_dr hg1 (fun a i ha => by
      show (if a = 2 then _ else _) = _
      by_cases c : a = 2
      · rw [if_pos c]
      · rw [if_neg c]; exact hx a i ha (Or.inl c))
    have h4 : c_iw (z_upd σ2 2 1 0) (z_upd X 0 5 0) L' A' := by
      obtain ⟨a1, ⟨b1, b2, b3⟩, a3, a4, a5, a6, a7, a8, a9⟩ := h3
      have e3 : ∀ a i, a ≠ 2 → σ3 a i = z_upd σ2 2 1 0 a i := fun a i h => if_neg h
      have o3 : z_off 2 2 σ3 (z_upd σ2 2 1 0) := fun a i ha => (e3 a i (by omega)).symm
      exact ⟨a1, ⟨by rw [← e3 _ _ (by omega)]; exact b1, by rw [← e3 _ _ (by omega)]; exact b2, by rw [← e3 _ _ (by omega)]; exact b3⟩, fun w w0 w1 => by rw [← e3 _ _ (by omega)]; exact a3 w w0 w1, by rw [z_upd_same, z_upd_same], fun i i0 i1 => by rw [z_upd_same] at i1; omega, a6, c_Q_lo o3 (by omega) a7, c_sv_congr ⟨fun _ _ => rfl, fun _ _ _ => rfl⟩ a8 (fun a i h => z_oat o3 (by omega)), by rw [← e3 _ _ (by omega)]; exact a9.1, by rw [← e3 _ _ (by omega)]; exact a9.2⟩
    exact ⟨h4, by rw [hx _ _ (by omega) (by omega)]; exact hg2, fun i i0 i1 => by rw [hx _ _ (by omega) (by omega)]; exact hg3 i i0 i1⟩
  unfold s_tell
  cases g : z_pText (z_txt X) (X 0 5) 61 0 with
  | inl e =>
    rw [g] at hrd
    obtain ⟨σ2, e2, h2, h21, h3⟩ := hrd
    obtain ⟨k1, k2⟩ := cut σ2 h2 h21
    have p28 : σ2 1 8 = A := by rw [h2 _ _ (by omega) (by omega)]; exact p18
    have he0 : 0 ≤ e := z_pText_pos (T := z_txt X) (by omega) g
    refine c_does_i (s := z_upd σ2 2 1 0) ?_ ⟨L, A, k2⟩
    simp (disch := omega) only [z_E1103, b1, b2, p18, c_LC hL, c_LC hA, e1, e2, k1, if_neg, z_fdC, z_pdC, z_adC, z_sdC, z_lkC, z_ndC, z_gdC, z_mdC, z_cI_some', z_cV_some', z_w_ok, Int.reduceAdd, Int.reduceSub, Int.reduceMul, Int.reduceNeg, Int.reduceEq, Int.reduceLT, Int.reduceLE, Int.reduceNe, reduceIte, true_and, and_true, false_and, and_false, if_true, if_false, ne_eq, not_true_eq_false, not_false_eq_true]
  | inr l =>
    rw [g] at hrd
    obtain ⟨σ2, B', e2, h2, h21, h3, x2, w2⟩ := hrd
    obtain ⟨k1, k2⟩ := cut σ2 h2 h21
    have hio := z_pText_ok g
    have p38 : z_upd σ2 2 1 0 1 8 = A := k2.1.2.1.2.1
    have p37 : z_upd σ2 2 1 0 1 7 = L := k2.1.2.1.1
    have x3 : c_landx (z_upd σ2 2 1 0) A (z_appl (z_upd X 0 5 0) l) := c_landx_off (z_off_upd (lo := 2) (hi := 2) (by omega) (by omega)) (by omega) x2
    have kex : z_ev z_hcC (d + 19) 302 [z_R A] z_hdC (z_upd σ2 2 1 0) = some (z_I (if 14 < z_appl (z_upd X 0 5 0) l 0 0 then -100 else if 5 < z_appl (z_upd X 0 5 0) l 0 1 then -101 else if 8 < z_appl (z_upd X 0 5 0) l 0 2 then -102 else 0), z_hdC, z_upd σ2 2 1 0) := by
      obtain ⟨⟨y0, y1, y2, y3⟩, -⟩ := x3
      by_cases c0 : 14 < z_appl (z_upd X 0 5 0) l 0 0
      · rw [if_pos c0]; simp (disch := omega) only [z_E302, c_LC hA, y0, if_neg, z_fdC, z_pdC, z_adC, z_sdC, z_lkC, z_ndC, z_gdC, z_mdC, z_cI_some', z_cV_some', z_w_ok, Int.reduceAdd, Int.reduceSub, Int.reduceMul, Int.reduceNeg, Int.reduceEq, Int.reduceLT, Int.reduceLE, Int.reduceNe, reduceIte, true_and, and_true, false_and, and_false, if_true, if_false, ne_eq, not_true_eq_false, not_false_eq_true]
      · rw [if_neg c0]
        by_cases c1 : 5 < z_appl (z_upd X 0 5 0) l 0 1
        · rw [if_pos c1]; simp (disch := omega) only [z_E302, c_LC hA, y0, y1, if_neg, if_pos, z_fdC, z_pdC, z_adC, z_sdC, z_lkC, z_ndC, z_gdC, z_mdC, z_cI_some', z_cV_some', z_w_ok, Int.reduceAdd, Int.reduceSub, Int.reduceMul, Int.reduceNeg, Int.reduceEq, Int.reduceLT, Int.reduceLE, Int.reduceNe, reduceIte, true_and, and_true, false_and, and_false, if_true, if_false, ne_eq, not_true_eq_false, not_false_eq_true]
        · rw [if_neg c1]
          by_cases c2 : 8 < z_appl (z_upd X 0 5 0) l 0 2
          · rw [if_pos c2]; simp (disch := omega) only [z_E302, c_LC hA, y0, y1, y3, if_neg, if_pos, z_fdC, z_pdC, z_adC, z_sdC, z_lkC, z_ndC, z_gdC, z_mdC, z_cI_some', z_cV_some', z_w_ok, Int.reduceAdd, Int.reduceSub, Int.reduceMul, Int.reduceNeg, Int.reduceEq, Int.reduceLT, Int.reduceLE, Int.reduceNe, reduceIte, true_and, and_true, false_and, and_false, if_true, if_false, ne_eq, not_true_eq_false, not_false_eq_true]
          · rw [if_neg c2]; simp (disch := omega) only [z_E302, c_LC hA, y0, y1, y3, if_pos, z_fdC, z_pdC, z_adC, z_sdC, z_lkC, z_ndC, z_gdC, z_mdC, z_cI_some', z_cV_some', z_w_ok, Int.reduceAdd, Int.reduceSub, Int.reduceMul, Int.reduceNeg, Int.reduceEq, Int.reduceLT, Int.reduceLE, Int.reduceNe, reduceIte, true_and, and_true, false_and, and_false, if_true, if_false, ne_eq, not_true_eq_false, not_false_eq_true]
    dsimp only
    by_cases c0 : 14 < z_appl (z_upd X 0 5 0) l 0 0
    · rw [if_pos c0] at kex ⊢
      refine c_does_i (s := z_upd σ2 2 1 0) ?_ ⟨L, A, k2⟩
      simp (disch := omega) only [z_E1103, b1, b2, p18, c_LC hL, c_LC hA, e1, e2, k1, if_pos, p38, kex, if_neg, z_fdC, z_pdC, z_adC, z_sdC, z_lkC, z_ndC, z_gdC, z_mdC, z_cI_some', z_cV_some', z_w_ok, Int.reduceAdd, Int.reduceSub, Int.reduceMul, Int.reduceNeg, Int.reduceEq, Int.reduceLT, Int.reduceLE, Int.reduceNe, reduceIte, true_and, and_true, false_and, and_false, if_true, if_false, ne_eq, not_true_eq_false, not_false_eq_true]
    · rw [if_neg c0] at kex ⊢
      by_cases c1 : 5 < z_appl (z_upd X 0 5 0) l 0 1
      · rw [if_pos c1] at kex ⊢
        refine c_does_i (s := z_upd σ2 2 1 0) ?_ ⟨L, A, k2⟩
        simp (disch := omega) only [z_E1103, b1, b2, p18, c_LC hL, c_LC hA, e1, e2, k1, if_pos, p38, kex, if_neg, z_fdC, z_pdC, z_adC, z_sdC, z_lkC, z_ndC, z_gdC, z_mdC, z_cI_some', z_cV_some', z_w_ok, Int.reduceAdd, Int.reduceSub, Int.reduceMul, Int.reduceNeg, Int.reduceEq, Int.reduceLT, Int.reduceLE, Int.reduceNe, reduceIte, true_and, and_true, false_and, and_false, if_true, if_false, ne_eq, not_true_eq_false, not_false_eq_true]
      · rw [if_neg c1] at kex ⊢
        by_cases c2 : 8 < z_appl (z_upd X 0 5 0) l 0 2
        · rw [if_pos c2] at kex ⊢
          refine c_does_i (s := z_upd σ2 2 1 0) ?_ ⟨L, A, k2⟩
          simp (disch := omega) only [z_E1103, b1, b2, p18, c_LC hL, c_LC hA, e1, e2, k1, if_pos, p38, kex, if_neg, z_fdC, z_pdC, z_adC, z_sdC, z_lkC, z_ndC, z_gdC, z_mdC, z_cI_some', z_cV_some', z_w_ok, Int.reduceAdd, Int.reduceSub, Int.reduceMul, Int.reduceNeg, Int.reduceEq, Int.reduceLT, Int.reduceLE, Int.reduceNe, reduceIte, true_and, and_true, false_and, and_false, if_true, if_false, ne_eq, not_true_eq_false, not_false_eq_true]
        · rw [if_neg c2] at kex ⊢
          have hwY := z_wf_appl hw1 hio (by omega) (by omega) (by omega)
          have l4 := c_landx_to x3 (by omega) (by omega) (by omega)
          have s4 : c_shut (z_upd σ2 2 1 0) (A + 1) (-1) := Or.inl ⟨rfl, by rw [z_upd_ne (by omega), h3]; exact s1⟩
          obtain ⟨σ5, e5, o5, f5⟩ := c_survey hA hwY l4 s4 (d + 5)
          have p58 : σ5 1 8 = A := by rw [z_oat o5 (by omega)]; exact p38
          have p57 : σ5 1 7 = L := by rw [z_oat o5 (by omega)]; exact p37
          by_cases cf : z_fit (z_appl (z_upd X 0 5 0) l) (-1) (z_appl (z_upd X 0 5 0) l 0 2).toNat = true
          · rw [if_pos cf] at e5 ⊢
            obtain ⟨q5, v5⟩ := f5 cf
            have o6 : z_off 1 1 σ5 (z_upd (z_upd σ5 1 7 A) 1 8 L) := z_off_trans (z_off_upd (by omega) (by omega)) (z_off_upd (by omega) (by omega))
            have hfr : ∀ i, i ≠ 7 → i ≠ 8 → z_upd (z_upd σ5 1 7 A) 1 8 L 1 i = σ5 1 i := fun i h1 h2 => by rw [z_upd_ne (by omega), z_upd_ne (by omega)]
            obtain ⟨hk, hkr, hkrr⟩ := k2
            refine c_does_i (s := z_upd (z_upd σ5 1 7 A) 1 8 L) ?_ ⟨A, L, ⟨by omega, ⟨by rw [z_upd_ne (by omega), z_upd_same], z_upd_same, ?_⟩, fun w w0 w1 => ?_, ?_, fun i i0 i1 => ?_, cf, c_Q_lo o6 (by omega) q5, c_sv_congr ⟨fun _ _ => rfl, fun _ _ _ => rfl⟩ v5 (fun a i h => z_oat o6 (by omega)), ?_, ?_⟩, ?_, fun i i0 i1 => ?_⟩
            · simp (disch := omega) only [z_E1103, b1, b2, p18, c_LC hL, c_LC hA, e1, e2, k1, if_pos, p38, kex, e5, p58, p57, z_fdC, z_pdC, z_adC, z_sdC, z_lkC, z_ndC, z_gdC, z_mdC, z_cI_some', z_cV_some', z_w_ok, Int.reduceAdd, Int.reduceSub, Int.reduceMul, Int.reduceNeg, Int.reduceEq, Int.reduceLT, Int.reduceLE, Int.reduceNe, reduceIte, true_and, and_true, false_and, and_false, if_true, if_false, ne_eq, not_true_eq_false, not_false_eq_true]
            · rw [hfr 9 (by omega) (by omega), z_oat o5 (by omega), hk.2.1.2.2, z_appl_keep hio (Or.inr ⟨rfl, by omega⟩)]
            · rw [z_oat o6 (by omega), z_oat o5 (by omega), z_appl_keep hio (Or.inl (by omega))]; exact hk.2.2.1 w w0 w1
            · rw [z_oat o6 (by omega), z_oat o5 (by omega), z_appl_keep hio (Or.inr ⟨rfl, by omega⟩)]; exact hk.2.2.2.1
            · rw [z_appl_keep hio (Or.inr ⟨rfl, by omega⟩), z_upd_same] at i1
              omega
            · rw [z_oat o6 (by omega), z_oat o5 (by omega)]; exact hk.2.2.2.2.2.2.2.2.1
            · rw [z_oat o6 (by omega), z_oat o5 (by omega)]; exact hk.2.2.2.2.2.2.2.2.2
            · rw [z_oat o6 (by omega), z_oat o5 (by omega), z_appl_keep hio (Or.inr ⟨rfl, by omega⟩)]; exact hkr
            · rw [z_appl_keep hio (Or.inr ⟨rfl, by omega⟩)] at i1
              rw [z_oat o6 (by omega), z_oat o5 (by omega), z_appl_keep hio (Or.inl (by omega))]; exact hkrr i i0 i1
          · rw [if_neg cf] at e5 ⊢
            obtain ⟨σ8, e8, o8, hw8⟩ := c_iw_again k2.1 (σ1 := σ5) (σ2 := σ5) (d + 5) (fun a i h1 h2 => z_oat o5 (by omega)) (by rw [z_oat o5 (by omega)]; exact k2.1.2.2.2.2.2.2.2.2.1) (by rw [z_oat o5 (by omega)]; exact k2.1.2.2.2.2.2.2.2.2.2)
            refine c_does_i (s := σ8) ?_ ⟨L, A, hw8, by rw [z_oat o8 (by omega), z_oat o5 (by omega)]; exact k2.2.1, fun i i0 i1 => by rw [z_oat o8 (by omega), z_oat o5 (by omega)]; exact k2.2.2 i i0 i1⟩
            simp (disch := omega) only [z_E1103, b1, b2, p18, c_LC hL, c_LC hA, e1, e2, k1, if_pos, p38, kex, e5, p57, e8, z_fdC, z_pdC, z_adC, z_sdC, z_lkC, z_ndC, z_gdC, z_mdC, z_cI_some', z_cV_some', z_w_ok, Int.reduceAdd, Int.reduceSub, Int.reduceMul, Int.reduceNeg, Int.reduceEq, Int.reduceLT, Int.reduceLE, Int.reduceNe, reduceIte, true_and, and_true, false_and, and_false, if_true, if_false, ne_eq, not_true_eq_false, not_false_eq_true]
end
