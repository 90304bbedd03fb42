/-! The reference: all goers gathered. -/
def z_nwD (X : z_S) (s g : Int) : Bool := z_nwG X s (z_gj X g, z_gw X g)
section
variable {σ X : z_S}
theorem z_gln_get (hw : z_wf X) : ∀ {n g : Nat}, (n : Int) ≤ X 0 2 → g < (z_gln X n).length → (z_gln X n).getD g (0, 0) = (z_gj X g, z_gw X g)
  | 0, g, _, h => absurd h (Nat.not_lt_zero g)
  | n + 1, g, hn, h => by
    have hl := z_gln_len hw (n := n) (by omega)
    have hl1 := z_gln_len hw (n := n + 1) (by omega)
    have hj := z_wfj hw (j := n) (by omega)
    have hs := z_gs_s (X := X) n
    have e : z_gln X (n + 1) = z_gln X n ++ z_glj X n (X 12 n - X 11 n + 1).toNat := rfl
    by_cases c : g < (z_gln X n).length
    · rw [e, List.getD_eq_getElem?_getD, List.getElem?_append_left c, ← List.getD_eq_getElem?_getD]
      exact z_gln_get hw (by omega) c
    · obtain ⟨a, b⟩ := z_gj_at hw (j := n) (g := (g : Int)) (by omega) (by omega) (by omega)
      rw [a, b, e, List.getD_eq_getElem?_getD, List.getElem?_append_right (by omega)]
      unfold z_glj
      rw [List.getElem?_map, List.getElem?_range (by omega)]
      show ((n : Int), X 11 n + ((g - (z_gln X n).length : Nat) : Int)) = _
      rw [show ((g - (z_gln X n).length : Nat) : Int) = (g : Int) - z_gs X n by omega]
theorem m_tab_Dm (hw : z_wf X) (hy : m_ways σ X) {s : Int} (h : m_gs σ X s (z_gln X (X 0 2).toNat)) : m_tab σ X (z_Dm X s).op (z_Dm X s).mn (z_Dm X s).gN (z_Dm X s).gj (z_nwD X s) := by
  have hnJ := hw.2.2.1
  have hl := z_gln_len hw (n := (X 0 2).toNat) (by omega)
  have hr := z_gs_rng hw (n := (X 0 2).toNat) (by omega)
  obtain ⟨h1, h2, h3⟩ := m_gs_tab hw hy h (by omega) (z_gln_mem hw (by omega))
  rw [hl] at h1 h2 h3
  refine ⟨h1, h2, fun g g0 g1 => ?_⟩
  have g1' : g < z_gs X (X 0 2).toNat := g1
  have hg := h3 g g0 g1
  dsimp only at hg
  rw [z_gln_get hw (by omega) (by omega), Int.toNat_of_nonneg g0] at hg
  exact hg
theorem m_gatherBut (d : Nat) (hX : z_wf X) (hl : m_land σ X) (hy : m_ways σ X) (s : Int) :
    ∃ σ', z_ev z_hcM (d + 4) 1228 [z_R 1, z_I (-1), z_I s, z_I (-1)] z_hdM σ = some (z_U, z_hdM, σ') ∧ (∀ a i, (a < 36 ∨ 39 < a) → (a ≠ 1 ∨ i ≠ 48) → σ' a i = σ a i) ∧ m_tab σ' X (z_Dm X s).op (z_Dm X s).mn (z_Dm X s).gN (z_Dm X s).gj (z_nwD X s) := by
  obtain ⟨σ', e, o, g⟩ := m_gather d hX hl hy (-1) s (-1)
  have hall : (z_gln X (X 0 2).toNat).filter (z_gpr X (-1) (-1)) = z_gln X (X 0 2).toNat := List.filter_eq_self.mpr (fun q _ => by unfold z_gpr; simp)
  rw [hall] at g
  refine ⟨σ', e, o, m_tab_Dm hX (m_ways_off (b := 48) (lo := 36) (hi := 39) (fun a i h1 h2 h3 => o a i h2 (by omega)) (by omega) hy) g⟩
theorem m_gatherAll (d : Nat) (hX : z_wf X) (hl : m_land σ X) (hy : m_ways σ X) :
    ∃ σ', z_ev z_hcM (d + 5) 1229 [z_R 1] z_hdM σ = some (z_U, z_hdM, σ') ∧ (∀ a i, (a < 36 ∨ 39 < a) → (a ≠ 1 ∨ i ≠ 48) → σ' a i = σ a i) ∧ m_tab σ' X (z_Dm X (-1)).op (z_Dm X (-1)).mn (z_Dm X (-1)).gN (z_Dm X (-1)).gj (z_nwD X (-1)) := by
  obtain ⟨σ', e, o, g⟩ := m_gatherBut d hX hl hy (-1)
  refine ⟨σ', ?_, o, g⟩
  rw [z_E1229]
  simp (disch := omega) only [e, z_fdM, z_pdM, z_adM, z_sdM, z_lkM, z_ndM, z_gdM, z_cI_some', z_cV_some', z_w_ok, Int.reduceAdd, Int.reduceSub, Int.reduceMul, Int.reduceNeg, Int.reduceEq, Int.reduceLT, Int.reduceLE, Int.reduceNe, reduceIte, true_and, and_true, false_and, and_false, if_true, if_false, ne_eq, not_true_eq_false, not_false_eq_true]
end
