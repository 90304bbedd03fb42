/-! The reference: the goers that were gathered, as options. -/
def z_opG (X : z_S) (s : Int) (q : Int × Int) : z_Opt := z_opl (z_msk X) (z_pnf X q.1 q.2) (z_wz X s q.1) (fun _ => none)
def z_nwG (X : z_S) (s : Int) (q : Int × Int) : Bool := decide (X 15 q.1 < 0) && (z_wys X s q.1).isEmpty
section
variable {σ X : z_S}
theorem z_wys_shut (hw : z_wf X) {s j : Int} (hj : 0 ≤ j ∧ j < X 0 2) (l : List Int) : l ∈ z_wys X s j ↔ l ∈ z_wys X (-1) j ∧ m_ok s l := by
  have e : z_wys X s j = (z_wys X (-1) j).filter (fun l => !decide (s ∈ l)) := by unfold z_wys; exact z_dfs_shut
  rw [e, List.mem_filter]
  refine and_congr_right (fun h => ?_)
  have h1 := (z_wys_ok hw hj l h).1
  unfold m_ok
  constructor
  · intro hh; right; simpa using hh
  · rintro (rfl | hh)
    · have : (-1 : Int) ∉ l := fun hm => by have := h1 _ hm; omega
      simp [this]
    · simp [hh]
theorem z_wz_mem (hw : z_wf X) {s j : Int} (hj : 0 ≤ j ∧ j < X 0 2) (hn : ¬ (X 15 j < 0 ∧ z_wys X s j = [])) (l : List Int) : l ∈ z_wz X s j ↔ l ∈ z_wt X j ∧ m_ok s l := by
  have h1 := z_wt_mem hw hj l
  have h2 := z_wys_shut hw (s := s) hj l
  unfold z_wz z_wzl
  by_cases c : X 15 j < 0
  · have hne : ¬ (z_wys X s j).length = 0 := fun e => hn ⟨c, List.length_eq_zero_iff.mp e⟩
    rw [if_pos c, if_neg hne, h2, h1]
    constructor
    · rintro ⟨a, b⟩; exact ⟨Or.inr a, b⟩
    · rintro ⟨a | a, b⟩
      · omega
      · exact ⟨a, b⟩
  · rw [if_neg c, List.mem_append, List.mem_singleton, h2, h1]
    constructor
    · rintro (⟨a, b⟩ | rfl)
      · exact ⟨Or.inr a, b⟩
      · exact ⟨Or.inl ⟨by omega, rfl⟩, Or.inr (by simp)⟩
    · rintro ⟨⟨-, a⟩ | a, b⟩
      · exact Or.inr a
      · exact Or.inl ⟨a, b⟩
theorem m_gs_tab (hw : z_wf X) {s : Int} {G : List (Int × Int)} (hy : m_ways σ X) (h : m_gs σ X s G) (hlen : G.length ≤ 48) (hG : ∀ q ∈ G, (0 ≤ q.1 ∧ q.1 < X 0 2) ∧ 0 ≤ q.2 ∧ q.2 ≤ 9) :
    m_tab σ X (fun g => z_opG X s (G.getD g.toNat (0, 0))) (fun g => X 10 (G.getD g.toNat (0, 0)).1) G.length (fun g => (G.getD g.toNat (0, 0)).1) (fun g => z_nwG X s (G.getD g.toNat (0, 0))) := by
  have hnJ := hw.2.2.1
  obtain ⟨h48, hg⟩ := h
  refine ⟨h48, ⟨by omega, by omega⟩, fun g g0 g1 => ?_⟩
  have eg : ((g.toNat : Nat) : Int) = g := Int.toNat_of_nonneg g0
  have hlt : g.toNat < G.length := by omega
  obtain ⟨t1, t2, t3⟩ := hg g.toNat hlt
  rw [eg] at t1 t2 t3
  have hm : G.getD g.toNat (0, 0) ∈ G := by
    rw [List.getD_eq_getElem?_getD, List.getElem?_eq_getElem hlt]
    exact List.getElem_mem hlt
  dsimp only
  generalize G.getD g.toNat (0, 0) = q at *
  obtain ⟨hj, hv⟩ := hG q hm
  obtain ⟨wk, wne⟩ := z_wzl_ok (home := X 15 q.1) (z_wys_ok (s := s) hw hj)
  refine ⟨z_opl_ok hw wk wne hj hv, fun m p _ _ hp => z_opl_msk hw hp, ?_, t1, hj, rfl⟩
  have h200 := (hy q.1 hj.1 hj.2).2.1
  show m_gr σ (z_opG X s q) g (z_nwG X s q)
  by_cases hn : X 15 q.1 < 0 ∧ z_wys X s q.1 = []
  · have e : z_nwG X s q = true := by unfold z_nwG; rw [hn.2]; simp [hn.1]
    rw [e]
    right
    refine ⟨rfl, fun m m0 m1 => ?_, fun m p m0 m1 hp => ?_⟩
    · rcases t3 m m0 m1 with ⟨a, -⟩ | ⟨i, a1, a2, -⟩
      · exact a
      · have hmem := z_getDl a1
        rcases (z_wt_mem hw hj _).mp hmem with ⟨b, -⟩ | b
        · omega
        · have := (z_wys_shut hw (s := s) hj _).mpr ⟨b, a2⟩
          rw [hn.2] at this
          cases this
    · have ew : z_wz X s q.1 = [[]] := by
        unfold z_wz z_wzl
        rw [hn.2, if_pos hn.1]
        rfl
      unfold z_opG at hp
      rw [ew] at hp
      have hp' : (if m = z_msk X [] then some (z_pnf X q.1 q.2 [], z_rnk []) else none) = some p := hp
      by_cases c : m = z_msk X []
      · rw [if_pos c] at hp'
        cases hp'
        refine ⟨by rw [c, z_msk_nil hw], ?_⟩
        show z_pnf X q.1 q.2 [] = 0
        unfold z_pnf
        rw [if_pos rfl, if_pos hn.1]
      · rw [if_neg c] at hp'; cases hp'
  · have e : z_nwG X s q = false := by
      unfold z_nwG
      cases hb : decide (X 15 q.1 < 0) && (z_wys X s q.1).isEmpty with
      | false => rfl
      | true =>
        rw [Bool.and_eq_true, decide_eq_true_eq, List.isEmpty_iff] at hb
        exact absurd hb hn
    rw [e]
    exact m_tb_gr ⟨hj.1, by omega⟩ t3 (z_wt_sorted hw hj) h200 (z_wz_mem hw hj hn) (z_opl_chr0 _)
theorem z_gln_mem (hw : z_wf X) : ∀ {n : Nat}, (n : Int) ≤ X 0 2 → ∀ q ∈ z_gln X n, (0 ≤ q.1 ∧ q.1 < X 0 2) ∧ 0 ≤ q.2 ∧ q.2 ≤ 9
  | 0, _, q, hq => by cases hq
  | n + 1, h, q, hq => by
    rcases List.mem_append.mp hq with h1 | h1
    · exact z_gln_mem hw (n := n) (by omega) q h1
    · unfold z_glj at h1
      rw [List.mem_map] at h1
      obtain ⟨i, hi, rfl⟩ := h1
      rw [List.mem_range] at hi
      have := z_wfj hw (j := n) (by omega)
      dsimp only
      omega
end
