/-! The reference: its list of ways in order; what a goer's table says. -/
def z_wt (X : z_S) (j : Int) : List (List Int) := (if X 15 j < 0 then [] else [[]]) ++ (List.range 7).flatMap (fun n => z_dfl X (-1) (X 9 j) (z_K X j) (n + 1) (X 8 j) (z_shl 1 (X 8 j)))
section
variable {X : z_S}
theorem z_dfl_mem {s to : Int} {K n : Nat} {c seen : Int} {l : List Int} (h : l ∈ z_dfl X s to K n c seen) : l.length = n ∧ l ∈ z_dfs X s to K n c seen := by
  rw [z_dfl_eq (Nat.le_refl n), List.mem_filter, decide_eq_true_eq] at h
  exact ⟨h.2, h.1⟩
theorem z_dfl_sorted {s to : Int} {K : Nat} (hK : K ≤ 14) : ∀ {n : Nat} {c seen : Int}, (z_dfl X s to K n c seen).Pairwise (fun a b => z_pkd a < z_pkd b)
  | 0, c, seen => by
    unfold z_dfl
    split
    · exact List.pairwise_singleton _ _
    · exact List.Pairwise.nil
  | n + 1, c, seen => by
    unfold z_dfl
    split
    · exact List.Pairwise.nil
    · rw [List.pairwise_flatMap]
      refine ⟨fun r _ => ?_, ?_⟩
      · split
        · rw [List.pairwise_map]
          refine List.Pairwise.imp_of_mem ?_ (z_dfl_sorted hK (n := n))
          intro a b ha hb hab
          have h1 := (z_dfl_mem ha).1
          have h2 := (z_dfl_mem hb).1
          show (r : Int) * ((16 ^ a.length : Nat) : Int) + z_pkd a < (r : Int) * ((16 ^ b.length : Nat) : Int) + z_pkd b
          rw [h1, h2]
          omega
        · exact List.Pairwise.nil
      · refine List.Pairwise.imp ?_ List.pairwise_lt_range
        intro r r' hr x hx y hy
        have key : ∀ {r : Nat} {x : List Int}, x ∈ (if z_can X s seen c (r : Int) = true then (z_dfl X s to K n (z_nx X (r : Int) c) (z_sn seen (z_nx X (r : Int) c))).map (fun l => (r : Int) :: l) else []) → ∃ l, x = (r : Int) :: l ∧ l.length = n ∧ 0 ≤ z_pkd l ∧ z_pkd l < ((16 ^ n : Nat) : Int) := by
          intro r x hx
          split at hx
          · rw [List.mem_map] at hx
            obtain ⟨l, hl, rfl⟩ := hx
            obtain ⟨h1, h2⟩ := z_dfl_mem hl
            obtain ⟨-, h3, -⟩ := z_dfs_mem h2
            have h4 := z_pkd_rng (l := l) (fun q hq => by have := h3 q hq; omega)
            rw [h1] at h4
            exact ⟨l, rfl, h1, h4⟩
          · cases hx
        obtain ⟨l, rfl, a1, a2, a3⟩ := key hx
        obtain ⟨l', rfl, b1, b2, b3⟩ := key hy
        show (r : Int) * ((16 ^ l.length : Nat) : Int) + z_pkd l < (r' : Int) * ((16 ^ l'.length : Nat) : Int) + z_pkd l'
        rw [a1, b1]
        generalize ((16 ^ n : Nat) : Int) = P at *
        have h1 : ((r : Int) + 1) * P ≤ (r' : Int) * P := Int.mul_le_mul_of_nonneg_right (by omega) (by omega)
        rw [Int.add_mul, Int.one_mul] at h1
        omega
theorem z_wt_mem (hw : z_wf X) {j : Int} (hj : 0 ≤ j ∧ j < X 0 2) (l : List Int) : l ∈ z_wt X j ↔ (0 ≤ X 15 j ∧ l = []) ∨ l ∈ z_wys X (-1) j := by
  have hne := (hw.2.2.2.2.2.2.2.2.2.2.2.2.2.1 j hj.1 hj.2).2.2.1
  unfold z_wt z_wys
  rw [List.mem_append, List.mem_flatMap]
  have h1 : l ∈ (if X 15 j < 0 then [] else [[]] : List (List Int)) ↔ 0 ≤ X 15 j ∧ l = [] := by
    split
    · simp; omega
    · rw [List.mem_singleton]
      constructor
      · intro h; exact ⟨by omega, h⟩
      · exact fun h => h.2
  rw [h1]
  refine or_congr Iff.rfl ⟨?_, fun h => ?_⟩
  · rintro ⟨n, hn, hl⟩
    rw [List.mem_range] at hn
    rw [z_dfl_eq (n := 7) (by omega), List.mem_filter] at hl
    exact hl.1
  · obtain ⟨a1, a2, a3⟩ := z_dfs_mem h
    have hpos : 0 < l.length := List.length_pos_iff.mpr (fun e => hne (a3 e))
    refine ⟨l.length - 1, List.mem_range.mpr (by omega), ?_⟩
    rw [show l.length - 1 + 1 = l.length by omega, z_dfl_eq (n := 7) a1, List.mem_filter]
    exact ⟨h, by simp⟩
theorem z_wt_sorted (hw : z_wf X) {j : Int} (hj : 0 ≤ j ∧ j < X 0 2) : (z_wt X j).Pairwise (fun a b => z_rnk a < z_rnk b) := by
  have hK := (z_K_le hw hj).1
  have hR := hw.1
  have hg : ∀ {n : Nat} {x : List Int}, x ∈ z_dfl X (-1) (X 9 j) (z_K X j) (n + 1) (X 8 j) (z_shl 1 (X 8 j)) → n < 7 → x.length = n + 1 ∧ 0 ≤ z_pkd x ∧ z_pkd x < 268435456 := fun {n x} hx hn => by
    obtain ⟨h1, h2⟩ := z_dfl_mem hx
    obtain ⟨-, h3, -⟩ := z_dfs_mem h2
    have h4 := z_rnk_rng (l := x) (fun q hq => by have := h3 q hq; omega) (by omega)
    exact ⟨h1, h4.2.2⟩
  unfold z_wt
  rw [List.pairwise_append]
  refine ⟨?_, ?_, ?_⟩
  · split
    · exact List.Pairwise.nil
    · exact List.pairwise_singleton _ _
  · rw [List.pairwise_flatMap]
    refine ⟨fun n hn => ?_, ?_⟩
    · rw [List.mem_range] at hn
      refine List.Pairwise.imp_of_mem ?_ (z_dfl_sorted (by omega))
      intro a b ha hb hab
      have h1 := hg ha hn
      have h2 := hg hb hn
      unfold z_rnk
      rw [h1.1, h2.1]
      omega
    · refine List.Pairwise.imp_of_mem ?_ List.pairwise_lt_range
      intro n n' hn hn' hlt x hx y hy
      rw [List.mem_range] at hn hn'
      have h1 := hg hx hn
      have h2 := hg hy hn'
      unfold z_rnk
      omega
  · intro a ha b hb
    rw [List.mem_flatMap] at hb
    obtain ⟨n, hn, hb⟩ := hb
    rw [List.mem_range] at hn
    have h2 := hg hb hn
    have e : a = [] := by
      split at ha
      · cases ha
      · exact List.mem_singleton.mp ha
    subst e
    unfold z_rnk
    show (([] : List Int).length : Int) * 268435456 + 0 < _
    rw [List.length_nil]
    omega
/-- a goer's table tells the options -/
theorem m_tb_gr {σ : z_S} {g j v but : Int} {V W : List (List Int)} {op : z_Opt} (hj : 0 ≤ j ∧ j < 8) (h : m_tb σ X g j v but V V.length) (hs : V.Pairwise (fun a b => z_rnk a < z_rnk b)) (h200 : V.length ≤ 200) (hW : ∀ l, l ∈ W ↔ l ∈ V ∧ m_ok but l) (hc : z_chr (z_msk X) (z_pnf X j v) W op) : m_gr σ op g false := by
  have hlt : ∀ i i' : Nat, i < i' → i' < V.length → z_rnk (V.getD i []) < z_rnk (V.getD i' []) := fun i i' h1 h2 => by
    rw [List.getD_eq_getElem?_getD, List.getD_eq_getElem?_getD, List.getElem?_eq_getElem (show i < V.length by omega), List.getElem?_eq_getElem h2]
    exact List.pairwise_iff_getElem.mp hs i i' (by omega) h2 h1
  have key : ∀ m q, 0 ≤ m → m < 32 → op m = some q → ∃ i : Nat, i < V.length ∧ σ 38 (32 * g + m) = 200 * j + i ∧ σ 39 (32 * g + m) = q.1 ∧ q.2 = z_rnk (V.getD i []) := fun m q m0 m1 hq => by
    rcases hc m with ⟨c1, -⟩ | ⟨l0, c1, c2, c3, c4⟩
    · rw [c1] at hq; cases hq
    · rw [c3] at hq
      cases hq
      obtain ⟨v1, v2⟩ := (hW l0).mp c1
      obtain ⟨i0, hi0, e0⟩ := List.getElem_of_mem v1
      have e0' : V.getD i0 [] = l0 := by rw [List.getD_eq_getElem?_getD, List.getElem?_eq_getElem hi0]; exact e0
      rcases h m m0 m1 with ⟨-, t2⟩ | ⟨i, t1, t2, t3, t4, t5, t6⟩
      · exact absurd (by rw [e0']; exact c2) (t2 i0 hi0 (by rw [e0']; exact v2))
      · have a := c4 _ ((hW _).mpr ⟨z_getDl t1, t2⟩) t3
        have b := t6 i0 hi0 (by rw [e0']; exact v2) (by rw [e0']; exact c2)
        rw [e0'] at b
        have hpe : z_pnf X j v (V.getD i []) = z_pnf X j v l0 := by omega
        have hie : i = i0 := by
          rcases Nat.lt_trichotomy i i0 with c | c | c
          · have := hlt i i0 c hi0
            rw [e0'] at this
            omega
          · exact c
          · omega
        exact ⟨i, t1, t4, by rw [t5, hpe], by rw [hie, e0']⟩
  refine Or.inl ⟨rfl, fun m m0 m1 hn => ?_, fun m q m0 m1 hq => ?_, fun m m' q q' m0 m1 m0' m1' hq hq' => ?_⟩
  · rcases h m m0 m1 with ⟨t1, -⟩ | ⟨i, t1, t2, t3, -⟩
    · exact t1
    · rcases hc m with ⟨-, c2⟩ | ⟨l0, -, -, c3, -⟩
      · exact absurd t3 (c2 _ ((hW _).mpr ⟨z_getDl t1, t2⟩))
      · rw [hn] at c3; cases c3
  · obtain ⟨i, h1, h2, h3, h4⟩ := key m q m0 m1 hq
    rw [h2]
    exact ⟨by omega, h3⟩
  · obtain ⟨i, h1, h2, h3, h4⟩ := key m q m0 m1 hq
    obtain ⟨i', h1', h2', h3', h4'⟩ := key m' q' m0' m1' hq'
    rw [h2, h2', h4, h4']
    constructor
    · intro hl
      exact hlt i i' (by omega) h1'
    · intro hl
      rcases Nat.lt_trichotomy i i' with c | c | c
      · omega
      · rw [c] at hl; omega
      · have := hlt i' i c h1; omega
end
