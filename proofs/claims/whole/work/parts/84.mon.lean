/-! The reference: a state in which questions are asked. -/
theorem m_tb_key {σ X : z_S} {g j v but : Int} {V W : List (List Int)} {op : z_Opt} (h : m_tb σ X g j v but V V.length) (hs : V.Pairwise (fun a b => z_rnk a < z_rnk b)) (hW : ∀ l, l ∈ W ↔ l ∈ V ∧ m_ok but l) (hc : z_chr (z_msk X) (z_pnf X j v) W op) : ∀ m q, 0 ≤ m → m < 32 → op m = some q → ∃ i : Nat, i < V.length ∧ σ 38 (32 * g + m) = 200 * j + i ∧ σ 39 (32 * g + m) = q.1 ∧ q.2 = z_rnk (V.getD i []) := fun m q m0 m1 hq => by
  have hlt : ∀ i i' : Nat, i < i' → i' < V.length → z_rnk (V.getD i []) < z_rnk (V.getD i' []) := fun i i' h1 h2 => by
    rw [List.getD_eq_getElem?_getD, List.getD_eq_getElem?_getD, List.getElem?_eq_getElem (show i < V.length by omega), List.getElem?_eq_getElem h2]
    exact List.pairwise_iff_getElem.mp hs i i' (by omega) h2 h1
  rcases hc m with ⟨c1, -⟩ | ⟨l0, c1, c2, c3, c4⟩
  · rw [c1] at hq; cases hq
  · rw [c3] at hq
    cases hq
    obtain ⟨v1, v2⟩ := (hW l0).mp c1
    obtain ⟨i0, hi0, e0⟩ := List.getElem_of_mem v1
    have e0' : V.getD i0 [] = l0 := by rw [List.getD_eq_getElem?_getD, List.getElem?_eq_getElem hi0]; exact e0
    rcases h m m0 m1 with ⟨-, t2⟩ | ⟨i, t1, t2, t3, t4, t5, t6⟩
    · exact absurd (by rw [e0']; exact c2) (t2 i0 hi0 (by rw [e0']; exact v2))
    · have a := c4 _ ((hW _).mpr ⟨z_getDl t1, t2⟩) t3
      have b := t6 i0 hi0 (by rw [e0']; exact v2) (by rw [e0']; exact c2)
      rw [e0'] at b
      have hpe : z_pnf X j v (V.getD i []) = z_pnf X j v l0 := by omega
      have hie : i = i0 := by
        rcases Nat.lt_trichotomy i i0 with c | c | c
        · have := hlt i i0 c hi0
          rw [e0'] at this
          omega
        · exact c
        · omega
      exact ⟨i, t1, t4, by rw [t5, hpe], by rw [hie, e0']⟩
/-- the goers' worths, and the ways that their tables name -/
def m_lw (σ : z_S) (D : z_D) (nw : Int → Bool) : Prop := ∀ g, 0 ≤ g → g < D.gN → σ 37 g = D.gw g ∧ ∀ m q, 0 ≤ m → m < 32 → D.op g m = some q → ∃ l : List Int, z_dgs l ∧ l.length ≤ 7 ∧ q.2 = z_rnk l ∧ (nw g = true → l = []) ∧ (nw g = false → (0 ≤ σ 38 (32 * g + m) ∧ σ 38 (32 * g + m) < 1600) ∧ m_way σ (σ 38 (32 * g + m)) l)
theorem m_lw_off {σ σ' : z_S} {D : z_D} {nw : Int → Bool} {b lo hi : Int} (ho : m_off b lo hi σ σ') (hlo : 40 ≤ lo) (h : m_lw σ D nw) : m_lw σ' D nw := fun g g0 g1 => by
  obtain ⟨h1, h2⟩ := h g g0 g1
  refine ⟨by rw [m_at ho (by omega)]; exact h1, fun m q m0 m1 hq => ?_⟩
  obtain ⟨l, a, b, c, e, f⟩ := h2 m q m0 m1 hq
  have e8 : σ' 38 (32 * g + m) = σ 38 (32 * g + m) := m_at ho (by omega)
  rw [e8]
  exact ⟨l, a, b, c, e, fun hn => ⟨(f hn).1, m_way_off ho (Or.inl (by omega)) (f hn).2⟩⟩
def z_DG (X : z_S) (s : Int) (G : List (Int × Int)) : z_D := (fun g => z_opG X s (G.getD g.toNat (0, 0)), fun g => X 10 (G.getD g.toNat (0, 0)).1, (G.length : Int), fun g => (G.getD g.toNat (0, 0)).1, fun g => (G.getD g.toNat (0, 0)).2)
def z_nwl (X : z_S) (s : Int) (G : List (Int × Int)) (g : Int) : Bool := z_nwG X s (G.getD g.toNat (0, 0))
section
variable {σ0 σ σ' X : z_S}
theorem m_gs_lw (hw : z_wf X) {s : Int} {G : List (Int × Int)} (hy : m_ways σ X) (h : m_gs σ X s G) (hG : ∀ q ∈ G, (0 ≤ q.1 ∧ q.1 < X 0 2) ∧ 0 ≤ q.2 ∧ q.2 ≤ 9) : m_lw σ (z_DG X s G) (z_nwl X s G) := fun g g0 g1 => by
  have hnJ := hw.2.2.1
  have g1' : g < (G.length : Int) := g1
  have eg : ((g.toNat : Nat) : Int) = g := Int.toNat_of_nonneg g0
  have hlt : g.toNat < G.length := by omega
  obtain ⟨t1, t2, t3⟩ := h.2 g.toNat hlt
  rw [eg] at t1 t2 t3
  have hm : G.getD g.toNat (0, 0) ∈ G := by
    rw [List.getD_eq_getElem?_getD, List.getElem?_eq_getElem hlt]
    exact List.getElem_mem hlt
  refine ⟨t2, fun m q m0 m1 hq => ?_⟩
  unfold z_nwl
  have hq' : z_opG X s (G.getD g.toNat (0, 0)) m = some q := hq
  generalize G.getD g.toNat (0, 0) = p at *
  obtain ⟨hj, hv⟩ := hG p hm
  by_cases hn : X 15 p.1 < 0 ∧ z_wys X s p.1 = []
  · have ew : z_wz X s p.1 = [[]] := by
      unfold z_wz z_wzl
      rw [hn.2, if_pos hn.1]
      rfl
    unfold z_opG at hq'
    rw [ew] at hq'
    have hp' : (if m = z_msk X [] then some (z_pnf X p.1 p.2 [], z_rnk []) else none) = some q := hq'
    have en : z_nwG X s p = true := by
      unfold z_nwG
      rw [hn.2]
      simp [hn.1]
    by_cases c : m = z_msk X []
    · rw [if_pos c] at hp'
      cases hp'
      exact ⟨[], fun r hr => (by cases hr), Nat.zero_le _, rfl, fun _ => rfl, fun h => (by rw [en] at h; cases h)⟩
    · rw [if_neg c] at hp'; cases hp'
  · obtain ⟨i, i1, i2, i3, i4⟩ := m_tb_key t3 (z_wt_sorted hw hj) (z_wz_mem hw hj hn) (z_opl_chr0 _) m q m0 m1 hq'
    obtain ⟨y1, y2, y3⟩ := hy p.1 hj.1 hj.2
    have hok := z_wt_ok hw hj _ (z_getDl i1)
    have hR := hw.1
    refine ⟨_, fun r hr => by have := hok.1 r hr; omega, hok.2.1, i4, fun h => ?_, fun _ => ?_⟩
    · exfalso
      unfold z_nwG at h
      rw [Bool.and_eq_true, decide_eq_true_eq, List.isEmpty_iff] at h
      exact hn h
    · rw [i2]
      exact ⟨by omega, y3 i i1⟩
/-- questions are asked: goers D, tolls t -/
def m_on (σ0 σ X : z_S) (D : z_D) (nw : Int → Bool) (t : Int → Int) : Prop := m_off 27 35 57 σ0 σ ∧ m_tab σ X D.op D.mn D.gN D.gj nw ∧ m_lw σ D nw ∧ m_t σ t ∧ σ 40 0 = 0
variable {D : z_D} {nw : Int → Bool} {t t' : Int → Int}
theorem m_on.keep (q : m_on σ0 σ X D nw t) (ho : m_off 49 40 57 σ σ') (ht : m_t σ' t') (h40 : σ' 40 0 = 0) : m_on σ0 σ' X D nw t' := by
  obtain ⟨a, b, c, e, f⟩ := q
  exact ⟨m_off_trans a (m_off_le ho (by omega) (by omega) (by omega)), m_tab_off ho (by omega) (by omega) b, m_lw_off ho (by omega) c, ht, h40⟩
theorem m_on.fin (h : m_inv σ0 X) (q : m_on σ0 σ X D nw (X 7)) : m_inv σ X ∧ σ 1 26 = σ0 1 26 := ⟨m_inv_off (m_off_le q.1 (by omega) (by omega) (by omega)) q.2.2.2.1 q.2.2.2.2 h, m_at q.1 (by omega)⟩
theorem m_on.land (h : m_inv σ0 X) (q : m_on σ0 σ X D nw t) : m_land σ X := m_land_off q.1 (by omega) (by omega) h.2.1
theorem m_on.lean (h : m_inv σ0 X) (q : m_on σ0 σ X D nw t) : σ 1 10 = X 0 4 := by rw [m_at q.1 (by omega)]; exact h.2.2.2.2.2.1
theorem m_on.gn (q : m_on σ0 σ X D nw t) : (0 ≤ D.gN ∧ D.gN ≤ 48) ∧ σ 1 48 = D.gN := ⟨q.2.1.2.1, q.2.1.1⟩
theorem m_on.goer (h : m_inv σ0 X) (q : m_on σ0 σ X D nw t) {g : Int} (g0 : 0 ≤ g) (g1 : g < D.gN) : z_opok (D.op g) ∧ (∀ m p, 0 ≤ m → m < 32 → D.op g m = some p → m < ((2 ^ (X 0 1).toNat : Nat) : Int)) ∧ σ 36 g = D.gj g ∧ (0 ≤ D.gj g ∧ D.gj g < X 0 2) ∧ D.mn g = X 10 (D.gj g) ∧ (1 ≤ D.mn g ∧ D.mn g ≤ 99) ∧ σ 11 (D.gj g) = D.mn g := by
  obtain ⟨a, b, c, e, f, i⟩ := q.2.1.2.2 g g0 g1
  have := (h.1.2.2.2.2.2.2.2.2.2.2.2.2.2.1 _ f.1 f.2).2.2.2.1
  exact ⟨a, b, e, f, i, by omega, by rw [i]; exact ((q.land h).2.2.2 _ f.1 f.2).2.2.1⟩
theorem m_on.choose (h : m_inv σ0 X) (q : m_on σ0 σ X D nw t) (d : Nat) (ha : m_ask σ X t) (ht : c_t20 t) {g : Int} (g0 : 0 ≤ g) (g1 : g < D.gN) : z_ev z_hcM (d + 2) 1231 [z_R 1, z_I g] z_hdM σ = some (z_I (if nw g = true then -1 else z_ch (D.op g) t (X 0 4)), z_hdM, σ) := by
  obtain ⟨a, b, c, e, f, i⟩ := q.2.1.2.2 g g0 g1
  have := q.gn
  have hc := m_choose (σ := σ) (g := g) d (by omega) h.1 (q.land h) c a b ha ht
  rw [q.lean h] at hc
  exact hc
/-- for want of ways: what is taken -/
theorem m_on.nw0 (q : m_on σ0 σ X D nw t) {g : Int} (g0 : 0 ≤ g) (g1 : g < D.gN) (hn : nw g = true) (u : Int → Int) (lean : Int) : z_ch (D.op g) u lean = 0 ∧ z_pn (D.op g) u lean = 0 := by
  obtain ⟨a, b, c, e, f, i⟩ := q.2.1.2.2 g g0 g1
  rw [hn] at c
  rcases c with ⟨c, -⟩ | ⟨-, -, c⟩
  · cases c
  · exact m_nw_ch a c
theorem m_on.ask (h : m_inv σ0 X) (q : m_on σ0 σ X D nw t) (d : Nat) (ht : c_t20 t) : ∃ σ', z_ev z_hcM (d + 2) 1230 [z_R 1] z_hdM σ = some (z_U, z_hdM, σ') ∧ (∀ a i, (a < 40 ∨ 41 < a) → σ' a i = σ a i) ∧ m_on σ0 σ' X D nw t ∧ m_ask σ' X t := by
  obtain ⟨σ', e, o, a, b⟩ := m_c_ask d h.1 (q.land h) q.2.2.2.1 ht q.2.2.2.2
  exact ⟨σ', e, fun a i h => o a i h, q.keep (fun a i _ h2 _ => o a i (by omega)) (fun k k0 k1 => by rw [o _ _ (by omega)]; exact q.2.2.2.1 k k0 k1) b, a⟩
theorem m_on.work (h : m_inv σ0 X) (q : m_on σ0 σ X D nw t) (d : Nat) (ht : c_t20 t) : ∃ σ', z_ev z_hcM (d + 4) 1233 [z_R 1] z_hdM σ = some (z_U, z_hdM, σ') ∧ (∀ a i, (a < 40 ∨ 42 < a) → (a ≠ 1 ∨ i ≠ 54) → σ' a i = σ a i) ∧ m_on σ0 σ' X D nw t ∧ m_ask σ' X t ∧
    (∀ w, w = 0 ∨ w = 1 → σ' 42 w = z_brt D.op D.mn D.gN (X 0 4) (z_side X w (-1)) t) ∧ σ' 1 54 = z_suf D.op D.mn D.gN (X 0 4) t := by
  obtain ⟨σ', e, o, a, b, c0, c1, c2⟩ := m_c_work d h.1 (q.land h) q.2.1 q.2.2.2.1 ht q.2.2.2.2
  rw [q.lean h] at c0 c1 c2
  exact ⟨σ', e, o, q.keep (fun a i _ h2 _ => o a i (by omega) (by omega)) (fun k k0 k1 => by rw [o _ _ (by omega) (by omega)]; exact q.2.2.2.1 k k0 k1) b, a, fun w hw => by rcases hw with rfl | rfl; exact c0; exact c1, c2⟩
theorem m_gatG (h : m_inv σ0 X) (o : m_off 27 35 57 σ0 σ) (ht : m_t σ t) (h40 : σ 40 0 = 0) (d : Nat) (when s worth : Int) :
    ∃ σ', z_ev z_hcM (d + 4) 1228 [z_R 1, z_I when, z_I s, z_I worth] z_hdM σ = some (z_U, z_hdM, σ') ∧ (∀ a i, (a < 36 ∨ 39 < a) → (a ≠ 1 ∨ i ≠ 48) → σ' a i = σ a i) ∧ m_on σ0 σ' X (z_DG X s ((z_gln X (X 0 2).toNat).filter (z_gpr X when worth))) (z_nwl X s ((z_gln X (X 0 2).toNat).filter (z_gpr X when worth))) t := by
  have hw := h.1
  have hnJ := hw.2.2.1
  have hl := m_land_off o (by omega) (by omega) h.2.1
  have hy := m_ways_off o (by omega) h.2.2.1
  obtain ⟨σ', e, o2, g⟩ := m_gather d hw hl hy when s worth
  have off2 : m_off 48 36 39 σ σ' := fun a i _ h2 h3 => o2 a i h2 (by omega)
  have hy2 := m_ways_off off2 (by omega) hy
  have hgl := z_gln_len hw (n := (X 0 2).toNat) (by omega)
  have hgr := z_gs_rng hw (n := (X 0 2).toNat) (by omega)
  have hfl := List.length_filter_le (z_gpr X when worth) (z_gln X (X 0 2).toNat)
  have hG : ∀ q ∈ (z_gln X (X 0 2).toNat).filter (z_gpr X when worth), (0 ≤ q.1 ∧ q.1 < X 0 2) ∧ 0 ≤ q.2 ∧ q.2 ≤ 9 := fun q hq => z_gln_mem hw (by omega) q (List.mem_filter.mp hq).1
  exact ⟨σ', e, o2, m_off_trans o (m_off_le off2 (by omega) (by omega) (by omega)), m_gs_tab hw hy2 g (by omega) hG, m_gs_lw hw hy2 g hG, fun k k0 k1 => by rw [o2 _ _ (by omega) (by omega)]; exact ht k k0 k1, by rw [o2 _ _ (by omega) (by omega)]; exact h40⟩
theorem m_gatB (h : m_inv σ0 X) (o : m_off 27 35 57 σ0 σ) (ht : m_t σ t) (h40 : σ 40 0 = 0) (d : Nat) (s : Int) :
    ∃ σ', z_ev z_hcM (d + 4) 1228 [z_R 1, z_I (-1), z_I s, z_I (-1)] z_hdM σ = some (z_U, z_hdM, σ') ∧ (∀ a i, (a < 36 ∨ 39 < a) → (a ≠ 1 ∨ i ≠ 48) → σ' a i = σ a i) ∧ m_on σ0 σ' X (z_Dm X s) (z_nwD X s) t := by
  have hw := h.1
  have hnJ := hw.2.2.1
  have hl := m_land_off o (by omega) (by omega) h.2.1
  have hy := m_ways_off o (by omega) h.2.2.1
  obtain ⟨σ', e, o2, g⟩ := m_gather d hw hl hy (-1) s (-1)
  have hall : (z_gln X (X 0 2).toNat).filter (z_gpr X (-1) (-1)) = z_gln X (X 0 2).toNat := List.filter_eq_self.mpr (fun q _ => by unfold z_gpr; simp)
  rw [hall] at g
  have off2 : m_off 48 36 39 σ σ' := fun a i _ h2 h3 => o2 a i h2 (by omega)
  have hy2 := m_ways_off off2 (by omega) hy
  have hgl := z_gln_len hw (n := (X 0 2).toNat) (by omega)
  refine ⟨σ', e, o2, m_off_trans o (m_off_le off2 (by omega) (by omega) (by omega)), m_tab_Dm hw hy2 g, fun g' g0 g1 => ?_, fun k k0 k1 => by rw [o2 _ _ (by omega) (by omega)]; exact ht k k0 k1, by rw [o2 _ _ (by omega) (by omega)]; exact h40⟩
  have g1' : g' < z_gs X (X 0 2).toNat := g1
  have hlt : g' < ((z_gln X (X 0 2).toNat).length : Int) := by omega
  have hh := m_gs_lw hw hy2 g (z_gln_mem hw (by omega)) g' g0 hlt
  have hget : (z_gln X (X 0 2).toNat).getD g'.toNat (0, 0) = (z_gj X g', z_gw X g') := by
    have := z_gln_get hw (n := (X 0 2).toNat) (g := g'.toNat) (by omega) (by omega)
    rw [Int.toNat_of_nonneg g0] at this
    exact this
  unfold z_DG z_nwl z_D.op z_D.gw at hh
  dsimp only at hh
  rw [hget] at hh
  exact hh
theorem m_gat (h : m_inv σ0 X) (o : m_off 27 35 57 σ0 σ) (ht : m_t σ t) (h40 : σ 40 0 = 0) (d : Nat) :
    ∃ σ', z_ev z_hcM (d + 5) 1229 [z_R 1] z_hdM σ = some (z_U, z_hdM, σ') ∧ (∀ a i, (a < 36 ∨ 39 < a) → (a ≠ 1 ∨ i ≠ 48) → σ' a i = σ a i) ∧ m_on σ0 σ' X (z_Dm X (-1)) (z_nwD X (-1)) t := by
  obtain ⟨σ', e, o2, q⟩ := m_gatB h o ht h40 d (-1)
  refine ⟨σ', ?_, o2, q⟩
  rw [z_E1229]
  simp (disch := omega) only [e, z_fdM, z_pdM, z_adM, z_sdM, z_lkM, z_ndM, z_gdM, z_cI_some', z_cV_some', z_w_ok, Int.reduceAdd, Int.reduceSub, Int.reduceMul, Int.reduceNeg, Int.reduceEq, Int.reduceLT, Int.reduceLE, Int.reduceNe, reduceIte, true_and, and_true, false_and, and_false, if_true, if_false, ne_eq, not_true_eq_false, not_false_eq_true]
theorem m_gat0 (h : m_inv σ0 X) (d : Nat) : ∃ σ', z_ev z_hcM (d + 5) 1229 [z_R 1] z_hdM σ0 = some (z_U, z_hdM, σ') ∧ m_on σ0 σ' X (z_Dm X (-1)) (z_nwD X (-1)) (X 7) := by
  obtain ⟨σ', e, -, q⟩ := m_gat h m_off_refl h.2.2.2.1 h.2.2.2.2.1 d
  exact ⟨σ', e, q⟩
theorem m_does_on (hi : m_inv σ0 X) (h26 : σ0 1 26 = 0) {e : Option z_Res} {v : Int} (he : e = some (z_I v, z_hdM, σ)) (q : m_on σ0 σ X D nw (X 7)) : m_does e (v, X) := ⟨σ, he, (q.fin hi).1, by rw [(q.fin hi).2]; exact h26⟩
end
