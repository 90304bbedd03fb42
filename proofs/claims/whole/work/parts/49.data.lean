/-! The class's Goers: survey, and the data of a land. -/
/-- how many goers the first n journeys have -/
def z_gs (X : z_S) (n : Nat) : Int := z_sm n (fun i => X 12 i - X 11 i + 1)
def z_gjf (X : z_S) : Nat → Int → Int
  | 0, _ => 0
  | n + 1, g => if z_gs X n ≤ g then n else z_gjf X n g
/-- whose goer g is, its worth -/
def z_gj (X : z_S) (g : Int) : Int := z_gjf X (X 0 2).toNat g
def z_gw (X : z_S) (g : Int) : Int := X 11 (z_gj X g) + (g - z_gs X (z_gj X g).toNat)
/-- the ways of journey j -/
def z_wys (X : z_S) (s j : Int) : List (List Int) := z_dfs X s (X 9 j) (z_K X j) 7 (X 8 j) (z_shl 1 (X 8 j))
def z_wc (X : z_S) (s j : Int) : Int := (z_wys X s j).length + (if X 15 j < 0 then 0 else 1)
def z_fit (X : z_S) (s : Int) : Nat → Bool
  | 0 => true
  | n + 1 => z_fit X s n && decide (z_wc X s n ≤ 200)
/-- with staying at home, or for want of any way -/
def z_wzl (home : Int) (V : List (List Int)) : List (List Int) := if home < 0 then (if V.length = 0 then V ++ [[]] else V) else V ++ [[]]
def z_wz (X : z_S) (s j : Int) : List (List Int) := z_wzl (X 15 j) (z_wys X s j)
def z_opD (X : z_S) (s g : Int) : z_Opt := z_opl (z_msk X) (z_pnf X (z_gj X g) (z_gw X g)) (z_wz X s (z_gj X g)) (fun _ => none)
/-- the data of a land, road s shut -/
def z_Dm (X : z_S) (s : Int) : z_D := (z_opD X s, fun g => X 10 (z_gj X g), z_gs X (X 0 2).toNat, z_gj X, z_gw X)
section
variable {X : z_S} {s : Int}
theorem z_gs_s (n : Nat) : z_gs X (n + 1) = z_gs X n + (X 12 n - X 11 n + 1) := rfl
theorem z_wfj (hw : z_wf X) {j : Int} (hj : 0 ≤ j ∧ j < X 0 2) : (0 ≤ X 11 j ∧ X 11 j ≤ X 12 j ∧ X 12 j ≤ 9 ∧ X 12 j ≤ X 11 j + 5) := (hw.2.2.2.2.2.2.2.2.2.2.2.2.2.1 j hj.1 hj.2).2.2.2.2.1
theorem z_gs_rng (hw : z_wf X) : ∀ {n : Nat}, (n : Int) ≤ X 0 2 → 0 ≤ z_gs X n ∧ z_gs X n ≤ 6 * n
  | 0, _ => by unfold z_gs z_sm; simp
  | n + 1, h => by
    have ih := z_gs_rng hw (n := n) (by omega)
    have := z_wfj hw (j := n) (by omega)
    rw [z_gs_s]
    omega
theorem z_gs_mono (hw : z_wf X) {a : Nat} : ∀ {b : Nat}, a ≤ b → (b : Int) ≤ X 0 2 → z_gs X a ≤ z_gs X b
  | 0, h, _ => by rw [show a = 0 by omega]; exact Int.le_refl _
  | b + 1, h, hb => by
    by_cases e : a = b + 1
    · rw [e]; exact Int.le_refl _
    · have ih := z_gs_mono hw (a := a) (b := b) (by omega) (by omega)
      have := z_wfj hw (j := b) (by omega)
      rw [z_gs_s]
      omega
theorem z_gjf_at (hw : z_wf X) {j : Nat} {g : Int} (h0 : z_gs X j ≤ g) (h1 : g < z_gs X (j + 1)) : ∀ {n : Nat}, j < n → (n : Int) ≤ X 0 2 → z_gjf X n g = j
  | 0, h, _ => absurd h (by omega)
  | n + 1, h, hn => by
    unfold z_gjf
    by_cases e : j = n
    · subst e; rw [if_pos h0]
    · have := z_gs_mono hw (a := j + 1) (b := n) (by omega) (by omega)
      rw [if_neg (by omega)]
      exact z_gjf_at hw h0 h1 (by omega) (by omega)
theorem z_gj_at (hw : z_wf X) {j : Nat} {g : Int} (hj : (j : Int) < X 0 2) (h0 : z_gs X j ≤ g) (h1 : g < z_gs X (j + 1)) : z_gj X g = j ∧ z_gw X g = X 11 j + (g - z_gs X j) := by
  have e : z_gj X g = j := z_gjf_at hw h0 h1 (by omega) (by omega)
  refine ⟨e, ?_⟩
  unfold z_gw
  rw [e, Int.toNat_natCast]
theorem z_gj_ex (hw : z_wf X) {g : Int} (h0 : 0 ≤ g) : ∀ {n : Nat}, (n : Int) ≤ X 0 2 → g < z_gs X n → ∃ j : Nat, j < n ∧ z_gs X j ≤ g ∧ g < z_gs X (j + 1)
  | 0, _, h => by unfold z_gs z_sm at h; omega
  | n + 1, hn, h => by
    by_cases c : z_gs X n ≤ g
    · exact ⟨n, by omega, c, h⟩
    · obtain ⟨j, a, b, c⟩ := z_gj_ex hw h0 (n := n) (by omega) (by omega)
      exact ⟨j, by omega, b, c⟩
theorem z_gjw_rng (hw : z_wf X) {g : Int} (h0 : 0 ≤ g) (h1 : g < z_gs X (X 0 2).toNat) : (0 ≤ z_gj X g ∧ z_gj X g < X 0 2) ∧ (X 11 (z_gj X g) ≤ z_gw X g ∧ z_gw X g ≤ X 12 (z_gj X g)) ∧ (0 ≤ z_gw X g ∧ z_gw X g ≤ 9) := by
  have hn := hw.2.2.1
  obtain ⟨j, a, b, c⟩ := z_gj_ex hw h0 (n := (X 0 2).toNat) (by omega) h1
  obtain ⟨e1, e2⟩ := z_gj_at hw (by omega) b c
  have := z_wfj hw (j := j) (by omega)
  rw [e2, e1]
  rw [z_gs_s] at c
  omega
/-- what the ways of a journey are like -/
def z_wok (X : z_S) (V : List (List Int)) : Prop := ∀ l ∈ V, (∀ r ∈ l, 0 ≤ r ∧ r < X 0 0) ∧ l.length ≤ 7
theorem z_wys_ok (hw : z_wf X) {j : Int} (hj : 0 ≤ j ∧ j < X 0 2) : z_wok X (z_wys X s j) := fun l hl => by
  obtain ⟨h1, h2, -⟩ := z_dfs_mem hl
  have hK := (z_K_le hw hj).1
  exact ⟨fun r hr => ⟨(h2 r hr).1, by have := (h2 r hr).2.1; omega⟩, h1⟩
theorem z_wzl_ok {V : List (List Int)} {home : Int} (h : z_wok X V) : z_wok X (z_wzl home V) ∧ z_wzl home V ≠ [] := by
  have h0 : z_wok X (V ++ [[]]) := fun l hl => by
    rcases List.mem_append.mp hl with hl | hl
    · exact h l hl
    · rw [List.mem_singleton] at hl
      subst hl
      exact ⟨fun r hr => (by cases hr), Nat.zero_le _⟩
  unfold z_wzl
  split
  · split
    · exact ⟨h0, by simp⟩
    · next hn => exact ⟨h, fun e => hn (by rw [e]; rfl)⟩
  · exact ⟨h0, by simp⟩
theorem z_wok_dgs (hw : z_wf X) {V : List (List Int)} (h : z_wok X V) {l : List Int} (hl : l ∈ V) : z_dgs l := fun r hr => by
  have h1 := (h l hl).1 r hr
  have h2 := hw.1
  omega
theorem z_opl_ok (hw : z_wf X) {V : List (List Int)} {j w : Int} (hV : z_wok X V) (hne : V ≠ []) (hj : 0 ≤ j ∧ j < X 0 2) (hw9 : 0 ≤ w ∧ w ≤ 9) : z_opok (z_opl (z_msk X) (z_pnf X j w) V (fun _ => none)) :=
  z_chr_ok (z_opl_chr0 V) hne (fun l hl => by
    have h1 := z_msk_rng hw l
    have h2 := z_pnf_rng hw hj hw9 (hV l hl).1 (hV l hl).2
    exact ⟨z_wok_dgs hw hV hl, (hV l hl).2, ⟨h1.1, h1.2.1⟩, h2.1, by omega⟩)
theorem z_hop_eq (hw : z_wf X) {V : List (List Int)} {j w : Int} {wys : Int} (hwy : X 15 j < 0 → wys = V.length) : z_hop (X 15 j) wys (z_opl (z_msk X) (z_pnf X j w) V (fun _ => none)) = z_opl (z_msk X) (z_pnf X j w) (z_wzl (X 15 j) V) (fun _ => none) := by
  unfold z_hop z_wzl
  by_cases c : X 15 j < 0
  · rw [if_pos c, if_pos c, hwy c]
    by_cases c2 : V.length = 0
    · rw [if_pos (by omega), if_pos c2, z_opl_app, z_msk_nil hw]
      have : z_pnf X j w [] = 0 := by unfold z_pnf; rw [if_pos rfl, if_pos c]
      rw [this]; rfl
    · rw [if_neg (by omega), if_neg c2]
  · rw [if_neg c, if_neg c, z_opl_app, z_msk_nil hw]
    have : z_pnf X j w [] = X 15 j := by unfold z_pnf; rw [if_pos rfl, if_neg c]
    rw [this]; rfl
theorem z_opl_msk {V : List (List Int)} {pn : List Int → Int} (hw : z_wf X) {m : Int} {q : Int × Int} (hq : z_opl (z_msk X) pn V (fun _ => none) m = some q) : m < ((2 ^ (X 0 1).toNat : Nat) : Int) := by
  rcases z_opl_chr0 (msk := z_msk X) (pn := pn) V m with ⟨h, -⟩ | ⟨l, -, h, -⟩
  · rw [h] at hq; cases hq
  · rw [← h]; exact (z_msk_rng hw l).2.2
variable {σ : z_S} {L : Int}
/-- Trip.begin -/
theorem c_tbegin (hL : L = 6 ∨ L = 26) (hw : z_wf X) (hl : c_land σ L X) {j : Int} (hj : 0 ≤ j ∧ j < X 0 2) (d : Nat) :
    ∃ σ', z_ev z_hcC (d + 3) 1001 [z_R 47, z_R L, z_I j] z_hdC σ = some (z_U, z_hdC, σ') ∧ z_off 47 47 σ σ' ∧ ∀ f b, c_tr (z_upd (z_upd σ' 47 5 f) 47 6 b) X L j [] (z_shl 1 (X 8 j)) [] f b := by
  obtain ⟨r8, r9, -, -, -, r14, -⟩ := c_jr (σ := σ) hL hw hl hj d
  have hl1 : ∀ v, c_land (z_upd σ 47 0 v) L X := fun v => c_land_off hL (lo := 47) (hi := 47) (z_off_upd (by omega) (by omega)) (by omega) hl
  have hl2 : ∀ v w, c_land (z_upd (z_upd σ 47 0 v) 47 1 w) L X := fun v w => c_land_off hL (lo := 47) (hi := 47) (z_off_upd (by omega) (by omega)) (by omega) (hl1 v)
  have hl3 : ∀ v w x, c_land (z_upd (z_upd (z_upd σ 47 0 v) 47 1 w) 47 2 x) L X := fun v w x => c_land_off hL (lo := 47) (hi := 47) (z_off_upd (by omega) (by omega)) (by omega) (hl2 v w)
  have k1 := (c_jr hL hw (hl1 (L + 1)) hj d).2.1
  have k2 := (c_jr hL hw (hl2 (L + 1) (X 9 j)) hj d).2.2.2.2.2.1
  have k3 := (c_jr hL hw (hl3 (L + 1) (X 9 j) (X 14 j)) hj d).1
  have hfree : ∀ {β : Type} {k : Option β}, z_free (z_hcC 47 0) k = k := fun {_ _} => rfl
  refine ⟨z_upd (z_upd (z_upd (z_upd (z_upd (z_upd (z_upd (z_upd (z_upd σ 47 0 (L + 1)) 47 1 (X 9 j)) 47 2 (X 14 j)) 47 3 (z_shl 1 (X 8 j))) 47 4 0) 47 7 0) 47 8 0) 47 9 0) 47 10 0, ?_, fun a i ha => ?_, fun f b => ?_⟩
  · simp (disch := omega) only [z_E1001, c_LC hL, hfree, k1, k2, k3, z_fdC, z_pdC, z_adC, z_sdC, z_lkC, z_ndC, z_gdC, z_mdC, z_cI_some', z_cV_some', z_w_ok, Int.reduceAdd, Int.reduceSub, Int.reduceMul, Int.reduceNeg, Int.reduceEq, Int.reduceLT, Int.reduceLE, Int.reduceNe, reduceIte, true_and, and_true, false_and, and_false, if_true, if_false, ne_eq, not_true_eq_false, not_false_eq_true]
  · simp (disch := omega) only [z_upd_ne]
  · rw [c_tr, z_msk_nil hw]
    refine ⟨?_, ?_, ?_, ?_, ?_, ?_, ?_, ?_, ?_, ?_, ?_⟩ <;> (simp only [z_upd_at, Int.reduceEq, and_true, true_and, and_false, false_and, if_true, if_false]; try rfl)
/-- ways and places of the journeys -/
def c_sv (σ X : z_S) (s : Int) : Prop := ∀ j : Nat, (j : Int) < X 0 2 → σ 52 j = z_wc X s j ∧ σ 51 j = z_gs X j
theorem c_opt_off {σ' : z_S} {g : Int} {op : z_Opt} (h : c_opt σ g op) (e : ∀ m, 0 ≤ m → m < 32 → ∀ a, a = 53 ∨ a = 54 → σ' a (g * 32 + m) = σ a (g * 32 + m)) : c_opt σ' g op := c_opt_same h (fun m m0 m1 => ⟨e m m0 m1 53 (Or.inl rfl), e m m0 m1 54 (Or.inr rfl)⟩)
theorem c_list_same {σ' : z_S} {op : z_Opt} {g cap : Int} (h : c_list σ op g cap) (e55 : ∀ i, 0 ≤ i → i < 32 → σ' 55 (g * 32 + i) = σ 55 (g * 32 + i)) (e56 : σ' 56 g = σ 56 g) (e57 : σ' 57 g = σ 57 g) : c_list σ' op g cap := by
  obtain ⟨l1, l2, l3, l4, l5, l6⟩ := h
  have hent : ∀ i m q, 0 ≤ i → i < σ 56 g → (c_ent σ' op g i m q ↔ c_ent σ op g i m q) := fun i m q i0 i1 => by
    unfold c_ent
    rw [e55 i i0 (by omega)]
  refine ⟨by rw [e56]; exact l1, by rw [e56]; exact l2, by rw [e57]; exact l3, fun i i0 i1 => ?_, fun i i' m m' q q' i0 i1 i2 h1 h2 => ?_, fun t lean m q ht m0 m1 hq => ?_⟩
  · rw [e56] at i1
    obtain ⟨m, q, a, b⟩ := l4 i i0 i1
    exact ⟨m, q, (hent i m q i0 i1).mpr a, by rw [e57]; exact b⟩
  · rw [e56] at i2
    exact l5 i i' m m' q q' i0 i1 i2 ((hent i m q i0 (by omega)).mp h1) ((hent i' m' q' (by omega) i2).mp h2)
  · rw [e56]
    rcases l6 t lean m q ht m0 m1 hq with ⟨i, i0, i1, hi⟩ | ⟨i, m', q', i0, i1, hi, ha⟩
    · exact Or.inl ⟨i, i0, i1, (hent i m q i0 i1).mpr hi⟩
    · exact Or.inr ⟨i, m', q', i0, i1, (hent i m' q' i0 i1).mpr hi, ha⟩
end
