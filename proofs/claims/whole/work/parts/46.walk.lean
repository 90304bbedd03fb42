/-! The class's Goers: the walk through the land. -/
/-- the tables tell goer g's options -/
def c_opt (σ : z_S) (g : Int) (op : z_Opt) : Prop := ∀ m, 0 ≤ m → m < 32 → (op m = none → σ 53 (g * 32 + m) = -1) ∧ ∀ q, op m = some q → σ 53 (g * 32 + m) = q.1 ∧ σ 54 (g * 32 + m) = q.2
theorem c_opt_same {σ σ' : z_S} {g : Int} {op : z_Opt} (h : c_opt σ g op) (e : ∀ m, 0 ≤ m → m < 32 → σ' 53 (g * 32 + m) = σ 53 (g * 32 + m) ∧ σ' 54 (g * 32 + m) = σ 54 (g * 32 + m)) : c_opt σ' g op := fun m m0 m1 => by
  rw [(e m m0 m1).1, (e m m0 m1).2]
  exact h m m0 m1
/-- Goers.offer -/
theorem c_offer {σ : z_S} (d : Nat) {g m pain order : Int} {op : z_Opt} (h : c_opt σ g op) (hg : 0 ≤ g ∧ g < 48) (hm : 0 ≤ m ∧ m < 32) (hop : ∀ q, op m = some q → 0 ≤ q.1) :
    ∃ σ', z_ev z_hcC (d + 1) 105 [z_R 46, z_I g, z_I m, z_I pain, z_I order] z_hdC σ = some (z_U, z_hdC, σ') ∧ (∀ a i, (a ≠ 53 ∧ a ≠ 54) ∨ i < g * 32 ∨ g * 32 + 32 ≤ i → σ' a i = σ a i) ∧ c_opt σ' g (z_ins op m (pain, order)) := by
  have h31 := z_and31 hm.1 hm.2
  have hset : c_opt (z_upd (z_upd σ 53 (g * 32 + m) pain) 54 (g * 32 + m) order) g (fun m' => if m' = m then some (pain, order) else op m') := fun m' m0 m1 => by
    dsimp only
    by_cases e : m' = m
    · subst e
      rw [if_pos rfl]
      refine ⟨fun z => (by cases z), fun q hq => ?_⟩
      cases hq
      rw [z_upd_ne (Or.inl (by omega)), z_upd_same, z_upd_same]
      exact ⟨rfl, rfl⟩
    · rw [if_neg e, z_upd_ne (Or.inl (by omega)), z_upd_ne (Or.inr (by omega)), z_upd_ne (Or.inr (by omega)), z_upd_ne (Or.inl (by omega))]
      exact h m' m0 m1
  have hfr : ∀ a i, (a ≠ 53 ∧ a ≠ 54) ∨ i < g * 32 ∨ g * 32 + 32 ≤ i → z_upd (z_upd σ 53 (g * 32 + m) pain) 54 (g * 32 + m) order a i = σ a i := fun a i ha => by
    rw [z_upd_ne (by omega), z_upd_ne (by omega)]
  have hkeep : ∀ q, op m = some q → ¬ (pain < q.1 ∨ (pain = q.1 ∧ order < q.2)) → z_ins op m (pain, order) = op := fun q hq hn => by
    funext m'
    unfold z_ins
    by_cases e : m' = m
    · subst e; rw [if_pos rfl, hq]; dsimp only; rw [if_neg hn]
    · rw [if_neg e]
  have hnew : (op m = none ∨ ∃ q, op m = some q ∧ (pain < q.1 ∨ (pain = q.1 ∧ order < q.2))) → z_ins op m (pain, order) = (fun m' => if m' = m then some (pain, order) else op m') := fun hn => by
    funext m'
    unfold z_ins
    by_cases e : m' = m
    · subst e
      rw [if_pos rfl, if_pos rfl]
      rcases hn with e | ⟨q, e, hq⟩
      · rw [e]
      · rw [e]; dsimp only; rw [if_pos hq]
    · rw [if_neg e, if_neg e]
  cases hq : op m with
  | none =>
    have e := (h m hm.1 hm.2).1 hq
    refine ⟨_, ?_, hfr, by rw [hnew (Or.inl hq)]; exact hset⟩
    simp (disch := omega) only [z_E105, z_B105_71, h31, if_neg, if_pos, e, z_fdC, z_pdC, z_adC, z_sdC, z_lkC, z_ndC, z_gdC, z_mdC, z_cI_some', z_cV_some', z_w_ok, Int.reduceAdd, Int.reduceSub, Int.reduceMul, Int.reduceNeg, Int.reduceEq, Int.reduceLT, Int.reduceLE, Int.reduceNe, reduceIte, true_and, and_true, false_and, and_false, if_true, if_false, ne_eq, not_true_eq_false, not_false_eq_true]
  | some q =>
    obtain ⟨e1, e2⟩ := (h m hm.1 hm.2).2 q hq
    have hq0 := hop q hq
    by_cases c1 : pain < q.1
    · refine ⟨_, ?_, hfr, by rw [hnew (Or.inr ⟨q, hq, Or.inl c1⟩)]; exact hset⟩
      simp (disch := omega) only [z_E105, z_B105_71, h31, if_neg, if_pos, e1, z_fdC, z_pdC, z_adC, z_sdC, z_lkC, z_ndC, z_gdC, z_mdC, z_cI_some', z_cV_some', z_w_ok, Int.reduceAdd, Int.reduceSub, Int.reduceMul, Int.reduceNeg, Int.reduceEq, Int.reduceLT, Int.reduceLE, Int.reduceNe, reduceIte, true_and, and_true, false_and, and_false, if_true, if_false, ne_eq, not_true_eq_false, not_false_eq_true]
    · by_cases c2 : pain = q.1
      · by_cases c3 : order < q.2
        · refine ⟨_, ?_, hfr, by rw [hnew (Or.inr ⟨q, hq, Or.inr ⟨c2, c3⟩⟩)]; exact hset⟩
          simp (disch := omega) only [z_E105, z_B105_71, h31, if_neg, if_pos, e1, e2, z_fdC, z_pdC, z_adC, z_sdC, z_lkC, z_ndC, z_gdC, z_mdC, z_cI_some', z_cV_some', z_w_ok, Int.reduceAdd, Int.reduceSub, Int.reduceMul, Int.reduceNeg, Int.reduceEq, Int.reduceLT, Int.reduceLE, Int.reduceNe, reduceIte, true_and, and_true, false_and, and_false, if_true, if_false, ne_eq, not_true_eq_false, not_false_eq_true]
        · refine ⟨σ, ?_, fun a i _ => rfl, by rw [hkeep q hq (by omega)]; exact h⟩
          simp (disch := omega) only [z_E105, z_B105_71, h31, if_neg, if_pos, e1, e2, z_fdC, z_pdC, z_adC, z_sdC, z_lkC, z_ndC, z_gdC, z_mdC, z_cI_some', z_cV_some', z_w_ok, Int.reduceAdd, Int.reduceSub, Int.reduceMul, Int.reduceNeg, Int.reduceEq, Int.reduceLT, Int.reduceLE, Int.reduceNe, reduceIte, true_and, and_true, false_and, and_false, if_true, if_false, ne_eq, not_true_eq_false, not_false_eq_true]
      · refine ⟨σ, ?_, fun a i _ => rfl, by rw [hkeep q hq (by omega)]; exact h⟩
        simp (disch := omega) only [z_E105, z_B105_71, h31, if_neg, if_pos, e1, z_fdC, z_pdC, z_adC, z_sdC, z_lkC, z_ndC, z_gdC, z_mdC, z_cI_some', z_cV_some', z_w_ok, Int.reduceAdd, Int.reduceSub, Int.reduceMul, Int.reduceNeg, Int.reduceEq, Int.reduceLT, Int.reduceLE, Int.reduceNe, reduceIte, true_and, and_true, false_and, and_false, if_true, if_false, ne_eq, not_true_eq_false, not_false_eq_true]
theorem z_opl_app {msk pn : List Int → Int} {p : List Int} : ∀ {V : List (List Int)} {op : z_Opt}, z_opl msk pn (V ++ [p]) op = z_ins (z_opl msk pn V op) (msk p) (pn p, z_rnk p)
  | [], _ => rfl
  | l :: V, op => z_opl_app (V := V)
/-- a way's pains but for tolls: no roads: those of staying at home -/
def z_pnf (X : z_S) (j w : Int) (l : List Int) : Int := if l = [] then (if X 15 j < 0 then 0 else X 15 j) else z_sml (X 3) l + w * z_sml (X 4) l
theorem z_pnf_rng {X : z_S} (hw : z_wf X) {j w : Int} {l : List Int} (hj : 0 ≤ j ∧ j < X 0 2) (hw9 : 0 ≤ w ∧ w ≤ 9) (hl : ∀ r ∈ l, 0 ≤ r ∧ r < X 0 0) (h7 : l.length ≤ 7) : 0 ≤ z_pnf X j w l ∧ z_pnf X j w l ≤ 1260 := by
  have hR := hw.2.2.2.2.2.2.2.1
  have hJ := (hw.2.2.2.2.2.2.2.2.2.2.2.2.2.1 j hj.1 hj.2).2.2.2.2.2.2.2.1
  have hc := z_sml_rng (f := X 3) (b := 99) (l := l) (fun x hx => (hR x (hl x hx).1 (hl x hx).2).2.2.2.1)
  have hh := z_sml_rng (f := X 4) (b := 9) (l := l) (fun x hx => (hR x (hl x hx).1 (hl x hx).2).2.2.2.2.1)
  have hm := z_mul_rng hw9.1 hw9.2 hh.1 (show z_sml (X 4) l ≤ 63 by omega)
  unfold z_pnf
  (repeat' split) <;> omega
/-- what the walk leaves alone -/
def c_fr (f b : Int) (σ σ' : z_S) : Prop := ∀ a i, a ≠ 47 → (a ≠ 53 ∧ a ≠ 54) ∨ i < f * 32 ∨ b * 32 ≤ i → σ' a i = σ a i
theorem c_fr_refl {f b : Int} {σ : z_S} : c_fr f b σ σ := fun _ _ _ _ => rfl
theorem c_fr_trans {f b : Int} {σ σ' σ'' : z_S} (h : c_fr f b σ σ') (h' : c_fr f b σ' σ'') : c_fr f b σ σ'' := fun a i h1 h2 => (h' a i h1 h2).trans (h a i h1 h2)
theorem c_fr_off {f b : Int} {σ σ' : z_S} (h : c_fr f b σ σ') : z_off 47 54 σ σ' := fun a i ha => h a i (by omega) (by omega)
theorem c_fr_47 {f b : Int} {σ σ' : z_S} (h : z_off 47 47 σ σ') : c_fr f b σ σ' := fun a i ha _ => h a i (by omega)
section
variable {σ0 σ X : z_S} {L s j f b : Int} {gw : Int → Int}
/-- a walk's world: what stood ahead of it, whose goers they are -/
def c_wd (σ0 X : z_S) (L s j f b : Int) (gw : Int → Int) : Prop := (L = 6 ∨ L = 26) ∧ z_wf X ∧ c_land σ0 L X ∧ c_shut σ0 (L + 1) s ∧ (0 ≤ j ∧ j < X 0 2) ∧ (0 ≤ f ∧ f ≤ b ∧ b ≤ 48) ∧ ∀ g, f ≤ g → g < b → σ0 49 g = gw g ∧ 0 ≤ gw g ∧ gw g ≤ 9
/-- in the walk: behind the roads p, the ways A told -/
def c_wk (σ0 σ X : z_S) (L j f b : Int) (gw : Int → Int) (p : List Int) (seen : Int) (A : List (List Int)) : Prop := c_fr f b σ0 σ ∧ c_tr σ X L j p seen A f b ∧ ∀ g, f ≤ g → g < b → c_opt σ g (z_opl (z_msk X) (z_pnf X j (gw g)) (A.take 201) (fun _ => none))
theorem z_opl_pos {X : z_S} {V : List (List Int)} {j w m : Int} {q : Int × Int} (hw : z_wf X) (hj : 0 ≤ j ∧ j < X 0 2) (hw9 : 0 ≤ w ∧ w ≤ 9) (hV : ∀ l ∈ V, (∀ r ∈ l, 0 ≤ r ∧ r < X 0 0) ∧ l.length ≤ 7) (hq : z_opl (z_msk X) (z_pnf X j w) V (fun _ => none) m = some q) : 0 ≤ q.1 := by
  rcases z_opl_chr0 (msk := z_msk X) (pn := z_pnf X j w) V m with ⟨h, -⟩ | ⟨l, hl, -, h, -⟩
  · rw [h] at hq; cases hq
  · rw [h] at hq; cases hq
    exact (z_pnf_rng hw hj hw9 (hV l hl).1 (hV l hl).2).1
/-- Goers.arrive -/
theorem c_arrive (hwd : c_wd σ0 X L s j f b gw) {p : List Int} {seen : Int} {A : List (List Int)} (hk : c_wk σ0 σ X L j f b gw p seen A) (hA : A.length ≤ 200) (hAV : ∀ l ∈ A, (∀ r ∈ l, 0 ≤ r ∧ r < X 0 0) ∧ l.length ≤ 7) (hp : (∀ r ∈ p, 0 ≤ r ∧ r < X 0 0) ∧ p.length ≤ 7) (hne : p ≠ []) (d : Nat) :
    ∃ σ', z_ev z_hcC (d + 2) 104 [z_R 46, z_R 47, z_I p.length] z_hdC σ = some (z_U, z_hdC, σ') ∧ c_wk σ0 σ' X L j f b gw p seen (A ++ [p]) := by
  obtain ⟨hL, hw, hl, hs, hj, hfb, hgw⟩ := hwd
  obtain ⟨hf, ⟨t0, t1, t2, t3, t4, t5, t6, t7, t8, t9, t10⟩, hO⟩ := hk
  have htk : A.take 201 = A := List.take_of_length_le (by omega)
  have htk2 : (A ++ [p]).take 201 = A ++ [p] := List.take_of_length_le (by rw [List.length_append, List.length_singleton]; omega)
  have hn := hw.1
  have hR := hw.2.2.2.2.2.2.2.1
  rw [htk] at t4 hO
  have hc := z_sml_rng (f := X 3) (b := 99) (l := p) (fun x hx => (hR x (hp.1 x hx).1 (hp.1 x hx).2).2.2.2.1)
  have hh := z_sml_rng (f := X 4) (b := 9) (l := p) (fun x hx => (hR x (hp.1 x hx).1 (hp.1 x hx).2).2.2.2.2.1)
  have hdg : z_dgs p := fun x hx => by have := hp.1 x hx; omega
  have hrk := z_rnk_rng hdg hp.2
  have hmk := z_msk_rng hw p
  have hor : z_or (z_shl (p.length : Int) 28) (z_pkd p) = z_rnk p := by
    have hp28 : (((2 ^ (28 : Int).toNat : Nat) : Int)) = 268435456 := rfl
    rw [z_or_shift (by omega) (by omega) (by omega) hrk.2.2.1 (by rw [hp28]; omega) (by rw [hp28]; omega), hp28]
    rfl
  let σ1 := z_upd σ 47 4 ((A.length : Int) + 1)
  have hbf : ((b - f).toNat : Int) = b - f := by omega
  obtain ⟨σ2, e2, o2, f2⟩ := z_for (fun (i : Nat) (x : z_S) => z_go (z_ev z_hcC (d + 1)) z_hcC 104 15 [z_R 46, z_R 47, z_I p.length, z_I (f + i)] [] z_hdC x) (fun x => some (z_U, z_hdC, x))
    (fun i x => (∀ a k, (a ≠ 53 ∧ a ≠ 54) ∨ k < f * 32 ∨ b * 32 ≤ k → x a k = σ1 a k) ∧ ∀ g, f ≤ g → g < b → c_opt x g (z_opl (z_msk X) (z_pnf X j (gw g)) (if g < f + i then A ++ [p] else A) (fun _ => none))) (b - f).toNat (s := σ1)
    ⟨fun a k _ => rfl, fun g g0 g1 => by
      rw [if_neg (by omega)]
      exact c_opt_same (hO g g0 g1) (fun m m0 m1 => by show z_upd σ 47 4 _ 53 _ = _ ∧ z_upd σ 47 4 _ 54 _ = _; rw [z_upd_ne (by omega), z_upd_ne (by omega)]; exact ⟨rfl, rfl⟩)⟩
    (fun i x hi ⟨ho, hx⟩ => by
      have g0 : f ≤ f + (i : Int) := by omega
      have g1 : f + (i : Int) < b := by omega
      obtain ⟨w1, w2, w3⟩ := hgw _ g0 g1
      have e49 : x 49 (f + i) = gw (f + i) := by
        rw [ho _ _ (by omega)]
        show z_upd σ 47 4 _ 49 _ = _
        rw [z_upd_ne (by omega), hf _ _ (by omega) (by omega)]; exact w1
      have e47 : ∀ k, k ≠ 4 → x 47 k = σ 47 k := fun k hk => by
        rw [ho _ _ (by omega)]
        show z_upd σ 47 4 _ 47 k = _
        rw [z_upd_ne (by omega)]
      have hx0 := hx _ g0 g1
      rw [if_neg (by omega)] at hx0
      have hmw := z_mul_rng w2 w3 hh.1 (show z_sml (X 4) p ≤ 63 by omega)
      obtain ⟨x', k1, k2, k3⟩ := c_offer (σ := x) (d) (g := f + i) (m := z_msk X p) (pain := z_sml (X 3) p + gw (f + i) * z_sml (X 4) p) (order := z_rnk p) hx0 (by omega) ⟨hmk.1, hmk.2.1⟩ (fun q hq => z_opl_pos hw hj ⟨w2, w3⟩ hAV hq)
      have q6 := e47 6 (by omega)
      have q7 := e47 7 (by omega)
      have q8 := e47 8 (by omega)
      have q9 := e47 9 (by omega)
      have q10 := e47 10 (by omega)
      refine ⟨x', ?_, fun a k hak => by rw [k2 _ _ (by omega)]; exact ho a k hak, fun g h0 h1 => ?_⟩
      · rw [z_B104_15]
        simp (disch := omega) only [if_neg, if_pos, q6, q7, q8, q9, q10, t6, t7, t8, t9, t10, e49, hor, k1, z_fdC, z_pdC, z_adC, z_sdC, z_lkC, z_ndC, z_gdC, z_mdC, z_cI_some', z_cV_some', z_w_ok, Int.reduceAdd, Int.reduceSub, Int.reduceMul, Int.reduceNeg, Int.reduceEq, Int.reduceLT, Int.reduceLE, Int.reduceNe, reduceIte, true_and, and_true, false_and, and_false, if_true, if_false, ne_eq, not_true_eq_false, not_false_eq_true]
        rw [z_ns, Int.add_assoc]
      · by_cases hg : g = f + (i : Int)
        · subst hg
          rw [if_pos (by omega), z_opl_app]
          have : z_pnf X j (gw (f + i)) p = z_sml (X 3) p + gw (f + i) * z_sml (X 4) p := if_neg hne
          rw [this]
          exact k3
        · have hsame := c_opt_same (σ' := x') (hx g h0 h1) (fun m m0 m1 => ⟨k2 _ _ (by omega), k2 _ _ (by omega)⟩)
          by_cases hlt : g < f + (i : Int)
          · rw [if_pos (by omega)]; rw [if_pos hlt] at hsame; exact hsame
          · rw [if_neg (by omega)]; rw [if_neg hlt] at hsame; exact hsame)
    (fun x ⟨ho, _⟩ => by
      have q6 : x 47 6 = b := by
        rw [ho _ _ (by omega)]
        show z_upd σ 47 4 _ 47 6 = _
        rw [z_upd_ne (by omega)]; exact t6
      rw [z_B104_15]
      simp (disch := omega) only [if_pos, q6, z_fdC, z_pdC, z_adC, z_sdC, z_lkC, z_ndC, z_gdC, z_mdC, z_cI_some', z_cV_some', z_w_ok, Int.reduceAdd, Int.reduceSub, Int.reduceMul, Int.reduceNeg, Int.reduceEq, Int.reduceLT, Int.reduceLE, Int.reduceNe, reduceIte, true_and, and_true, false_and, and_false, if_true, if_false, ne_eq, not_true_eq_false, not_false_eq_true])
  have e47 : ∀ k, k ≠ 4 → σ2 47 k = σ 47 k := fun k hk => by
    rw [o2 _ _ (by omega)]
    show z_upd σ 47 4 _ 47 k = _
    rw [z_upd_ne (by omega)]
  refine ⟨σ2, ?_, fun a i ha hi => ?_, ⟨by rw [e47 _ (by omega)]; exact t0, by rw [e47 _ (by omega)]; exact t1, by rw [e47 _ (by omega)]; exact t2, by rw [e47 _ (by omega)]; exact t3, ?_, by rw [e47 _ (by omega)]; exact t5, by rw [e47 _ (by omega)]; exact t6, by rw [e47 _ (by omega)]; exact t7, by rw [e47 _ (by omega)]; exact t8, by rw [e47 _ (by omega)]; exact t9, by rw [e47 _ (by omega)]; exact t10⟩, fun g g0 g1 => ?_⟩
  · rw [show f + ((0 : Nat) : Int) = f by omega] at e2
    rw [← e2]
    have e : z_upd σ 47 4 ((A.length : Int) + 1) 47 5 = f := by rw [z_upd_ne (by omega)]; exact t5
    simp (disch := omega) only [z_E104, t4, e, z_fdC, z_pdC, z_adC, z_sdC, z_lkC, z_ndC, z_gdC, z_mdC, z_cI_some', z_cV_some', z_w_ok, Int.reduceAdd, Int.reduceSub, Int.reduceMul, Int.reduceNeg, Int.reduceEq, Int.reduceLT, Int.reduceLE, Int.reduceNe, reduceIte, true_and, and_true, false_and, and_false, if_true, if_false, ne_eq, not_true_eq_false, not_false_eq_true]
    rfl
  · rw [o2 _ _ (by omega)]
    show z_upd σ 47 4 _ a i = _
    rw [z_upd_ne (by omega)]; exact hf a i ha hi
  · rw [o2 _ _ (by omega), htk2, List.length_append, List.length_singleton]
    exact z_upd_same
  · have := f2 g g0 g1
    rw [if_pos (by omega)] at this
    rw [htk2]; exact this
theorem z_wf_K {X : z_S} (hw : z_wf X) {j : Int} (hj : 0 ≤ j ∧ j < X 0 2) : 0 ≤ X 14 j ∧ X 14 j ≤ 14 := (hw.2.2.2.2.2.2.2.2.2.2.2.2.2.1 j hj.1 hj.2).2.2.2.2.2.2.1
/-- the roads that goers of j know are those below -/
def z_K (X : z_S) (j : Int) : Nat := (if X 0 0 < X 14 j then X 0 0 else X 14 j).toNat
theorem z_K_le {X : z_S} (hw : z_wf X) {j : Int} (hj : 0 ≤ j ∧ j < X 0 2) : (z_K X j : Int) ≤ X 0 0 ∧ (z_K X j : Int) = (if X 0 0 < X 14 j then X 0 0 else X 14 j) := by
  have h1 := z_wf_K hw hj
  have h2 := hw.1
  unfold z_K
  split <;> omega
theorem c_wk_congr {p : List Int} {seen : Int} {A A' : List (List Int)} (h : c_wk σ0 σ X L j f b gw p seen A) (e : A.take 201 = A'.take 201) : c_wk σ0 σ X L j f b gw p seen A' := by
  unfold c_wk c_tr at *
  rw [← e]
  exact h
/-- Goers.walk -/
theorem c_walk (hwd : c_wd σ0 X L s j f b gw) (d : Nat) : ∀ (n : Nat) {σ : z_S} {p : List Int} {c seen : Int} {A : List (List Int)}, c_wk σ0 σ X L j f b gw p seen A → A.length ≤ 200 → (∀ l ∈ A, (∀ r ∈ l, 0 ≤ r ∧ r < X 0 0) ∧ l.length ≤ 7) → (∀ r ∈ p, (0 ≤ r ∧ r < X 0 0) ∧ z_bt seen (X 1 r) = true ∧ z_bt seen (X 2 r) = true) → p.length + n = 7 → (0 ≤ seen ∧ seen < 256) → (p = [] → c ≠ X 9 j) → z_bt seen c = true →
    ∃ σ', z_ev z_hcC (d + n + 5) 103 [z_R 46, z_R 47, z_I c, z_I p.length] z_hdC σ = some (z_U, z_hdC, σ') ∧ c_wk σ0 σ' X L j f b gw p seen (A ++ (z_dfs X s (X 9 j) (z_K X j) n c seen).map (fun l => p ++ l)) := by
  intro n
  induction n with
  | zero =>
    intro σ p c seen A hk hA hAV hp hlen hse hpc hcs
    have hk0 := hk
    have hwd0 := hwd
    obtain ⟨hL, hw, hl, hs, hj, hfb, hgw⟩ := hwd
    obtain ⟨hf, ht, hO⟩ := hk
    have t0 := ht.1
    have t1 := ht.2.1
    have t2 := ht.2.2.1
    have hnr := (c_land_off hL (c_fr_off hf) (by omega) hl).1
    by_cases hc : c = X 9 j
    · obtain ⟨σ', k1, k2⟩ := c_arrive hwd0 hk0 hA hAV ⟨fun r hr => (hp r hr).1, by omega⟩ (fun e => hpc e hc) (d + 2)
      refine ⟨σ', ?_, ?_⟩
      · simp (disch := omega) only [z_E103, z_E1002, t1, hc, k1, z_fdC, z_pdC, z_adC, z_sdC, z_lkC, z_ndC, z_gdC, z_mdC, z_cI_some', z_cV_some', z_w_ok, Int.reduceAdd, Int.reduceSub, Int.reduceMul, Int.reduceNeg, Int.reduceEq, Int.reduceLT, Int.reduceLE, Int.reduceNe, reduceIte, true_and, and_true, false_and, and_false, if_true, if_false, ne_eq, not_true_eq_false, not_false_eq_true]
      · unfold z_dfs
        rw [if_pos hc]
        simp only [List.map_cons, List.map_nil, List.append_nil]
        exact k2
    · refine ⟨σ, ?_, ?_⟩
      · have hne : c ≠ σ 47 1 := by rw [t1]; exact hc
        have h7 : (7 : Int) ≤ p.length := by omega
        have hK := z_K_le hw hj
        have key : ∀ x4 : Int, z_go (z_ev z_hcC (d + 0 + 4)) z_hcC 103 24 [z_R 46, z_R 47, z_I c, z_I p.length, z_I x4, z_I 0, z_U] [] z_hdC σ = some (z_U, z_hdC, σ) := fun x4 => by
          rw [z_B103_24]
          by_cases hx : x4 ≤ 0
          · rw [if_pos hx]
          · simp (disch := omega) only [z_E1003, if_neg, if_pos, z_fdC, z_pdC, z_adC, z_sdC, z_lkC, z_ndC, z_gdC, z_mdC, z_cI_some', z_cV_some', z_w_ok, Int.reduceAdd, Int.reduceSub, Int.reduceMul, Int.reduceNeg, Int.reduceEq, Int.reduceLT, Int.reduceLE, Int.reduceNe, reduceIte, true_and, and_true, false_and, and_false, if_true, if_false, ne_eq, not_true_eq_false, not_false_eq_true]
        simp (disch := omega) only [z_E103, z_E1002, z_E1004, if_pos, if_neg, hne, t0, c_LC hL, z_fdC, z_pdC, z_adC, z_sdC, z_lkC, z_ndC, z_gdC, z_mdC, z_cI_some', z_cV_some', z_w_ok, Int.reduceAdd, Int.reduceSub, Int.reduceMul, Int.reduceNeg, Int.reduceEq, Int.reduceLT, Int.reduceLE, Int.reduceNe, reduceIte, true_and, and_true, false_and, and_false, if_true, if_false, ne_eq, not_true_eq_false, not_false_eq_true]
        exact key _
      · unfold z_dfs
        rw [if_neg hc]
        simp only [List.map_nil, List.append_nil]
        exact hk0
  | succ n ih =>
    intro σ p c seen A hk hA hAV hp hlen hse hpc hcs
    have hk0 := hk
    have hwd0 := hwd
    obtain ⟨hL, hw, hl, hs, hj, hfb, hgw⟩ := hwd
    obtain ⟨hf, ht, hO⟩ := hk
    have t0 := ht.1
    have t1 := ht.2.1
    have t2 := ht.2.2.1
    have hn14 := hw.1
    have hR := hw.2.2.2.2.2.2.2.1
    have hnr := (c_land_off hL (c_fr_off hf) (by omega) hl).1
    by_cases hc : c = X 9 j
    · obtain ⟨σ', k1, k2⟩ := c_arrive hwd0 hk0 hA hAV ⟨fun r hr => (hp r hr).1, by omega⟩ (fun e => hpc e hc) (d + n + 1 + 2)
      refine ⟨σ', ?_, ?_⟩
      · rw [show d + (n + 1) + 5 = d + n + 1 + 2 + 2 + 1 by omega]
        simp (disch := omega) only [z_E103, z_E1002, t1, hc, k1, z_fdC, z_pdC, z_adC, z_sdC, z_lkC, z_ndC, z_gdC, z_mdC, z_cI_some', z_cV_some', z_w_ok, Int.reduceAdd, Int.reduceSub, Int.reduceMul, Int.reduceNeg, Int.reduceEq, Int.reduceLT, Int.reduceLE, Int.reduceNe, reduceIte, true_and, and_true, false_and, and_false, if_true, if_false, ne_eq, not_true_eq_false, not_false_eq_true]
      · unfold z_dfs
        rw [if_pos hc]
        simp only [List.map_cons, List.map_nil, List.append_nil]
        exact k2
    · have hne : c ≠ σ 47 1 := by rw [t1]; exact hc
      have hK := z_K_le hw hj
      let G : Nat → List (List Int) := fun r => if z_can X s seen c r then (z_dfs X s (X 9 j) (z_K X j) n (z_nx X r c) (z_sn seen (z_nx X r c))).map (fun l => (r : Int) :: l) else []
      let B : Nat → List (List Int) := fun r => A ++ ((List.range r).flatMap G).map (fun l => p ++ l)
      have hB0 : B 0 = A := by show A ++ _ = A; simp
      have hBs : ∀ r, B (r + 1) = B r ++ (G r).map (fun l => p ++ l) := fun r => by
        show A ++ ((List.range (r + 1)).flatMap G).map _ = A ++ ((List.range r).flatMap G).map _ ++ _
        rw [List.range_succ, List.flatMap_append, List.map_append, List.append_assoc]
        simp
      have hBK : B (z_K X j) = A ++ ((List.range (z_K X j)).flatMap G).map (fun l => p ++ l) := rfl
      clear_value B
      have hdn : d + (n + 1) + 5 = (d + n + 5) + 1 := by omega
      have loop : ∀ (k r : Nat) (σ : z_S) (u : z_V), r + k = z_K X j → c_wk σ0 σ X L j f b gw p seen (B r) → (∀ l ∈ B r, (∀ r ∈ l, 0 ≤ r ∧ r < X 0 0) ∧ l.length ≤ 7) → ∃ σ', z_go (z_ev z_hcC (d + n + 5)) z_hcC 103 24 [z_R 46, z_R 47, z_I c, z_I p.length, z_I (z_K X j), z_I r, u] [] z_hdC σ = some (z_U, z_hdC, σ') ∧ c_wk σ0 σ' X L j f b gw p seen (B (z_K X j)) := by
        intro k
        induction k with
        | zero =>
          intro r σ u hr hk hV
          have : r = z_K X j := by omega
          subst this
          refine ⟨σ, ?_, hk⟩
          rw [z_B103_24]
          simp (disch := omega) only [if_pos, z_fdC, z_pdC, z_adC, z_sdC, z_lkC, z_ndC, z_gdC, z_mdC, z_cI_some', z_cV_some', z_w_ok, Int.reduceAdd, Int.reduceSub, Int.reduceMul, Int.reduceNeg, Int.reduceEq, Int.reduceLT, Int.reduceLE, Int.reduceNe, reduceIte, true_and, and_true, false_and, and_false, if_true, if_false, ne_eq, not_true_eq_false, not_false_eq_true]
        | succ k ihk =>
          intro r σ u hr hk hV
          obtain ⟨hf, ht, hO⟩ := id hk
          have t4 := ht.2.2.2.2.1
          have hlS := c_land_off hL (c_fr_off hf) (by omega) hl
          have hsS := c_shut_off hL (c_fr_off hf) (by omega) hs
          have r0 : (0 : Int) ≤ (r : Int) := by omega
          have r1 : (r : Int) < X 0 0 := by omega
          by_cases hti : 200 < (B r).length
          · refine ⟨σ, ?_, c_wk_congr hk ?_⟩
            · rw [z_B103_24]
              rw [List.length_take] at t4
              simp (disch := omega) only [z_E1003, if_neg, if_pos, t4, z_fdC, z_pdC, z_adC, z_sdC, z_lkC, z_ndC, z_gdC, z_mdC, z_cI_some', z_cV_some', z_w_ok, Int.reduceAdd, Int.reduceSub, Int.reduceMul, Int.reduceNeg, Int.reduceEq, Int.reduceLT, Int.reduceLE, Int.reduceNe, reduceIte, true_and, and_true, false_and, and_false, if_true, if_false, ne_eq, not_true_eq_false, not_false_eq_true]
            · have hmono : ∀ m, ∃ C, B (r + m) = B r ++ C := fun m => by
                induction m with
                | zero => exact ⟨[], by simp⟩
                | succ m ihm =>
                  obtain ⟨C, hC⟩ := ihm
                  exact ⟨C ++ (G (r + m)).map (fun l => p ++ l), by rw [← Nat.add_assoc, hBs, hC, List.append_assoc]⟩
              obtain ⟨C, hC⟩ := hmono (z_K X j - r)
              rw [show r + (z_K X j - r) = z_K X j by omega] at hC
              rw [hC, List.take_append_of_le_length (by omega)]
          · have hah := c_ahead hL hw hlS hsS ht hse (d + n + 2) (c := c) r0 r1
            rw [List.length_take] at t4
            by_cases hcan : z_can X s seen c r = true
            · have hcan0 := hcan
              rw [if_pos hcan] at hah
              unfold z_can at hcan
              rw [Bool.and_eq_true, Bool.and_eq_true, decide_eq_true_eq, decide_eq_true_eq, Bool.not_eq_true'] at hcan
              obtain ⟨h1, h2, h3⟩ := hcan
              have hRr := hR r r0 r1
              have hnx7 : z_nx X r c ≤ 7 ∧ ((X 1 r = c ∧ z_nx X r c = X 2 r) ∨ (X 2 r = c ∧ z_nx X r c = X 1 r)) := by
                unfold z_nx at h2 ⊢
                (repeat' split) <;> first | omega | (split at h2 <;> first | omega | (split at h2 <;> omega))
              have hrp : (r : Int) ∉ p := fun hx => by
                have := (hp r hx).2
                rcases hnx7.2 with ⟨-, e⟩ | ⟨-, e⟩
                · rw [e, this.2] at h3; cases h3
                · rw [e, this.1] at h3; cases h3
              have hsn := z_sn_rng hse (k := z_nx X r c) ⟨h2, by omega⟩
              have hsb := fun j hj => z_sn_bt hse (k := z_nx X r c) (j := j) ⟨h2, by omega⟩ hj
              obtain ⟨σ1, a1, a2, a3⟩ := c_step hL hw hlS ht (by omega) (fun x hx => (hp x hx).1) (d + n + 2) (c := z_nx X r c) r0 r1 hrp
              have hk1 : c_wk σ0 σ1 X L j f b gw (p ++ [(r : Int)]) (z_sn seen (z_nx X r c)) (B r) := ⟨c_fr_trans hf (c_fr_47 a2), a3, fun g g0 g1 => c_opt_same (hO g g0 g1) (fun m m0 m1 => ⟨z_oat a2 (by omega), z_oat a2 (by omega)⟩)⟩
              obtain ⟨σ2, b1, b2⟩ := ih hk1 (by omega) hV (fun x hx => by
                rcases List.mem_append.mp hx with hx | hx
                · obtain ⟨q1, q2, q3⟩ := hp x hx
                  have hRx := hR x q1.1 q1.2
                  exact ⟨q1, by rw [hsb _ (by omega), q2]; rfl, by rw [hsb _ (by omega), q3]; rfl⟩
                · rw [List.mem_singleton] at hx
                  subst hx
                  refine ⟨⟨r0, r1⟩, ?_, ?_⟩
                  · rw [hsb _ (by omega)]
                    rcases hnx7.2 with ⟨e1, e2⟩ | ⟨e1, e2⟩
                    · rw [e1, hcs]; rfl
                    · simp [e2]
                  · rw [hsb _ (by omega)]
                    rcases hnx7.2 with ⟨e1, e2⟩ | ⟨e1, e2⟩
                    · simp [e2]
                    · rw [e1, hcs]; rfl) (by rw [List.length_append, List.length_singleton]; omega) hsn (fun e => absurd e (by simp)) (by rw [hsb _ h2]; simp)
              have hB1 : B r ++ (z_dfs X s (X 9 j) (z_K X j) n (z_nx X r c) (z_sn seen (z_nx X r c))).map (fun l => (p ++ [(r : Int)]) ++ l) = B (r + 1) := by
                rw [hBs]
                show _ = _ ++ (if z_can X s seen c r then _ else _ : List (List Int)).map _
                rw [if_pos hcan0, List.map_map]
                congr 1
                refine List.map_congr_left (fun l _ => ?_)
                simp
              rw [hB1] at b2
              have hl2 := c_land_off hL (c_fr_off b2.1) (by omega) hl
              obtain ⟨σ3, c1, c2, c3⟩ := c_back hL hw hl2 b2.2.1 (by omega) (fun x hx => (hp x hx).1) (d + n + 2) r0 r1 hrp hse ⟨h2, by omega⟩ h3
              have hk3 : c_wk σ0 σ3 X L j f b gw p seen (B (r + 1)) := ⟨c_fr_trans b2.1 (c_fr_47 c2), c3, fun g g0 g1 => c_opt_same (b2.2.2 g g0 g1) (fun m m0 m1 => ⟨z_oat c2 (by omega), z_oat c2 (by omega)⟩)⟩
              obtain ⟨σ4, d1, d2⟩ := ihk (r + 1) σ3 (z_I (z_nx X r c)) (by omega) hk3 (fun l hl' => by
                rw [hBs] at hl'
                rcases List.mem_append.mp hl' with h | h
                · exact hV l h
                · rw [List.mem_map] at h
                  obtain ⟨l1, h, rfl⟩ := h
                  have h5 : l1 ∈ (if z_can X s seen c r then (z_dfs X s (X 9 j) (z_K X j) n (z_nx X r c) (z_sn seen (z_nx X r c))).map (fun l => (r : Int) :: l) else [] : List (List Int)) := h
                  rw [if_pos hcan0, List.mem_map] at h5
                  obtain ⟨l2, h6, rfl⟩ := h5
                  obtain ⟨m1, m2, -⟩ := z_dfs_mem h6
                  refine ⟨fun x hx => ?_, by rw [List.length_append, List.length_cons]; omega⟩
                  rcases List.mem_append.mp hx with hx | hx
                  · exact (hp x hx).1
                  · rcases List.mem_cons.mp hx with rfl | hx
                    · exact ⟨r0, r1⟩
                    · have := m2 x hx; omega)
              refine ⟨σ4, ?_, d2⟩
              rw [← d1, z_B103_24]
              rw [List.length_append, List.length_singleton, z_ns] at b1
              simp (disch := omega) only [z_E1003, if_neg, if_pos, t4, hah, a1, b1, c1, z_ns, z_fdC, z_pdC, z_adC, z_sdC, z_lkC, z_ndC, z_gdC, z_mdC, z_cI_some', z_cV_some', z_w_ok, Int.reduceAdd, Int.reduceSub, Int.reduceMul, Int.reduceNeg, Int.reduceEq, Int.reduceLT, Int.reduceLE, Int.reduceNe, reduceIte, true_and, and_true, false_and, and_false, if_true, if_false, ne_eq, not_true_eq_false, not_false_eq_true]
            · rw [if_neg hcan] at hah
              have hB1 : B (r + 1) = B r := by
                rw [hBs]
                show _ ++ (if z_can X s seen c r then _ else _ : List (List Int)).map _ = _
                rw [if_neg hcan]
                simp
              obtain ⟨σ4, d1, d2⟩ := ihk (r + 1) σ (z_I (-1)) (by omega) (by rw [hB1]; exact hk) (by rw [hB1]; exact hV)
              refine ⟨σ4, ?_, d2⟩
              rw [← d1, z_B103_24]
              simp (disch := omega) only [z_E1003, if_neg, if_pos, t4, hah, z_ns, z_fdC, z_pdC, z_adC, z_sdC, z_lkC, z_ndC, z_gdC, z_mdC, z_cI_some', z_cV_some', z_w_ok, Int.reduceAdd, Int.reduceSub, Int.reduceMul, Int.reduceNeg, Int.reduceEq, Int.reduceLT, Int.reduceLE, Int.reduceNe, reduceIte, true_and, and_true, false_and, and_false, if_true, if_false, ne_eq, not_true_eq_false, not_false_eq_true]
      obtain ⟨σ', e1, e2⟩ := loop (z_K X j) 0 σ z_U (by omega) (by rw [hB0]; exact hk0) (by rw [hB0]; exact hAV)
      refine ⟨σ', ?_, ?_⟩
      · rw [hdn]
        have hmin : (if σ (L + 1) 0 < σ 47 2 then σ (L + 1) 0 else σ 47 2) = (z_K X j : Int) := by rw [t2, hnr, hK.2]
        simp (disch := omega) only [z_E103, z_E1002, z_E1004, if_pos, if_neg, hne, t0, c_LC hL, hmin, z_fdC, z_pdC, z_adC, z_sdC, z_lkC, z_ndC, z_gdC, z_mdC, z_cI_some', z_cV_some', z_w_ok, Int.reduceAdd, Int.reduceSub, Int.reduceMul, Int.reduceNeg, Int.reduceEq, Int.reduceLT, Int.reduceLE, Int.reduceNe, reduceIte, true_and, and_true, false_and, and_false, if_true, if_false, ne_eq, not_true_eq_false, not_false_eq_true]
        exact e1
      · have : (z_dfs X s (X 9 j) (z_K X j) (n + 1) c seen) = (List.range (z_K X j)).flatMap G := by
          show (if c = X 9 j then _ else _) = _
          rw [if_neg hc]
        rw [this, ← hBK]
        exact e2
end
