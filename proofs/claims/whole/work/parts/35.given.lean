/-! Study: given, above. -/
theorem z_forp {R : Type} (F : Nat → R) (r : R) (n : Nat) (P : Nat → Prop) (step : ∀ i, i < n → (∀ j, j < i → P j) → (F i = F (i + 1) ∧ P i) ∨ F i = r) (stop : (∀ j, j < n → P j) → F n = r) : F 0 = r := by
  have go : ∀ (j k : Nat), k + j = n → (∀ i, i < k → P i) → F k = r := by
    intro j
    induction j with
    | zero =>
      intro k hk hP
      have : k = n := by omega
      subst this
      exact stop hP
    | succ j ih =>
      intro k hk hP
      rcases step k (by omega) hP with ⟨e, h⟩ | e
      · rw [e]
        refine ih (k + 1) (by omega) (fun i hi => ?_)
        by_cases h2 : i = k
        · subst h2; exact h
        · exact hP i (by omega)
      · exact e
  exact go n 0 (by omega) (fun i hi => by omega)
/-- the greatest so far, -1 before the first -/
def z_gr (F : Nat → Int) : Nat → Int
  | 0 => -1
  | n + 1 => F (z_am F (n + 1))
theorem z_gr_new {F : Nat → Int} {n : Nat} (h : z_gr F n < F n) : z_am F (n + 1) = n ∧ z_gr F (n + 1) = F n := by
  have : z_am F (n + 1) = n := by
    cases n with
    | zero => show (if _ then _ else _) = _; split <;> rfl
    | succ n => exact z_am_new h
  exact ⟨this, by show F (z_am F (n + 1)) = _; rw [this]⟩
theorem z_gr_keep {F : Nat → Int} (hF : ∀ i, -1 ≤ F i) {n : Nat} (h : F n ≤ z_gr F n) : z_am F (n + 1) = z_am F n ∧ z_gr F (n + 1) = z_gr F n := by
  cases n with
  | zero =>
    have : z_am F 1 = 0 := by show (if _ then _ else _) = _; split <;> rfl
    refine ⟨this, ?_⟩
    show F (z_am F 1) = -1
    have h0 : F 0 ≤ -1 := h
    rw [this]
    have := hF 0
    omega
  | succ n =>
    have : z_am F (n + 1 + 1) = z_am F (n + 1) := z_am_keep h
    exact ⟨this, by show F (z_am F (n + 1 + 1)) = F (z_am F (n + 1)); rw [this]⟩
def z_ct (P : Nat → Bool) : Nat → Int
  | 0 => 0
  | n + 1 => z_ct P n + if P n then 1 else 0
theorem z_ct_rng {P : Nat → Bool} : ∀ {n : Nat}, 0 ≤ z_ct P n ∧ z_ct P n ≤ n
  | 0 => by unfold z_ct; omega
  | n + 1 => by
    have ih := z_ct_rng (P := P) (n := n)
    unfold z_ct
    split <;> omega
section
variable {σ X : z_S} {L s lean : Int} {D : z_D} {share : Int → Int}
/-- all choose as by the tolls u -/
noncomputable def z_same (D : z_D) (lean : Int) (u t : Int → Int) : Bool := @decide (∀ g, 0 ≤ g → g < D.gN → z_ch (D.op g) t lean = z_ch (D.op g) u lean) (Classical.propDecidable _)
theorem z_same_t {D : z_D} {lean : Int} {u t : Int → Int} : z_same D lean u t = true ↔ ∀ g, 0 ≤ g → g < D.gN → z_ch (D.op g) t lean = z_ch (D.op g) u lean := by unfold z_same; exact @decide_eq_true_iff _ (Classical.propDecidable _)
noncomputable def z_tin (D : z_D) (lean side : Int) (u t : Int → Int) : Int := if z_same D lean u t = true then z_brt D.op D.mn D.gN lean side t else -1
theorem c_at.brm {t : Int → Int} {mv cp : Int} (h : c_at σ X L s D lean share t mv cp) (side : Int) {k : Nat} (hk : k ≤ D.gN) : 0 ≤ z_sm k (fun g => D.mn g * z_gp D lean side t g) ∧ z_sm k (fun g => D.mn g * z_gp D lean side t g) ≤ 480000000 :=
  z_brt_rng h.rd.gn (fun g a b => by have := (h.goer a b).2.2.1; omega) (z_tcap_20 h.rd.cp.2 h.cap) hk
theorem c_at.tin {t u : Int → Int} {mv cp : Int} (h : c_at σ X L s D lean share t mv cp) (side : Int) : -1 ≤ z_tin D lean side u t ∧ z_tin D lean side u t ≤ 480000000 := by
  have := h.brm side (k := D.gN.toNat) (by have := h.rd.gn; omega)
  unfold z_tin
  split
  · unfold z_brt; unfold z_gp at this; omega
  · omega
/-- Study.takeIfAsNow -/
theorem c_takeIfAsNow {t : Int → Int} {mv cp : Int} (h : c_at σ X L s D lean share t mv cp) (d : Nat) {side : Int} {u : Int → Int} (hs : 0 ≤ side ∧ side < 32) (hn : ∀ g, 0 ≤ g → g < D.gN → σ 69 g = z_ch (D.op g) u lean) :
    z_ev z_hcC (d + 4) 903 [z_R 65, z_I side] z_hdC σ = some (z_I (z_tin D lean side u t), z_hdC, σ) := by
  have hgn := h.rd.gn
  rw [z_E903]
  refine z_forp (fun k => z_go (z_ev z_hcC (d + 3)) z_hcC 903 4 [z_R 65, z_I side, z_I (z_sm k (fun g => D.mn g * z_gp D lean side t g)), z_I k] [] z_hdC σ) _ D.gN.toNat (fun g => z_ch (D.op g) t lean = z_ch (D.op g) u lean) (fun k hk hP => ?_) (fun hP => ?_)
  · have q1 := h.choice d (g := k) (by omega) (by omega)
    have q2 := h.manyOf (d + 1) (g := k) (by omega) (by omega)
    have q3 := h.paySide (d + 2) (g := k) (side := side) (by omega) (by omega) hs
    have q4 := hn k (by omega) (by omega)
    rw [z_B903_4]
    by_cases c : z_ch (D.op k) t lean = z_ch (D.op k) u lean
    · left
      refine ⟨?_, c⟩
      have b1 := h.brm side (k := k) (by omega)
      have b2 := h.brm side (k := k + 1) (by omega)
      rw [z_sm_s] at b2
      have h1 := (h.goer (g := k) (by omega) (by omega)).2.2.1
      have h2 := h.payr (z_and (z_ch (D.op k) t lean) side)
      have h4 := z_mul_rng (by omega) h1.2 h2.1 h2.2
      rw [c] at q3 h4
      have e : z_gp D lean side t k = z_pay t (z_and (z_ch (D.op k) u lean) side) := by unfold z_gp; rw [c]
      rw [e] at b2
      simp (disch := omega) only [if_neg, if_pos, h.rd.gz, q1, q2, q3, q4, c, z_ns, z_sm_s, e, z_fdC, z_pdC, z_adC, z_sdC, z_lkC, z_ndC, z_gdC, z_mdC, z_cI_some', z_cV_some', z_w_ok, Int.reduceAdd, Int.reduceSub, Int.reduceMul, Int.reduceNeg, Int.reduceEq, Int.reduceLT, Int.reduceLE, Int.reduceNe, reduceIte, true_and, and_true, false_and, and_false, if_true, if_false, ne_eq, not_true_eq_false, not_false_eq_true]
    · right
      have e : z_tin D lean side u t = -1 := by
        unfold z_tin
        rw [if_neg (fun hx => c (z_same_t.mp hx k (by omega) (by omega)))]
      rw [e]
      simp (disch := omega) only [if_neg, if_pos, h.rd.gz, q1, q4, c, z_fdC, z_pdC, z_adC, z_sdC, z_lkC, z_ndC, z_gdC, z_mdC, z_cI_some', z_cV_some', z_w_ok, Int.reduceAdd, Int.reduceSub, Int.reduceMul, Int.reduceNeg, Int.reduceEq, Int.reduceLT, Int.reduceLE, Int.reduceNe, reduceIte, true_and, and_true, false_and, and_false, if_true, if_false, ne_eq, not_true_eq_false, not_false_eq_true]
  · have e : z_tin D lean side u t = z_sm D.gN.toNat (fun g => D.mn g * z_gp D lean side t g) := by
      unfold z_tin
      rw [if_pos (z_same_t.mpr (fun g g0 g1 => by have := hP g.toNat (by omega); rwa [Int.toNat_of_nonneg g0] at this))]
      rfl
    rw [e, z_B903_4]
    simp (disch := omega) only [if_pos, h.rd.gz, z_fdC, z_pdC, z_adC, z_sdC, z_lkC, z_ndC, z_gdC, z_mdC, z_cI_some', z_cV_some', z_w_ok, Int.reduceAdd, Int.reduceSub, Int.reduceMul, Int.reduceNeg, Int.reduceEq, Int.reduceLT, Int.reduceLE, Int.reduceNe, reduceIte, true_and, and_true, false_and, and_false, if_true, if_false, ne_eq, not_true_eq_false, not_false_eq_true]
noncomputable def z_Ti (D : z_D) (lean side mv cp : Int) (u t : Int → Int) (i : Nat) : Int := z_tin D lean side u (z_ti mv cp t i)
/-- Study.givenOf -/
theorem c_givenOf (h : c_at σ X L s D lean share (X 7) 0 (X 0 3)) (d : Nat) {w : Int} (hf : z_tot (z_side X w s) (X 0 3) ≤ 20000) :
    ∃ σ', z_ev z_hcC (d + 5) 902 [z_R 65, z_I w] z_hdC σ = some (z_I (z_gr (z_Ti D lean (z_side X w s) (z_side X w s) (X 0 3) (X 7) (X 7)) (z_tot (z_side X w s) (X 0 3))), z_hdC, σ') ∧ z_off 59 75 σ σ' ∧ c_rd σ' X L s D lean share ∧
      (0 ≤ z_gr (z_Ti D lean (z_side X w s) (z_side X w s) (X 0 3) (X 7) (X 7)) (z_tot (z_side X w s) (X 0 3)) → ∀ k : Int, 0 ≤ k → k < 5 → σ' 63 k = z_ti (z_side X w s) (X 0 3) (X 7) (z_am (z_Ti D lean (z_side X w s) (z_side X w s) (X 0 3) (X 7) (X 7)) (z_tot (z_side X w s) (X 0 3))) k) := by
  have hr := h.rd
  have hsd := hr.side (d + 1) w
  have hsr := hr.sr w
  have hgn := hr.gn
  have hcp := hr.cp
  generalize z_side X w s = side at hf hsd hsr ⊢
  have hti := z_ti_cap (mv := side) (Int.le_refl (X 0 3)) hcp.1 hr.tc
  -- now
  obtain ⟨σ1, e1, o1, f1⟩ := z_for (fun k x => z_go (z_ev z_hcC (d + 4)) z_hcC 902 14 [z_R 65, z_I w, z_I side, z_I k, z_U, z_U, z_U] [] z_hdC x) (fun x => z_cI (z_ev z_hcC (d + 4) 405 [z_R 58, z_R (L + 3), z_I side, z_I (X 0 3)] z_hdC x) (fun v h1 s2 => z_go (z_ev z_hcC (d + 4)) z_hcC 902 89 [z_R 65, z_I w, z_I side, z_I (-1), z_I v, z_I 0, z_U] [] h1 s2))
    (fun k x => z_off 69 69 σ x ∧ ∀ g : Int, 0 ≤ g → g < k → x 69 g = z_ch (D.op g) (X 7) lean) D.gN.toNat (s := σ) ⟨z_off_refl, fun g a b => by omega⟩ (fun k x hk ⟨ho, hz⟩ => by
      have ha := c_at_off ho (by omega) h
      have q1 := ha.choice (d + 1) (g := k) (by omega) (by omega)
      refine ⟨z_upd x 69 k (z_ch (D.op k) (X 7) lean), ?_, z_off_trans ho (z_off_upd (by omega) (by omega)), fun g g0 g1 => ?_⟩
      · rw [z_B902_14]
        simp (disch := omega) only [if_neg, ha.rd.gz, q1, z_ns, z_fdC, z_pdC, z_adC, z_sdC, z_lkC, z_ndC, z_gdC, z_mdC, z_cI_some', z_cV_some', z_w_ok, Int.reduceAdd, Int.reduceSub, Int.reduceMul, Int.reduceNeg, Int.reduceEq, Int.reduceLT, Int.reduceLE, Int.reduceNe, reduceIte, true_and, and_true, false_and, and_false, if_true, if_false, ne_eq, not_true_eq_false, not_false_eq_true]
      · by_cases hg : g = k
        · subst hg; exact z_upd_same
        · rw [z_upd_ne (Or.inr hg)]; exact hz g g0 (by omega)) (fun x ⟨ho, hz⟩ => by
      have hr := c_rd_off ho (by omega) hr
      rw [z_B902_14]
      simp (disch := omega) only [z_B902_54, if_pos, hr.roads, hr.capv, hr.gz, c_LC hr.hL, z_ns, z_fdC, z_pdC, z_adC, z_sdC, z_lkC, z_ndC, z_gdC, z_mdC, z_cI_some', z_cV_some', z_w_ok, Int.reduceAdd, Int.reduceSub, Int.reduceMul, Int.reduceNeg, Int.reduceEq, Int.reduceLT, Int.reduceLE, Int.reduceNe, reduceIte, true_and, and_true, false_and, and_false, if_true, if_false, ne_eq, not_true_eq_false, not_false_eq_true])
  have h1 := c_rd_off o1 (by omega) hr
  obtain ⟨σ2, e2, o2, h2⟩ := h1.begin (mv := side) (cp := X 0 3) (d + 1) h1.a5 h1.tc hsr ⟨hcp.1, Int.le_refl _⟩ (fun i => h1.tolls)
  have hF : ∀ i, -1 ≤ z_Ti D lean side side (X 0 3) (X 7) (X 7) i := fun i => by
    unfold z_Ti z_tin
    split
    · have := z_brt_rng (op := D.op) (lean := lean) (side := side) hgn (fun g a b => by have := (h.goer a b).2.2.1; omega) (z_tcap_20 hcp.2 (hti i)) (k := D.gN.toNat) (share := D.mn) (by omega)
      unfold z_brt
      omega
    · omega
  generalize hFF : z_Ti D lean side side (X 0 3) (X 7) (X 7) = F at hF ⊢
  have hFi : ∀ i, z_tin D lean side (X 7) (z_ti side (X 0 3) (X 7) i) = F i := fun i => by rw [← hFF]; rfl
  obtain ⟨u3, σ3, e3, o3, h3, f3, k3⟩ := z_foru (fun i u x => z_go (z_ev z_hcC (d + 4)) z_hcC 902 89 [z_R 65, z_I w, z_I side, z_I (z_gr F i), z_I (z_tot side (X 0 3)), z_I i, u] [] z_hdC x) (fun u x => some (z_I (z_gr F (z_tot side (X 0 3))), z_hdC, x))
    (fun i x => z_off 59 75 σ x ∧ c_at x X L s D lean share (z_ti side (X 0 3) (X 7) i) side (X 0 3) ∧ (∀ g, 0 ≤ g → g < D.gN → x 69 g = z_ch (D.op g) (X 7) lean) ∧ (0 ≤ z_gr F i → ∀ k : Int, 0 ≤ k → k < 5 → x 63 k = z_ti side (X 0 3) (X 7) (z_am F i) k)) (z_tot side (X 0 3)) (u := z_U) (s := σ2) ⟨z_off_trans (z_off_le o1 (by omega) (by omega)) (z_off_le o2 (by omega) (by omega)), h2, fun g g0 g1 => by
      rw [z_oat o2 (by omega)]; exact f1 g g0 (by omega), fun h => absurd h (by show ¬ (0 : Int) ≤ -1; omega)⟩ (fun i u x hi ⟨ho, ha, hz, hk⟩ => by
      have q1 := c_takeIfAsNow ha d hsr (u := X 7) hz
      rw [hFi] at q1
      rw [z_B902_89, if_neg (by omega)]
      by_cases c : F i ≤ z_gr F i
      · obtain ⟨g1, g2⟩ := z_gr_keep hF c
        obtain ⟨s3, n1, n2, n3⟩ := ha.next (Int.le_refl _) (d + 2)
        refine ⟨z_I (F i), s3, ?_, z_off_trans ho (z_off_le n2 (by omega) (by omega)), n3, fun g g0 g1 => by rw [z_oat n2 (by omega)]; exact hz g g0 g1, fun h k k0 k1 => ?_⟩
        · simp (disch := omega) only [if_pos, q1, c, n1, z_ns, g2, z_fdC, z_pdC, z_adC, z_sdC, z_lkC, z_ndC, z_gdC, z_mdC, z_cI_some', z_cV_some', z_w_ok, Int.reduceAdd, Int.reduceSub, Int.reduceMul, Int.reduceNeg, Int.reduceEq, Int.reduceLT, Int.reduceLE, Int.reduceNe, reduceIte, true_and, and_true, false_and, and_false, if_true, if_false, ne_eq, not_true_eq_false, not_false_eq_true]
        · rw [z_oat n2 (by omega), g1]; rw [g2] at h; exact hk h k k0 k1
      · obtain ⟨g1, g2⟩ := z_gr_new (Int.not_le.mp c)
        have e := c_keep (σ := x) (d + 3)
        have hoff : z_off 63 63 x (z_cpy x 60 0 63 0 5) := fun a b h => by rw [z_cpy_at, if_neg (by omega)]
        obtain ⟨s3, n1, n2, n3⟩ := (c_at_off hoff (by omega) ha).next (Int.le_refl _) (d + 2)
        refine ⟨z_I (F i), s3, ?_, z_off_trans ho (z_off_trans (z_off_le hoff (by omega) (by omega)) (z_off_le n2 (by omega) (by omega))), n3, fun g g0 g1 => by rw [z_oat n2 (by omega), z_oat hoff (by omega)]; exact hz g g0 g1, fun h k k0 k1 => ?_⟩
        · simp (disch := omega) only [if_neg, q1, c, e, n1, z_ns, g2, z_fdC, z_pdC, z_adC, z_sdC, z_lkC, z_ndC, z_gdC, z_mdC, z_cI_some', z_cV_some', z_w_ok, Int.reduceAdd, Int.reduceSub, Int.reduceMul, Int.reduceNeg, Int.reduceEq, Int.reduceLT, Int.reduceLE, Int.reduceNe, reduceIte, true_and, and_true, false_and, and_false, if_true, if_false, ne_eq, not_true_eq_false, not_false_eq_true]
        · rw [z_oat n2 (by omega), g1, z_cpy_at, if_pos (by omega), show 0 + (k - 0) = k by omega]
          exact ha.sets.2.2.2.2.1 k k0 k1) (fun u x _ => by
      rw [z_B902_89]
      simp (disch := omega) only [if_pos, z_fdC, z_pdC, z_adC, z_sdC, z_lkC, z_ndC, z_gdC, z_mdC, z_cI_some', z_cV_some', z_w_ok, Int.reduceAdd, Int.reduceSub, Int.reduceMul, Int.reduceNeg, Int.reduceEq, Int.reduceLT, Int.reduceLE, Int.reduceNe, reduceIte, true_and, and_true, false_and, and_false, if_true, if_false, ne_eq, not_true_eq_false, not_false_eq_true])
  refine ⟨σ3, ?_, o3, h3.rd, k3⟩
  simp (disch := omega) only [z_E902, z_B902_54, hr.roads, c_LC hr.hL, hsd, z_fdC, z_pdC, z_adC, z_sdC, z_lkC, z_ndC, z_gdC, z_mdC, z_cI_some', z_cV_some', z_w_ok, Int.reduceAdd, Int.reduceSub, Int.reduceMul, Int.reduceNeg, Int.reduceEq, Int.reduceLT, Int.reduceLE, Int.reduceNe, reduceIte, true_and, and_true, false_and, and_false, if_true, if_false, ne_eq, not_true_eq_false, not_false_eq_true]
  refine e1.trans ?_
  simp (disch := omega) only [e2, z_fdC, z_pdC, z_adC, z_sdC, z_lkC, z_ndC, z_gdC, z_mdC, z_cI_some', z_cV_some', z_w_ok, Int.reduceAdd, Int.reduceSub, Int.reduceMul, Int.reduceNeg, Int.reduceEq, Int.reduceLT, Int.reduceLE, Int.reduceNe, reduceIte, true_and, and_true, false_and, and_false, if_true, if_false, ne_eq, not_true_eq_false, not_false_eq_true]
  exact e3
/-- Study.aboveOf -/
theorem c_aboveOf (h : c_rd σ X L s D lean share) (d : Nat) {w : Int} (v : Int) (hf : z_tot (z_side X w s) (X 0 3) ≤ 20000) :
    ∃ σ', z_ev z_hcC (d + 5) 904 [z_R 65, z_I w, z_I v] z_hdC σ = some (z_I (z_ct (fun i => decide (v ≤ z_Bi D lean share (z_side X w s) (z_side X w s) (X 0 3) (X 7) i)) (z_tot (z_side X w s) (X 0 3))), z_hdC, σ') ∧ z_off 59 75 σ σ' ∧ c_rd σ' X L s D lean share := by
  have hsd := h.side (d + 1) w
  have hsr := h.sr w
  have hcp := h.cp
  generalize z_side X w s = side at hf hsd hsr ⊢
  obtain ⟨σ2, e2, o2, h2⟩ := h.begin (mv := side) (cp := X 0 3) (d + 1) h.a5 h.tc hsr ⟨hcp.1, Int.le_refl _⟩ (fun i => h.tolls)
  obtain ⟨σ3, e3, o3, h3⟩ := z_for (fun i x => z_go (z_ev z_hcC (d + 4)) z_hcC 904 48 [z_R 65, z_I w, z_I v, z_I side, z_I (z_ct (fun i => decide (v ≤ z_Bi D lean share side side (X 0 3) (X 7) i)) i), z_I (z_tot side (X 0 3)), z_I i] [] z_hdC x) (fun x => some (z_I (z_ct (fun i => decide (v ≤ z_Bi D lean share side side (X 0 3) (X 7) i)) (z_tot side (X 0 3))), z_hdC, x))
    (fun i x => z_off 59 75 σ x ∧ c_at x X L s D lean share (z_ti side (X 0 3) (X 7) i) side (X 0 3)) (z_tot side (X 0 3)) (s := σ2) ⟨z_off_le o2 (by omega) (by omega), h2⟩ (fun i x hi ⟨ho, ha⟩ => by
      have q1 := ha.brought (d + 1) hsr
      obtain ⟨s3, n1, n2, n3⟩ := ha.next (Int.le_refl _) (d + 2)
      have hc := z_ct_rng (P := fun i => decide (v ≤ z_Bi D lean share side side (X 0 3) (X 7) i)) (n := i)
      refine ⟨s3, ?_, z_off_trans ho (z_off_le n2 (by omega) (by omega)), n3⟩
      rw [z_B904_48, if_neg (by omega)]
      have e : z_ct (fun i => decide (v ≤ z_Bi D lean share side side (X 0 3) (X 7) i)) (i + 1) = z_ct (fun i => decide (v ≤ z_Bi D lean share side side (X 0 3) (X 7) i)) i + if v ≤ z_brt D.op share D.gN lean side (z_ti side (X 0 3) (X 7) i) then 1 else 0 := by
        show z_ct _ i + (if decide (v ≤ z_Bi D lean share side side (X 0 3) (X 7) i) = true then 1 else 0) = _
        simp only [decide_eq_true_eq]
        rfl
      rw [e]
      by_cases c : z_brt D.op share D.gN lean side (z_ti side (X 0 3) (X 7) i) < v
      · simp (disch := omega) only [if_pos, if_neg, q1, c, n1, z_ns, z_fdC, z_pdC, z_adC, z_sdC, z_lkC, z_ndC, z_gdC, z_mdC, z_cI_some', z_cV_some', z_w_ok, Int.reduceAdd, Int.reduceSub, Int.reduceMul, Int.reduceNeg, Int.reduceEq, Int.reduceLT, Int.reduceLE, Int.reduceNe, reduceIte, true_and, and_true, false_and, and_false, if_true, if_false, ne_eq, not_true_eq_false, not_false_eq_true]
      · simp (disch := omega) only [if_pos, if_neg, q1, c, n1, z_ns, z_fdC, z_pdC, z_adC, z_sdC, z_lkC, z_ndC, z_gdC, z_mdC, z_cI_some', z_cV_some', z_w_ok, Int.reduceAdd, Int.reduceSub, Int.reduceMul, Int.reduceNeg, Int.reduceEq, Int.reduceLT, Int.reduceLE, Int.reduceNe, reduceIte, true_and, and_true, false_and, and_false, if_true, if_false, ne_eq, not_true_eq_false, not_false_eq_true]) (fun x _ => by
      rw [z_B904_48]
      simp (disch := omega) only [if_pos, z_fdC, z_pdC, z_adC, z_sdC, z_lkC, z_ndC, z_gdC, z_mdC, z_cI_some', z_cV_some', z_w_ok, Int.reduceAdd, Int.reduceSub, Int.reduceMul, Int.reduceNeg, Int.reduceEq, Int.reduceLT, Int.reduceLE, Int.reduceNe, reduceIte, true_and, and_true, false_and, and_false, if_true, if_false, ne_eq, not_true_eq_false, not_false_eq_true])
  refine ⟨σ3, ?_, o3, h3.rd⟩
  simp (disch := omega) only [z_E904, h.roads, h.capv, c_LC h.hL, hsd, e2, z_fdC, z_pdC, z_adC, z_sdC, z_lkC, z_ndC, z_gdC, z_mdC, z_cI_some', z_cV_some', z_w_ok, Int.reduceAdd, Int.reduceSub, Int.reduceMul, Int.reduceNeg, Int.reduceEq, Int.reduceLT, Int.reduceLE, Int.reduceNe, reduceIte, true_and, and_true, false_and, and_false, if_true, if_false, ne_eq, not_true_eq_false, not_false_eq_true]
  exact e3
end
