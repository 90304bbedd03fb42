/-! Study: one road's line, the climb. -/
/-- tolls with one of them set -/
def z_ts (t : Int → Int) (s v : Int) : Int → Int := fun k => if k = s then v else t k
theorem z_pc_pow : ∀ n : Nat, n < 5 → z_pc ((2 ^ n : Nat) : Int) = 1 := by decide +kernel
theorem z_tot_one {s cp : Int} (h0 : 0 ≤ s) (h1 : s < 5) (hc : 0 ≤ cp) : (z_tot ((2 ^ s.toNat : Nat) : Int) cp : Int) = cp + 1 := by
  unfold z_tot
  rw [z_pc_pow s.toNat (by omega)]
  rw [show (1 : Int).toNat = 1 from rfl, Int.pow_one]; omega
theorem z_inc_one {s cp : Int} {t : Int → Int} (h0 : 0 ≤ s) : ∀ {n : Nat}, s < n → t s < cp → z_inc ((2 ^ s.toNat : Nat) : Int) cp n t = z_ts t s (t s + 1)
  | 0, h, _ => by omega
  | n + 1, h, hc => by
    unfold z_inc
    rw [z_bt_pow h0 (by omega)]
    by_cases hn : (n : Int) = s
    · subst hn
      rw [if_pos (by simp), if_pos hc]
      rfl
    · rw [if_neg (by simpa using hn)]
      exact z_inc_one h0 (by omega) hc
theorem z_ti_one {s cp : Int} {t : Int → Int} (h0 : 0 ≤ s) (h1 : s < 5) : ∀ {v : Nat}, (v : Int) ≤ cp → z_ti ((2 ^ s.toNat : Nat) : Int) cp t v = z_ts t s v
  | 0, _ => by
    funext k
    show z_t0 _ t k = _
    unfold z_t0 z_ts
    by_cases hk : 0 ≤ k
    · rw [z_bt_pow h0 hk]
      by_cases hs : k = s <;> simp [hs, h0]
    · rw [if_neg (fun z => hk z.1), if_neg (by omega)]
  | v + 1, h => by
    show z_inc _ cp 5 (z_ti _ cp t v) = _
    rw [z_ti_one h0 h1 (by omega), z_inc_one h0 (by omega) (by unfold z_ts; rw [if_pos rfl]; omega)]
    funext k
    unfold z_ts
    split
    · rw [if_pos rfl]; omega
    · rfl
theorem z_ts_cap {cap : Int} {t : Int → Int} {s v : Int} (h : z_tcap cap t) (h0 : 0 ≤ v) (h1 : v ≤ cap) : z_tcap cap (z_ts t s v) := fun k k0 k1 => by
  have := h k k0 k1
  unfold z_ts
  split <;> omega
section
variable {σ X : z_S} {L s lean : Int} {D : z_D} {share : Int → Int}
/-- what a side gets by one slot's tolls -/
noncomputable def z_Ln (D : z_D) (lean : Int) (share : Int → Int) (side : Int) (t : Int → Int) (k : Int) (v : Nat) : Int := z_brt D.op share D.gN lean side (z_ts t k v)
/-- Study.lineFrom -/
theorem c_lineFrom (h : c_rd σ X L s D lean share) (d : Nat) {a1 slot side : Int} {t : Int → Int} (ha : z_arr5 a1) (ht : z_tcap (X 0 3) t) (hk : 0 ≤ slot ∧ slot < 5) (hs : 0 ≤ side ∧ side < 32) (hA : ∀ i : Int, 0 ≤ i → i < 5 → σ a1 i = t i) :
    ∃ σ', z_ev z_hcC (d + 4) 907 [z_R 65, z_R a1, z_I slot, z_I side] z_hdC σ = some (z_I (z_gr (z_Ln D lean share side t slot) (X 0 3 + 1).toNat), z_hdC, σ') ∧ z_off 59 68 σ σ' ∧ (∀ a i : Int, 63 ≤ a → a ≤ 67 → σ' a i = σ a i) ∧ c_rd σ' X L s D lean share ∧ ∀ v : Nat, (v : Int) ≤ X 0 3 → σ' 68 v = z_Ln D lean share side t slot v := by
  have hcp := h.cp
  have hp16 : 2 ^ slot.toNat ≤ 2 ^ 4 := Nat.pow_le_pow_right (by omega) (by omega)
  have htot := z_tot_one hk.1 hk.2 hcp.1
  obtain ⟨σ2, e2, o2, h2⟩ := h.begin (mv := ((2 ^ slot.toNat : Nat) : Int)) (cp := X 0 3) d ha ht ⟨Int.natCast_nonneg _, by omega⟩ ⟨hcp.1, Int.le_refl _⟩ hA
  rw [htot] at e2
  have hb : ∀ v : Nat, (v : Int) ≤ X 0 3 → 0 ≤ z_Ln D lean share side t slot v ∧ z_Ln D lean share side t slot v ≤ 480000000 := fun v hv => h.brt (z_ts_cap ht (by omega) hv) side
  obtain ⟨σ3, e3, o3, k3, h3, f3⟩ := z_for (fun v x => z_go (z_ev z_hcC (d + 3)) z_hcC 907 29 [z_R 65, z_R a1, z_I slot, z_I side, z_I (z_gr (z_Ln D lean share side t slot) v), z_I (X 0 3 + 1), z_I v] [] z_hdC x) (fun x => some (z_I (z_gr (z_Ln D lean share side t slot) (X 0 3 + 1).toNat), z_hdC, x))
    (fun i x => z_off 59 68 σ x ∧ (∀ a i : Int, 63 ≤ a → a ≤ 67 → x a i = σ a i) ∧ c_at x X L s D lean share (z_ti ((2 ^ slot.toNat : Nat) : Int) (X 0 3) t i) ((2 ^ slot.toNat : Nat) : Int) (X 0 3) ∧ ∀ v : Nat, v < i → x 68 v = z_Ln D lean share side t slot v) (X 0 3 + 1).toNat (s := σ2) ⟨z_off_le o2 (by omega) (by omega), fun a i a0 a1 => o2 a i (by omega), h2, fun v hv => by omega⟩ (fun i x hi ⟨ho, hk5, hat, hz⟩ => by
      have q1 := hat.brought d hs
      rw [z_ti_one hk.1 hk.2 (by omega)] at q1
      have hbi := hb i (by omega)
      have hoff : z_off 68 68 x (z_upd x 68 i (z_Ln D lean share side t slot i)) := z_off_upd (by omega) (by omega)
      obtain ⟨s3, n1, n2, n3⟩ := (c_at_off hoff (by omega) hat).next (Int.le_refl _) (d + 1)
      refine ⟨s3, ?_, z_off_trans ho (z_off_trans (z_off_le hoff (by omega) (by omega)) (z_off_le n2 (by omega) (by omega))), fun a i a0 a1 => by rw [z_oat n2 (by omega), z_oat hoff (by omega)]; exact hk5 a i a0 a1, n3, fun v hv => ?_⟩
      · rw [z_B907_29, if_neg (by omega)]
        have e5 : (z_upd x 68 i (z_Ln D lean share side t slot i)) 68 i = z_Ln D lean share side t slot i := z_upd_same
        have e6 : (if z_gr (z_Ln D lean share side t slot) i < z_Ln D lean share side t slot i then z_Ln D lean share side t slot i else z_gr (z_Ln D lean share side t slot) i) = z_gr (z_Ln D lean share side t slot) (i + 1) := by
          cases i with
          | zero =>
            show (if (-1 : Int) < _ then _ else _) = z_Ln D lean share side t slot (z_am _ 1)
            have : z_am (z_Ln D lean share side t slot) 1 = 0 := by show (if _ then _ else _) = _; split <;> rfl
            rw [this, if_pos (by omega)]
          | succ i =>
            by_cases c : z_gr (z_Ln D lean share side t slot) (i + 1) < z_Ln D lean share side t slot ((i + 1 : Nat))
            · rw [if_pos c, (z_gr_new c).2]
            · rw [if_neg c]
              show z_Ln D lean share side t slot (z_am _ (i + 1)) = z_Ln D lean share side t slot (z_am _ (i + 1 + 1))
              rw [z_am_keep (Int.not_lt.mp c)]
        have q1' : z_ev z_hcC (d + 3) 409 [z_R 58, z_I side] z_hdC x = some (z_I (z_Ln D lean share side t slot i), z_hdC, x) := q1
        simp (disch := omega) only [if_neg, q1', n1, z_ns, e5, e6, z_fdC, z_pdC, z_adC, z_sdC, z_lkC, z_ndC, z_gdC, z_mdC, z_cI_some', z_cV_some', z_w_ok, Int.reduceAdd, Int.reduceSub, Int.reduceMul, Int.reduceNeg, Int.reduceEq, Int.reduceLT, Int.reduceLE, Int.reduceNe, reduceIte, true_and, and_true, false_and, and_false, if_true, if_false, ne_eq, not_true_eq_false, not_false_eq_true]
      · rw [z_oat n2 (by omega)]
        by_cases hvi : v = i
        · subst hvi; exact z_upd_same
        · rw [z_upd_ne (Or.inr (by omega))]; exact hz v (by omega)) (fun x _ => by
      rw [z_B907_29]
      simp (disch := omega) only [if_pos, z_fdC, z_pdC, z_adC, z_sdC, z_lkC, z_ndC, z_gdC, z_mdC, z_cI_some', z_cV_some', z_w_ok, Int.reduceAdd, Int.reduceSub, Int.reduceMul, Int.reduceNeg, Int.reduceEq, Int.reduceLT, Int.reduceLE, Int.reduceNe, reduceIte, true_and, and_true, false_and, and_false, if_true, if_false, ne_eq, not_true_eq_false, not_false_eq_true])
  refine ⟨σ3, ?_, o3, k3, h3.rd, fun v hv => f3 v (by omega)⟩
  have hsh := z_shl1 hk.1 (by omega)
  simp (disch := omega) only [z_E907, h.roads, h.capv, c_LC h.hL, hsh, e2, z_fdC, z_pdC, z_adC, z_sdC, z_lkC, z_ndC, z_gdC, z_mdC, z_cI_some', z_cV_some', z_w_ok, Int.reduceAdd, Int.reduceSub, Int.reduceMul, Int.reduceNeg, Int.reduceEq, Int.reduceLT, Int.reduceLE, Int.reduceNe, reduceIte, true_and, and_true, false_and, and_false, if_true, if_false, ne_eq, not_true_eq_false, not_false_eq_true]
  exact e3
theorem c_lineAt {σ : z_S} (d : Nat) (v : Int) : z_ev z_hcC (d + 1) 908 [z_R 65, z_I v] z_hdC σ = some (z_I (if 0 ≤ v ∧ v < 21 then σ 68 v else 0), z_hdC, σ) := by
  by_cases h1 : v < 0
  · rw [if_neg (by omega)]
    simp (disch := omega) only [z_E908, if_pos, z_fdC, z_pdC, z_adC, z_sdC, z_lkC, z_ndC, z_gdC, z_mdC, z_cI_some', z_cV_some', z_w_ok, Int.reduceAdd, Int.reduceSub, Int.reduceMul, Int.reduceNeg, Int.reduceEq, Int.reduceLT, Int.reduceLE, Int.reduceNe, reduceIte, true_and, and_true, false_and, and_false, if_true, if_false, ne_eq, not_true_eq_false, not_false_eq_true]
  · by_cases h2 : 21 ≤ v
    · rw [if_neg (by omega)]
      simp (disch := omega) only [z_E908, if_pos, if_neg, z_fdC, z_pdC, z_adC, z_sdC, z_lkC, z_ndC, z_gdC, z_mdC, z_cI_some', z_cV_some', z_w_ok, Int.reduceAdd, Int.reduceSub, Int.reduceMul, Int.reduceNeg, Int.reduceEq, Int.reduceLT, Int.reduceLE, Int.reduceNe, reduceIte, true_and, and_true, false_and, and_false, if_true, if_false, ne_eq, not_true_eq_false, not_false_eq_true]
    · rw [if_pos (by omega)]
      simp (disch := omega) only [z_E908, if_pos, if_neg, z_fdC, z_pdC, z_adC, z_sdC, z_lkC, z_ndC, z_gdC, z_mdC, z_cI_some', z_cV_some', z_w_ok, Int.reduceAdd, Int.reduceSub, Int.reduceMul, Int.reduceNeg, Int.reduceEq, Int.reduceLT, Int.reduceLE, Int.reduceNe, reduceIte, true_and, and_true, false_and, and_false, if_true, if_false, ne_eq, not_true_eq_false, not_false_eq_true]
theorem z_side_bt {X : z_S} (hw : z_wf X) {h s k : Int} (k0 : 0 ≤ k) : z_bt (z_side X h s) k = true ↔ k < X 0 1 ∧ X 5 (X 6 k) = h ∧ X 6 k ≠ s := by
  have := z_bs_bit (P := fun k => decide (X 5 (X 6 k) = h) && decide (X 6 k ≠ s)) (k := k.toNat) (n := (X 0 1).toNat)
  rw [Int.toNat_of_nonneg k0] at this
  have hn := hw.2.1
  unfold z_side
  rw [this]
  have e : k.toNat < (X 0 1).toNat ↔ k < X 0 1 := by omega
  simp only [Bool.and_eq_true, decide_eq_true_eq, e]
/-- whose road a slot's is -/
theorem c_ownerSide (h : c_rd σ X L (-1) D lean share) (d : Nat) {k : Int} (k0 : 0 ≤ k) (k1 : k < X 0 1) : z_ev z_hcC (d + 4) 906 [z_R 65, z_I k] z_hdC σ = some (z_I (z_side X (X 5 (X 6 k)) (-1)), z_hdC, σ) := by
  have hn := h.nt
  have h0 := h.side d 0
  have h1 := h.side d 1
  have r0 := h.sr 0
  have hb := z_bit (m := z_side X 0 (-1)) (k := k) r0.1 (by omega) k0 (by omega)
  have ht := h.wf.2.2.2.2.2.2.2.2.1 k k0 k1
  have hr := (h.wf.2.2.2.2.2.2.2.1 (X 6 k) ht.1 ht.2.1).2.2.2.2.2
  by_cases c : X 5 (X 6 k) = 0
  · rw [if_pos ((z_side_bt h.wf k0).mpr ⟨k1, c, by omega⟩)] at hb
    rw [c]
    simp (disch := omega) only [z_E906, h.roads, c_LC h.hL, h0, hb, if_neg, z_fdC, z_pdC, z_adC, z_sdC, z_lkC, z_ndC, z_gdC, z_mdC, z_cI_some', z_cV_some', z_w_ok, Int.reduceAdd, Int.reduceSub, Int.reduceMul, Int.reduceNeg, Int.reduceEq, Int.reduceLT, Int.reduceLE, Int.reduceNe, reduceIte, true_and, and_true, false_and, and_false, if_true, if_false, ne_eq, not_true_eq_false, not_false_eq_true]
  · rw [if_neg (fun z => c ((z_side_bt h.wf k0).mp z).2.1)] at hb
    have : X 5 (X 6 k) = 1 := by omega
    rw [this]
    simp (disch := omega) only [z_E906, h.roads, c_LC h.hL, h0, h1, hb, if_pos, z_fdC, z_pdC, z_adC, z_sdC, z_lkC, z_ndC, z_gdC, z_mdC, z_cI_some', z_cV_some', z_w_ok, Int.reduceAdd, Int.reduceSub, Int.reduceMul, Int.reduceNeg, Int.reduceEq, Int.reduceLT, Int.reduceLE, Int.reduceNe, reduceIte, true_and, and_true, false_and, and_false, if_true, if_false, ne_eq, not_true_eq_false, not_false_eq_true]
theorem c_reckonLine (h : c_rd σ X L (-1) D lean share) (d : Nat) {k : Int} (k0 : 0 ≤ k) (k1 : k < X 0 1) :
    ∃ σ', z_ev z_hcC (d + 5) 905 [z_R 65, z_I k] z_hdC σ = some (z_I (z_gr (z_Ln D lean share (z_side X (X 5 (X 6 k)) (-1)) (X 7) k) (X 0 3 + 1).toNat), z_hdC, σ') ∧ z_off 59 68 σ σ' ∧ c_rd σ' X L (-1) D lean share ∧ ∀ v : Nat, (v : Int) ≤ X 0 3 → σ' 68 v = z_Ln D lean share (z_side X (X 5 (X 6 k)) (-1)) (X 7) k v := by
  have hn := h.nt
  have h1 := c_ownerSide h d k0 k1
  obtain ⟨σ', e, o1, o2, h2, f⟩ := c_lineFrom h d (slot := k) (side := z_side X (X 5 (X 6 k)) (-1)) h.a5 h.tc (by omega) (h.sr _) (fun i => h.tolls)
  refine ⟨σ', ?_, o1, h2, f⟩
  simp (disch := omega) only [z_E905, h.roads, c_LC h.hL, h1, e, z_fdC, z_pdC, z_adC, z_sdC, z_lkC, z_ndC, z_gdC, z_mdC, z_cI_some', z_cV_some', z_w_ok, Int.reduceAdd, Int.reduceSub, Int.reduceMul, Int.reduceNeg, Int.reduceEq, Int.reduceLT, Int.reduceLE, Int.reduceNe, reduceIte, true_and, and_true, false_and, and_false, if_true, if_false, ne_eq, not_true_eq_false, not_false_eq_true]
/-- a slot is lifted to the least toll that brings most, if its own doesn't: heights, changes -/
noncomputable def z_st1 (D : z_D) (lean : Int) (share : Int → Int) (side cap : Int) (k : Int) (q : (Int → Int) × Int) : (Int → Int) × Int :=
  if z_bt side k = true ∧ z_Ln D lean share side q.1 k (q.1 k).toNat ≠ z_gr (z_Ln D lean share side q.1 k) (cap + 1).toNat then (z_ts q.1 k (z_am (z_Ln D lean share side q.1 k) (cap + 1).toNat), q.2 + 1) else q
theorem z_am_first {F : Nat → Int} : ∀ {n i : Nat}, i < n → F i ≤ F (z_am F n) ∧ (i < z_am F n → F i < F (z_am F n))
  | 0, i, h => by omega
  | n + 1, i, h => by
    unfold z_am
    split
    · next c =>
      rcases Nat.lt_or_ge i n with hi | hi
      · have := (z_am_first (F := F) hi).1
        exact ⟨by omega, fun _ => by omega⟩
      · have : i = n := by omega
        subst this
        exact ⟨Int.le_refl _, fun h => by omega⟩
    · next c =>
      rcases Nat.lt_or_ge i n with hi | hi
      · exact z_am_first hi
      · have : i = n := by omega
        subst this
        refine ⟨by omega, fun h => ?_⟩
        rcases Nat.eq_zero_or_pos i with h0 | h0
        · subst h0; exact absurd h (by unfold z_am; omega)
        · have := z_am_lt (F := F) h0; omega
/-- Study.lift -/
theorem c_lift (h : c_rd σ X L s D lean share) (d : Nat) {k side : Int} {t : Int → Int} (ht : z_tcap (X 0 3) t) (hk : 0 ≤ k ∧ k < 5) (hs : 0 ≤ side ∧ side < 32) (hA : ∀ i : Int, 0 ≤ i → i < 5 → σ 66 i = t i) :
    ∃ σ', z_ev z_hcC (d + 5) 910 [z_R 65, z_I k, z_I side] z_hdC σ = some (z_I (if z_Ln D lean share side t k (t k).toNat ≠ z_gr (z_Ln D lean share side t k) (X 0 3 + 1).toNat then 1 else 0), z_hdC, σ') ∧ z_off 59 75 σ σ' ∧ c_rd σ' X L s D lean share ∧
      ∀ i : Int, 0 ≤ i → i < 5 → σ' 66 i = if z_Ln D lean share side t k (t k).toNat ≠ z_gr (z_Ln D lean share side t k) (X 0 3 + 1).toNat then z_ts t k (z_am (z_Ln D lean share side t k) (X 0 3 + 1).toNat) i else t i := by
  have hcp := h.cp
  have htk := ht k hk.1 hk.2
  obtain ⟨σ1, e1, o1, p1, h1, f1⟩ := c_lineFrom h d (a1 := 66) (slot := k) (side := side) (by unfold z_arr5; omega) ht hk hs hA
  have hN : (X 0 3 + 1).toNat = (X 0 3).toNat + 1 := by omega
  generalize hF : z_Ln D lean share side t k = F at f1 e1 ⊢
  have e66 := p1 66 k (by omega) (by omega)
  rw [hA k hk.1 hk.2] at e66
  have l1 := c_lineAt (σ := σ1) (d + 3) (t k)
  have fv := f1 (t k).toNat (by omega)
  rw [Int.toNat_of_nonneg htk.1] at fv
  rw [if_pos (by omega), fv] at l1
  have hgr : z_gr F (X 0 3 + 1).toNat = F (z_am F (X 0 3 + 1).toNat) := by rw [hN]; rfl
  have ham := z_am_lt (F := F) (n := (X 0 3 + 1).toNat) (by omega)
  by_cases c : F (t k).toNat = z_gr F (X 0 3 + 1).toNat
  · refine ⟨σ1, ?_, z_off_le o1 (by omega) (by omega), h1, fun i i0 i1 => ?_⟩
    · rw [if_neg (by simpa using c)]
      simp (disch := omega) only [z_E910, e1, e66, l1, if_neg, c, z_fdC, z_pdC, z_adC, z_sdC, z_lkC, z_ndC, z_gdC, z_mdC, z_cI_some', z_cV_some', z_w_ok, Int.reduceAdd, Int.reduceSub, Int.reduceMul, Int.reduceNeg, Int.reduceEq, Int.reduceLT, Int.reduceLE, Int.reduceNe, reduceIte, true_and, and_true, false_and, and_false, if_true, if_false, ne_eq, not_true_eq_false, not_false_eq_true]
    · rw [if_neg (by simpa using c), p1 66 i (by omega) (by omega)]; exact hA i i0 i1
  · obtain ⟨σ2, e2, o2, f2⟩ := z_for (fun v x => z_go (z_ev z_hcC (d + 4)) z_hcC 910 46 [z_R 65, z_I k, z_I side, z_I (z_gr F (X 0 3 + 1).toNat), z_I (if z_am F (X 0 3 + 1).toNat < v then 1 else 0), z_I v] [] z_hdC x) (fun x => some (z_I 1, z_hdC, x))
      (fun v x => z_off 66 66 σ1 x ∧ ∀ i, 0 ≤ i → i < 5 → x 66 i = if z_am F (X 0 3 + 1).toNat < v then z_ts t k (z_am F (X 0 3 + 1).toNat) i else t i) (z_am F (X 0 3 + 1).toNat + 1) (s := σ1) ⟨z_off_refl, fun i i0 i1 => by rw [if_neg (by omega), p1 66 i (by omega) (by omega)]; exact hA i i0 i1⟩ (fun v x hv ⟨ho, hz⟩ => by
        have hx := c_rd_off ho (by omega) h1
        have l2 := c_lineAt (σ := x) (d + 3) (v : Int)
        rw [if_pos (by omega), z_oat ho (by omega), f1 v (by omega)] at l2
        by_cases cv : v = z_am F (X 0 3 + 1).toNat
        · refine ⟨z_upd x 66 k v, ?_, z_off_trans ho (z_off_upd (by omega) (by omega)), fun i i0 i1 => ?_⟩
          · rw [z_B910_46, if_neg (show ¬ z_am F (X 0 3 + 1).toNat < v by omega), if_pos (show z_am F (X 0 3 + 1).toNat < v + 1 by omega)]
            rw [cv, ← hgr] at l2
            have ec : (v : Int) = (z_am F (X 0 3 + 1).toNat : Int) := by omega
            rw [← ec] at l2
            simp (disch := omega) only [hx.roads, hx.capv, c_LC h.hL, if_neg, l2, z_ns, z_fdC, z_pdC, z_adC, z_sdC, z_lkC, z_ndC, z_gdC, z_mdC, z_cI_some', z_cV_some', z_w_ok, Int.reduceAdd, Int.reduceSub, Int.reduceMul, Int.reduceNeg, Int.reduceEq, Int.reduceLT, Int.reduceLE, Int.reduceNe, reduceIte, true_and, and_true, false_and, and_false, if_true, if_false, ne_eq, not_true_eq_false, not_false_eq_true]
          · rw [if_pos (by omega)]
            by_cases hi : i = k
            · subst hi; rw [z_upd_same]; unfold z_ts; rw [if_pos rfl, cv]
            · rw [z_upd_ne (Or.inr hi), hz i i0 i1, if_neg (by omega)]; unfold z_ts; rw [if_neg hi]
        · refine ⟨x, ?_, ho, fun i i0 i1 => by rw [hz i i0 i1, if_neg (by omega), if_neg (by omega)]⟩
          rw [z_B910_46, if_neg (show ¬ z_am F (X 0 3 + 1).toNat < v by omega), if_neg (show ¬ z_am F (X 0 3 + 1).toNat < v + 1 by omega)]
          have hne := (z_am_first (F := F) (n := (X 0 3 + 1).toNat) (i := v) (by omega)).2 (by omega)
          rw [← hgr] at hne
          have hne' : F v ≠ z_gr F (X 0 3 + 1).toNat := by omega
          simp (disch := omega) only [hx.roads, hx.capv, c_LC h.hL, if_neg, if_pos, l2, z_ns, hne', z_fdC, z_pdC, z_adC, z_sdC, z_lkC, z_ndC, z_gdC, z_mdC, z_cI_some', z_cV_some', z_w_ok, Int.reduceAdd, Int.reduceSub, Int.reduceMul, Int.reduceNeg, Int.reduceEq, Int.reduceLT, Int.reduceLE, Int.reduceNe, reduceIte, true_and, and_true, false_and, and_false, if_true, if_false, ne_eq, not_true_eq_false, not_false_eq_true]) (fun x ⟨ho, hz⟩ => by
        have hx := c_rd_off ho (by omega) h1
        rw [z_B910_46, if_pos (show z_am F (X 0 3 + 1).toNat < z_am F (X 0 3 + 1).toNat + 1 by omega)]
        by_cases cc : X 0 3 < ((z_am F (X 0 3 + 1).toNat + 1 : Nat) : Int)
        · simp (disch := omega) only [hx.roads, hx.capv, c_LC h.hL, if_pos, true_or, or_true, z_fdC, z_pdC, z_adC, z_sdC, z_lkC, z_ndC, z_gdC, z_mdC, z_cI_some', z_cV_some', z_w_ok, Int.reduceAdd, Int.reduceSub, Int.reduceMul, Int.reduceNeg, Int.reduceEq, Int.reduceLT, Int.reduceLE, Int.reduceNe, reduceIte, true_and, and_true, false_and, and_false, if_true, if_false, ne_eq, not_true_eq_false, not_false_eq_true]
        · simp (disch := omega) only [hx.roads, hx.capv, c_LC h.hL, if_neg, if_pos, true_or, or_true, z_fdC, z_pdC, z_adC, z_sdC, z_lkC, z_ndC, z_gdC, z_mdC, z_cI_some', z_cV_some', z_w_ok, Int.reduceAdd, Int.reduceSub, Int.reduceMul, Int.reduceNeg, Int.reduceEq, Int.reduceLT, Int.reduceLE, Int.reduceNe, reduceIte, true_and, and_true, false_and, and_false, if_true, if_false, ne_eq, not_true_eq_false, not_false_eq_true])
    refine ⟨σ2, ?_, z_off_trans (z_off_le o1 (by omega) (by omega)) (z_off_le o2 (by omega) (by omega)), c_rd_off o2 (by omega) h1, fun i i0 i1 => ?_⟩
    · rw [if_pos c]
      rw [if_neg (by omega)] at e2
      simp (disch := omega) only [z_E910, e1, e66, l1, if_neg, if_pos, c, z_fdC, z_pdC, z_adC, z_sdC, z_lkC, z_ndC, z_gdC, z_mdC, z_cI_some', z_cV_some', z_w_ok, Int.reduceAdd, Int.reduceSub, Int.reduceMul, Int.reduceNeg, Int.reduceEq, Int.reduceLT, Int.reduceLE, Int.reduceNe, reduceIte, true_and, and_true, false_and, and_false, if_true, if_false, ne_eq, not_true_eq_false, not_false_eq_true]
      exact e2
    · rw [if_pos c, f2 i i0 i1, if_pos (by omega)]
end
