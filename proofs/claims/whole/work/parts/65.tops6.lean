/-! The class's own methods: spare, fair. -/
theorem z_ext14 {x y : Int} (h : 0 ≤ x ∧ x < 16384) (h' : 0 ≤ y ∧ y < 16384) (e : ∀ k : Int, 0 ≤ k → k < 14 → z_bt x k = z_bt y k) : x = y := by
  have : x.toNat = y.toNat := Nat.eq_of_testBit_eq (fun i => by
    by_cases hi : i < 14
    · have := e i (by omega) (by omega)
      unfold z_bt at this
      rwa [Int.toNat_natCast] at this
    · have h1 : 2 ^ 14 ≤ 2 ^ i := Nat.pow_le_pow_right (by omega) (by omega)
      rw [Nat.testBit_lt_two_pow (by omega), Nat.testBit_lt_two_pow (by omega)])
  omega
theorem z_or_bt {x k j : Int} (h : 0 ≤ x ∧ x < 1073741824) (h' : 0 ≤ k ∧ k < 30) : z_bt (z_or x (z_shl 1 k)) j = (z_bt x j || decide (j.toNat = k.toNat)) := by
  have hp : 2 ^ k.toNat < 2 ^ 30 := Nat.pow_lt_pow_right (by omega) (by omega)
  rw [z_shl1 h'.1 (by omega), z_or_nat h.1 (by omega) (Int.natCast_nonneg _) (by omega)]
  unfold z_bt
  rw [Int.toNat_natCast, Int.toNat_natCast, Nat.testBit_or, Nat.testBit_two_pow]
  congr 1
  rw [Bool.eq_iff_iff, decide_eq_true_eq, decide_eq_true_eq]
  omega
theorem z_or_rng {x k : Int} (h : 0 ≤ x ∧ x < 16384) (h' : 0 ≤ k ∧ k < 14) : 0 ≤ z_or x (z_shl 1 k) ∧ z_or x (z_shl 1 k) < 16384 := by
  have hp : 2 ^ k.toNat < 2 ^ 14 := Nat.pow_lt_pow_right (by omega) (by omega)
  rw [z_shl1 h'.1 (by omega), z_or_nat h.1 (by omega) (Int.natCast_nonneg _) (by omega)]
  have := Nat.or_lt_two_pow (n := 14) (x := x.toNat) (y := ((2 ^ k.toNat : Nat) : Int).toNat) (by omega) (by omega)
  omega
/-- the roads of the first n slots of a set -/
def z_rbs (X : z_S) (m : Int) (n : Nat) : Int := z_bs (fun r => decide (∃ i : Nat, i < n ∧ z_bt m i = true ∧ X 6 i = r)) 14
theorem z_rbs_rng {X : z_S} {m : Int} {n : Nat} : 0 ≤ z_rbs X m n ∧ z_rbs X m n < 16384 := by
  have h := z_bs_rng (P := fun r => decide (∃ i : Nat, i < n ∧ z_bt m i = true ∧ X 6 i = r)) (n := 14)
  have h14 : ((2 ^ 14 : Nat) : Int) = 16384 := by decide
  unfold z_rbs
  omega
theorem z_rbs_s {X : z_S} {m : Int} {n : Nat} (h : z_bt m n = true → 0 ≤ X 6 n ∧ X 6 n < 14) : z_rbs X m (n + 1) = if z_bt m n = true then z_or (z_rbs X m n) (z_shl 1 (X 6 n)) else z_rbs X m n := by
  by_cases c : z_bt m n = true
  · rw [if_pos c]
    have h6 := h c
    have hr := z_rbs_rng (X := X) (m := m) (n := n)
    refine z_ext14 z_rbs_rng (z_or_rng hr h6) (fun k k0 k1 => ?_)
    rw [z_or_bt (by omega) (by omega)]
    have b1 := z_bs_bit (P := fun r => decide (∃ i : Nat, i < n + 1 ∧ z_bt m i = true ∧ X 6 i = r)) (k := k.toNat) (n := 14)
    have b2 := z_bs_bit (P := fun r => decide (∃ i : Nat, i < n ∧ z_bt m i = true ∧ X 6 i = r)) (k := k.toNat) (n := 14)
    rw [Int.toNat_of_nonneg k0] at b1 b2
    unfold z_rbs
    rw [b1, b2, Bool.eq_iff_iff]
    simp only [Bool.and_eq_true, Bool.or_eq_true, decide_eq_true_eq]
    constructor
    · rintro ⟨h14, i, hi, hb, he⟩
      by_cases e : i = n
      · subst e; right; omega
      · left; exact ⟨h14, i, by omega, hb, he⟩
    · rintro (⟨h14, i, hi, hb, he⟩ | e)
      · exact ⟨h14, i, by omega, hb, he⟩
      · exact ⟨by omega, n, by omega, c, by omega⟩
  · rw [if_neg c]
    unfold z_rbs
    congr 1
    funext r
    rw [Bool.eq_iff_iff, decide_eq_true_eq, decide_eq_true_eq]
    constructor
    · rintro ⟨i, hi, hb, he⟩
      by_cases e : i = n
      · subst e; exact absurd hb c
      · exact ⟨i, by omega, hb, he⟩
    · rintro ⟨i, hi, hb, he⟩
      exact ⟨i, by omega, hb, he⟩
theorem z_lst_P {P : Int → Bool} {f b : Int → Int} {later : Bool} : ∀ {n : Nat}, 0 ≤ (z_lst P f b later n).1 → P (z_lst P f b later n).2.1 = true ∧ 0 ≤ (z_lst P f b later n).2.1 ∧ (z_lst P f b later n).2.1 < n
  | 0, h => by unfold z_lst at h; exact absurd h (by decide)
  | n + 1, h => by
    unfold z_lst at h ⊢
    split at h
    · next c => rw [if_pos c]; exact ⟨c.1, by show (0 : Int) ≤ n; omega, by show (n : Int) < ((n + 1 : Nat) : Int); omega⟩
    · next c =>
      rw [if_neg c]
      have := z_lst_P h
      exact ⟨this.1, this.2.1, by omega⟩
theorem z_sub_ex0 : ∀ s : Nat, s < 32 → ∀ k : Nat, k < 6 → (k : Int) ≤ z_pc s → ((List.range 32).any fun m => decide (z_dm m s = 0) && decide (z_pc m = k)) = true := by decide +kernel
theorem z_sub_ex {s k : Nat} (hs : s < 32) (hk : k < 6) (h : (k : Int) ≤ z_pc s) : ∃ m : Nat, m < 32 ∧ z_dm (m : Int) s = 0 ∧ z_pc (m : Int) = k := by
  have := z_sub_ex0 s hs k hk h
  rw [List.any_eq_true] at this
  obtain ⟨m, h1, h2⟩ := this
  rw [Bool.and_eq_true, decide_eq_true_eq, decide_eq_true_eq] at h2
  exact ⟨m, List.mem_range.mp h1, h2⟩
noncomputable def z_SL (X : z_S) (w k : Int) : Int × Int × Int := z_lst (fun m => decide (z_dm m (z_side X w (-1)) = 0) && decide (z_pc m = k)) (fun m => z_suf (z_Dm X (-1)).op (z_Dm X (-1)).mn (z_Dm X (-1)).gN (X 0 4) (z_xt (z_Dm X (-1)) (X 0 4) (z_Dm X (-1)).mn (z_side X w (-1)) (X 0 3) (X 7) m)) (z_xv (z_Dm X (-1)) (X 0 4) (z_Dm X (-1)).mn (z_side X w (-1)) (X 0 3) (X 7)) false 32
noncomputable def s_spare2 (X : z_S) (w k : Int) : Int × z_S := if z_seek X w = true ∧ 0 ≤ k ∧ k ≤ z_pc (z_side X w (-1)) then ((z_SL X w k).1, z_srow X [z_rbs X (z_SL X w k).2.1 5, (z_SL X w k).2.2]) else (-1, X)
section
variable {X σ : z_S} {L A : Int}
theorem c_roadsOf (h : c_iw σ X L A) (d : Nat) {m : Int} (hm : 0 ≤ m ∧ m < 32) (hb : ∀ k : Nat, k < 5 → z_bt m k = true → (k : Int) < X 0 1) : z_ev z_hcC (d + 1) 615 [z_R (L + 1), z_I m] z_hdC σ = some (z_I (z_rbs X m 5), z_hdC, σ) := by
  have hQ := h.Q
  have hwf := hQ.wf
  have hn := hwf.1
  have h6 := hwf.2.2.2.2.2.2.2.2.1
  have hz : z_rbs X m 0 = 0 := by
    unfold z_rbs
    refine z_ext14 (by have := z_rbs_rng (X := X) (m := m) (n := 0); exact this) (by omega) (fun k k0 k1 => ?_)
    have b1 := z_bs_bit (P := fun r => decide (∃ i : Nat, i < 0 ∧ z_bt m i = true ∧ X 6 i = r)) (k := k.toNat) (n := 14)
    rw [Int.toNat_of_nonneg k0] at b1
    rw [b1]
    unfold z_bt
    simp
  have key := z_forv (S := Unit) (fun k _ => z_go (z_ev z_hcC d) z_hcC 615 4 [z_R (L + 1), z_I m, z_I (z_rbs X m k), z_I k] [] z_hdC σ) (some (z_I (z_rbs X m 5), z_hdC, σ)) 5 () (fun k _ hk => ⟨(), by
    have hbit := z_bit (m := m) (k := k) hm.1 (by omega) (by omega) (by omega)
    have hs := z_rbs_s (X := X) (m := m) (n := k) (fun c => by have := h6 k (by omega) (hb k hk c); omega)
    rw [hs, z_B615_4]
    by_cases c : z_bt m k = true
    · rw [if_pos c] at hbit ⊢
      have l6 := hQ.land.2.2.2.2.2.1 k (by omega) (hb k hk c)
      simp (disch := omega) only [if_neg, hbit, c_LC h.hL, c_LA h.hL, l6, z_ns, z_fdC, z_pdC, z_adC, z_sdC, z_lkC, z_ndC, z_gdC, z_mdC, z_cI_some', z_cV_some', z_w_ok, Int.reduceAdd, Int.reduceSub, Int.reduceMul, Int.reduceNeg, Int.reduceEq, Int.reduceLT, Int.reduceLE, Int.reduceNe, reduceIte, true_and, and_true, false_and, and_false, if_true, if_false, ne_eq, not_true_eq_false, not_false_eq_true]
    · rw [if_neg c] at hbit ⊢
      simp (disch := omega) only [if_neg, if_pos, hbit, z_ns, z_fdC, z_pdC, z_adC, z_sdC, z_lkC, z_ndC, z_gdC, z_mdC, z_cI_some', z_cV_some', z_w_ok, Int.reduceAdd, Int.reduceSub, Int.reduceMul, Int.reduceNeg, Int.reduceEq, Int.reduceLT, Int.reduceLE, Int.reduceNe, reduceIte, true_and, and_true, false_and, and_false, if_true, if_false, ne_eq, not_true_eq_false, not_false_eq_true]⟩) (fun _ => by
    rw [z_B615_4]
    simp (disch := omega) only [if_pos, z_fdC, z_pdC, z_adC, z_sdC, z_lkC, z_ndC, z_gdC, z_mdC, z_cI_some', z_cV_some', z_w_ok, Int.reduceAdd, Int.reduceSub, Int.reduceMul, Int.reduceNeg, Int.reduceEq, Int.reduceLT, Int.reduceLE, Int.reduceNe, reduceIte, true_and, and_true, false_and, and_false, if_true, if_false, ne_eq, not_true_eq_false, not_false_eq_true])
  rw [z_E615]
  rw [hz] at key
  exact key
theorem C_spare (h : c_inv σ X) (d : Nat) (w k : Int) : c_does (z_ev z_hcC (d + 20) 1126 [z_R 1, z_I w, z_I k] z_hdC σ) (s_spare2 X w k) := by
  have h0 := h
  obtain ⟨L, A, hv⟩ := h
  have hL := hv.1.hL
  have hQ := hv.1.Q
  have hwf := hQ.wf
  obtain ⟨b1, b2, b3⟩ := hv.1.2.1
  unfold s_spare2
  by_cases c : z_seek X w = true
  · have kc := hv.1.can (d + 15) c
    have hs := c_sideOf (d + 16) hQ.hL hQ.wf hQ.land hQ.shut w
    have hr := z_side_rng hwf w (-1)
    have hbc := c_bitCount (hc := z_hcC) (hd := z_hdC) (σ := σ) (d + 18) hr.1 hr.2.1
    have hpl := z_pc_le (z_side X w (-1))
    by_cases ck : 0 ≤ k
    · by_cases ck2 : k ≤ z_pc (z_side X w (-1))
      · rw [if_pos ⟨c, ck, ck2⟩]
        obtain ⟨σ1, e1, o1, h1⟩ := hv.1.openNow (d + 14)
        obtain ⟨σ2, e2, o2, h2, f2⟩ := c_spareOf h1.rd (d + 13) (w := w) (k := k) (z_seek_t.mp c).2
        have e2' : z_ev z_hcC (d + 13 + 6) 913 [z_R 65, z_I w, z_I k] z_hdC σ1 = some (z_I (z_SL X w k).1, z_hdC, σ2) := e2
        have hpos : 0 ≤ (z_SL X w k).1 := by
          obtain ⟨m, m1, m2, m3⟩ := z_sub_ex (s := (z_side X w (-1)).toNat) (k := k.toNat) (by omega) (by omega) (by rw [Int.toNat_of_nonneg hr.1]; omega)
          rw [Int.toNat_of_nonneg hr.1] at m2
          unfold z_SL
          exact z_lst_pos (fun q q0 => h1.rd.sufpos (h1.rd.htc (z_t0_cap h1.rd.cp.1 h1.rd.tc) (Int.le_refl _))) (m := m) m1 (by rw [Bool.and_eq_true, decide_eq_true_eq, decide_eq_true_eq]; exact ⟨m2, by rw [m3]; omega⟩)
        have hcl : (σ2 65 0, σ2 65 1) = (z_SL X w k).2 := f2 hpos
        have g0 : σ2 65 0 = (z_SL X w k).2.1 := congrArg Prod.fst hcl
        have g1 : σ2 65 1 = (z_SL X w k).2.2 := congrArg Prod.snd hcl
        obtain ⟨pP, p0, p1⟩ := z_lst_P (n := 32) (show 0 ≤ (z_lst (fun m => decide (z_dm m (z_side X w (-1)) = 0) && decide (z_pc m = k)) (fun m => z_suf (z_Dm X (-1)).op (z_Dm X (-1)).mn (z_Dm X (-1)).gN (X 0 4) (z_xt (z_Dm X (-1)) (X 0 4) (z_Dm X (-1)).mn (z_side X w (-1)) (X 0 3) (X 7) m)) (z_xv (z_Dm X (-1)) (X 0 4) (z_Dm X (-1)).mn (z_side X w (-1)) (X 0 3) (X 7)) false 32).1 from hpos)
        have pP' : (decide (z_dm (z_SL X w k).2.1 (z_side X w (-1)) = 0) && decide (z_pc (z_SL X w k).2.1 = k)) = true := pP
        have p0' : 0 ≤ (z_SL X w k).2.1 := p0
        have p1' : (z_SL X w k).2.1 < 32 := p1
        rw [Bool.and_eq_true, decide_eq_true_eq, decide_eq_true_eq] at pP'
        have hbs : ∀ i : Nat, i < 5 → z_bt (z_SL X w k).2.1 i = true → (i : Int) < X 0 1 := fun i hi hb => by
          have hd := (z_dm_ok (x := (z_SL X w k).2.1) (y := (z_side X w (-1))) ⟨p0', p1'⟩ ⟨hr.1, hr.2.1⟩).2.2 i (by omega) (by omega)
          rw [pP'.1, hb] at hd
          have hz : z_bt 0 (i : Int) = false := by unfold z_bt; simp
          rw [hz] at hd
          cases hbs : z_bt (z_side X w (-1)) i with
          | false => rw [hbs] at hd; cases hd
          | true => exact ((z_side_bt hwf (by omega)).mp hbs).1
        have o12 : z_off 58 75 σ σ2 := z_off_trans (z_off_le o1 (by omega) (by omega)) (z_off_le o2 (by omega) (by omega))
        have hw2 := c_iw_off hv.1 o12 h2.z61 h2.z62
        obtain ⟨c1, c2, c3⟩ := c_clear (σ := σ2) (d + 18)
        have hw3 := c_iw_row hw2 c3
        have kro := c_roadsOf hw3 (d + 18) ⟨p0', p1'⟩ hbs
        obtain ⟨σ3, e3, r3, o3⟩ := c_add c2 (by simp) (d + 18) (z_rbs X (z_SL X w k).2.1 5)
        obtain ⟨σ4, e4, r4, o4⟩ := c_add r3 (by simp) (d + 18) (z_SL X w k).2.2
        have q0 : z_upd σ2 4 1 0 65 0 = (z_SL X w k).2.1 := by rw [z_upd_ne (by omega)]; exact g0
        have q1 : σ3 65 1 = (z_SL X w k).2.2 := by rw [z_oat o3 (by omega), z_upd_ne (by omega)]; exact g1
        have b1' : z_upd σ2 4 1 0 1 7 = L := hw3.2.1.1
        refine c_does_i (s := σ4) ?_ (c_iv_srow (c_iw_row hw2 (z_off_trans c3 (z_off_trans o3 o4))) r4 (by simp))
        simp (disch := omega) only [z_E1126, kc, b1, c_LC hL, hs, hbc, if_neg, if_pos, e1, e2', c1, b1', q0, kro, e3, q1, e4, z_fdC, z_pdC, z_adC, z_sdC, z_lkC, z_ndC, z_gdC, z_mdC, z_cI_some', z_cV_some', z_w_ok, Int.reduceAdd, Int.reduceSub, Int.reduceMul, Int.reduceNeg, Int.reduceEq, Int.reduceLT, Int.reduceLE, Int.reduceNe, reduceIte, true_and, and_true, false_and, and_false, if_true, if_false, ne_eq, not_true_eq_false, not_false_eq_true]
      · rw [if_neg (fun z => ck2 z.2.2)]
        refine c_does_i (s := σ) ?_ h0
        simp (disch := omega) only [z_E1126, kc, b1, c_LC hL, hs, hbc, if_neg, z_fdC, z_pdC, z_adC, z_sdC, z_lkC, z_ndC, z_gdC, z_mdC, z_cI_some', z_cV_some', z_w_ok, Int.reduceAdd, Int.reduceSub, Int.reduceMul, Int.reduceNeg, Int.reduceEq, Int.reduceLT, Int.reduceLE, Int.reduceNe, reduceIte, true_and, and_true, false_and, and_false, if_true, if_false, ne_eq, not_true_eq_false, not_false_eq_true]
    · rw [if_neg (fun z => ck z.2.1)]
      refine c_does_i (s := σ) ?_ h0
      simp (disch := omega) only [z_E1126, kc, if_pos, z_fdC, z_pdC, z_adC, z_sdC, z_lkC, z_ndC, z_gdC, z_mdC, z_cI_some', z_cV_some', z_w_ok, Int.reduceAdd, Int.reduceSub, Int.reduceMul, Int.reduceNeg, Int.reduceEq, Int.reduceLT, Int.reduceLE, Int.reduceNe, reduceIte, true_and, and_true, false_and, and_false, if_true, if_false, ne_eq, not_true_eq_false, not_false_eq_true]
  · rw [if_neg (fun z => c z.1)]
    have kc := hv.1.not (d + 15) c
    refine c_does_i (s := σ) ?_ h0
    simp (disch := omega) only [z_E1126, kc, z_fdC, z_pdC, z_adC, z_sdC, z_lkC, z_ndC, z_gdC, z_mdC, z_cI_some', z_cV_some', z_w_ok, Int.reduceAdd, Int.reduceSub, Int.reduceMul, Int.reduceNeg, Int.reduceEq, Int.reduceLT, Int.reduceLE, Int.reduceNe, reduceIte, true_and, and_true, false_and, and_false, if_true, if_false, ne_eq, not_true_eq_false, not_false_eq_true]
theorem z_fc_rng : ∀ n : Nat, n ≤ 5 → 1 ≤ z_fc n ∧ z_fc n ≤ 120 := by decide
theorem z_add1_pos {lean : Int} {L s : Int} {D : z_D} (h : c_rd σ X L s D lean D.mn) {side k : Int} (hs : 0 ≤ side ∧ side < 32) (hk : 0 ≤ k ∧ k < 5) (hb : z_bt side k = true) {a : Int} (ha : 0 ≤ a ∧ a < 32) : 0 ≤ z_add1 D lean side (X 0 3) (X 7) k a := by
  unfold z_add1
  split
  · next c =>
    have hp5 : 2 ^ k.toNat < 2 ^ 5 := Nat.pow_lt_pow_right (by omega) (by omega)
    have hor := z_or_32 a.toNat (by omega) (2 ^ k.toNat) (by omega)
    rw [Int.toNat_of_nonneg ha.1] at hor
    have hm := z_Wm_mono (D := D) (lean := lean) (share := D.mn) (t := X 7) (fun g g0 g1 => (h.tab.2.2.2.2 g g0 g1).1) hs h.cp.1 h.tc ha ⟨hor.1, hor.2.1⟩ (fun j j0 j1 hj => by
      have := (hor.2.2.2.2 j.toNat (by omega)).1
      rw [Int.toNat_of_nonneg j0] at this
      rw [this, hj]; rfl)
    have hsub := z_sub_pc side.toNat (by omega) a.toNat (by omega) k.toNat (by omega) (by rw [Int.toNat_of_nonneg hs.1, Int.toNat_of_nonneg ha.1, Int.toNat_of_nonneg hk.1]; exact ⟨c.1, c.2, hb⟩)
    rw [Int.toNat_of_nonneg hs.1, Int.toNat_of_nonneg ha.1] at hsub
    have p1 := z_pc_le side
    have p2 := z_pc_le a
    have f1 := z_fc_rng (z_pc a).toNat (by omega)
    have f2 := z_fc_rng (z_pc side - z_pc a - 1).toNat (by omega)
    exact Int.mul_nonneg (Int.mul_nonneg (by omega) (by omega)) (by omega)
  · omega
theorem C_fair (h : c_inv σ X) (d : Nat) (r : Int) : c_does (z_ev z_hcC (d + 20) 1135 [z_R 1, z_I r] z_hdC σ) (s_fair X r) := by
  have h0 := h
  obtain ⟨L, A, hv⟩ := h
  have hL := hv.1.hL
  obtain ⟨b1, b2, b3⟩ := hv.1.2.1
  have hQ := hv.1.Q
  have hwf := hQ.wf
  have hsl := hv.1.slotAt (d + 17) r
  have hho := c_houseOf (σ := σ) (q := L + 1) (by omega) (d + 17) r
  rw [show L + 1 + 1 = L + 2 by omega, hQ.land.1] at hho
  unfold s_fair
  by_cases c : z_slr X r < 0
  · rw [if_neg (fun z => by omega)]
    refine c_does_i (s := σ) ?_ h0
    simp (disch := omega) only [z_E1135, b1, c_LC hL, hsl, hho, if_pos, z_fdC, z_pdC, z_adC, z_sdC, z_lkC, z_ndC, z_gdC, z_mdC, z_cI_some', z_cV_some', z_w_ok, Int.reduceAdd, Int.reduceSub, Int.reduceMul, Int.reduceNeg, Int.reduceEq, Int.reduceLT, Int.reduceLE, Int.reduceNe, reduceIte, true_and, and_true, false_and, and_false, if_true, if_false, ne_eq, not_true_eq_false, not_false_eq_true]
  · obtain ⟨hr, e6, k0, k1, k5, -⟩ := c_slr_own hv.1.wf c
    have hn := hQ.wf.1
    rw [if_pos (by omega), (hQ.land.2.2.2.2.1 r hr.1 hr.2).2.2.2.2.1] at hho
    by_cases cs : z_seek X (X 5 r) = true
    · rw [if_pos ⟨k0, cs⟩]
      have kc := hv.1.can (d + 15) cs
      obtain ⟨σ1, e1, o1, h1⟩ := hv.1.openNow (d + 14)
      have hsr := z_side_rng hwf (X 5 r) (-1)
      have hb : z_bt (z_side X (X 5 r) (-1)) (z_slr X r) = true := (z_side_bt hwf k0).mpr ⟨k1, by rw [e6], by rw [e6]; omega⟩
      obtain ⟨σ2, e2, o2, h2⟩ := c_growths h1.rd (d + 13) (w := X 5 r) ⟨k0, k5⟩ hb (z_seek_t.mp cs).2
      have e2' : z_ev z_hcC (d + 13 + 6) 920 [z_R 65, z_I (X 5 r), z_I (z_slr X r)] z_hdC σ1 = some (z_I (z_FU X r), z_hdC, σ2) := e2
      have hU : 0 ≤ z_FU X r ∧ z_FU X r ≤ 364953600 := by
        have h1' := z_sm_rng (n := 32) (f := z_add1 (z_Dm X (-1)) (X 0 4) (z_side X (X 5 r) (-1)) (X 0 3) (X 7) (z_slr X r)) (b := 11404800) (fun a a0 a1 => ⟨z_add1_pos h1.rd ⟨hsr.1, hsr.2.1⟩ ⟨k0, k5⟩ hb (by omega), (h1.rd.add1 ⟨hsr.1, hsr.2.1⟩ ⟨k0, k5⟩ hb (by omega)).2⟩)
        exact ⟨h1'.1, Int.le_trans h1'.2 (by omega)⟩
      have hpl := z_pc_le (z_side X (X 5 r) (-1))
      have hN : 1 ≤ z_FN X r ∧ z_FN X r ≤ 120 := z_fc_rng _ (by omega)
      have o12 : z_off 58 75 σ σ2 := z_off_trans (z_off_le o1 (by omega) (by omega)) (z_off_le o2 (by omega) (by omega))
      have hw2 := c_iw_off hv.1 o12 h2.z61 h2.z62
      have hQ2 := hw2.Q
      have hs2 := c_sideOf (d + 16) hQ2.hL hQ2.wf hQ2.land hQ2.shut (X 5 r)
      have hbc := c_bitCount (hc := z_hcC) (hd := z_hdC) (σ := σ2) (d + 18) hsr.1 hsr.2.1
      have hor : z_ev z_hcC (d + 18 + 1) 921 [z_I (z_pc (z_side X (X 5 r) (-1)))] z_hdC σ2 = some (z_I (z_FN X r), z_hdC, σ2) := c_orders (d + 18) hpl.1 hpl.2
      have hcp := c_commonPart (hc := z_hcC) (hd := z_hdC) (σ := σ2) (d + 18) (x := z_FU X r) (y := z_FN X r) hU.1 (by omega) (by omega) (by omega)
      have hgp : 1 ≤ Nat.gcd (z_FU X r).toNat (z_FN X r).toNat := Nat.gcd_pos_of_pos_right _ (by omega)
      have hgl : Nat.gcd (z_FU X r).toNat (z_FN X r).toNat ≤ (z_FN X r).toNat := Nat.gcd_le_right _ (by omega)
      generalize hG : Nat.gcd (z_FU X r).toNat (z_FN X r).toNat = G at *
      obtain ⟨c1, c2, c3⟩ := c_clear (σ := σ2) (d + 18)
      have d1 := z_div_ok (x := z_FU X r) (y := (G : Int)) hU.1 (by omega) (by omega) (by omega)
      have d2 := z_div_ok (x := z_FN X r) (y := (G : Int)) (by omega) (by omega) (by omega) (by omega)
      have d3 := z_div_ok (x := z_FU X r) (y := z_FN X r) hU.1 (by omega) (by omega) (by omega)
      obtain ⟨σ3, e3, r3, o3⟩ := c_add c2 (by simp) (d + 18) (z_FU X r / (G : Int))
      obtain ⟨σ4, e4, r4, o4⟩ := c_add r3 (by simp) (d + 18) (z_FN X r / (G : Int))
      have b12 : σ2 1 7 = L := hw2.2.1.1
      refine c_does_i (s := σ4) ?_ (c_iv_srow (c_iw_row hw2 (z_off_trans c3 (z_off_trans o3 o4))) r4 (by simp))
      simp (disch := omega) only [z_E1135, b1, c_LC hL, hsl, hho, if_neg, kc, e1, e2', b12, hs2, hbc, hor, hcp, if_pos, c1, d1, e3, d2, e4, d3, z_fdC, z_pdC, z_adC, z_sdC, z_lkC, z_ndC, z_gdC, z_mdC, z_cI_some', z_cV_some', z_w_ok, Int.reduceAdd, Int.reduceSub, Int.reduceMul, Int.reduceNeg, Int.reduceEq, Int.reduceLT, Int.reduceLE, Int.reduceNe, reduceIte, true_and, and_true, false_and, and_false, if_true, if_false, ne_eq, not_true_eq_false, not_false_eq_true]
    · rw [if_neg (fun z => cs z.2)]
      have kc := hv.1.not (d + 15) cs
      refine c_does_i (s := σ) ?_ h0
      simp (disch := omega) only [z_E1135, b1, c_LC hL, hsl, hho, if_neg, kc, z_fdC, z_pdC, z_adC, z_sdC, z_lkC, z_ndC, z_gdC, z_mdC, z_cI_some', z_cV_some', z_w_ok, Int.reduceAdd, Int.reduceSub, Int.reduceMul, Int.reduceNeg, Int.reduceEq, Int.reduceLT, Int.reduceLE, Int.reduceNe, reduceIte, true_and, and_true, false_and, and_false, if_true, if_false, ne_eq, not_true_eq_false, not_false_eq_true]
end
