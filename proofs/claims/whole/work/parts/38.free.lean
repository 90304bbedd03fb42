/-! Study: what may not be asked, ceilings. -/
def z_dm (x y : Int) : Int := z_and x (z_xor y (-1))
theorem z_dm_all : ∀ x : Nat, x < 32 → ∀ y : Nat, y < 32 → 0 ≤ z_dm x y ∧ z_dm x y < 32 ∧ z_pc (z_dm x y) ≤ z_pc x ∧ ∀ k : Nat, k < 5 → z_bt (z_dm x y) k = (z_bt x k && !z_bt y k) := by decide +kernel
theorem z_dm_ok {x y : Int} (h : 0 ≤ x ∧ x < 32) (h' : 0 ≤ y ∧ y < 32) : (0 ≤ z_dm x y ∧ z_dm x y < 32) ∧ z_pc (z_dm x y) ≤ z_pc x ∧ ∀ k : Int, 0 ≤ k → k < 5 → z_bt (z_dm x y) k = (z_bt x k && !z_bt y k) := by
  have := z_dm_all x.toNat (by omega) y.toNat (by omega)
  rw [Int.toNat_of_nonneg h.1, Int.toNat_of_nonneg h'.1] at this
  refine ⟨⟨this.1, this.2.1⟩, this.2.2.1, fun k k0 k1 => ?_⟩
  have h2 := this.2.2.2 k.toNat (by omega)
  rwa [Int.toNat_of_nonneg k0] at h2
theorem z_pow_mono {b : Int} (h : 1 ≤ b) {n m : Nat} (hnm : n ≤ m) : b ^ n ≤ b ^ m := by
  induction hnm with
  | refl => exact Int.le_refl _
  | @step k _ ih =>
    rw [Int.pow_succ]
    have := Int.mul_le_mul_of_nonneg_left h (Int.pow_nonneg (m := k) (show 0 ≤ b by omega))
    rw [Int.mul_one] at this
    exact Int.le_trans ih this
theorem z_tot_le {m m' cp : Int} (h : z_pc m ≤ z_pc m') (hc : 0 ≤ cp) : z_tot m cp ≤ z_tot m' cp := by
  have h1 := z_pc_le m
  have hp : (cp + 1) ^ (z_pc m).toNat ≤ (cp + 1) ^ (z_pc m').toNat := z_pow_mono (by omega) (by omega)
  unfold z_tot; omega
theorem z_tot_lec {m cp cp' : Int} (h : cp ≤ cp') (hc : 0 ≤ cp) : z_tot m cp ≤ z_tot m cp' := by
  have hp : ∀ n : Nat, (cp + 1) ^ n ≤ (cp' + 1) ^ n := by
    intro n
    induction n with
    | zero => simp
    | succ n ih =>
      rw [Int.pow_succ, Int.pow_succ]
      exact Int.mul_le_mul ih (by omega) (by omega) (Int.pow_nonneg (by omega))
  have := hp (z_pc m).toNat
  unfold z_tot; omega
section
variable {σ X : z_S} {L s lean : Int} {D : z_D} {share : Int → Int}
/-- the best of a side, some slots free of toll -/
noncomputable def z_xv (D : z_D) (lean : Int) (share : Int → Int) (side cap : Int) (t : Int → Int) (free : Int) : Int := z_hv D lean share side (z_dm side free) cap (z_t0 free t)
noncomputable def z_xt (D : z_D) (lean : Int) (share : Int → Int) (side cap : Int) (t : Int → Int) (free : Int) : Int → Int := z_ht D lean share side (z_dm side free) cap (z_t0 free t)
theorem z_t0_cap {cap : Int} {t : Int → Int} {m : Int} (hc : 0 ≤ cap) (h : z_tcap cap t) : z_tcap cap (z_t0 m t) := fun k k0 k1 => by
  have := h k k0 k1
  unfold z_t0
  split <;> omega
/-- Study.huntWithFree -/
theorem c_huntWithFree (h : c_rd σ X L s D lean share) (d : Nat) {side free : Int} (hs : 0 ≤ side ∧ side < 32) (hf : 0 ≤ free ∧ free < 32) (htot : z_tot side (X 0 3) ≤ 20000) :
    ∃ σ', z_ev z_hcC (d + 5) 911 [z_R 65, z_I side, z_I free] z_hdC σ = some (z_I (z_xv D lean share side (X 0 3) (X 7) free), z_hdC, σ') ∧ z_off 59 67 σ σ' ∧ (∀ a i : Int, 64 ≤ a → a ≤ 66 → σ' a i = σ a i) ∧ (∀ k : Int, 0 ≤ k → k < 5 → σ' 63 k = z_xt D lean share side (X 0 3) (X 7) free k) ∧ c_rd σ' X L s D lean share := by
  have hcp := h.cp
  obtain ⟨hdm, hpc, -⟩ := z_dm_ok hs hf
  have hto := z_tot_le hpc hcp.1
  obtain ⟨σ2, e2, o2, k2, f2⟩ := z_for (fun k x => z_go (z_ev z_hcC (d + 4)) z_hcC 911 2 [z_R 65, z_I side, z_I free, z_I k] [] z_hdC x) (fun x => z_cI (z_ev z_hcC (d + 4) 412 [z_R 58, z_R 67, z_I side, z_I (z_dm side free), z_I (X 0 3)] z_hdC x) (fun v h1 s2 => some (z_I v, h1, s2)))
    (fun k x => z_off 67 67 σ x ∧ c_rd x X L s D lean share ∧ ∀ j : Int, 0 ≤ j → j < k → x 67 j = z_t0 free (X 7) j) 5 (s := σ) ⟨z_off_refl, h, fun j j0 j1 => by omega⟩ (fun k x hk ⟨ho, hr, hz⟩ => by
      have hbit := z_bit (m := free) (k := k) hf.1 (by omega) (by omega) (by omega)
      have ht := hr.tolls (k := (k : Int)) (by omega) (by omega)
      have fin : ∀ v, v = z_t0 free (X 7) k → z_off 67 67 σ (z_upd x 67 k v) ∧ c_rd (z_upd x 67 k v) X L s D lean share ∧ ∀ j : Int, 0 ≤ j → j < ((k + 1 : Nat) : Int) → (z_upd x 67 k v) 67 j = z_t0 free (X 7) j := fun v hv => by
        have hu : z_off 67 67 x (z_upd x 67 k v) := z_off_upd (by omega) (by omega)
        refine ⟨z_off_trans ho hu, c_rd_off hu (by omega) hr, fun j j0 j1 => ?_⟩
        by_cases hj : j = k
        · subst hj; rw [z_upd_same]; exact hv
        · rw [z_upd_ne (Or.inr hj)]; exact hz j j0 (by omega)
      by_cases c : z_bt free k = true
      · rw [if_pos c] at hbit
        refine ⟨_, ?_, fin 0 (by unfold z_t0; rw [if_pos ⟨by omega, c⟩])⟩
        rw [z_B911_2]
        simp (disch := omega) only [if_neg, hbit, z_ns, z_fdC, z_pdC, z_adC, z_sdC, z_lkC, z_ndC, z_gdC, z_mdC, z_cI_some', z_cV_some', z_w_ok, Int.reduceAdd, Int.reduceSub, Int.reduceMul, Int.reduceNeg, Int.reduceEq, Int.reduceLT, Int.reduceLE, Int.reduceNe, reduceIte, true_and, and_true, false_and, and_false, if_true, if_false, ne_eq, not_true_eq_false, not_false_eq_true]
      · rw [if_neg c] at hbit
        refine ⟨_, ?_, fin (X 7 k) (by unfold z_t0; rw [if_neg (fun z => c z.2)])⟩
        rw [z_B911_2]
        simp (disch := omega) only [if_neg, hbit, z_ns, hr.roads, c_LC h.hL, c_LA h.hL, ht, z_fdC, z_pdC, z_adC, z_sdC, z_lkC, z_ndC, z_gdC, z_mdC, z_cI_some', z_cV_some', z_w_ok, Int.reduceAdd, Int.reduceSub, Int.reduceMul, Int.reduceNeg, Int.reduceEq, Int.reduceLT, Int.reduceLE, Int.reduceNe, reduceIte, true_and, and_true, false_and, and_false, if_true, if_false, ne_eq, not_true_eq_false, not_false_eq_true]) (fun x ⟨ho, hr, hz⟩ => by
      rw [z_B911_2]
      simp (disch := omega) only [if_pos, hr.roads, hr.capv, c_LC h.hL, c_LA h.hL, z_fdC, z_pdC, z_adC, z_sdC, z_lkC, z_ndC, z_gdC, z_mdC, z_cI_some', z_cV_some', z_w_ok, Int.reduceAdd, Int.reduceSub, Int.reduceMul, Int.reduceNeg, Int.reduceEq, Int.reduceLT, Int.reduceLE, Int.reduceNe, reduceIte, true_and, and_true, false_and, and_false, if_true, if_false, ne_eq, not_true_eq_false, not_false_eq_true]
      rfl)
  obtain ⟨σ3, e3, o3, f3, h3⟩ := k2.hunt (a1 := 67) (side := side) (mv := z_dm side free) (cp := X 0 3) (t := z_t0 free (X 7)) d (by unfold z_arr5; omega) (z_t0_cap hcp.1 h.tc) hs hdm ⟨hcp.1, Int.le_refl _⟩ (by omega) f2
  refine ⟨σ3, ?_, z_off_trans (z_off_le o2 (by omega) (by omega)) (z_off_le o3 (by omega) (by omega)), fun a i a0 a1 => by rw [z_oat o3 (by omega), z_oat o2 (by omega)], f3, h3.rd⟩
  rw [z_E911]
  refine e2.trans ?_
  rw [e3]
  rfl
theorem c_bestWithFree (h : c_rd σ X L s D lean share) (d : Nat) {w free : Int} (hf : 0 ≤ free ∧ free < 32) (htot : z_tot (z_side X w s) (X 0 3) ≤ 20000) :
    ∃ σ', z_ev z_hcC (d + 6) 912 [z_R 65, z_I w, z_I free] z_hdC σ = some (z_I (z_xv D lean share (z_side X w s) (X 0 3) (X 7) free), z_hdC, σ') ∧ z_off 59 75 σ σ' ∧ c_rd σ' X L s D lean share := by
  have hsd := h.side (d + 2) w
  have hsr := h.sr w
  generalize z_side X w s = side at htot hsd hsr ⊢
  obtain ⟨σ', e, o, -, -, h'⟩ := c_huntWithFree h d hsr hf htot
  refine ⟨σ', ?_, z_off_le o (by omega) (by omega), h'⟩
  simp (disch := omega) only [z_E912, h.roads, c_LC h.hL, hsd, e, z_fdC, z_pdC, z_adC, z_sdC, z_lkC, z_ndC, z_gdC, z_mdC, z_cI_some', z_cV_some', z_w_ok, Int.reduceAdd, Int.reduceSub, Int.reduceMul, Int.reduceNeg, Int.reduceEq, Int.reduceLT, Int.reduceLE, Int.reduceNe, reduceIte, true_and, and_true, false_and, and_false, if_true, if_false, ne_eq, not_true_eq_false, not_false_eq_true]
theorem c_rd.shm (h : c_rd σ X L s D lean D.mn) : ∀ g, 0 ≤ g → g < D.gN → D.mn g ≤ 99 := fun g g0 g1 => (h.tab.2.2.2.2 g g0 g1).2.2.2.2.1.2
theorem c_at.suf {t : Int → Int} {mv cp : Int} (h : c_at σ X L s D lean D.mn t mv cp) (d : Nat) : z_ev z_hcC (d + 4) 410 [z_R 58] z_hdC σ = some (z_I (z_suf D.op D.mn D.gN lean t), z_hdC, σ) ∧ 0 ≤ z_suf D.op D.mn D.gN lean t := c_sufferedNow d h.rd.tab h.rd.mk h.rd.shm h.sets h.cap
theorem c_rd.sufpos (h : c_rd σ X L s D lean D.mn) {t : Int → Int} (ht : z_tcap (X 0 3) t) : 0 ≤ z_suf D.op D.mn D.gN lean t := by
  have := z_sm_rng (n := D.gN.toNat) (f := fun g => D.mn g * z_pn (D.op g) t lean) (b := 99 * 2100) (fun g g0 g1 => by
    have hg := h.tab.2.2.2.2 g g0 (by have := h.gn; omega)
    have h2 := z_pn_rng (lean := lean) hg.1 (z_tcap_20 h.cp.2 ht)
    exact z_mul_rng (by have := hg.2.2.2.2.1; omega) hg.2.2.2.2.1.2 h2.1 h2.2)
  exact this.1
/-- the least f of those with P (least, which, what it brings); the last of the least if later -/
def z_lst (P : Int → Bool) (f b : Int → Int) (later : Bool) : Nat → Int × Int × Int
  | 0 => (-1, 0, 0)
  | n + 1 => if P n = true ∧ ((z_lst P f b later n).1 < 0 ∨ f n < (z_lst P f b later n).1 ∨ (later = true ∧ f n = (z_lst P f b later n).1)) then (f n, n, b n) else z_lst P f b later n
theorem z_lst_pos {P : Int → Bool} {f b : Int → Int} {later : Bool} (hf : ∀ k : Int, 0 ≤ k → 0 ≤ f k) : ∀ {n m : Nat}, m < n → P m = true → 0 ≤ (z_lst P f b later n).1
  | 0, m, h, _ => by omega
  | n + 1, m, h, hP => by
    unfold z_lst
    split
    · exact hf n (by omega)
    · next c =>
      by_cases hm : m = n
      · subst hm
        rcases Int.lt_or_le (z_lst P f b later m).1 0 with h0 | h0
        · exact absurd ⟨hP, Or.inl h0⟩ c
        · exact h0
      · exact z_lst_pos hf (n := n) (m := m) (by omega) hP
/-- Study.spareOf -/
theorem c_spareOf (h : c_rd σ X L s D lean D.mn) (d : Nat) {w k : Int} (htot : z_tot (z_side X w s) (X 0 3) ≤ 20000) :
    ∃ σ', z_ev z_hcC (d + 6) 913 [z_R 65, z_I w, z_I k] z_hdC σ = some (z_I (z_lst (fun m => decide (z_dm m (z_side X w s) = 0) && decide (z_pc m = k)) (fun m => z_suf D.op D.mn D.gN lean (z_xt D lean D.mn (z_side X w s) (X 0 3) (X 7) m)) (z_xv D lean D.mn (z_side X w s) (X 0 3) (X 7)) false 32).1, z_hdC, σ') ∧ z_off 59 75 σ σ' ∧ c_rd σ' X L s D lean D.mn ∧
      (0 ≤ (z_lst (fun m => decide (z_dm m (z_side X w s) = 0) && decide (z_pc m = k)) (fun m => z_suf D.op D.mn D.gN lean (z_xt D lean D.mn (z_side X w s) (X 0 3) (X 7) m)) (z_xv D lean D.mn (z_side X w s) (X 0 3) (X 7)) false 32).1 → (σ' 65 0, σ' 65 1) = (z_lst (fun m => decide (z_dm m (z_side X w s) = 0) && decide (z_pc m = k)) (fun m => z_suf D.op D.mn D.gN lean (z_xt D lean D.mn (z_side X w s) (X 0 3) (X 7) m)) (z_xv D lean D.mn (z_side X w s) (X 0 3) (X 7)) false 32).2) := by
  have hsd := h.side (d + 2) w
  have hsr := h.sr w
  have hcp := h.cp
  generalize z_side X w s = side at htot hsd hsr ⊢
  generalize hG : z_lst (fun m => decide (z_dm m side = 0) && decide (z_pc m = k)) (fun m => z_suf D.op D.mn D.gN lean (z_xt D lean D.mn side (X 0 3) (X 7) m)) (z_xv D lean D.mn side (X 0 3) (X 7)) false = G
  have hstep : ∀ n : Nat, G (n + 1) = if (z_dm n side = 0 ∧ z_pc n = k) ∧ ((G n).1 < 0 ∨ z_suf D.op D.mn D.gN lean (z_xt D lean D.mn side (X 0 3) (X 7) n) < (G n).1) then (z_suf D.op D.mn D.gN lean (z_xt D lean D.mn side (X 0 3) (X 7) n), (n : Int), z_xv D lean D.mn side (X 0 3) (X 7) n) else G n := fun n => by
    rw [← hG]
    show (if _ then _ else _) = _
    simp only [Bool.and_eq_true, decide_eq_true_eq, Bool.false_eq_true, false_and, or_false]
  have hG0 : G 0 = (-1, 0, 0) := by rw [← hG]; rfl
  obtain ⟨u2, σ2, e2, o2, k2, f2⟩ := z_foru (U := z_V × z_V) (fun n u x => z_go (z_ev z_hcC (d + 5)) z_hcC 913 18 [z_R 65, z_I w, z_I k, z_I side, z_I (G n).1, z_I n, u.1, u.2] [] z_hdC x) (fun u x => some (z_I (G 32).1, z_hdC, x))
    (fun n x => z_off 59 75 σ x ∧ c_rd x X L s D lean D.mn ∧ (0 ≤ (G n).1 → (x 65 0, x 65 1) = (G n).2)) 32 (u := (z_U, z_U)) (s := σ) ⟨z_off_refl, h, fun hh => by rw [hG0] at hh; exact absurd hh (by decide)⟩ (fun n u x hn ⟨ho, hr, hz⟩ => by
      have hst := hstep n
      have hbc := c_bitCount (hc := z_hcC) (hd := z_hdC) (σ := x) (d + 4) (m := (n : Int)) (by omega) (by omega)
      have hdm : z_and (n : Int) (z_xor side (-1)) = z_dm n side := rfl
      by_cases c1 : z_dm n side = 0
      · by_cases c2 : z_pc n = k
        · obtain ⟨σ3, l1, l2, l3, l4, l5⟩ := c_huntWithFree hr d (side := side) (free := n) hsr ⟨by omega, by omega⟩ htot
          obtain ⟨hdn, hpc, -⟩ := z_dm_ok hsr (y := n) ⟨by omega, by omega⟩
          obtain ⟨σ4, m1, m2, m3⟩ := l5.fix (d + 2) (a1 := 63) (by unfold z_arr5; omega) (h.htc (z_t0_cap hcp.1 h.tc) (Int.le_refl _)) l4
          obtain ⟨n1, n2⟩ := m3.suf (d + 1)
          have hk65 : ∀ i, σ4 65 i = x 65 i := fun i => by rw [z_oat m2 (by omega), l3 65 i (by omega) (by omega)]
          have ho4 := z_off_trans ho (z_off_trans (z_off_le l2 (by omega) (by omega)) (z_off_le m2 (lo' := 59) (hi' := 75) (by omega) (by omega)))
          have e : z_suf D.op D.mn D.gN lean (z_ht D lean D.mn side (z_dm side n) (X 0 3) (z_t0 n (X 7))) = z_suf D.op D.mn D.gN lean (z_xt D lean D.mn side (X 0 3) (X 7) n) := rfl
          rw [e] at n1 n2
          by_cases c3 : (G n).1 < 0 ∨ z_suf D.op D.mn D.gN lean (z_xt D lean D.mn side (X 0 3) (X 7) n) < (G n).1
          · rw [if_pos ⟨⟨c1, c2⟩, c3⟩] at hst
            have hoff : z_off 65 65 σ4 (z_upd (z_upd σ4 65 0 n) 65 1 (z_xv D lean D.mn side (X 0 3) (X 7) n)) := z_off_trans (z_off_upd (by omega) (by omega)) (z_off_upd (by omega) (by omega))
            refine ⟨(z_I (z_xv D lean D.mn side (X 0 3) (X 7) n), z_I (z_suf D.op D.mn D.gN lean (z_xt D lean D.mn side (X 0 3) (X 7) n))), _, ?_, z_off_trans ho4 (z_off_le hoff (by omega) (by omega)), c_rd_off hoff (by omega) m3.rd, fun _ => ?_⟩
            · rw [z_B913_18, hst]
              by_cases c4 : (G n).1 < 0
              · simp (disch := omega) only [z_B913_87, if_neg, if_pos, hdm, c1, hbc, c2, l1, m1, n1, z_ns, z_fdC, z_pdC, z_adC, z_sdC, z_lkC, z_ndC, z_gdC, z_mdC, z_cI_some', z_cV_some', z_w_ok, Int.reduceAdd, Int.reduceSub, Int.reduceMul, Int.reduceNeg, Int.reduceEq, Int.reduceLT, Int.reduceLE, Int.reduceNe, reduceIte, true_and, and_true, false_and, and_false, if_true, if_false, ne_eq, not_true_eq_false, not_false_eq_true]
              · simp (disch := omega) only [z_B913_87, if_neg, if_pos, hdm, c1, hbc, c2, l1, m1, n1, z_ns, z_fdC, z_pdC, z_adC, z_sdC, z_lkC, z_ndC, z_gdC, z_mdC, z_cI_some', z_cV_some', z_w_ok, Int.reduceAdd, Int.reduceSub, Int.reduceMul, Int.reduceNeg, Int.reduceEq, Int.reduceLT, Int.reduceLE, Int.reduceNe, reduceIte, true_and, and_true, false_and, and_false, if_true, if_false, ne_eq, not_true_eq_false, not_false_eq_true]
            · rw [hst, z_upd_ne (by omega), z_upd_same, z_upd_same]
          · rw [if_neg (fun z => c3 z.2)] at hst
            refine ⟨(z_I (z_xv D lean D.mn side (X 0 3) (X 7) n), z_I (z_suf D.op D.mn D.gN lean (z_xt D lean D.mn side (X 0 3) (X 7) n))), σ4, ?_, ho4, m3.rd, fun hh => by rw [hst] at hh ⊢; rw [hk65, hk65]; exact hz hh⟩
            rw [z_B913_18, hst]
            simp (disch := omega) only [z_B913_87, if_neg, if_pos, hdm, c1, hbc, c2, l1, m1, n1, z_ns, z_fdC, z_pdC, z_adC, z_sdC, z_lkC, z_ndC, z_gdC, z_mdC, z_cI_some', z_cV_some', z_w_ok, Int.reduceAdd, Int.reduceSub, Int.reduceMul, Int.reduceNeg, Int.reduceEq, Int.reduceLT, Int.reduceLE, Int.reduceNe, reduceIte, true_and, and_true, false_and, and_false, if_true, if_false, ne_eq, not_true_eq_false, not_false_eq_true]
        · rw [if_neg (fun z => c2 z.1.2)] at hst
          refine ⟨u, x, ?_, ho, hr, fun hh => by rw [hst] at hh ⊢; exact hz hh⟩
          rw [z_B913_18, hst]
          simp (disch := omega) only [z_B913_87, if_neg, if_pos, hdm, c1, hbc, c2, z_ns, z_fdC, z_pdC, z_adC, z_sdC, z_lkC, z_ndC, z_gdC, z_mdC, z_cI_some', z_cV_some', z_w_ok, Int.reduceAdd, Int.reduceSub, Int.reduceMul, Int.reduceNeg, Int.reduceEq, Int.reduceLT, Int.reduceLE, Int.reduceNe, reduceIte, true_and, and_true, false_and, and_false, if_true, if_false, ne_eq, not_true_eq_false, not_false_eq_true]
      · rw [if_neg (fun z => c1 z.1.1)] at hst
        refine ⟨u, x, ?_, ho, hr, fun hh => by rw [hst] at hh ⊢; exact hz hh⟩
        rw [z_B913_18, hst]
        simp (disch := omega) only [z_B913_87, if_neg, if_pos, hdm, c1, z_ns, z_fdC, z_pdC, z_adC, z_sdC, z_lkC, z_ndC, z_gdC, z_mdC, z_cI_some', z_cV_some', z_w_ok, Int.reduceAdd, Int.reduceSub, Int.reduceMul, Int.reduceNeg, Int.reduceEq, Int.reduceLT, Int.reduceLE, Int.reduceNe, reduceIte, true_and, and_true, false_and, and_false, if_true, if_false, ne_eq, not_true_eq_false, not_false_eq_true]) (fun u x _ => by
      rw [z_B913_18]
      simp (disch := omega) only [if_pos, z_fdC, z_pdC, z_adC, z_sdC, z_lkC, z_ndC, z_gdC, z_mdC, z_cI_some', z_cV_some', z_w_ok, Int.reduceAdd, Int.reduceSub, Int.reduceMul, Int.reduceNeg, Int.reduceEq, Int.reduceLT, Int.reduceLE, Int.reduceNe, reduceIte, true_and, and_true, false_and, and_false, if_true, if_false, ne_eq, not_true_eq_false, not_false_eq_true])
  refine ⟨σ2, ?_, o2, k2, f2⟩
  simp (disch := omega) only [z_E913, z_B913_87, h.roads, c_LC h.hL, hsd, z_fdC, z_pdC, z_adC, z_sdC, z_lkC, z_ndC, z_gdC, z_mdC, z_cI_some', z_cV_some', z_w_ok, Int.reduceAdd, Int.reduceSub, Int.reduceMul, Int.reduceNeg, Int.reduceEq, Int.reduceLT, Int.reduceLE, Int.reduceNe, reduceIte, true_and, and_true, false_and, and_false, if_true, if_false, ne_eq, not_true_eq_false, not_false_eq_true]
  rw [hG0] at e2
  exact e2
/-- Study.ceilingOf -/
theorem c_ceilingOf (h : c_rd σ X L s D lean D.mn) (d : Nat) {w : Int} (htot : z_tot (z_side X w s) (X 0 3) ≤ 20000) :
    ∃ σ', z_ev z_hcC (d + 6) 914 [z_R 65, z_I w] z_hdC σ = some (z_I (z_lst (fun _ => true) (fun c => z_suf D.op D.mn D.gN lean (z_ht D lean D.mn (z_side X w s) (z_side X w s) c (X 7))) (fun c => z_hv D lean D.mn (z_side X w s) (z_side X w s) c (X 7)) true (X 0 3 + 1).toNat).1, z_hdC, σ') ∧ z_off 59 75 σ σ' ∧ c_rd σ' X L s D lean D.mn ∧
      (0 ≤ (z_lst (fun _ => true) (fun c => z_suf D.op D.mn D.gN lean (z_ht D lean D.mn (z_side X w s) (z_side X w s) c (X 7))) (fun c => z_hv D lean D.mn (z_side X w s) (z_side X w s) c (X 7)) true (X 0 3 + 1).toNat).1 → (σ' 65 0, σ' 65 1) = (z_lst (fun _ => true) (fun c => z_suf D.op D.mn D.gN lean (z_ht D lean D.mn (z_side X w s) (z_side X w s) c (X 7))) (fun c => z_hv D lean D.mn (z_side X w s) (z_side X w s) c (X 7)) true (X 0 3 + 1).toNat).2) := by
  have hsd := h.side (d + 2) w
  have hsr := h.sr w
  have hcp := h.cp
  generalize z_side X w s = side at htot hsd hsr ⊢
  generalize hG : z_lst (fun _ => true) (fun c => z_suf D.op D.mn D.gN lean (z_ht D lean D.mn side side c (X 7))) (fun c => z_hv D lean D.mn side side c (X 7)) true = G
  have hstep : ∀ n : Nat, G (n + 1) = if (G n).1 < 0 ∨ z_suf D.op D.mn D.gN lean (z_ht D lean D.mn side side n (X 7)) ≤ (G n).1 then (z_suf D.op D.mn D.gN lean (z_ht D lean D.mn side side n (X 7)), (n : Int), z_hv D lean D.mn side side n (X 7)) else G n := fun n => by
    rw [← hG]
    show (if _ then _ else _) = _
    simp only [true_and]
    have e : ∀ a b : Int, (a < b ∨ a = b) ↔ a ≤ b := fun a b => by omega
    simp only [e]
  have hG0 : G 0 = (-1, 0, 0) := by rw [← hG]; rfl
  obtain ⟨u2, σ2, e2, o2, k2, f2⟩ := z_foru (U := z_V × z_V) (fun n u x => z_go (z_ev z_hcC (d + 5)) z_hcC 914 17 [z_R 65, z_I w, z_I side, z_I (G n).1, z_I n, u.1, u.2] [] z_hdC x) (fun u x => some (z_I (G (X 0 3 + 1).toNat).1, z_hdC, x))
    (fun n x => z_off 59 75 σ x ∧ c_rd x X L s D lean D.mn ∧ (0 ≤ (G n).1 → (x 65 0, x 65 1) = (G n).2)) (X 0 3 + 1).toNat (u := (z_U, z_U)) (s := σ) ⟨z_off_refl, h, fun hh => by rw [hG0] at hh; exact absurd hh (by decide)⟩ (fun n u x hn ⟨ho, hr, hz⟩ => by
      have hst := hstep n
      obtain ⟨σ3, l1, l2, l4, l5⟩ := hr.hunt (d + 1) (side := side) (mv := side) (cp := n) hr.a5 hr.tc hsr hsr ⟨by omega, by omega⟩ (by have := z_tot_lec (m := side) (cp := (n : Int)) (cp' := X 0 3) (by omega) (by omega); omega) (fun i => hr.tolls)
      obtain ⟨σ4, m1, m2, m3⟩ := l5.rd.fix (d + 2) (a1 := 63) (by unfold z_arr5; omega) (h.htc h.tc (show (n : Int) ≤ X 0 3 by omega)) l4
      obtain ⟨n1, n2⟩ := m3.suf (d + 1)
      have hk65 : ∀ i, σ4 65 i = x 65 i := fun i => by rw [z_oat m2 (by omega), z_oat l2 (by omega)]
      have ho4 := z_off_trans ho (z_off_trans (z_off_le l2 (by omega) (by omega)) (z_off_le m2 (lo' := 59) (hi' := 75) (by omega) (by omega)))
      by_cases c3 : (G n).1 < 0 ∨ z_suf D.op D.mn D.gN lean (z_ht D lean D.mn side side n (X 7)) ≤ (G n).1
      · rw [if_pos c3] at hst
        have hoff : z_off 65 65 σ4 (z_upd (z_upd σ4 65 0 n) 65 1 (z_hv D lean D.mn side side n (X 7))) := z_off_trans (z_off_upd (by omega) (by omega)) (z_off_upd (by omega) (by omega))
        refine ⟨(z_I (z_hv D lean D.mn side side n (X 7)), z_I (z_suf D.op D.mn D.gN lean (z_ht D lean D.mn side side n (X 7)))), _, ?_, z_off_trans ho4 (z_off_le hoff (by omega) (by omega)), c_rd_off hoff (by omega) m3.rd, fun _ => ?_⟩
        · rw [z_B914_17, hst]
          by_cases c4 : (G n).1 < 0
          · simp (disch := omega) only [z_B914_88, if_neg, if_pos, hr.roads, hr.capv, c_LC h.hL, l1, m1, n1, z_ns, z_fdC, z_pdC, z_adC, z_sdC, z_lkC, z_ndC, z_gdC, z_mdC, z_cI_some', z_cV_some', z_w_ok, Int.reduceAdd, Int.reduceSub, Int.reduceMul, Int.reduceNeg, Int.reduceEq, Int.reduceLT, Int.reduceLE, Int.reduceNe, reduceIte, true_and, and_true, false_and, and_false, if_true, if_false, ne_eq, not_true_eq_false, not_false_eq_true]
          · simp (disch := omega) only [z_B914_88, if_neg, if_pos, hr.roads, hr.capv, c_LC h.hL, l1, m1, n1, z_ns, z_fdC, z_pdC, z_adC, z_sdC, z_lkC, z_ndC, z_gdC, z_mdC, z_cI_some', z_cV_some', z_w_ok, Int.reduceAdd, Int.reduceSub, Int.reduceMul, Int.reduceNeg, Int.reduceEq, Int.reduceLT, Int.reduceLE, Int.reduceNe, reduceIte, true_and, and_true, false_and, and_false, if_true, if_false, ne_eq, not_true_eq_false, not_false_eq_true]
        · rw [hst, z_upd_ne (by omega), z_upd_same, z_upd_same]
      · rw [if_neg c3] at hst
        refine ⟨(z_I (z_hv D lean D.mn side side n (X 7)), z_I (z_suf D.op D.mn D.gN lean (z_ht D lean D.mn side side n (X 7)))), σ4, ?_, ho4, m3.rd, fun hh => by rw [hst] at hh ⊢; rw [hk65, hk65]; exact hz hh⟩
        rw [z_B914_17, hst]
        simp (disch := omega) only [z_B914_88, if_neg, if_pos, hr.roads, hr.capv, c_LC h.hL, l1, m1, n1, z_ns, z_fdC, z_pdC, z_adC, z_sdC, z_lkC, z_ndC, z_gdC, z_mdC, z_cI_some', z_cV_some', z_w_ok, Int.reduceAdd, Int.reduceSub, Int.reduceMul, Int.reduceNeg, Int.reduceEq, Int.reduceLT, Int.reduceLE, Int.reduceNe, reduceIte, true_and, and_true, false_and, and_false, if_true, if_false, ne_eq, not_true_eq_false, not_false_eq_true]) (fun u x ⟨ho, hr, hz⟩ => by
      rw [z_B914_17]
      simp (disch := omega) only [if_pos, hr.roads, hr.capv, c_LC h.hL, z_fdC, z_pdC, z_adC, z_sdC, z_lkC, z_ndC, z_gdC, z_mdC, z_cI_some', z_cV_some', z_w_ok, Int.reduceAdd, Int.reduceSub, Int.reduceMul, Int.reduceNeg, Int.reduceEq, Int.reduceLT, Int.reduceLE, Int.reduceNe, reduceIte, true_and, and_true, false_and, and_false, if_true, if_false, ne_eq, not_true_eq_false, not_false_eq_true])
  refine ⟨σ2, ?_, o2, k2, f2⟩
  simp (disch := omega) only [z_E914, z_B914_88, h.roads, c_LC h.hL, hsd, z_fdC, z_pdC, z_adC, z_sdC, z_lkC, z_ndC, z_gdC, z_mdC, z_cI_some', z_cV_some', z_w_ok, Int.reduceAdd, Int.reduceSub, Int.reduceMul, Int.reduceNeg, Int.reduceEq, Int.reduceLT, Int.reduceLE, Int.reduceNe, reduceIte, true_and, and_true, false_and, and_false, if_true, if_false, ne_eq, not_true_eq_false, not_false_eq_true]
  rw [hG0] at e2
  exact e2
end
