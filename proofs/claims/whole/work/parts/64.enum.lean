/-! Sets of tolls, numbered: each comes once. -/
/-- moved tolls are in 0 .. cp -/
def z_dgc (S cp : Int) (t : Int → Int) : Prop := ∀ k : Int, 0 ≤ k → k < 5 → z_bt S k = true → 0 ≤ t k ∧ t k ≤ cp
section
variable {S cp : Int}
theorem z_pl_congr {t t' : Int → Int} : ∀ {n : Nat}, (∀ k : Int, 0 ≤ k → k < n → z_bt S k = true → t k = t' k) → z_pl S cp t n = z_pl S cp t' n
  | 0, _ => rfl
  | n + 1, h => by
    unfold z_pl
    rw [z_pl_congr (fun k k0 k1 => h k k0 (by omega))]
    by_cases c : z_bt S n = true
    · rw [if_pos c, if_pos c, h n (by omega) (by omega) c]
    · rw [if_neg c, if_neg c]
theorem z_pl_rng' {t : Int → Int} (hc : 0 ≤ cp) (ht : z_dgc S cp t) : ∀ {n : Nat}, n ≤ 5 → 0 ≤ z_pl S cp t n ∧ z_pl S cp t n < (cp + 1) ^ z_cnt S n
  | 0, _ => by unfold z_pl z_cnt; simp
  | n + 1, h => by
    have ih := z_pl_rng' hc ht (n := n) (by omega)
    unfold z_pl z_cnt
    by_cases c : z_bt S n = true
    · rw [if_pos c, if_pos c]
      have h1 := ht n (by omega) (by omega) c
      rw [Int.pow_succ]
      have h2 : 0 ≤ z_pl S cp t n * (cp + 1) := Int.mul_nonneg ih.1 (by omega)
      have h3 : (z_pl S cp t n + 1) * (cp + 1) ≤ (cp + 1) ^ z_cnt S n * (cp + 1) := Int.mul_le_mul_of_nonneg_right (by omega) (by omega)
      rw [Int.add_mul, Int.one_mul] at h3
      omega
    · rw [if_neg c, if_neg c]; exact ih
theorem z_pl_eq' {t t' : Int → Int} (hc : 0 ≤ cp) (ht : z_dgc S cp t) (ht' : z_dgc S cp t') : ∀ {n : Nat}, n ≤ 5 → z_pl S cp t n = z_pl S cp t' n → ∀ k : Int, 0 ≤ k → k < n → z_bt S k = true → t k = t' k
  | 0, _, _ => fun k k0 k1 => by omega
  | n + 1, h, e => by
    unfold z_pl at e
    by_cases hb : z_bt S n = true
    · have h1 := ht n (by omega) (by omega) hb
      have h2 := ht' n (by omega) (by omega) hb
      rw [if_pos hb, if_pos hb] at e
      have e1 : (z_pl S cp t n * (cp + 1) + t n) / (cp + 1) = z_pl S cp t n := by
        rw [Int.add_comm, Int.add_mul_ediv_right _ _ (by omega), Int.ediv_eq_zero_of_lt h1.1 (by omega)]; omega
      have e2 : (z_pl S cp t' n * (cp + 1) + t' n) / (cp + 1) = z_pl S cp t' n := by
        rw [Int.add_comm, Int.add_mul_ediv_right _ _ (by omega), Int.ediv_eq_zero_of_lt h2.1 (by omega)]; omega
      have e3 : z_pl S cp t n = z_pl S cp t' n := by rw [← e1, ← e2, e]
      intro k k0 k1 hk
      by_cases hkn : k = n
      · subst hkn; rw [e3] at e; omega
      · exact z_pl_eq' hc ht ht' (by omega) e3 k k0 (by omega) hk
    · rw [if_neg hb, if_neg hb] at e
      intro k k0 k1 hk
      by_cases hkn : k = n
      · subst hkn; exact absurd hk hb
      · exact z_pl_eq' hc ht ht' (by omega) e k k0 (by omega) hk
/-- the next set's number -/
theorem z_pl_inc (hc : 0 ≤ cp) : ∀ {n : Nat} {t : Int → Int}, n ≤ 5 → z_dgc S cp t → z_pl S cp (z_inc S cp n t) n = if z_pl S cp t n + 1 < (cp + 1) ^ z_cnt S n then z_pl S cp t n + 1 else 0
  | 0, t, _, _ => by unfold z_pl z_cnt; simp
  | n + 1, t, h, ht => by
    have hr := z_pl_rng' hc ht (n := n) (by omega)
    by_cases hb : z_bt S n = true
    · have h1 := ht n (by omega) (by omega) hb
      have ec : z_cnt S (n + 1) = z_cnt S n + 1 := by show z_cnt S n + (if _ then _ else _) = _; rw [if_pos hb]
      have ep : ∀ u, z_pl S cp u (n + 1) = z_pl S cp u n * (cp + 1) + u n := fun u => if_pos hb
      rw [ep, ep, ec, Int.pow_succ]
      have h3 : (z_pl S cp t n + 1) * (cp + 1) ≤ (cp + 1) ^ z_cnt S n * (cp + 1) := Int.mul_le_mul_of_nonneg_right (by omega) (by omega)
      rw [Int.add_mul, Int.one_mul] at h3
      by_cases hlt : t n < cp
      · have e : z_inc S cp (n + 1) t = (fun k => if k = (n : Int) then t n + 1 else t k) := (if_pos hb).trans (if_pos hlt)
        rw [e, z_pl_congr (t' := t) (fun k k0 k1 _ => if_neg (by omega)), if_pos (by omega)]
        show _ + (if (n : Int) = n then t n + 1 else t n) = _
        rw [if_pos rfl]
        omega
      · have e : z_inc S cp (n + 1) t = z_inc S cp n (fun k => if k = (n : Int) then 0 else t k) := (if_pos hb).trans (if_neg hlt)
        have ht0 : z_dgc S cp (fun k => if k = (n : Int) then 0 else t k) := fun k k0 k1 hk => by
          have := ht k k0 k1 hk
          show 0 ≤ (if k = (n : Int) then 0 else t k) ∧ (if k = (n : Int) then 0 else t k) ≤ cp
          split <;> omega
        have ih := z_pl_inc hc (n := n) (by omega) ht0
        have e0 : z_pl S cp (fun k => if k = (n : Int) then 0 else t k) n = z_pl S cp t n := z_pl_congr (fun k k0 k1 _ => if_neg (by omega))
        have ez : z_inc S cp n (fun k => if k = (n : Int) then 0 else t k) n = 0 := by rw [z_inc_ge (by omega)]; exact if_pos rfl
        rw [e, ez, ih, e0]
        have hcp : t n = cp := by omega
        by_cases hm : z_pl S cp t n + 1 < (cp + 1) ^ z_cnt S n
        · have h4 : (z_pl S cp t n + 1 + 1) * (cp + 1) ≤ (cp + 1) ^ z_cnt S n * (cp + 1) := Int.mul_le_mul_of_nonneg_right (by omega) (by omega)
          rw [Int.add_mul, Int.add_mul, Int.one_mul] at h4
          rw [if_pos hm, if_pos (by omega), Int.add_mul, Int.one_mul]
          omega
        · have h4 : (cp + 1) ^ z_cnt S n = z_pl S cp t n + 1 := by omega
          rw [if_neg hm, h4, Int.add_mul, Int.one_mul, if_neg (by omega)]
          omega
    · have ec : z_cnt S (n + 1) = z_cnt S n := by show z_cnt S n + (if _ then _ else _) = _; rw [if_neg hb]; rfl
      have ep : ∀ u, z_pl S cp u (n + 1) = z_pl S cp u n := fun u => if_neg hb
      have e : z_inc S cp (n + 1) t = z_inc S cp n t := if_neg hb
      rw [ep, ep, ec, e]
      exact z_pl_inc hc (n := n) (by omega) ht
theorem z_inc_dgc (hc : 0 ≤ cp) : ∀ {n : Nat} {t : Int → Int}, z_dgc S cp t → z_dgc S cp (z_inc S cp n t)
  | 0, t, h => h
  | n + 1, t, h => by
    unfold z_inc
    by_cases hb : z_bt S n = true
    · rw [if_pos hb]
      split
      · intro k k0 k1 hk
        have := h k k0 k1 hk
        show 0 ≤ (if k = (n : Int) then t n + 1 else t k) ∧ (if k = (n : Int) then t n + 1 else t k) ≤ cp
        by_cases e : k = (n : Int)
        · subst e; rw [if_pos rfl]; omega
        · rw [if_neg e]; exact this
      · refine z_inc_dgc hc (fun k k0 k1 hk => ?_)
        have := h k k0 k1 hk
        show 0 ≤ (if k = (n : Int) then 0 else t k) ∧ (if k = (n : Int) then 0 else t k) ≤ cp
        split <;> omega
    · rw [if_neg hb]; exact z_inc_dgc hc h
theorem z_ti_dgc (hc : 0 ≤ cp) {t : Int → Int} : ∀ i, z_dgc S cp (z_ti S cp t i)
  | 0 => fun k k0 k1 hk => by
    unfold z_ti z_t0
    rw [if_pos ⟨k0, hk⟩]
    omega
  | i + 1 => z_inc_dgc hc (z_ti_dgc hc i)
theorem z_tot_cnt (hS : 0 ≤ S ∧ S < 32) (hc : 0 ≤ cp) : (z_tot S cp : Int) = (cp + 1) ^ z_cnt S 5 := by
  have h := z_cnt_pc S.toNat (by omega)
  rw [Int.toNat_of_nonneg hS.1] at h
  rw [← z_tot_i hc]
  congr 1
  omega
theorem z_pl_ti (hS : 0 ≤ S ∧ S < 32) (hc : 0 ≤ cp) {t : Int → Int} : ∀ {i : Nat}, i < z_tot S cp → z_pl S cp (z_ti S cp t i) 5 = i
  | 0, _ => by
    have : ∀ n : Nat, n ≤ 5 → z_pl S cp (z_ti S cp t 0) n = 0 := fun n => by
      induction n with
      | zero => intro _; rfl
      | succ n ih =>
        intro h
        unfold z_pl
        rw [ih (by omega)]
        by_cases c : z_bt S n = true
        · rw [if_pos c]
          have : z_ti S cp t 0 n = 0 := if_pos ⟨by omega, c⟩
          omega
        · rw [if_neg c]
    exact this 5 (Nat.le_refl 5)
  | i + 1, h => by
    have ih := z_pl_ti hS hc (t := t) (i := i) (by omega)
    have ht := z_tot_cnt hS hc
    show z_pl S cp (z_inc S cp 5 (z_ti S cp t i)) 5 = _
    rw [z_pl_inc hc (Nat.le_refl 5) (z_ti_dgc hc i), ih, if_pos (by omega)]
    omega
/-- each set has its number -/
theorem z_ti_sur (hS : 0 ≤ S ∧ S < 32) (hc : 0 ≤ cp) {t u : Int → Int} (hu : z_dgc S cp u) (hk : ∀ k : Int, 0 ≤ k → k < 5 → z_bt S k = false → u k = t k) : ∃ i, i < z_tot S cp ∧ (i : Int) = z_pl S cp u 5 ∧ ∀ k : Int, 0 ≤ k → k < 5 → z_ti S cp t i k = u k := by
  have hr := z_pl_rng' hc hu (Nat.le_refl 5)
  have ht := z_tot_cnt hS hc
  refine ⟨(z_pl S cp u 5).toNat, by omega, by omega, fun k k0 k1 => ?_⟩
  cases hb : z_bt S k with
  | false => rw [z_ti_keep hb, hk k k0 k1 hb]
  | true =>
    refine z_pl_eq' hc (z_ti_dgc hc _) hu (Nat.le_refl 5) ?_ k k0 k1 hb
    rw [z_pl_ti hS hc (by omega)]
    omega
end
theorem z_brt_congr {op : Int → z_Opt} {share : Int → Int} {gN lean side : Int} {t t' : Int → Int} (ho : ∀ g, 0 ≤ g → g < gN → z_opok (op g)) (h : ∀ k : Int, 0 ≤ k → k < 5 → t k = t' k) : z_brt op share gN lean side t = z_brt op share gN lean side t' := by
  unfold z_brt
  refine z_sm_congr (fun g g0 g1 => ?_)
  rw [z_ch_congr (ho g g0 (by omega)) h, z_pay_congr h]
/-- with more slots to move the best isn't less -/
theorem z_Wm_mono {D : z_D} {lean side cap : Int} {share t : Int → Int} (ho : ∀ g, 0 ≤ g → g < D.gN → z_opok (D.op g)) (hs : 0 ≤ side ∧ side < 32) (hc : 0 ≤ cap) (ht : z_tcap cap t) {a a' : Int} (ha : 0 ≤ a ∧ a < 32) (ha' : 0 ≤ a' ∧ a' < 32) (hsub : ∀ k : Int, 0 ≤ k → k < 5 → z_bt a k = true → z_bt a' k = true) : z_Wm D lean share side cap t a ≤ z_Wm D lean share side cap t a' := by
  have d1 := z_dm_ok hs ha
  have d1' := z_dm_ok hs ha'
  have d2 := z_dm_ok hs d1.1
  have d2' := z_dm_ok hs d1'.1
  have hcap0 := z_ti_cap (mv := z_dm side (z_dm side a)) (cp := cap) (Int.le_refl cap) hc (z_t0_cap (m := z_dm side a) hc ht)
  let u := z_ht D lean share side (z_dm side (z_dm side a)) cap (z_t0 (z_dm side a) t)
  have hu : z_tcap cap u := hcap0 _
  obtain ⟨i, hi, -, he⟩ := z_ti_sur (S := z_dm side (z_dm side a')) (cp := cap) d2'.1 hc (u := u) (t := z_t0 (z_dm side a') t) (fun k k0 k1 _ => hu k k0 k1) (fun k k0 k1 hb => by
    have hb2 : z_bt (z_dm side (z_dm side a)) k = false := by
      have e1 := d2.2.2 k k0 k1
      have e2 := d1.2.2 k k0 k1
      have e3 := d2'.2.2 k k0 k1
      have e4 := d1'.2.2 k k0 k1
      have e5 := hsub k k0 k1
      rw [e3, e4] at hb
      rw [e1, e2]
      revert hb e5
      cases z_bt side k <;> cases z_bt a k <;> cases z_bt a' k <;> simp
    show z_ti _ cap _ _ k = _
    rw [z_ti_keep hb2]
    have e1 := d2.2.2 k k0 k1
    have e2 := d1.2.2 k k0 k1
    have e3 := d2'.2.2 k k0 k1
    have e4 := d1'.2.2 k k0 k1
    have e5 := hsub k k0 k1
    unfold z_t0
    rw [e3] at hb
    rw [e1] at hb2
    rw [e4] at hb
    rw [e2] at hb2
    rw [e2, e4]
    revert hb hb2 e5
    cases z_bt side k <;> cases z_bt a k <;> cases z_bt a' k <;> simp)
  have hle := (z_am_first (F := z_Bi D lean share side (z_dm side (z_dm side a')) cap (z_t0 (z_dm side a') t)) hi).1
  have hB : z_Bi D lean share side (z_dm side (z_dm side a')) cap (z_t0 (z_dm side a') t) i = z_Wm D lean share side cap t a := z_brt_congr ho he
  rw [hB] at hle
  exact hle
