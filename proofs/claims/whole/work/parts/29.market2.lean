/-- roads of now, lean, how often each goer counts -/
def c_mk (σ : z_S) (q lean : Int) (share : Int → Int) (gN : Int) : Prop := σ 58 2 = q ∧ (q = 7 ∨ q = 27) ∧ σ 58 5 = lean ∧ (lean = 0 ∨ lean = 1) ∧ ∀ g, 0 ≤ g → g < gN → σ 64 g = share g ∧ 0 ≤ share g ∧ share g ≤ 100000
theorem c_mk_off {σ σ' : z_S} {q lean gN lo hi : Int} {share : Int → Int} (ho : z_off lo hi σ σ') (h : (59 ≤ lo ∧ hi ≤ 63) ∨ 65 ≤ lo) (hm : c_mk σ q lean share gN) : c_mk σ' q lean share gN := by
  obtain ⟨h1, h2, h3, h4, h5⟩ := hm
  exact ⟨by rw [ho _ _ (by omega)]; exact h1, h2, by rw [ho _ _ (by omega)]; exact h3, h4, fun g g0 g1 => by rw [ho _ _ (by omega)]; exact h5 g g0 g1⟩
theorem c_sets_off {σ σ' : z_S} {t : Int → Int} {n mv cp fac lo hi : Int} (ho : z_off lo hi σ σ') (h : hi ≤ 58 ∨ 63 ≤ lo) (hs : c_sets σ t n mv cp fac) : c_sets σ' t n mv cp fac := by
  obtain ⟨s3, s4, s5, s6, sT, sS, sR⟩ := hs
  exact ⟨by rw [ho _ _ (by omega)]; exact s3, by rw [ho _ _ (by omega)]; exact s4, by rw [ho _ _ (by omega)]; exact s5, by rw [ho _ _ (by omega)]; exact s6, fun k k0 k1 => by rw [ho _ _ (by omega)]; exact sT k k0 k1, fun m m0 m1 => by rw [ho _ _ (by omega), ho _ _ (by omega)]; exact sS m m0 m1, sR⟩
theorem c_sets_0 {σ : z_S} {t : Int → Int} {n mv cp fac : Int} (hs : c_sets σ t n mv cp fac) : σ 61 0 = 0 ∧ σ 62 0 = 0 := by
  have hp : 0 < 2 ^ n.toNat := Nat.pow_pos (by omega)
  have h := hs.2.2.2.2.2.1 0 (by omega) (by omega)
  rw [z_pay_0] at h
  simpa using h
noncomputable def z_brt (op : Int → z_Opt) (share : Int → Int) (gN lean side : Int) (t : Int → Int) : Int := z_sm gN.toNat (fun g => share g * z_pay t (z_and (z_ch (op g) t lean) side))
noncomputable def z_suf (op : Int → z_Opt) (share : Int → Int) (gN lean : Int) (t : Int → Int) : Int := z_sm gN.toNat (fun g => share g * z_pn (op g) t lean)
theorem z_sm_rng {f : Int → Int} {b : Int} {n : Nat} (h : ∀ k : Int, 0 ≤ k → k < n → 0 ≤ f k ∧ f k ≤ b) : 0 ≤ z_sm n f ∧ z_sm n f ≤ n * b := by
  have h1 := z_sm_le (n := n) (f := fun _ => 0) (g := f) (fun k a b => (h k a b).1)
  have h2 := z_sm_le (n := n) (f := f) (g := fun _ => b) (fun k a b => (h k a b).2)
  rw [z_sm_const] at h1 h2
  simp at h1
  exact ⟨h1, h2⟩
theorem z_mul_rng {a b c d : Int} (ha : 0 ≤ a) (hb : a ≤ b) (hc : 0 ≤ c) (hd : c ≤ d) : 0 ≤ a * c ∧ a * c ≤ b * d := ⟨Int.mul_nonneg ha hc, Int.mul_le_mul hb hd hc (by omega)⟩
theorem z_brt_rng {op : Int → z_Opt} {share : Int → Int} {gN lean side : Int} {t : Int → Int} (hg : 0 ≤ gN ∧ gN ≤ 48) (hs : ∀ g, 0 ≤ g → g < gN → 0 ≤ share g ∧ share g ≤ 100000) (ht : c_t20 t) {k : Nat} (hk : k ≤ gN) :
    0 ≤ z_sm k (fun g => share g * z_pay t (z_and (z_ch (op g) t lean) side)) ∧ z_sm k (fun g => share g * z_pay t (z_and (z_ch (op g) t lean) side)) ≤ 480000000 := by
  have h := z_sm_rng (n := k) (f := fun g => share g * z_pay t (z_and (z_ch (op g) t lean) side)) (b := 10000000) (fun g g0 g1 => by
    have h1 := hs g g0 (by omega)
    have h2 := c_t20_pay ht (z_and (z_ch (op g) t lean) side)
    exact z_mul_rng h1.1 h1.2 h2.1 h2.2)
  omega
theorem c_brought {σ : z_S} (d : Nat) {op : Int → z_Opt} {mn share : Int → Int} {gN cap n mv cp lean q side : Int} {t : Int → Int} (hT : c_tab σ op mn gN cap n) (hM : c_mk σ q lean share gN) (hs : c_sets σ t n mv cp (z_lf lean)) (htc : z_tcap cap t) (hside : 0 ≤ side ∧ side < 32) :
    z_ev z_hcC (d + 3) 409 [z_R 58, z_I side] z_hdC σ = some (z_I (z_brt op share gN lean side t), z_hdC, σ) := by
  obtain ⟨t0, hgN, hn, hcap, tg⟩ := hT
  obtain ⟨m1, hq, m2, hlean, m3⟩ := hM
  have ht20 := hs.2.2.2.2.2.2.1
  have go : ∀ (j k : Nat), (k : Int) + j = gN → z_go (z_ev z_hcC (d + 2)) z_hcC 409 4 [z_R 58, z_I side, z_I (z_sm k (fun g => share g * z_pay t (z_and (z_ch (op g) t lean) side))), z_I k] [] z_hdC σ = some (z_I (z_brt op share gN lean side t), z_hdC, σ) := by
    intro j
    induction j with
    | zero =>
      intro k hk
      rw [z_B409_4]
      simp (disch := omega) only [if_pos, t0, z_fdC, z_pdC, z_adC, z_sdC, z_lkC, z_ndC, z_gdC, z_mdC, z_cI_some', z_cV_some', z_w_ok, Int.reduceAdd, Int.reduceSub, Int.reduceMul, Int.reduceNeg, Int.reduceEq, Int.reduceLT, Int.reduceLE, Int.reduceNe, reduceIte, true_and, and_true, false_and, and_false, if_true, if_false, ne_eq, not_true_eq_false, not_false_eq_true]
      unfold z_brt
      rw [show gN.toNat = k by omega]
    | succ j ih =>
      intro k hk
      obtain ⟨ho, hL, hm2, h50, hmn, hno, hso⟩ := tg k (by omega) (by omega)
      obtain ⟨e64, sh0, sh1⟩ := m3 k (by omega) (by omega)
      have hch := z_ch_rng (t := t) (lean := lean) ho hm2
      have h1 := c_gmayPay (σ := σ) d (g := k) (s := side) (by omega) (by omega) (by omega)
      have h2 := c_choice d ho (by omega) (by omega) (by omega) hL hs htc hm2
      have ha := z_and_le (x := z_ch (op k) t lean) (y := side) hch.1 (by omega) hside.1 (by omega)
      have h3 := c_sumOf (σ := σ) (d + 1) (m := z_and (z_ch (op k) t lean) side) ha.1 (by omega)
      rw [(hs.2.2.2.2.2.1 _ ha.1 (by omega)).1] at h3
      have hpay := c_t20_pay ht20 (z_and (z_ch (op k) t lean) side)
      have hr0 := z_brt_rng (op := op) (lean := lean) (side := side) hgN (fun g a b => (m3 g a b).2) ht20 (k := k) (by omega)
      have hr1 := z_brt_rng (op := op) (lean := lean) (side := side) hgN (fun g a b => (m3 g a b).2) ht20 (k := k + 1) (by omega)
      have hpr := z_mul_rng sh0 sh1 hpay.1 hpay.2
      have hsm : z_sm (k + 1) (fun g => share g * z_pay t (z_and (z_ch (op g) t lean) side)) = z_sm k (fun g => share g * z_pay t (z_and (z_ch (op g) t lean) side)) + share k * z_pay t (z_and (z_ch (op k) t lean) side) := rfl
      rw [hsm] at hr1
      have next := ih (k + 1) (by omega)
      rw [hsm] at next
      have e1 : ((k + 1 : Nat) : Int) = (k : Int) + 1 := by omega
      rw [e1] at next
      rw [z_B409_4]
      by_cases c1 : share k = 0
      · have e0 : share k * z_pay t (z_and (z_ch (op k) t lean) side) = 0 := by rw [c1, Int.zero_mul]
        rw [e0, Int.add_zero] at next
        simp (disch := omega) only [if_neg, if_pos, t0, e64, z_fdC, z_pdC, z_adC, z_sdC, z_lkC, z_ndC, z_gdC, z_mdC, z_cI_some', z_cV_some', z_w_ok, Int.reduceAdd, Int.reduceSub, Int.reduceMul, Int.reduceNeg, Int.reduceEq, Int.reduceLT, Int.reduceLE, Int.reduceNe, reduceIte, true_and, and_true, false_and, and_false, if_true, if_false, ne_eq, not_true_eq_false, not_false_eq_true]
        exact next
      · by_cases c2 : z_and (σ 57 k) side = 0
        · have e0 : z_and (z_ch (op k) t lean) side = 0 := by
            have hl := c_ch_listed (t := t) (lean := lean) ho hL htc
            rw [← hl, z_and_assoc, c2, z_and_z]
          rw [e0, z_pay_0, Int.mul_zero, Int.add_zero] at next
          rw [if_pos c2] at h1
          simp (disch := omega) only [if_neg, if_pos, t0, e64, h1, z_fdC, z_pdC, z_adC, z_sdC, z_lkC, z_ndC, z_gdC, z_mdC, z_cI_some', z_cV_some', z_w_ok, Int.reduceAdd, Int.reduceSub, Int.reduceMul, Int.reduceNeg, Int.reduceEq, Int.reduceLT, Int.reduceLE, Int.reduceNe, reduceIte, true_and, and_true, false_and, and_false, if_true, if_false, ne_eq, not_true_eq_false, not_false_eq_true]
          exact next
        · rw [if_neg c2] at h1
          simp (disch := omega) only [if_neg, if_pos, t0, e64, h1, h2, h3, z_fdC, z_pdC, z_adC, z_sdC, z_lkC, z_ndC, z_gdC, z_mdC, z_cI_some', z_cV_some', z_w_ok, Int.reduceAdd, Int.reduceSub, Int.reduceMul, Int.reduceNeg, Int.reduceEq, Int.reduceLT, Int.reduceLE, Int.reduceNe, reduceIte, true_and, and_true, false_and, and_false, if_true, if_false, ne_eq, not_true_eq_false, not_false_eq_true]
          exact next
  simp (disch := omega) only [z_E409, z_fdC, z_pdC, z_adC, z_sdC, z_lkC, z_ndC, z_gdC, z_mdC, z_cI_some', z_cV_some', z_w_ok, Int.reduceAdd, Int.reduceSub, Int.reduceMul, Int.reduceNeg, Int.reduceEq, Int.reduceLT, Int.reduceLE, Int.reduceNe, reduceIte, true_and, and_true, false_and, and_false, if_true, if_false, ne_eq, not_true_eq_false, not_false_eq_true]
  have := go gN.toNat 0 (by omega)
  exact this
theorem z_pn_rng {op : z_Opt} {t : Int → Int} {lean : Int} (ho : z_opok op) (ht : c_t20 t) : 0 ≤ z_pn op t lean ∧ z_pn op t lean ≤ 2100 := by
  unfold z_pn
  have h2 := c_t20_pay ht (z_ch op t lean)
  obtain ⟨q, h1, h3, h4, -⟩ := z_ch_tk (t := t) (lean := lean) ho
  have := ho.1 _ q h3 h4 h1
  rw [h1]
  dsimp only
  omega
theorem c_sufferedNow {σ : z_S} (d : Nat) {op : Int → z_Opt} {mn share : Int → Int} {gN cap n mv cp lean q : Int} {t : Int → Int} (hT : c_tab σ op mn gN cap n) (hM : c_mk σ q lean share gN) (hs100 : ∀ g, 0 ≤ g → g < gN → share g ≤ 99) (hs : c_sets σ t n mv cp (z_lf lean)) (htc : z_tcap cap t) :
    z_ev z_hcC (d + 4) 410 [z_R 58] z_hdC σ = some (z_I (z_suf op share gN lean t), z_hdC, σ) ∧ 0 ≤ z_suf op share gN lean t := by
  obtain ⟨t0, hgN, hn, hcap, tg⟩ := hT
  obtain ⟨m1, hq, m2, hlean, m3⟩ := hM
  have ht20 := hs.2.2.2.2.2.2.1
  have hrng : ∀ k : Nat, (k : Int) ≤ gN → 0 ≤ z_sm k (fun g => share g * z_pn (op g) t lean) ∧ z_sm k (fun g => share g * z_pn (op g) t lean) ≤ 48 * 210000 := by
    intro k hk
    have h := z_sm_rng (n := k) (f := fun g => share g * z_pn (op g) t lean) (b := 210000) (fun g g0 g1 => by
      have h1 := (m3 g g0 (by omega)).2
      have h2 := z_pn_rng (lean := lean) (tg g g0 (by omega)).1 ht20
      have h3 := hs100 g g0 (by omega)
      have := z_mul_rng h1.1 h3 h2.1 h2.2
      exact ⟨this.1, by omega⟩)
    omega
  have go : ∀ (j k : Nat), (k : Int) + j = gN → z_go (z_ev z_hcC (d + 3)) z_hcC 410 4 [z_R 58, z_I (z_sm k (fun g => share g * z_pn (op g) t lean)), z_I k] [] z_hdC σ = some (z_I (z_suf op share gN lean t), z_hdC, σ) := by
    intro j
    induction j with
    | zero =>
      intro k hk
      rw [z_B410_4]
      simp (disch := omega) only [if_pos, t0, z_fdC, z_pdC, z_adC, z_sdC, z_lkC, z_ndC, z_gdC, z_mdC, z_cI_some', z_cV_some', z_w_ok, Int.reduceAdd, Int.reduceSub, Int.reduceMul, Int.reduceNeg, Int.reduceEq, Int.reduceLT, Int.reduceLE, Int.reduceNe, reduceIte, true_and, and_true, false_and, and_false, if_true, if_false, ne_eq, not_true_eq_false, not_false_eq_true]
      unfold z_suf
      rw [show gN.toNat = k by omega]
    | succ j ih =>
      intro k hk
      obtain ⟨ho, hL, hm2, h50, hmn, hno, hso⟩ := tg k (by omega) (by omega)
      obtain ⟨e64, sh0, sh1⟩ := m3 k (by omega) (by omega)
      obtain ⟨c0, c1, c2, qq, hqq, q0, q1, q2⟩ := z_ch_rng (t := t) (lean := lean) ho hm2
      have h2 := c_mchoice d ho (by omega) (by omega) (by omega) hL hs htc hm2
      have h3 := c_painsOf (σ := σ) d (op := op k) (g := k) (by omega) (by omega) (by omega) hs c0 c1 c2 (hso _ _ c0 c1 hqq).1 q0 q1
      have hpn : z_pn (op k) t lean = qq.1 + z_pay t (z_ch (op k) t lean) := by unfold z_pn; rw [hqq]
      rw [← hpn] at h3
      have hr := z_pn_rng (lean := lean) ho ht20
      have hr0 := hrng k (by omega)
      have hr1 := hrng (k + 1) (by omega)
      have hpr := z_mul_rng sh0 (hs100 k (by omega) (by omega)) hr.1 hr.2
      have hsm : z_sm (k + 1) (fun g => share g * z_pn (op g) t lean) = z_sm k (fun g => share g * z_pn (op g) t lean) + share k * z_pn (op k) t lean := rfl
      rw [hsm] at hr1
      have next := ih (k + 1) (by omega)
      rw [hsm] at next
      have e1 : ((k + 1 : Nat) : Int) = (k : Int) + 1 := by omega
      rw [e1] at next
      rw [z_B410_4]
      simp (disch := omega) only [if_neg, if_pos, t0, e64, h2, h3, z_fdC, z_pdC, z_adC, z_sdC, z_lkC, z_ndC, z_gdC, z_mdC, z_cI_some', z_cV_some', z_w_ok, Int.reduceAdd, Int.reduceSub, Int.reduceMul, Int.reduceNeg, Int.reduceEq, Int.reduceLT, Int.reduceLE, Int.reduceNe, reduceIte, true_and, and_true, false_and, and_false, if_true, if_false, ne_eq, not_true_eq_false, not_false_eq_true]
      exact next
  refine ⟨?_, ?_⟩
  · simp (disch := omega) only [z_E410, z_fdC, z_pdC, z_adC, z_sdC, z_lkC, z_ndC, z_gdC, z_mdC, z_cI_some', z_cV_some', z_w_ok, Int.reduceAdd, Int.reduceSub, Int.reduceMul, Int.reduceNeg, Int.reduceEq, Int.reduceLT, Int.reduceLE, Int.reduceNe, reduceIte, true_and, and_true, false_and, and_false, if_true, if_false, ne_eq, not_true_eq_false, not_false_eq_true]
    exact go gN.toNat 0 (by omega)
  · unfold z_suf; exact (hrng gN.toNat (by omega)).1
/-- the i-th set of tolls -/
def z_ti (mv cp : Int) (t : Int → Int) : Nat → Int → Int
  | 0 => z_t0 mv t
  | i + 1 => z_inc mv cp 5 (z_ti mv cp t i)
/-- where the greatest stands first -/
def z_am (F : Nat → Int) : Nat → Nat
  | 0 => 0
  | n + 1 => if F (z_am F n) < F n then n else z_am F n
theorem z_am_lt {F : Nat → Int} : ∀ {n : Nat}, 0 < n → z_am F n < n
  | 0, h => absurd h (by omega)
  | n + 1, _ => by
    unfold z_am
    split
    · omega
    · rcases Nat.eq_zero_or_pos n with h | h
      · subst h; show (0 : Nat) < 0 + 1; omega
      · have := z_am_lt (F := F) h; omega
theorem z_am_keep {F : Nat → Int} {n : Nat} (h : F n ≤ F (z_am F n)) : z_am F (n + 1) = z_am F n := if_neg (by omega)
theorem z_am_new {F : Nat → Int} {n : Nat} (h : F (z_am F n) < F n) : z_am F (n + 1) = n := if_pos h
theorem z_tcap_20 {cap : Int} (hc : cap ≤ 20) {t : Int → Int} (h : z_tcap cap t) : c_t20 t := fun k k0 k1 => by have := h k k0 k1; omega
theorem z_inc_cap {mv cp cap : Int} (hc : cp ≤ cap) : ∀ {n : Nat} {t : Int → Int}, z_tcap cap t → 0 ≤ cap → z_tcap cap (z_inc mv cp n t)
  | 0, t, h, _ => h
  | n + 1, t, h, h0 => by
    unfold z_inc
    split
    · split
      · intro k k0 k1
        have := h k k0 k1
        have : 0 ≤ (if k = (n : Int) then t n + 1 else t k) ∧ (if k = (n : Int) then t n + 1 else t k) ≤ cap := by
          by_cases hk : k = (n : Int)
          · subst hk; rw [if_pos rfl]; omega
          · rw [if_neg hk]; omega
        exact this
      · refine z_inc_cap hc (fun k k0 k1 => ?_) h0
        have := h k k0 k1
        have : 0 ≤ (if k = (n : Int) then 0 else t k) ∧ (if k = (n : Int) then 0 else t k) ≤ cap := by
          split <;> omega
        exact this
    · exact z_inc_cap hc h h0
theorem z_ti_cap {mv cp cap : Int} (hc : cp ≤ cap) (h0 : 0 ≤ cap) {t : Int → Int} (h : z_tcap cap t) : ∀ i, z_tcap cap (z_ti mv cp t i)
  | 0 => fun k k0 k1 => by
    have := h k k0 k1
    unfold z_ti z_t0
    split <;> omega
  | i + 1 => z_inc_cap hc (z_ti_cap hc h0 h i) h0
