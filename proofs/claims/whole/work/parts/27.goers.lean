/-! The class's Goers: the readers, and what a goer takes. -/
theorem z_and31 {m : Int} (h0 : 0 ≤ m) (h1 : m < 32) : z_and m 31 = m := by
  rw [z_and_nat h0 (by omega) (by omega) (by omega), show (31 : Int).toNat = 31 from rfl, show 31 = 2 ^ 5 - 1 from rfl, Nat.and_two_pow_sub_one_eq_mod, Nat.mod_eq_of_lt (by omega)]
  omega
theorem z_and31b {b m : Int} (hb : 0 ≤ b) (hb2 : b ≤ 100000) (h0 : 0 ≤ m) (h1 : m < 32) : z_and (b * 256 + m) 31 = m := by
  rw [z_and_nat (by omega) (by omega) (by omega) (by omega), show (31 : Int).toNat = 31 from rfl, show 31 = 2 ^ 5 - 1 from rfl, Nat.and_two_pow_sub_one_eq_mod]
  omega
theorem z_and256 {b m : Int} (hb : 0 ≤ b) (hb2 : b ≤ 100000) (h0 : 0 ≤ m) (h1 : m < 256) : z_and (b * 256 + m) (-256) = b * 256 := by
  have hn : (Int32.ofInt (b * 256 + m)).toBitVec.toNat = 2 ^ 8 * b.toNat + m.toNat := by rw [z_bvn (by omega) (by omega)]; omega
  have h2 : (Int32.ofInt (-256)).toBitVec.toNat = 2 ^ 8 * 16777215 + 0 := by decide
  have h3 : (2 ^ 8 * b.toNat + m.toNat) &&& (2 ^ 8 * 16777215 + 0) = 2 ^ 8 * b.toNat + 0 := by
    refine Nat.eq_of_testBit_eq fun i => ?_
    rw [Nat.testBit_and, Nat.testBit_two_pow_mul_add _ (by omega), Nat.testBit_two_pow_mul_add _ (by omega), Nat.testBit_two_pow_mul_add _ (by omega)]
    split
    · simp
    · rw [← Nat.testBit_and, show 16777215 = 2 ^ 24 - 1 from rfl, Nat.and_two_pow_sub_one_eq_mod, Nat.mod_eq_of_lt (by omega)]
  unfold z_and
  rw [z_toI (n := 2 ^ 8 * b.toNat + 0) (by rw [Int32.toBitVec_and, BitVec.toNat_and, hn, h2, h3]) (by omega)]
  omega
theorem c_ghas {σ : z_S} (d : Nat) (g : Int) : z_ev z_hcC (d + 1) 109 [z_R 46, z_I g] z_hdC σ = some (z_I (if 0 ≤ g ∧ g < σ 46 0 ∧ g < 48 then 1 else 0), z_hdC, σ) := by
  simp (disch := omega) only [z_E109, z_fdC, z_pdC, z_adC, z_sdC, z_lkC, z_ndC, z_gdC, z_mdC, z_cI_some', z_cV_some', z_w_ok, Int.reduceAdd, Int.reduceSub, Int.reduceMul, Int.reduceNeg, Int.reduceEq, Int.reduceLT, Int.reduceLE, Int.reduceNe, reduceIte, true_and, and_true, false_and, and_false, if_true, if_false, ne_eq, not_true_eq_false, not_false_eq_true] <;> (repeat' split) <;> first | rfl | omega
theorem c_gmanyOf {σ : z_S} (d : Nat) {g : Int} (h0 : 0 ≤ g) (h1 : g < σ 46 0) (h2 : g < 48) : z_ev z_hcC (d + 2) 112 [z_R 46, z_I g] z_hdC σ = some (z_I (σ 50 g), z_hdC, σ) := by
  have h := c_ghas (σ := σ) d g
  rw [if_pos ⟨h0, h1, h2⟩] at h
  simp (disch := omega) only [z_E112, h, z_fdC, z_pdC, z_adC, z_sdC, z_lkC, z_ndC, z_gdC, z_mdC, z_cI_some', z_cV_some', z_w_ok, Int.reduceAdd, Int.reduceSub, Int.reduceMul, Int.reduceNeg, Int.reduceEq, Int.reduceLT, Int.reduceLE, Int.reduceNe, reduceIte, true_and, and_true, false_and, and_false, if_true, if_false, ne_eq, not_true_eq_false, not_false_eq_true]
theorem c_gworthOf {σ : z_S} (d : Nat) {g : Int} (h0 : 0 ≤ g) (h1 : g < σ 46 0) (h2 : g < 48) : z_ev z_hcC (d + 2) 113 [z_R 46, z_I g] z_hdC σ = some (z_I (σ 49 g), z_hdC, σ) := by
  have h := c_ghas (σ := σ) d g
  rw [if_pos ⟨h0, h1, h2⟩] at h
  simp (disch := omega) only [z_E113, h, z_fdC, z_pdC, z_adC, z_sdC, z_lkC, z_ndC, z_gdC, z_mdC, z_cI_some', z_cV_some', z_w_ok, Int.reduceAdd, Int.reduceSub, Int.reduceMul, Int.reduceNeg, Int.reduceEq, Int.reduceLT, Int.reduceLE, Int.reduceNe, reduceIte, true_and, and_true, false_and, and_false, if_true, if_false, ne_eq, not_true_eq_false, not_false_eq_true]
theorem c_gtimeOf {σ : z_S} {q : Int} (hq : q = 16 ∨ q = 36) (d : Nat) {g : Int} (h0 : 0 ≤ g) (h1 : g < σ 46 0) (h2 : g < 48) (hj : σ 46 1 = q) (h3 : 0 ≤ σ 48 g) (h4 : σ 48 g < σ q 0) (h5 : σ 48 g < 8) : z_ev z_hcC (d + 3) 114 [z_R 46, z_I g] z_hdC σ = some (z_I (σ (q + 9) (σ 48 g)), z_hdC, σ) := by
  have h := c_ghas (σ := σ) (d + 1) g
  rw [if_pos ⟨h0, h1, h2⟩] at h
  have h' := c_jtimeOf (σ := σ) hq d (σ 48 g)
  rw [if_pos ⟨h3, h4, h5⟩] at h'
  rcases hq with rfl | rfl <;> simp (disch := omega) only [z_E114, h, hj, h', z_fdC, z_pdC, z_adC, z_sdC, z_lkC, z_ndC, z_gdC, z_mdC, z_cI_some', z_cV_some', z_w_ok, Int.reduceAdd, Int.reduceSub, Int.reduceMul, Int.reduceNeg, Int.reduceEq, Int.reduceLT, Int.reduceLE, Int.reduceNe, reduceIte, true_and, and_true, false_and, and_false, if_true, if_false, ne_eq, not_true_eq_false, not_false_eq_true]
theorem c_gisOfCrowd {σ : z_S} {q : Int} (hq : q = 16 ∨ q = 36) (d : Nat) {g : Int} (h0 : 0 ≤ g) (h1 : g < σ 46 0) (h2 : g < 48) (hj : σ 46 1 = q) (h3 : 0 ≤ σ 48 g) (h4 : σ 48 g < σ q 0) (h5 : σ 48 g < 8) : z_ev z_hcC (d + 3) 115 [z_R 46, z_I g] z_hdC σ = some (z_I (if σ (q + 6) (σ 48 g) ≠ 0 then 1 else 0), z_hdC, σ) := by
  have h := c_ghas (σ := σ) (d + 1) g
  rw [if_pos ⟨h0, h1, h2⟩] at h
  have h' := c_jisCrowd (σ := σ) hq d (σ 48 g)
  rcases hq with rfl | rfl <;> simp (disch := omega) only [z_E115, h, hj, h', z_fdC, z_pdC, z_adC, z_sdC, z_lkC, z_ndC, z_gdC, z_mdC, z_cI_some', z_cV_some', z_w_ok, Int.reduceAdd, Int.reduceSub, Int.reduceMul, Int.reduceNeg, Int.reduceEq, Int.reduceLT, Int.reduceLE, Int.reduceNe, reduceIte, true_and, and_true, false_and, and_false, if_true, if_false, ne_eq, not_true_eq_false, not_false_eq_true] <;> (repeat' split) <;> first | rfl | omega
theorem c_gmayPay {σ : z_S} (d : Nat) {g s : Int} (h0 : 0 ≤ g) (h1 : g < σ 46 0) (h2 : g < 48) : z_ev z_hcC (d + 2) 116 [z_R 46, z_I g, z_I s] z_hdC σ = some (z_I (if z_and (σ 57 g) s = 0 then 0 else 1), z_hdC, σ) := by
  have h := c_ghas (σ := σ) d g
  rw [if_pos ⟨h0, h1, h2⟩] at h
  simp (disch := omega) only [z_E116, h, z_fdC, z_pdC, z_adC, z_sdC, z_lkC, z_ndC, z_gdC, z_mdC, z_cI_some', z_cV_some', z_w_ok, Int.reduceAdd, Int.reduceSub, Int.reduceMul, Int.reduceNeg, Int.reduceEq, Int.reduceLT, Int.reduceLE, Int.reduceNe, reduceIte, true_and, and_true, false_and, and_false, if_true, if_false, ne_eq, not_true_eq_false, not_false_eq_true] <;> (repeat' split) <;> first | rfl | omega
theorem c_gbaseOf {σ : z_S} (d : Nat) {g m : Int} (h0 : 0 ≤ g) (h1 : g < σ 46 0) (h2 : g < 48) (h3 : 0 ≤ m) (h4 : m < 32) : z_ev z_hcC (d + 2) 117 [z_R 46, z_I g, z_I m] z_hdC σ = some (z_I (σ 53 (g * 32 + m)), z_hdC, σ) := by
  have h := c_ghas (σ := σ) d g
  rw [if_pos ⟨h0, h1, h2⟩] at h
  have hm := z_and31 h3 h4
  simp (disch := omega) only [z_E117, h, hm, z_fdC, z_pdC, z_adC, z_sdC, z_lkC, z_ndC, z_gdC, z_mdC, z_cI_some', z_cV_some', z_w_ok, Int.reduceAdd, Int.reduceSub, Int.reduceMul, Int.reduceNeg, Int.reduceEq, Int.reduceLT, Int.reduceLE, Int.reduceNe, reduceIte, true_and, and_true, false_and, and_false, if_true, if_false, ne_eq, not_true_eq_false, not_false_eq_true]
theorem c_grankOf {σ : z_S} (d : Nat) {g m : Int} (h0 : 0 ≤ g) (h1 : g < σ 46 0) (h2 : g < 48) (h3 : 0 ≤ m) (h4 : m < 32) : z_ev z_hcC (d + 2) 118 [z_R 46, z_I g, z_I m] z_hdC σ = some (z_I (σ 54 (g * 32 + m)), z_hdC, σ) := by
  have h := c_ghas (σ := σ) d g
  rw [if_pos ⟨h0, h1, h2⟩] at h
  have hm := z_and31 h3 h4
  simp (disch := omega) only [z_E118, h, hm, z_fdC, z_pdC, z_adC, z_sdC, z_lkC, z_ndC, z_gdC, z_mdC, z_cI_some', z_cV_some', z_w_ok, Int.reduceAdd, Int.reduceSub, Int.reduceMul, Int.reduceNeg, Int.reduceEq, Int.reduceLT, Int.reduceLE, Int.reduceNe, reduceIte, true_and, and_true, false_and, and_false, if_true, if_false, ne_eq, not_true_eq_false, not_false_eq_true]
/-- the entry i of goer g's list tells an option -/
def c_ent (σ : z_S) (op : z_Opt) (g i m : Int) (q : Int × Int) : Prop := op m = some q ∧ 0 ≤ m ∧ m < 32 ∧ σ 55 (g * 32 + i) = q.1 * 256 + m
def z_tcap (cap : Int) (t : Int → Int) : Prop := ∀ k : Int, 0 ≤ k → k < 5 → 0 ≤ t k ∧ t k ≤ cap
/-- goer g's list: options by rank, that are ahead of all others whatever the tolls up to cap -/
def c_list (σ : z_S) (op : z_Opt) (g cap : Int) : Prop :=
  1 ≤ σ 56 g ∧ σ 56 g ≤ 32 ∧ (0 ≤ σ 57 g ∧ σ 57 g < 32) ∧
  (∀ i : Int, 0 ≤ i → i < σ 56 g → ∃ m q, c_ent σ op g i m q ∧ z_and m (σ 57 g) = m) ∧
  (∀ i i' m m' q q', 0 ≤ i → i < i' → i' < σ 56 g → c_ent σ op g i m q → c_ent σ op g i' m' q' → q.2 < q'.2) ∧
  (∀ t lean m q, z_tcap cap t → 0 ≤ m → m < 32 → op m = some q → (∃ i, 0 ≤ i ∧ i < σ 56 g ∧ c_ent σ op g i m q) ∨ ∃ i m' q', 0 ≤ i ∧ i < σ 56 g ∧ c_ent σ op g i m' q' ∧ z_ah t lean m' q' m q)
def z_key (t : Int → Int) (fac m : Int) (q : Int × Int) : Int := q.1 * 256 + z_pay t m * fac
theorem z_key_ah {t : Int → Int} {lean m m' : Int} {q q' : Int × Int} (ht : c_t20 t) (h : z_key t (if lean = 0 then 255 else 257) m q < z_key t (if lean = 0 then 255 else 257) m' q' ∨ (z_key t (if lean = 0 then 255 else 257) m q = z_key t (if lean = 0 then 255 else 257) m' q' ∧ q.2 ≤ q'.2)) : ¬ z_ah t lean m' q' m q := by
  have h1 := c_t20_pay ht m
  have h2 := c_t20_pay ht m'
  unfold z_key at h
  unfold z_ah
  by_cases hl : lean = 0
  · simp only [hl, if_true] at *; omega
  · simp only [hl, if_false] at *; omega
theorem c_choice_go {c : z_Call} {σ : z_S} {op : z_Opt} {g cap n mv cp lean : Int} {t : Int → Int} (ho : z_opok op) (hg0 : 0 ≤ g) (hg : g < 48) (hL : c_list σ op g cap) (hs : c_sets σ t n mv cp (if lean = 0 then 255 else 257)) (htc : z_tcap cap t) (hm2 : ∀ m q, 0 ≤ m → m < 32 → op m = some q → m < ((2 ^ n.toNat : Nat) : Int)) :
    ∀ (j : Nat) (k least mask : Int) (u v : z_V), 0 ≤ k → k + j = σ 56 g → ((k = 0 ∧ least = 2147483647) ∨ ∃ i0 q, 0 ≤ i0 ∧ i0 < k ∧ c_ent σ op g i0 mask q ∧ least = z_key t (if lean = 0 then 255 else 257) mask q ∧ ∀ i m' q', 0 ≤ i → i < k → c_ent σ op g i m' q' → z_key t (if lean = 0 then 255 else 257) mask q < z_key t (if lean = 0 then 255 else 257) m' q' ∨ (z_key t (if lean = 0 then 255 else 257) mask q = z_key t (if lean = 0 then 255 else 257) m' q' ∧ q.2 ≤ q'.2)) →
      z_go c z_hcC 119 32 [z_R 46, z_I g, z_R 62, z_I (g * 32), z_I least, z_I mask, z_I (g * 32 + k), u, v] [] z_hdC σ = some (z_I (z_ch op t lean), z_hdC, σ) := by
  obtain ⟨l1, l2, l3, l4, l5, l6⟩ := hL
  obtain ⟨s3, s4, s5, s6, sT, sS, sT20, sf, sn, smv, scp⟩ := hs
  have hent : ∀ {i m m' q q'}, c_ent σ op g i m q → c_ent σ op g i m' q' → m = m' ∧ q = q' := by
    intro i m m' q q' h h'
    obtain ⟨a1, a2, a3, a4⟩ := h
    obtain ⟨b1, b2, b3, b4⟩ := h'
    have hmm : m = m' := by omega
    subst hmm
    rw [a1] at b1
    exact ⟨rfl, Option.some.inj b1⟩
  have hn32 : ((2 ^ n.toNat : Nat) : Int) ≤ 32 := by
    have : 2 ^ n.toNat ≤ 2 ^ 5 := Nat.pow_le_pow_right (by omega) (by omega)
    omega
  intro j
  induction j with
  | zero =>
    intro k least mask u v hk hj hI
    rcases hI with ⟨h, -⟩ | ⟨i0, q, hi0, hik, he, hle, hall⟩
    · omega
    · have htk : z_tk op t lean mask := by
        refine ⟨q, he.1, he.2.1, he.2.2.1, fun m' q' h0 h1 hq => ?_⟩
        rcases l6 t lean m' q' htc h0 h1 hq with ⟨i, i1, i2, hi⟩ | ⟨i, m2, q2, i1, i2, hi, hah⟩
        · exact z_key_ah sT20 (hall i m' q' i1 (by omega) hi)
        · intro hx
          exact z_key_ah sT20 (hall i m2 q2 i1 (by omega) hi) (z_ah_trans hah hx)
      rw [z_ch_eq ho htk, z_B119_32]
      simp (disch := omega) only [if_pos, z_fdC, z_pdC, z_adC, z_sdC, z_lkC, z_ndC, z_gdC, z_mdC, z_cI_some', z_cV_some', z_w_ok, Int.reduceAdd, Int.reduceSub, Int.reduceMul, Int.reduceNeg, Int.reduceEq, Int.reduceLT, Int.reduceLE, Int.reduceNe, reduceIte, true_and, and_true, false_and, and_false, if_true, if_false, ne_eq, not_true_eq_false, not_false_eq_true]
  | succ j ih =>
    intro k least mask u v hk hj hI
    obtain ⟨m, q, he, hreach⟩ := l4 k hk (by omega)
    obtain ⟨e1, e2, e3, e4⟩ := id he
    have hq := ho.1 m q e2 e3 e1
    have hmn := hm2 m q e2 e3 e1
    have hsum := (sS m e2 hmn).2
    have hpay := c_t20_pay sT20 m
    have h31 : z_and (σ 55 (g * 32 + k)) 31 = m := by rw [e4]; exact z_and31b hq.1 (by omega) e2 e3
    have h256 : z_and (σ 55 (g * 32 + k)) (-256) = q.1 * 256 := by rw [e4]; exact z_and256 hq.1 (by omega) e2 (by omega)
    have hkey : q.1 * 256 + σ 62 m = z_key t (if lean = 0 then 255 else 257) m q := by rw [hsum]; rfl
    have hkb : 0 ≤ z_key t (if lean = 0 then 255 else 257) m q ∧ z_key t (if lean = 0 then 255 else 257) m q < 2147483647 := by
      unfold z_key; split <;> omega
    have hrow : ∀ L M, ((k + 1 = 0 ∧ L = 2147483647) ∨ ∃ i0 q, 0 ≤ i0 ∧ i0 < k + 1 ∧ c_ent σ op g i0 M q ∧ L = z_key t (if lean = 0 then 255 else 257) M q ∧ ∀ i m' q', 0 ≤ i → i < k + 1 → c_ent σ op g i m' q' → z_key t (if lean = 0 then 255 else 257) M q < z_key t (if lean = 0 then 255 else 257) m' q' ∨ (z_key t (if lean = 0 then 255 else 257) M q = z_key t (if lean = 0 then 255 else 257) m' q' ∧ q.2 ≤ q'.2)) → z_go c z_hcC 119 32 [z_R 46, z_I g, z_R 62, z_I (g * 32), z_I L, z_I M, z_I (g * 32 + k + 1), z_I (σ 55 (g * 32 + k)), z_I (z_key t (if lean = 0 then 255 else 257) m q)] [] z_hdC σ = some (z_I (z_ch op t lean), z_hdC, σ) := by
      intro L M h
      have := ih (k + 1) L M (z_I (σ 55 (g * 32 + k))) (z_I (z_key t (if lean = 0 then 255 else 257) m q)) (by omega) (by omega) h
      rw [← Int.add_assoc] at this
      exact this
    rw [z_B119_32]
    by_cases hlt : least ≤ z_key t (if lean = 0 then 255 else 257) m q
    · simp (disch := omega) only [if_neg, if_pos, h31, h256, hkey, z_fdC, z_pdC, z_adC, z_sdC, z_lkC, z_ndC, z_gdC, z_mdC, z_cI_some', z_cV_some', z_w_ok, Int.reduceAdd, Int.reduceSub, Int.reduceMul, Int.reduceNeg, Int.reduceEq, Int.reduceLT, Int.reduceLE, Int.reduceNe, reduceIte, true_and, and_true, false_and, and_false, if_true, if_false, ne_eq, not_true_eq_false, not_false_eq_true]
      refine hrow least mask (Or.inr ?_)
      rcases hI with ⟨-, h⟩ | ⟨i0, q0, hi0, hik, he0, hle, hall⟩
      · omega
      · refine ⟨i0, q0, hi0, by omega, he0, hle, fun i m' q' h0 h1 hx => ?_⟩
        by_cases hi : i = k
        · subst hi
          obtain ⟨rfl, rfl⟩ := hent hx he
          have := l5 i0 i mask m' q0 q' hi0 hik (by omega) he0 hx
          omega
        · exact hall i m' q' h0 (by omega) hx
    · simp (disch := omega) only [if_neg, if_pos, h31, h256, hkey, z_fdC, z_pdC, z_adC, z_sdC, z_lkC, z_ndC, z_gdC, z_mdC, z_cI_some', z_cV_some', z_w_ok, Int.reduceAdd, Int.reduceSub, Int.reduceMul, Int.reduceNeg, Int.reduceEq, Int.reduceLT, Int.reduceLE, Int.reduceNe, reduceIte, true_and, and_true, false_and, and_false, if_true, if_false, ne_eq, not_true_eq_false, not_false_eq_true]
      refine hrow _ m (Or.inr ⟨k, q, hk, by omega, he, rfl, fun i m' q' h0 h1 hx => ?_⟩)
      by_cases hi : i = k
      · subst hi
        obtain ⟨rfl, rfl⟩ := hent hx he
        right; exact ⟨rfl, Int.le_refl _⟩
      · rcases hI with ⟨h, -⟩ | ⟨i0, q0, hi0, hik, he0, hle, hall⟩
        · omega
        · have := hall i m' q' h0 (by omega) hx
          omega
/-- Goers.choice -/
theorem c_choice {σ : z_S} (d : Nat) {op : z_Opt} {g cap n mv cp lean : Int} {t : Int → Int} (ho : z_opok op) (hg0 : 0 ≤ g) (hgN : g < σ 46 0) (hg : g < 48) (hL : c_list σ op g cap) (hs : c_sets σ t n mv cp (if lean = 0 then 255 else 257)) (htc : z_tcap cap t) (hm2 : ∀ m q, 0 ≤ m → m < 32 → op m = some q → m < ((2 ^ n.toNat : Nat) : Int)) :
    z_ev z_hcC (d + 2) 119 [z_R 46, z_I g, z_R 62] z_hdC σ = some (z_I (z_ch op t lean), z_hdC, σ) := by
  have h := c_ghas (σ := σ) d g
  rw [if_pos ⟨hg0, hgN, hg⟩] at h
  have hl1 := hL.1
  have hgo := c_choice_go (c := z_ev z_hcC (d + 1)) ho hg0 hg hL hs htc hm2 (σ 56 g).toNat 0 2147483647 0 z_U z_U (by omega) (by omega) (Or.inl ⟨rfl, rfl⟩)
  rw [Int.add_zero] at hgo
  simp (disch := omega) only [z_E119, h, z_fdC, z_pdC, z_adC, z_sdC, z_lkC, z_ndC, z_gdC, z_mdC, z_cI_some', z_cV_some', z_w_ok, Int.reduceAdd, Int.reduceSub, Int.reduceMul, Int.reduceNeg, Int.reduceEq, Int.reduceLT, Int.reduceLE, Int.reduceNe, reduceIte, true_and, and_true, false_and, and_false, if_true, if_false, ne_eq, not_true_eq_false, not_false_eq_true]
  exact hgo
