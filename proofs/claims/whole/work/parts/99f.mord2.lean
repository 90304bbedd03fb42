/-! The reference: orders gone through. -/
theorem z_sm_mulr {c : Int} {f : Int → Int} : ∀ {n : Nat}, z_sm n f * c = z_sm n (fun k => f k * c)
  | 0 => Int.zero_mul _
  | n + 1 => by rw [z_sm_s, z_sm_s, Int.add_mul, z_sm_mulr]
theorem z_or_lt32 {a i : Nat} (ha : a < 32) (hi : i < 5) : a ||| 2 ^ i < 32 := by
  have h2 : 2 ^ i < 2 ^ 5 := Nat.pow_lt_pow_right (by omega) hi
  exact Nat.or_lt_two_pow (n := 5) ha h2
theorem z_og_oc {W : Nat → Int} {mine k : Nat} : ∀ (f a : Nat), a < 32 → z_og W mine k f a = z_sm 32 (fun b => z_oc b.toNat mine k f a * (W (b.toNat ||| 2 ^ k) - W b.toNat))
  | 0, a, _ => by
    have e : (fun b : Int => z_oc b.toNat mine k 0 a * (W (b.toNat ||| 2 ^ k) - W b.toNat)) = fun _ => 0 := funext fun b => Int.zero_mul _
    rw [e, z_sm_0]
    rfl
  | f + 1, a, ha => by
    have e1 : z_sm 32 (fun b => z_oc b.toNat mine k (f + 1) a * (W (b.toNat ||| 2 ^ k) - W b.toNat)) = z_sm 32 (fun b => z_sm 5 (fun i => (if mine.testBit i.toNat && !a.testBit i.toNat then z_oc b.toNat mine k f (a ||| 2 ^ i.toNat) + (if i.toNat = k ∧ a = b.toNat then z_fc f else 0) else 0) * (W (b.toNat ||| 2 ^ k) - W b.toNat))) := z_sm_congr (fun b _ _ => z_sm_mulr)
    rw [e1, z_sm_swap]
    refine z_sm_congr (fun i i0 i1 => ?_)
    by_cases c : (mine.testBit i.toNat && !a.testBit i.toNat) = true
    · rw [if_pos c, z_og_oc f (a ||| 2 ^ i.toNat) (z_or_lt32 ha (by omega))]
      have e2 : z_sm 32 (fun b => (if (mine.testBit i.toNat && !a.testBit i.toNat) = true then z_oc b.toNat mine k f (a ||| 2 ^ i.toNat) + (if i.toNat = k ∧ a = b.toNat then z_fc f else 0) else 0) * (W (b.toNat ||| 2 ^ k) - W b.toNat)) = z_sm 32 (fun b => z_oc b.toNat mine k f (a ||| 2 ^ i.toNat) * (W (b.toNat ||| 2 ^ k) - W b.toNat) + (if b = (a : Int) then (if i.toNat = k then z_fc f * (W (a ||| 2 ^ k) - W a) else 0) else 0)) := z_sm_congr (fun b b0 b1 => by
        rw [if_pos c, Int.add_mul]
        congr 1
        by_cases cb : b = (a : Int)
        · rw [if_pos cb, cb, Int.toNat_natCast]
          by_cases ci : i.toNat = k
          · rw [if_pos ⟨ci, rfl⟩, if_pos ci]
          · rw [if_neg (fun z => ci z.1), if_neg ci, Int.zero_mul]
        · rw [if_neg cb, if_neg (fun z => cb (by omega)), Int.zero_mul])
      rw [e2, z_sm_one (by omega) (by omega)]
    · rw [if_neg c]
      have e2 : (fun b : Int => (if (mine.testBit i.toNat && !a.testBit i.toNat) = true then z_oc b.toNat mine k f (a ||| 2 ^ i.toNat) + (if i.toNat = k ∧ a = b.toNat then z_fc f else 0) else 0) * (W (b.toNat ||| 2 ^ k) - W b.toNat)) = fun _ => 0 := funext fun b => by rw [if_neg c, Int.zero_mul]
      rw [e2, z_sm_0]
def z_ogb : Nat → Int
  | 0 => 0
  | f + 1 => 5 * (z_ogb f + 11404800)
theorem z_ogb_le : ∀ f : Nat, f ≤ 5 → 0 ≤ z_ogb f ∧ z_ogb f ≤ 1000000000000 := by decide
theorem z_fc24 : ∀ f : Nat, f ≤ 4 → 1 ≤ z_fc f ∧ z_fc f ≤ 24 := by decide
theorem z_og_abs {W : Nat → Int} {mine k : Nat} (hW : ∀ a, 0 ≤ W a ∧ W a ≤ 475200) : ∀ {f : Nat}, f ≤ 5 → ∀ a, -(z_ogb f) ≤ z_og W mine k f a ∧ z_og W mine k f a ≤ z_ogb f
  | 0, _, a => by unfold z_ogb z_og; omega
  | f + 1, hf, a => by
    have hb := z_ogb_le f (by omega)
    have hfc := z_fc24 f (by omega)
    have h := z_sm_abs (n := 5) (b := z_ogb f + 11404800) (f := fun i => if mine.testBit i.toNat && !a.testBit i.toNat then z_og W mine k f (a ||| 2 ^ i.toNat) + (if i.toNat = k then z_fc f * (W (a ||| 2 ^ k) - W a) else 0) else 0) (fun i i0 i1 => by
      have h1 := z_og_abs (mine := mine) (k := k) hW (f := f) (by omega) (a ||| 2 ^ i.toNat)
      have w1 := hW (a ||| 2 ^ k)
      have w2 := hW a
      have m := z_mul_abs (a := z_fc f) (b := W (a ||| 2 ^ k) - W a) (c := 475200) hfc.1 hfc.2 (by omega) (by omega)
      split
      · split <;> omega
      · omega)
    show -(5 * (z_ogb f + 11404800)) ≤ z_sm 5 _ ∧ z_sm 5 _ ≤ 5 * (z_ogb f + 11404800)
    exact h
theorem z_sub_a : ∀ mine : Nat, mine < 32 → ∀ a : Nat, a < 32 → a ||| mine = mine → (z_pcn a = z_pcn mine ↔ a = mine) := by decide +kernel
theorem z_sub_b : ∀ mine : Nat, mine < 32 → ∀ a : Nat, a < 32 → a ||| mine = mine → z_sm 5 (fun i => if mine.testBit i.toNat && !a.testBit i.toNat then 1 else 0) = ((z_pcn mine : Nat) : Int) - ((z_pcn a : Nat) : Int) := by decide +kernel
theorem z_sub_c : ∀ i : Nat, i < 5 → ∀ mine : Nat, mine < 32 → ∀ a : Nat, a < 32 → (a ||| mine = mine ∧ (mine.testBit i && !a.testBit i) = true) → (a ||| 2 ^ i) ||| mine = mine ∧ z_pcn (a ||| 2 ^ i) = z_pcn a + 1 := by decide +kernel
section
variable {σ0 σ σ' σ'' X : z_S} {D : z_D} {nw : Int → Bool} {t t' T : Int → Int} {l : List Int}
theorem z_or_n {a i : Nat} (ha : a < 32) (hi : i < 5) : z_or (a : Int) (z_shl 1 i) = ((a ||| 2 ^ i : Nat) : Int) := by
  have h2 : 2 ^ i < 2 ^ 5 := Nat.pow_lt_pow_right (by omega) hi
  rw [z_shl1 (by omega) (by omega), Int.toNat_natCast]
  generalize 2 ^ i = p at *
  rw [z_or_nat (by omega) (by omega) (by omega) (by omega), Int.toNat_natCast, Int.toNat_natCast]
/-- slot k itself is asked for -/
theorem m_ordk (d : Nat) {σ : z_S} {W1 W2 om gr fc : Int} {mine a k i : Nat} (ha : a < 32) (hi : i < 5) (hik : i = k) (e57a : σ' 57 a = W1) (e57b : σ' 57 ((a ||| 2 ^ k : Nat) : Int) = W2) (h1 : 0 ≤ W1 ∧ W1 ≤ 475200) (h2 : 0 ≤ W2 ∧ W2 ≤ 475200) (ho : σ 1 74 = om) (ho' : σ' 1 74 = om + fc) (hg : σ' 1 73 = gr) (h8 : σ 1 8 = X 0 1) (hlt : (i : Int) < X 0 1) (hom : 0 ≤ om ∧ om ≤ 100000) (hfc : 1 ≤ fc ∧ fc ≤ 24) (hgr : -100000000000000 ≤ gr ∧ gr ≤ 100000000000000) (hmb : z_and (z_shr (mine : Int) i) 1 = 1) (hab : z_and (z_shr (a : Int) i) 1 = 0) (u : z_V)
    (e : z_ev z_hcM d 1286 [z_R 1, z_I mine, z_I ((a ||| 2 ^ i : Nat) : Int), z_I k] z_hdM σ = some (z_U, z_hdM, σ')) :
    z_go (z_ev z_hcM d) z_hcM 1286 19 [z_R 1, z_I mine, z_I a, z_I k, z_I i, u] [] z_hdM σ = z_go (z_ev z_hcM d) z_hcM 1286 19 [z_R 1, z_I mine, z_I a, z_I k, z_I ((i : Int) + 1), z_I om] [] z_hdM (z_upd σ' 1 73 (gr + fc * (W2 - W1))) := by
  have hor := z_or_n ha hi
  have hork := z_or_n (a := a) (i := k) ha (by omega)
  have h32 := z_or_lt32 (a := a) (i := k) ha (by omega)
  have m := z_mul_abs (a := fc) (b := W2 - W1) (c := 475200) hfc.1 hfc.2 (by omega) (by omega)
  have ek : (i : Int) = (k : Int) := by omega
  rw [z_B1286_19]
  simp (disch := omega) only [if_neg, if_pos, h8, hmb, hab, hor, e, ho, ho', hork, e57a, e57b, hg, z_wl_ok, show om + fc - om = fc by omega, z_fdM, z_pdM, z_adM, z_sdM, z_lkM, z_ndM, z_gdM, z_cI_some', z_cV_some', z_w_ok, Int.reduceAdd, Int.reduceSub, Int.reduceMul, Int.reduceNeg, Int.reduceEq, Int.reduceLT, Int.reduceLE, Int.reduceNe, reduceIte, true_and, and_true, false_and, and_false, if_true, if_false, ne_eq, not_true_eq_false, not_false_eq_true]
theorem m_orders (hw : z_wf X) {W : Nat → Int} {mine k : Nat} (hm : mine < 32) (hk : k < 5) (hmn : ∀ i : Nat, X 0 1 ≤ i → mine.testBit i = false) (hW : ∀ a, 0 ≤ W a ∧ W a ≤ 475200) : ∀ (f a : Nat) (σ : z_S) (om gr : Int) (d : Nat), f ≤ 5 → a < 32 → a ||| mine = mine → z_pcn a + f = z_pcn mine → σ 1 8 = X 0 1 → (∀ b : Nat, b < 32 → b ||| mine = mine → σ 57 b = W b) → σ 1 74 = om → σ 1 73 = gr → (0 ≤ om ∧ om ≤ (10 - (f : Int)) * 1000) → (-((10 - (f : Int)) * 1000000000000) ≤ gr ∧ gr ≤ (10 - (f : Int)) * 1000000000000) →
    ∃ σ', z_ev z_hcM (d + f + 1) 1286 [z_R 1, z_I mine, z_I a, z_I k] z_hdM σ = some (z_U, z_hdM, σ') ∧ (∀ c j, (c ≠ 1 ∨ (j ≠ 73 ∧ j ≠ 74)) → σ' c j = σ c j) ∧ σ' 1 74 = om + z_fc f ∧ σ' 1 73 = gr + z_og W mine k f a
  | 0, a, σ, om, gr, d, hf, ha, hs, hp, h8, h57, hom, hgr, rom, rgr => by
    have ea : a = mine := (z_sub_a mine hm a ha hs).mp (by omega)
    refine ⟨z_upd σ 1 74 (om + 1), ?_, fun c j hc => z_upd_ne (by omega), z_upd_same, by rw [z_upd_ne (by omega), hgr]; show gr = gr + 0; omega⟩
    rw [ea]
    simp (disch := omega) only [z_E1286, if_neg, hom, z_fdM, z_pdM, z_adM, z_sdM, z_lkM, z_ndM, z_gdM, z_cI_some', z_cV_some', z_w_ok, Int.reduceAdd, Int.reduceSub, Int.reduceMul, Int.reduceNeg, Int.reduceEq, Int.reduceLT, Int.reduceLE, Int.reduceNe, reduceIte, true_and, and_true, false_and, and_false, if_true, if_false, ne_eq, not_true_eq_false, not_false_eq_true]
  | f + 1, a, σ, om, gr, d, hf, ha, hs, hp, h8, h57, hom, hgr, rom, rgr => by
    have hn := hw.2.1
    have s2 := z_sub_b mine hm a ha hs
    have s3 : ∀ i : Nat, i < 5 → (mine.testBit i && !a.testBit i) = true → (a ||| 2 ^ i) ||| mine = mine ∧ z_pcn (a ||| 2 ^ i) = z_pcn a + 1 := fun i hi hb => z_sub_c i hi mine hm a ha ⟨hs, hb⟩
    have hne : (a : Int) ≠ mine := fun e => by
      have : a = mine := by omega
      rw [this] at hp
      omega
    have hfc := z_fc24 f (by omega)
    have hb := z_ogb_le f (by omega)
    have hb1 := z_ogb_le (f + 1) (by omega)
    have hP : ∀ n : Nat, n ≤ 5 → 0 ≤ z_sm n (fun i => if mine.testBit i.toNat && !a.testBit i.toNat then z_fc f else 0) ∧ z_sm n (fun i => if mine.testBit i.toNat && !a.testBit i.toNat then z_fc f else 0) ≤ n * 24 := fun n hn' => z_sm_rng (fun i i0 i1 => by split <;> omega)
    have hQ : ∀ n : Nat, n ≤ 5 → -1000000000000 ≤ z_sm n (fun i => if mine.testBit i.toNat && !a.testBit i.toNat then z_og W mine k f (a ||| 2 ^ i.toNat) + (if i.toNat = k then z_fc f * (W (a ||| 2 ^ k) - W a) else 0) else 0) ∧ z_sm n (fun i => if mine.testBit i.toNat && !a.testBit i.toNat then z_og W mine k f (a ||| 2 ^ i.toNat) + (if i.toNat = k then z_fc f * (W (a ||| 2 ^ k) - W a) else 0) else 0) ≤ 1000000000000 := fun n hn' => by
      have h := z_sm_abs (n := n) (b := z_ogb f + 11404800) (f := fun i => if mine.testBit i.toNat && !a.testBit i.toNat then z_og W mine k f (a ||| 2 ^ i.toNat) + (if i.toNat = k then z_fc f * (W (a ||| 2 ^ k) - W a) else 0) else 0) (fun i i0 i1 => by
        have h1 := z_og_abs (mine := mine) (k := k) hW (f := f) (by omega) (a ||| 2 ^ i.toNat)
        have w1 := hW (a ||| 2 ^ k)
        have w2 := hW a
        have m := z_mul_abs (a := z_fc f) (b := W (a ||| 2 ^ k) - W a) (c := 475200) hfc.1 hfc.2 (by omega) (by omega)
        split
        · split <;> omega
        · omega)
      have e5 : z_ogb (f + 1) = 5 * (z_ogb f + 11404800) := rfl
      have hm5 : (n : Int) * (z_ogb f + 11404800) ≤ 5 * (z_ogb f + 11404800) := Int.mul_le_mul_of_nonneg_right (by omega) (by omega)
      omega
    obtain ⟨u9, σ2, e2, o2, h82, p2, q2⟩ := z_foru (fun (i : Nat) (u : z_V) (x : z_S) => z_go (z_ev z_hcM (d + f + 1)) z_hcM 1286 19 [z_R 1, z_I mine, z_I a, z_I k, z_I i, u] [] z_hdM x) (fun _ x => some (z_U, z_hdM, x)) (fun i x => (∀ c j, (c ≠ 1 ∨ (j ≠ 73 ∧ j ≠ 74)) → x c j = σ c j) ∧ x 1 8 = X 0 1 ∧ x 1 74 = om + z_sm i (fun i => if mine.testBit i.toNat && !a.testBit i.toNat then z_fc f else 0) ∧ x 1 73 = gr + z_sm i (fun i => if mine.testBit i.toNat && !a.testBit i.toNat then z_og W mine k f (a ||| 2 ^ i.toNat) + (if i.toNat = k then z_fc f * (W (a ||| 2 ^ k) - W a) else 0) else 0)) (X 0 1).toNat (u := z_U) (s := σ) ⟨fun _ _ _ => rfl, h8, by rw [hom]; exact (Int.add_zero _).symm, by rw [hgr]; exact (Int.add_zero _).symm⟩
      (fun i u x hi ⟨xo, x8, xp, xq⟩ => by
        have hpi := hP i (by omega)
        have hqi := hQ i (by omega)
        have bm := z_bit (m := (mine : Int)) (k := (i : Int)) (by omega) (by omega) (by omega) (by omega)
        have ba := z_bit (m := (a : Int)) (k := (i : Int)) (by omega) (by omega) (by omega) (by omega)
        unfold z_bt at bm ba
        rw [Int.toNat_natCast, Int.toNat_natCast] at bm ba
        rw [z_sm_s, Int.toNat_natCast, z_sm_s, Int.toNat_natCast, z_ns]
        by_cases c1 : mine.testBit i = true
        · rw [if_pos c1] at bm
          by_cases c2 : a.testBit i = true
          · rw [if_pos c2] at ba
            have hfr : ¬ (mine.testBit i && !a.testBit i) = true := by rw [c1, c2]; simp
            rw [if_neg hfr, if_neg hfr, Int.add_zero, Int.add_zero]
            refine ⟨u, x, ?_, xo, x8, xp, xq⟩
            rw [z_B1286_19]
            simp (disch := omega) only [if_neg, x8, bm, ba, z_fdM, z_pdM, z_adM, z_sdM, z_lkM, z_ndM, z_gdM, z_cI_some', z_cV_some', z_w_ok, Int.reduceAdd, Int.reduceSub, Int.reduceMul, Int.reduceNeg, Int.reduceEq, Int.reduceLT, Int.reduceLE, Int.reduceNe, reduceIte, true_and, and_true, false_and, and_false, if_true, if_false, ne_eq, not_true_eq_false, not_false_eq_true]
          · rw [if_neg c2] at ba
            have hfr : (mine.testBit i && !a.testBit i) = true := by rw [c1, (by simpa using c2 : a.testBit i = false)]; rfl
            obtain ⟨t1, t2⟩ := s3 i (by omega) hfr
            rw [if_pos hfr, if_pos hfr]
            have hf10 : (10 - ((f + 1 : Nat) : Int)) * 1000 + 1000 = (10 - (f : Int)) * 1000 := by omega
            obtain ⟨x1, g1, y1, y2, y3⟩ := m_orders hw hm hk hmn hW f (a ||| 2 ^ i) x _ _ d (by omega) (z_or_lt32 ha (by omega)) t1 (by omega) x8 (fun b hb hbs => by rw [xo _ _ (by omega)]; exact h57 b hb hbs) xp xq (by omega) (by omega)
            have hor := z_or_n (a := a) (i := i) ha (by omega)
            by_cases ck : i = k
            · rw [if_pos ck]
              have hog := z_og_abs (mine := mine) (k := k) hW (f := f) (by omega) (a ||| 2 ^ i)
              have hgo := m_ordk (X := X) (d + f + 1) (σ := x) (σ' := x1) (W1 := W a) (W2 := W (a ||| 2 ^ k)) (om := om + z_sm i (fun i => if mine.testBit i.toNat && !a.testBit i.toNat then z_fc f else 0)) (gr := gr + z_sm i (fun i => if mine.testBit i.toNat && !a.testBit i.toNat then z_og W mine k f (a ||| 2 ^ i.toNat) + (if i.toNat = k then z_fc f * (W (a ||| 2 ^ k) - W a) else 0) else 0) + z_og W mine k f (a ||| 2 ^ i)) (fc := z_fc f) (mine := mine) (a := a) (k := k) (i := i) ha (by omega) ck (by rw [y1 _ _ (by omega), xo _ _ (by omega)]; exact h57 a ha hs) (by rw [y1 _ _ (by omega), xo _ _ (by omega), ← ck]; exact h57 _ (z_or_lt32 ha (by omega)) t1) (hW _) (hW _) xp y2 y3 x8 (by omega) (by omega) hfc (by omega) bm ba u g1
              refine ⟨_, _, hgo, fun c j hc => by rw [z_upd_ne (by omega), y1 c j hc]; exact xo c j hc, by rw [z_upd_ne (by omega), y1 _ _ (by omega)]; exact x8, by rw [z_upd_ne (by omega), y2]; omega, by rw [z_upd_same, ← ck]; omega⟩
            · rw [if_neg ck, Int.add_zero]
              refine ⟨z_I (om + z_sm i (fun i => if mine.testBit i.toNat && !a.testBit i.toNat then z_fc f else 0)), x1, ?_, fun c j hc => by rw [y1 c j hc]; exact xo c j hc, by rw [y1 _ _ (by omega)]; exact x8, by rw [y2]; omega, by rw [y3]; omega⟩
              rw [z_B1286_19]
              simp (disch := omega) only [if_neg, if_pos, x8, bm, ba, hor, g1, xp, z_fdM, z_pdM, z_adM, z_sdM, z_lkM, z_ndM, z_gdM, z_cI_some', z_cV_some', z_w_ok, Int.reduceAdd, Int.reduceSub, Int.reduceMul, Int.reduceNeg, Int.reduceEq, Int.reduceLT, Int.reduceLE, Int.reduceNe, reduceIte, true_and, and_true, false_and, and_false, if_true, if_false, ne_eq, not_true_eq_false, not_false_eq_true]
        · rw [if_neg c1] at bm
          have hfr : ¬ (mine.testBit i && !a.testBit i) = true := by rw [(by simpa using c1 : mine.testBit i = false)]; simp
          rw [if_neg hfr, if_neg hfr, Int.add_zero, Int.add_zero]
          refine ⟨u, x, ?_, xo, x8, xp, xq⟩
          rw [z_B1286_19]
          simp (disch := omega) only [if_neg, if_pos, x8, bm, z_fdM, z_pdM, z_adM, z_sdM, z_lkM, z_ndM, z_gdM, z_cI_some', z_cV_some', z_w_ok, Int.reduceAdd, Int.reduceSub, Int.reduceMul, Int.reduceNeg, Int.reduceEq, Int.reduceLT, Int.reduceLE, Int.reduceNe, reduceIte, true_and, and_true, false_and, and_false, if_true, if_false, ne_eq, not_true_eq_false, not_false_eq_true]) (fun u x ⟨xo, x8, _⟩ => by
        rw [z_B1286_19]
        simp (disch := omega) only [if_pos, x8, z_fdM, z_pdM, z_adM, z_sdM, z_lkM, z_ndM, z_gdM, z_cI_some', z_cV_some', z_w_ok, Int.reduceAdd, Int.reduceSub, Int.reduceMul, Int.reduceNeg, Int.reduceEq, Int.reduceLT, Int.reduceLE, Int.reduceNe, reduceIte, true_and, and_true, false_and, and_false, if_true, if_false, ne_eq, not_true_eq_false, not_false_eq_true])
    have top : ∀ g : Int → Int, z_sm (X 0 1).toNat (fun i => if mine.testBit i.toNat && !a.testBit i.toNat then g i else 0) = z_sm 5 (fun i => if mine.testBit i.toNat && !a.testBit i.toNat then g i else 0) := fun g => by
      have h : ∀ j : Nat, z_sm ((X 0 1).toNat + j) (fun i => if mine.testBit i.toNat && !a.testBit i.toNat then g i else 0) = z_sm (X 0 1).toNat (fun i => if mine.testBit i.toNat && !a.testBit i.toNat then g i else 0) := by
        intro j
        induction j with
        | zero => rfl
        | succ j ih =>
          rw [show (X 0 1).toNat + (j + 1) = ((X 0 1).toNat + j) + 1 by omega, z_sm_s, ih, Int.toNat_natCast, hmn ((X 0 1).toNat + j) (by omega)]
          simp
      have := h (5 - (X 0 1).toNat)
      rw [show (X 0 1).toNat + (5 - (X 0 1).toNat) = 5 by omega] at this
      exact this.symm
    refine ⟨σ2, ?_, o2, ?_, ?_⟩
    · rw [z_E1286, if_pos hne]
      exact e2
    · rw [p2, top]
      have e1 : z_sm 5 (fun i => if mine.testBit i.toNat && !a.testBit i.toNat then z_fc f else 0) = z_fc f * z_sm 5 (fun i => if mine.testBit i.toNat && !a.testBit i.toNat then 1 else 0) := by
        rw [z_sm_mulc]
        refine z_sm_congr (fun i _ _ => ?_)
        split
        · exact (Int.mul_one _).symm
        · exact (Int.mul_zero _).symm
      rw [e1, s2, show (z_pcn mine : Int) - z_pcn a = (f : Int) + 1 by omega]
      rfl
    · rw [q2, top]
      rfl
end
