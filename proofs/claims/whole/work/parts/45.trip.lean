/-! The class's Trip: steps there and back. -/
theorem z_ext5 : ∀ x : Nat, x < 32 → ∀ y : Nat, y < 32 → (∀ k : Nat, k < 5 → z_bt x k = z_bt y k) → x = y := by decide +kernel
theorem z_ext32 {x y : Int} (h : 0 ≤ x ∧ x < 32) (h' : 0 ≤ y ∧ y < 32) (e : ∀ k : Int, 0 ≤ k → k < 5 → z_bt x k = z_bt y k) : x = y := by
  have := z_ext5 x.toNat (by omega) y.toNat (by omega) (fun k hk => by rw [Int.toNat_of_nonneg h.1, Int.toNat_of_nonneg h'.1]; exact e k (by omega) (by omega))
  omega
theorem z_sn_all : ∀ x : Nat, x < 256 → ∀ k : Nat, k < 8 → (0 ≤ z_sn x k ∧ z_sn x k < 256) ∧ (z_bt x k = false → z_dm (z_sn x k) (z_shl 1 k) = x) := by decide +kernel
theorem z_sn_rng {x k : Int} (h : 0 ≤ x ∧ x < 256) (h' : 0 ≤ k ∧ k < 8) : 0 ≤ z_sn x k ∧ z_sn x k < 256 := by
  have := (z_sn_all x.toNat (by omega) k.toNat (by omega)).1
  rwa [Int.toNat_of_nonneg h.1, Int.toNat_of_nonneg h'.1] at this
theorem z_sn_back {x k : Int} (h : 0 ≤ x ∧ x < 256) (h' : 0 ≤ k ∧ k < 8) (hb : z_bt x k = false) : z_and (z_sn x k) (z_xor (z_shl 1 k) (-1)) = x := by
  have := (z_sn_all x.toNat (by omega) k.toNat (by omega)).2
  rw [Int.toNat_of_nonneg h.1, Int.toNat_of_nonneg h'.1] at this
  exact this hb
theorem z_sn_bt {x k j : Int} (h : 0 ≤ x ∧ x < 256) (h' : 0 ≤ k ∧ k < 8) (hj : 0 ≤ j) : z_bt (z_sn x k) j = (z_bt x j || decide (j = k)) := by
  have hp : 2 ^ k.toNat < 2 ^ 8 := Nat.pow_lt_pow_right (by omega) (by omega)
  unfold z_sn
  rw [z_shl1 h'.1 (by omega), z_or_nat h.1 (by omega) (Int.natCast_nonneg _) (by omega)]
  unfold z_bt
  rw [Int.toNat_natCast, Int.toNat_natCast, Nat.testBit_or, Nat.testBit_two_pow]
  by_cases e : j = k
  · subst e; simp
  · have : k.toNat ≠ j.toNat := by omega
    simp [e, this]
theorem z_msk_rng {X : z_S} (hw : z_wf X) (l : List Int) : 0 ≤ z_msk X l ∧ z_msk X l < 32 ∧ z_msk X l < ((2 ^ (X 0 1).toNat : Nat) : Int) := by
  have := z_bs_rng (P := fun k => decide (X 6 k ∈ l)) (n := (X 0 1).toNat)
  have h5 : 2 ^ (X 0 1).toNat ≤ 2 ^ 5 := Nat.pow_le_pow_right (by omega) (by have := hw.2.1; omega)
  unfold z_msk
  omega
theorem z_msk_bt {X : z_S} {l : List Int} {k : Int} (hw : z_wf X) (h0 : 0 ≤ k) : z_bt (z_msk X l) k = (decide (k < X 0 1) && decide (X 6 k ∈ l)) := by
  have h := z_bs_bit (P := fun k => decide (X 6 k ∈ l)) (k := k.toNat) (n := (X 0 1).toNat)
  rw [Int.toNat_of_nonneg h0] at h
  unfold z_msk
  rw [h]
  congr 1
  have := hw.2.1
  rw [Bool.eq_iff_iff, decide_eq_true_eq, decide_eq_true_eq]
  omega
theorem z_msk_nil {X : z_S} (hw : z_wf X) : z_msk X [] = 0 := z_ext32 ⟨(z_msk_rng hw []).1, (z_msk_rng hw []).2.1⟩ (by omega) (fun k k0 k1 => by
  rw [z_msk_bt hw k0]
  unfold z_bt
  simp)
/-- a road's slot, among all -/
def z_slt (X : z_S) (r : Int) : Int := z_slot X (X 0 1).toNat r
theorem z_slt_some {X : z_S} (hw : z_wf X) (r : Int) : (z_slt X r = -1 ∧ ∀ k, 0 ≤ k → k < X 0 1 → X 6 k ≠ r) ∨ (0 ≤ z_slt X r ∧ z_slt X r < X 0 1 ∧ X 6 (z_slt X r) = r ∧ ∀ k, 0 ≤ k → k < X 0 1 → (X 6 k = r ↔ k = z_slt X r)) := by
  have hn := hw.2.1
  unfold z_slt
  rcases z_slot_some (X := X) (r := r) (n := (X 0 1).toNat) with ⟨h1, h2⟩ | ⟨h1, h2, h3⟩
  · exact Or.inl ⟨h1, fun k k0 k1 => h2 k k0 (by omega)⟩
  · refine Or.inr ⟨h1, by omega, h3, fun k k0 k1 => ⟨fun e => ?_, fun e => by rw [e]; exact h3⟩⟩
    have hd := hw.2.2.2.2.2.2.2.2.2.1
    rcases Int.lt_trichotomy k (z_slot X (X 0 1).toNat r) with h | h | h
    · have := hd k _ k0 h (by omega); omega
    · exact h
    · have := hd _ k h1 h k1; omega
theorem z_msk_step {X : z_S} (hw : z_wf X) {p : List Int} {r : Int} (hr : r ∉ p) : (if z_slt X r < 0 then z_or (z_msk X p) 0 else z_or (z_msk X p) (z_shl 1 (z_slt X r))) = z_msk X (p ++ [r]) ∧
    (if z_slt X r < 0 then z_and (z_msk X (p ++ [r])) (-1) else z_and (z_msk X (p ++ [r])) (z_xor (z_shl 1 (z_slt X r)) (-1))) = z_msk X p := by
  have hn := hw.2.1
  have h1 := z_msk_rng hw p
  have h2 := z_msk_rng hw (p ++ [r])
  have hm1 : z_and (z_msk X (p ++ [r])) (-1) = z_msk X (p ++ [r]) := by
    have h : ∀ x : Nat, x < 32 → z_and x (-1) = x := by decide
    have := h (z_msk X (p ++ [r])).toNat (by omega)
    rwa [Int.toNat_of_nonneg h2.1] at this
  rcases z_slt_some hw r with ⟨e, hk⟩ | ⟨e1, e2, e3, hk⟩
  · have he : z_msk X (p ++ [r]) = z_msk X p := z_ext32 ⟨h2.1, h2.2.1⟩ ⟨h1.1, h1.2.1⟩ (fun k k0 k1 => by
      rw [z_msk_bt hw k0, z_msk_bt hw k0]
      by_cases hkn : k < X 0 1
      · have := hk k k0 hkn
        simp [List.mem_append, this]
      · simp [hkn])
    rw [if_pos (by omega), if_pos (by omega), hm1, he]
    exact ⟨z_or_0 h1.1 (by omega), rfl⟩
  · rw [if_neg (by omega), if_neg (by omega)]
    have hs5 : z_slt X r < 5 := by omega
    have hp5 : 2 ^ (z_slt X r).toNat < 2 ^ 5 := Nat.pow_lt_pow_right (by omega) (by omega)
    have hsh := z_shl1 e1 (show z_slt X r < 31 by omega)
    have hbs : ∀ k : Int, 0 ≤ k → z_bt (z_shl 1 (z_slt X r)) k = decide (k = z_slt X r) := fun k k0 => by rw [hsh]; exact z_bt_pow e1 k0
    constructor
    · refine z_ext32 ?_ ⟨h2.1, h2.2.1⟩ (fun k k0 k1 => ?_)
      · have := z_or_32 (z_msk X p).toNat (by omega) (2 ^ (z_slt X r).toNat) (by omega)
        rw [Int.toNat_of_nonneg h1.1, ← hsh] at this
        exact ⟨this.1, this.2.1⟩
      · have := ((z_or_32 (z_msk X p).toNat (by omega) (2 ^ (z_slt X r).toNat) (by omega)).2.2.2.2 k.toNat (by omega)).1
        rw [Int.toNat_of_nonneg h1.1, ← hsh, Int.toNat_of_nonneg k0] at this
        rw [this, hbs k k0, z_msk_bt hw k0, z_msk_bt hw k0]
        by_cases hkn : k < X 0 1
        · have := hk k k0 hkn
          simp [List.mem_append, this, hkn]
        · have : ¬ k = z_slt X r := by omega
          simp [hkn, this]
    · have hd := z_dm_ok (x := z_msk X (p ++ [r])) (y := z_shl 1 (z_slt X r)) ⟨h2.1, h2.2.1⟩ (by rw [hsh]; exact ⟨Int.natCast_nonneg _, by exact_mod_cast hp5⟩)
      refine z_ext32 hd.1 ⟨h1.1, h1.2.1⟩ (fun k k0 k1 => ?_)
      have := hd.2.2 k k0 k1
      unfold z_dm at this
      rw [this, hbs k k0, z_msk_bt hw k0, z_msk_bt hw k0]
      by_cases hkn : k < X 0 1
      · have h5 := hk k k0 hkn
        by_cases hks : k = z_slt X r
        · have : X 6 k ∉ p := by rw [h5.mpr hks]; exact hr
          simp [hks.symm, this]
        · have : X 6 k ≠ r := fun z => hks (h5.mp z)
          simp [List.mem_append, this, hkn, hks]
      · simp [hkn]
/-- the trip of journey j, behind the roads p; all ways so far: A -/
def c_tr (σ X : z_S) (L j : Int) (p : List Int) (seen : Int) (A : List (List Int)) (f b : Int) : Prop :=
  σ 47 0 = L + 1 ∧ σ 47 1 = X 9 j ∧ σ 47 2 = X 14 j ∧ σ 47 3 = seen ∧ σ 47 4 = ((A.take 201).length : Int) ∧ σ 47 5 = f ∧ σ 47 6 = b ∧ σ 47 7 = z_sml (X 3) p ∧ σ 47 8 = z_sml (X 4) p ∧ σ 47 9 = z_msk X p ∧ σ 47 10 = z_pkd p
section
variable {σ X : z_S} {L s j seen f b : Int} {p : List Int} {A : List (List Int)}
theorem c_slotAt' (hL : L = 6 ∨ L = 26) (hw : z_wf X) (hl : c_land σ L X) (d : Nat) {r : Int} (h0 : 0 ≤ r) (h1 : r < X 0 0) : z_ev z_hcC (d + 2) 607 [z_R (L + 1), z_I r] z_hdC σ = some (z_I (z_slt X r), z_hdC, σ) := by
  have hn := hw.1
  have hn5 := hw.2.1
  have h := c_slotAt (σ := σ) (q := L + 1) (by omega) d r
  rw [show L + 1 + 7 = L + 8 by omega, hl.1, (hl.2.2.2.2.1 r h0 h1).2.2.2.2.2] at h
  rw [h, if_pos ⟨h0, h1, by omega⟩]
  rcases z_slt_some hw r with ⟨e, -⟩ | ⟨e1, e2, -⟩
  · unfold z_slt at *; rw [if_pos (by omega)]
  · unfold z_slt at *; rw [if_pos (by omega)]
theorem c_step (hL : L = 6 ∨ L = 26) (hw : z_wf X) (hl : c_land σ L X) (ht : c_tr σ X L j p seen A f b) (hp : p.length ≤ 6) (hpr : ∀ r ∈ p, 0 ≤ r ∧ r < X 0 0) (d : Nat) {r c : Int} (h0 : 0 ≤ r) (h1 : r < X 0 0) (hr : r ∉ p) :
    ∃ σ', z_ev z_hcC (d + 3) 1006 [z_R 47, z_I r, z_I c] z_hdC σ = some (z_U, z_hdC, σ') ∧ z_off 47 47 σ σ' ∧ c_tr σ' X L j (p ++ [r]) (z_sn seen c) A f b := by
  obtain ⟨t0, t1, t2, t3, t4, t5, t6, t7, t8, t9, t10⟩ := ht
  have hn := hw.1
  have hR := hw.2.2.2.2.2.2.2.1
  have k1 := c_costOf (σ := z_upd σ 47 3 (z_or seen (z_shl 1 c))) (q := L + 1) (by omega) d r
  rw [z_upd_ne (by omega), z_upd_ne (by omega), show L + 1 + 5 = L + 6 by omega, hl.1, if_pos ⟨h0, h1, by omega⟩, (hl.2.2.2.2.1 r h0 h1).2.2.1] at k1
  have k2 := c_hoursOf (σ := z_upd (z_upd σ 47 3 (z_or seen (z_shl 1 c))) 47 7 (z_sml (X 3) p + X 3 r)) (q := L + 1) (by omega) d r
  rw [z_upd_ne (by omega), z_upd_ne (by omega), z_upd_ne (by omega), z_upd_ne (by omega), show L + 1 + 6 = L + 7 by omega, hl.1, if_pos ⟨h0, h1, by omega⟩, (hl.2.2.2.2.1 r h0 h1).2.2.2.1] at k2
  have hl2 : c_land (z_upd (z_upd (z_upd (z_upd σ 47 3 (z_or seen (z_shl 1 c))) 47 7 (z_sml (X 3) p + X 3 r)) 47 8 (z_sml (X 4) p + X 4 r)) 47 10 (z_pkd p * 16 + r)) L X :=
    c_land_off hL (lo := 47) (hi := 47) (z_off_trans (z_off_trans (z_off_trans (z_off_upd (by omega) (by omega)) (z_off_upd (by omega) (by omega))) (z_off_upd (by omega) (by omega))) (z_off_upd (by omega) (by omega))) (by omega) hl
  have k3 := c_slotAt' hL hw hl2 d h0 h1
  have hc := z_sml_rng (f := X 3) (b := 99) (l := p) (fun x hx => (hR x (hpr x hx).1 (hpr x hx).2).2.2.2.1)
  have hh := z_sml_rng (f := X 4) (b := 9) (l := p) (fun x hx => (hR x (hpr x hx).1 (hpr x hx).2).2.2.2.2.1)
  have hrr := hR r h0 h1
  have hdg : z_dgs p := fun x hx => by have := hpr x hx; omega
  have hpk := z_rnk_rng hdg (by omega)
  have hp6 : z_pkd p < 16777216 := by
    have h1 := (z_pkd_rng hdg).2
    have : 16 ^ p.length ≤ 16 ^ 6 := Nat.pow_le_pow_right (by omega) hp
    omega
  have hpsh := z_or_shift (x := z_pkd p) (v := r) (k := 4) hpk.2.2.1 (by omega) (by omega) h0 (by show r < 16; omega) (by show z_pkd p * 16 + r < _; omega)
  rw [show (((2 ^ (4 : Int).toNat : Nat) : Int)) = 16 from rfl] at hpsh
  have hm := (z_msk_step hw hr).1
  have hrd : ∀ {β : Type} {σ : z_S} (f : Int), σ 47 0 = L + 1 → z_gf z_hcC σ 47 0 = L + 1 := fun f h => h
  have e7 : z_sml (X 3) (p ++ [r]) = z_sml (X 3) p + X 3 r := z_sml_app
  have e8 : z_sml (X 4) (p ++ [r]) = z_sml (X 4) p + X 4 r := z_sml_app
  have e10 : z_pkd (p ++ [r]) = z_pkd p * 16 + r := z_pkd_app
  refine ⟨z_upd (z_upd (z_upd (z_upd (z_upd σ 47 3 (z_or seen (z_shl 1 c))) 47 7 (z_sml (X 3) p + X 3 r)) 47 8 (z_sml (X 4) p + X 4 r)) 47 10 (z_pkd p * 16 + r)) 47 9 (z_msk X (p ++ [r])), ?_, z_off_trans (z_off_trans (z_off_trans (z_off_trans (z_off_upd (by omega) (by omega)) (z_off_upd (by omega) (by omega))) (z_off_upd (by omega) (by omega))) (z_off_upd (by omega) (by omega))) (z_off_upd (by omega) (by omega)), ?_⟩
  · by_cases hs : z_slt X r < 0
    · rw [if_pos hs] at hm
      simp (disch := omega) only [z_E1006, c_LC hL, z_upd_at, t0, t3, t7, t8, t9, t10, k1, k2, k3, hpsh, if_pos, if_neg, hm, z_fdC, z_pdC, z_adC, z_sdC, z_lkC, z_ndC, z_gdC, z_mdC, z_cI_some', z_cV_some', z_w_ok, Int.reduceAdd, Int.reduceSub, Int.reduceMul, Int.reduceNeg, Int.reduceEq, Int.reduceLT, Int.reduceLE, Int.reduceNe, reduceIte, true_and, and_true, false_and, and_false, if_true, if_false, ne_eq, not_true_eq_false, not_false_eq_true]
    · rw [if_neg hs] at hm
      simp (disch := omega) only [z_E1006, c_LC hL, z_upd_at, t0, t3, t7, t8, t9, t10, k1, k2, k3, hpsh, if_pos, if_neg, hm, z_fdC, z_pdC, z_adC, z_sdC, z_lkC, z_ndC, z_gdC, z_mdC, z_cI_some', z_cV_some', z_w_ok, Int.reduceAdd, Int.reduceSub, Int.reduceMul, Int.reduceNeg, Int.reduceEq, Int.reduceLT, Int.reduceLE, Int.reduceNe, reduceIte, true_and, and_true, false_and, and_false, if_true, if_false, ne_eq, not_true_eq_false, not_false_eq_true]
  · unfold c_tr
    simp (disch := omega) only [z_upd_at, if_pos, if_neg, true_and, and_true, Int.reduceEq, false_and, if_false, if_true, t0, t1, t2, t4, t5, t6, e7, e8, e10, z_sn]
theorem c_back (hL : L = 6 ∨ L = 26) (hw : z_wf X) (hl : c_land σ L X) {r c : Int} (ht : c_tr σ X L j (p ++ [r]) (z_sn seen c) A f b) (hp : p.length ≤ 6) (hpr : ∀ r ∈ p, 0 ≤ r ∧ r < X 0 0) (d : Nat) (h0 : 0 ≤ r) (h1 : r < X 0 0) (hr : r ∉ p) (hse : 0 ≤ seen ∧ seen < 256) (hc8 : 0 ≤ c ∧ c < 8) (hcs : z_bt seen c = false) :
    ∃ σ', z_ev z_hcC (d + 3) 1007 [z_R 47, z_I r, z_I c] z_hdC σ = some (z_U, z_hdC, σ') ∧ z_off 47 47 σ σ' ∧ c_tr σ' X L j p seen A f b := by
  obtain ⟨t0, t1, t2, t3, t4, t5, t6, t7, t8, t9, t10⟩ := ht
  have hn := hw.1
  have hR := hw.2.2.2.2.2.2.2.1
  have e7 : z_sml (X 3) (p ++ [r]) = z_sml (X 3) p + X 3 r := z_sml_app
  have e8 : z_sml (X 4) (p ++ [r]) = z_sml (X 4) p + X 4 r := z_sml_app
  have e10 : z_pkd (p ++ [r]) = z_pkd p * 16 + r := z_pkd_app
  rw [e7] at t7
  rw [e8] at t8
  rw [e10] at t10
  have hbk := z_sn_back hse hc8 hcs
  have k1 := c_costOf (σ := z_upd σ 47 3 seen) (q := L + 1) (by omega) d r
  rw [z_upd_ne (by omega), z_upd_ne (by omega), show L + 1 + 5 = L + 6 by omega, hl.1, if_pos ⟨h0, h1, by omega⟩, (hl.2.2.2.2.1 r h0 h1).2.2.1] at k1
  have k2 := c_hoursOf (σ := z_upd (z_upd σ 47 3 seen) 47 7 (z_sml (X 3) p)) (q := L + 1) (by omega) d r
  rw [z_upd_ne (by omega), z_upd_ne (by omega), z_upd_ne (by omega), z_upd_ne (by omega), show L + 1 + 6 = L + 7 by omega, hl.1, if_pos ⟨h0, h1, by omega⟩, (hl.2.2.2.2.1 r h0 h1).2.2.2.1] at k2
  have hl2 : c_land (z_upd (z_upd (z_upd (z_upd σ 47 3 seen) 47 7 (z_sml (X 3) p)) 47 8 (z_sml (X 4) p)) 47 10 (z_pkd p)) L X :=
    c_land_off hL (lo := 47) (hi := 47) (z_off_trans (z_off_trans (z_off_trans (z_off_upd (by omega) (by omega)) (z_off_upd (by omega) (by omega))) (z_off_upd (by omega) (by omega))) (z_off_upd (by omega) (by omega))) (by omega) hl
  have k3 := c_slotAt' hL hw hl2 d h0 h1
  have hc := z_sml_rng (f := X 3) (b := 99) (l := p) (fun x hx => (hR x (hpr x hx).1 (hpr x hx).2).2.2.2.1)
  have hh := z_sml_rng (f := X 4) (b := 9) (l := p) (fun x hx => (hR x (hpr x hx).1 (hpr x hx).2).2.2.2.2.1)
  have hrr := hR r h0 h1
  have hdg : z_dgs p := fun x hx => by have := hpr x hx; omega
  have hpk := z_rnk_rng hdg (by omega)
  have hp6 : z_pkd p < 16777216 := by
    have h1 := (z_pkd_rng hdg).2
    have : 16 ^ p.length ≤ 16 ^ 6 := Nat.pow_le_pow_right (by omega) hp
    omega
  have hus : z_ushr (z_pkd p * 16 + r) 4 = z_pkd p := by
    rw [z_ushr_nat (by omega) (by omega) (by omega) (by omega), show (2 ^ (4 : Int).toNat : Nat) = 16 from rfl]
    omega
  have hm := (z_msk_step hw hr).2
  have ec : z_sml (X 3) p + X 3 r - X 3 r = z_sml (X 3) p := by omega
  have eh : z_sml (X 4) p + X 4 r - X 4 r = z_sml (X 4) p := by omega
  refine ⟨z_upd (z_upd (z_upd (z_upd (z_upd σ 47 3 seen) 47 7 (z_sml (X 3) p)) 47 8 (z_sml (X 4) p)) 47 10 (z_pkd p)) 47 9 (z_msk X p), ?_, z_off_trans (z_off_trans (z_off_trans (z_off_trans (z_off_upd (by omega) (by omega)) (z_off_upd (by omega) (by omega))) (z_off_upd (by omega) (by omega))) (z_off_upd (by omega) (by omega))) (z_off_upd (by omega) (by omega)), ?_⟩
  · by_cases hs : z_slt X r < 0
    · rw [if_pos hs] at hm
      simp (disch := omega) only [z_E1007, c_LC hL, z_upd_at, t0, t3, t7, t8, t9, t10, ec, eh, hbk, hus, k1, k2, k3, if_pos, if_neg, hm, z_fdC, z_pdC, z_adC, z_sdC, z_lkC, z_ndC, z_gdC, z_mdC, z_cI_some', z_cV_some', z_w_ok, Int.reduceAdd, Int.reduceSub, Int.reduceMul, Int.reduceNeg, Int.reduceEq, Int.reduceLT, Int.reduceLE, Int.reduceNe, reduceIte, true_and, and_true, false_and, and_false, if_true, if_false, ne_eq, not_true_eq_false, not_false_eq_true]
    · rw [if_neg hs] at hm
      simp (disch := omega) only [z_E1007, c_LC hL, z_upd_at, t0, t3, t7, t8, t9, t10, ec, eh, hbk, hus, k1, k2, k3, if_pos, if_neg, hm, z_fdC, z_pdC, z_adC, z_sdC, z_lkC, z_ndC, z_gdC, z_mdC, z_cI_some', z_cV_some', z_w_ok, Int.reduceAdd, Int.reduceSub, Int.reduceMul, Int.reduceNeg, Int.reduceEq, Int.reduceLT, Int.reduceLE, Int.reduceNe, reduceIte, true_and, and_true, false_and, and_false, if_true, if_false, ne_eq, not_true_eq_false, not_false_eq_true]
  · unfold c_tr
    simp (disch := omega) only [z_upd_at, if_pos, if_neg, true_and, and_true, Int.reduceEq, false_and, if_false, if_true, t0, t1, t2, t4, t5, t6]
/-- Trip.ahead -/
theorem c_ahead (hL : L = 6 ∨ L = 26) (hw : z_wf X) (hl : c_land σ L X) (hs : c_shut σ (L + 1) s) (ht : c_tr σ X L j p seen A f b) (hse : 0 ≤ seen ∧ seen < 256) (d : Nat) {r c : Int} (h0 : 0 ≤ r) (h1 : r < X 0 0) :
    z_ev z_hcC (d + 3) 1005 [z_R 47, z_I r, z_I c] z_hdC σ = some (z_I (if z_can X s seen c r then z_nx X r c else -1), z_hdC, σ) := by
  obtain ⟨t0, t1, t2, t3, t4, t5, t6, t7, t8, t9, t10⟩ := ht
  have hn := hw.1
  have hR := hw.2.2.2.2.2.2.2.1 r h0 h1
  have k1 := c_isOpen' (σ := σ) (q := L + 1) (by omega) (d + 1) hs h0 (show r < 14 by omega)
  have k2 := c_across (σ := σ) (q := L + 1) (by omega) d r c
  rw [show L + 1 + 3 = L + 4 by omega, show L + 1 + 4 = L + 5 by omega, hl.1, if_pos ⟨h0, h1, by omega⟩, (hl.2.2.2.2.1 r h0 h1).1, (hl.2.2.2.2.1 r h0 h1).2.1] at k2
  have hnx : (if X 1 r = c then X 2 r else if X 2 r = c then X 1 r else -1) = z_nx X r c := rfl
  rw [hnx] at k2
  have hrng : -1 ≤ z_nx X r c ∧ z_nx X r c ≤ 7 := by rw [← hnx]; (repeat' split) <;> omega
  unfold z_can
  by_cases c1 : r = s
  · subst c1
    rw [if_neg (by simp)] at k1
    have e1 : decide (r ≠ r) = false := by simp
    rw [e1]
    simp (disch := omega) only [z_E1005, c_LC hL, t0, k1, if_neg, Bool.false_and, Bool.false_eq_true, z_fdC, z_pdC, z_adC, z_sdC, z_lkC, z_ndC, z_gdC, z_mdC, z_cI_some', z_cV_some', z_w_ok, Int.reduceAdd, Int.reduceSub, Int.reduceMul, Int.reduceNeg, Int.reduceEq, Int.reduceLT, Int.reduceLE, Int.reduceNe, reduceIte, true_and, and_true, false_and, and_false, if_true, if_false, ne_eq, not_true_eq_false, not_false_eq_true]
  · rw [if_pos c1] at k1
    by_cases c2 : z_nx X r c < 0
    · have e2 : decide (0 ≤ z_nx X r c) = false := by simpa using c2
      rw [e2]
      simp (disch := omega) only [z_E1005, c_LC hL, t0, k1, k2, if_pos, if_neg, Bool.false_and, Bool.and_false, Bool.false_eq_true, z_fdC, z_pdC, z_adC, z_sdC, z_lkC, z_ndC, z_gdC, z_mdC, z_cI_some', z_cV_some', z_w_ok, Int.reduceAdd, Int.reduceSub, Int.reduceMul, Int.reduceNeg, Int.reduceEq, Int.reduceLT, Int.reduceLE, Int.reduceNe, reduceIte, true_and, and_true, false_and, and_false, if_true, if_false, ne_eq, not_true_eq_false, not_false_eq_true]
    · have e1 : decide (r ≠ s) = true := by simpa using c1
      have e2 : decide (0 ≤ z_nx X r c) = true := by simp; omega
      have hb := z_bit (m := seen) (k := z_nx X r c) hse.1 (by omega) (by omega) (by omega)
      rw [e1, e2]
      by_cases c3 : z_bt seen (z_nx X r c) = true
      · rw [if_pos c3] at hb
        simp (disch := omega) only [z_E1005, c_LC hL, t0, t3, k1, k2, if_pos, if_neg, hb, c3, Bool.true_and, Bool.not_true, Bool.false_eq_true, z_fdC, z_pdC, z_adC, z_sdC, z_lkC, z_ndC, z_gdC, z_mdC, z_cI_some', z_cV_some', z_w_ok, Int.reduceAdd, Int.reduceSub, Int.reduceMul, Int.reduceNeg, Int.reduceEq, Int.reduceLT, Int.reduceLE, Int.reduceNe, reduceIte, true_and, and_true, false_and, and_false, if_true, if_false, ne_eq, not_true_eq_false, not_false_eq_true]
      · rw [if_neg c3] at hb
        have c4 : z_bt seen (z_nx X r c) = false := by simpa using c3
        simp (disch := omega) only [z_E1005, c_LC hL, t0, t3, k1, k2, if_pos, if_neg, hb, c4, Bool.true_and, Bool.not_false, z_fdC, z_pdC, z_adC, z_sdC, z_lkC, z_ndC, z_gdC, z_mdC, z_cI_some', z_cV_some', z_w_ok, Int.reduceAdd, Int.reduceSub, Int.reduceMul, Int.reduceNeg, Int.reduceEq, Int.reduceLT, Int.reduceLE, Int.reduceNe, reduceIte, true_and, and_true, false_and, and_false, if_true, if_false, ne_eq, not_true_eq_false, not_false_eq_true]
end
