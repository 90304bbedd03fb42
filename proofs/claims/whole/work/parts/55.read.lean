/-! The class's Reader: items, texts. -/
/-- what reading leaves alone -/
def c_fx (L : Int) (σ σ' : z_S) : Prop := (∀ a i, (a < L + 1 ∨ L + 19 < a) → (a ≠ 2 ∨ (i ≠ 2 ∧ i ≠ 4)) → σ' a i = σ a i) ∧ σ' (L + 1) 3 = σ (L + 1) 3
section
variable {σ X Y : z_S} {L : Int}
theorem c_fx_refl : c_fx L σ σ := ⟨fun _ _ _ _ => rfl, rfl⟩
theorem c_fx_trans {σ' σ'' : z_S} (h : c_fx L σ σ') (h' : c_fx L σ' σ'') : c_fx L σ σ'' := ⟨fun a i h1 h2 => (h'.1 a i h1 h2).trans (h.1 a i h1 h2), h'.2.trans h.2⟩
theorem c_fx_rs (hL : L = 6 ∨ L = 26) {p b : Int} : c_fx L σ (z_rs σ p b) := ⟨fun a i _ h => z_rs_at (by omega), z_rs_at (by omega)⟩
theorem c_rt_fx (hL : L = 6 ∨ L = 26) {σ' : z_S} (h : c_fx L σ σ') (ht : c_rt σ X) : c_rt σ' X := by
  obtain ⟨h1, h2, h3, h4⟩ := ht
  exact ⟨by rw [h.1 _ _ (by omega) (by omega)]; exact h1, by rw [h.1 _ _ (by omega) (by omega)]; exact h2, fun i i0 i1 => by rw [h.1 _ _ (by omega) (by omega)]; exact h3 i i0 i1, h4⟩
theorem c_landx_off {σ' : z_S} {lo hi : Int} (ho : z_off lo hi σ σ') (h : hi ≤ L ∨ L + 19 < lo) (hx : c_landx σ L Y) : c_landx σ' L Y := by
  obtain ⟨⟨x0, x1, x2, x3⟩, xr, xk, xt, xj⟩ := hx
  have e : ∀ c i, L + 1 ≤ c → c ≤ L + 19 → σ' c i = σ c i := fun c i h1 h2 => ho c i (by omega)
  refine ⟨⟨by rw [e _ _ (by omega) (by omega)]; exact x0, by rw [e _ _ (by omega) (by omega)]; exact x1, by rw [e _ _ (by omega) (by omega)]; exact x2, by rw [e _ _ (by omega) (by omega)]; exact x3⟩, fun r r0 r1 r2 => ?_, fun k k0 k1 k2 => by rw [e _ _ (by omega) (by omega)]; exact xk k k0 k1 k2, fun k k0 k1 => by rw [e _ _ (by omega) (by omega)]; exact xt k k0 k1, fun j j0 j1 j2 => ?_⟩
  · rw [e _ _ (by omega) (by omega), e _ _ (by omega) (by omega), e _ _ (by omega) (by omega), e _ _ (by omega) (by omega), e _ _ (by omega) (by omega), e _ _ (by omega) (by omega)]
    exact xr r r0 r1 r2
  · rw [e _ _ (by omega) (by omega), e _ _ (by omega) (by omega), e _ _ (by omega) (by omega), e _ _ (by omega) (by omega), e _ _ (by omega) (by omega), e _ _ (by omega) (by omega), e _ _ (by omega) (by omega), e _ _ (by omega) (by omega), e _ _ (by omega) (by omega)]
    exact xj j j0 j1 j2
theorem z_rs_off {p b : Int} : z_off 2 2 σ (z_rs σ p b) := fun a i h => z_rs_at (by omega)
/-- the reader's answer is the text's -/
def c_R (r : z_P) (f : Int × Int × Int) : Prop := match r with
  | .inr (v, q) => f = (v, q, 0) ∧ 0 ≤ q ∧ q ≤ 60
  | .inl e => f.2.1 = e ∧ f.2.2 = 1 ∧ 0 ≤ e ∧ e ≤ 60
theorem z_txt_lt {p : Int} (h : 0 ≤ z_txt X p) : p < 60 := by
  unfold z_txt at h
  split at h
  · omega
  · omega
theorem z_fC_R {p : Int} (hp : 0 ≤ p ∧ p ≤ 60) (but : Int) : c_R (z_cor (z_txt X) p but) (z_fC X but p 0) := by
  unfold z_cor z_fC c_R
  by_cases c : 0 ≤ z_txt X p - 97 ∧ z_txt X p - 97 ≤ 7 ∧ z_txt X p - 97 ≠ but
  · have := z_txt_lt (X := X) (p := p) (by omega)
    rw [if_pos c, if_pos ⟨rfl, c⟩]
    exact ⟨rfl, by omega, by omega⟩
  · rw [if_neg c, if_neg (fun h => c h.2)]
    exact ⟨rfl, rfl, hp⟩
theorem z_fD_R {p : Int} (hp : 0 ≤ p ∧ p ≤ 60) (lo hi : Int) (h0 : 0 ≤ lo) : c_R (z_dgt (z_txt X) p lo hi) (z_fD X lo hi p 0) := by
  unfold z_dgt z_fD c_R
  by_cases c : lo ≤ z_txt X p - 48 ∧ z_txt X p - 48 ≤ hi
  · have := z_txt_lt (X := X) (p := p) (by omega)
    rw [if_pos c, if_pos ⟨rfl, c⟩]
    exact ⟨rfl, by omega, by omega⟩
  · rw [if_neg c, if_neg (fun h => c h.2)]
    exact ⟨rfl, rfl, hp⟩
theorem z_nct_60 {p : Int} (hp : 0 ≤ p ∧ p ≤ 60) : p + z_nct (z_txt X) p ≤ 60 := by
  have key : ∀ q, z_isd (z_txt X q) = true → q < 60 := fun q h => z_txt_lt (X := X) (by have := z_isd_t.mp h; omega)
  unfold z_nct
  split
  · next h0 =>
    have := key _ h0
    split
    · next h1 =>
      have := key _ h1
      split
      · next h2 => have := key _ h2; omega
      · omega
    · omega
  · omega
theorem z_fN_R {p : Int} (hp : 0 ≤ p ∧ p ≤ 60) (lo hi : Int) : c_R (z_nmb (z_txt X) p lo hi) (z_fN X lo hi p 0) := by
  have h60 := z_nct_60 (X := X) hp
  have hr := z_nct_rng (T := z_txt X) p
  unfold z_nmb z_fN c_R
  rw [if_pos rfl]
  by_cases c : z_nct (z_txt X) p = 0
  · rw [if_pos c, if_pos c]
    exact ⟨rfl, rfl, hp⟩
  · rw [if_neg c, if_neg c]
    by_cases c2 : lo ≤ z_nvl (z_txt X) p ∧ z_nvl (z_txt X) p ≤ hi
    · rw [if_pos c2, if_pos c2]
      exact ⟨rfl, by omega, by omega⟩
    · rw [if_neg c2, if_neg c2]
      exact ⟨rfl, rfl, by omega, by omega⟩
/-- a stuck reader stays as it is -/
theorem c_stuck (ht : c_rt σ X) {e : Int} (he : 0 ≤ e ∧ e ≤ 60) (d : Nat) :
    (∀ ch, z_ev z_hcC (d + 2) 508 [z_R 2, z_I ch] z_hdC (z_rs σ e 1) = some (z_I 0, z_hdC, z_rs σ e 1)) ∧ (∀ ch, z_ev z_hcC (d + 3) 509 [z_R 2, z_I ch] z_hdC (z_rs σ e 1) = some (z_U, z_hdC, z_rs σ e 1)) ∧
    (∀ but, z_ev z_hcC (d + 2) 510 [z_R 2, z_I but] z_hdC (z_rs σ e 1) = some (z_I 0, z_hdC, z_rs σ e 1)) ∧ (∀ lo hi, z_ev z_hcC (d + 2) 511 [z_R 2, z_I lo, z_I hi] z_hdC (z_rs σ e 1) = some (z_I 0, z_hdC, z_rs σ e 1)) ∧
    (∀ lo hi, z_ev z_hcC (d + 2) 512 [z_R 2, z_I lo, z_I hi] z_hdC (z_rs σ e 1) = some (z_I 0, z_hdC, z_rs σ e 1)) := by
  refine ⟨fun ch => ?_, fun ch => ?_, fun but => ?_, fun lo hi => ?_, fun lo hi => ?_⟩
  · rw [c_eat ht (by omega) (Or.inr rfl)]; rfl
  · rw [c_want ht (by omega) (Or.inr rfl), if_neg (by omega)]
  · rw [c_corner ht (by omega) (Or.inr rfl)]; rfl
  · rw [c_digit ht (by omega) (Or.inr rfl)]; rfl
  · rw [c_numeral ht he (Or.inr rfl)]; rfl
theorem z_wl0_app {B : Int} (hw : z_wl0 Y B) {it : List Int} (hi : z_iok it) : z_wl0 (z_app Y it) (B + 1) := by
  obtain ⟨w0, w1, w2, w6⟩ := hw
  rcases hi with ⟨v, rfl, -⟩ | ⟨o, a, b, n, h, rfl, ho, -⟩ | ⟨a, b, n, lo, hi, cr, sl, ho, ti, rfl, -⟩
  · have hC : ∀ c i, (c ≠ 7 ∧ (c ≠ 0 ∨ i ≠ 3)) → z_addC Y v c i = Y c i := fun c i h => by unfold z_addC; rw [if_neg (by omega), if_neg (by omega)]
    show z_wl0 (z_addC Y v) _
    unfold z_wl0
    rw [hC _ _ (by omega), hC _ _ (by omega), hC _ _ (by omega)]
    exact ⟨by omega, by omega, by omega, fun k k0 k1 => by rw [hC _ _ (by omega)]; exact w6 k k0 k1⟩
  · show z_wl0 (z_addR Y o a b n h) _
    refine ⟨?_, ?_, ?_, fun k k0 k1 => ?_⟩
    · rw [z_addR_c, if_pos rfl]; omega
    · rw [z_addR_c, if_neg (by omega)]; split <;> omega
    · rw [z_addR_c, if_neg (by omega), if_neg (by omega)]; omega
    · rw [z_addR_c, if_neg (by omega)] at k1
      rw [z_addR_c, if_pos rfl, z_addR_6]
      by_cases hk : k = Y 0 1 ∧ o ≠ -1
      · rw [if_pos hk]; omega
      · rw [if_neg hk]
        have := w6 k k0 (by split at k1 <;> omega)
        omega
  · show z_wl0 (z_addJ Y a b n lo hi cr sl ho ti) _
    refine ⟨?_, ?_, ?_, fun k k0 k1 => ?_⟩
    · rw [z_addJ_at, if_neg (by omega), if_neg (by omega)]; omega
    · rw [z_addJ_at, if_neg (by omega), if_neg (by omega)]; omega
    · rw [z_addJ_at, if_pos (by omega)]; omega
    · rw [z_addJ_at, if_neg (by omega), if_neg (by omega)] at k1
      rw [z_addJ_at, if_neg (by omega), if_neg (by omega), z_addJ_at, if_neg (by omega), if_neg (by omega)]
      exact w6 k k0 k1
/-- what reading an item comes to -/
def c_RI (σ Y : z_S) (L : Int) (r : z_PI) (o : Option z_Res) : Prop := match r with
  | .inr (it, q) => ∃ σ', o = some (z_U, z_hdC, z_rs σ' q 0) ∧ c_fx L σ σ' ∧ c_landx σ' L (z_app Y it) ∧ 0 ≤ q ∧ q ≤ 60
  | .inl e => o = some (z_U, z_hdC, z_rs σ e 1) ∧ 0 ≤ e ∧ e ≤ 60
/-- Reader.readRoad -/
theorem c_readRoad (hL : L = 6 ∨ L = 26) (ht : c_rt σ X) {B : Int} (hw : z_wl0 Y B) (hB : B ≤ 999) (hx : c_landx σ L Y) {p o : Int} (hp : 0 ≤ p ∧ p ≤ 60) (ho : -1 ≤ o) (d : Nat) :
    c_RI σ Y L (z_pRoad (z_txt X) o p) (z_ev z_hcC (d + 3) 505 [z_R 2, z_R L, z_I o] z_hdC (z_rs σ p 0)) := by
  have r4 : ∀ e b, z_rs σ e b 2 4 = b := fun e b => z_rs_4
  have stk : ∀ e, 0 ≤ e → e ≤ 60 → ∀ x3 x4 x5 t0 u, z_go (z_ev z_hcC (d + 2)) z_hcC 505 42 [z_R 2, z_R L, z_I o, z_I x3, z_I x4, z_I x5, u] [z_I t0] z_hdC (z_rs σ e 1) = some (z_U, z_hdC, z_rs σ e 1) := fun e e0 e1 x3 x4 x5 t0 u => by
    rw [z_B505_42]
    simp (disch := omega) only [r4, z_fdC, z_pdC, z_adC, z_sdC, z_lkC, z_ndC, z_gdC, z_mdC, z_cI_some', z_cV_some', z_w_ok, Int.reduceAdd, Int.reduceSub, Int.reduceMul, Int.reduceNeg, Int.reduceEq, Int.reduceLT, Int.reduceLE, Int.reduceNe, reduceIte, true_and, and_true, false_and, and_false, if_true, if_false, ne_eq, not_true_eq_false, not_false_eq_true]
  have h1 := z_fC_R (X := X) hp (-1)
  have k1 := c_corner ht (b := 0) (by omega : 0 ≤ p ∧ p ≤ 100) (Or.inl rfl) d (-1)
  unfold z_pRoad z_bd
  cases g1 : z_cor (z_txt X) p (-1) with
  | inl e =>
    rw [g1] at h1
    obtain ⟨f1, f2, f3, f4⟩ := h1
    rw [f1, f2] at k1
    obtain ⟨s8, s9, s10, s11, s12⟩ := c_stuck ht ⟨f3, f4⟩ d
    refine ⟨?_, f3, f4⟩
    simp (disch := omega) only [z_E505, k1, s10, s12, s8, z_fdC, z_pdC, z_adC, z_sdC, z_lkC, z_ndC, z_gdC, z_mdC, z_cI_some', z_cV_some', z_w_ok, Int.reduceAdd, Int.reduceSub, Int.reduceMul, Int.reduceNeg, Int.reduceEq, Int.reduceLT, Int.reduceLE, Int.reduceNe, reduceIte, true_and, and_true, false_and, and_false, if_true, if_false, ne_eq, not_true_eq_false, not_false_eq_true]
    exact stk e f3 f4 _ _ _ _ _
  | inr x =>
    obtain ⟨a, p1⟩ := x
    rw [g1] at h1
    obtain ⟨f1, q0, q1⟩ := h1
    rw [f1] at k1
    have h2 := z_fC_R (X := X) ⟨q0, q1⟩ a
    have k2 := c_corner ht (b := 0) (by omega : 0 ≤ p1 ∧ p1 ≤ 100) (Or.inl rfl) d a
    dsimp only at k1 ⊢
    cases g2 : z_cor (z_txt X) p1 a with
    | inl e =>
      rw [g2] at h2
      obtain ⟨f1, f2, f3, f4⟩ := h2
      rw [f1, f2] at k2
      obtain ⟨s8, s9, s10, s11, s12⟩ := c_stuck ht ⟨f3, f4⟩ d
      refine ⟨?_, f3, f4⟩
      simp (disch := omega) only [z_E505, k1, k2, s12, s8, z_fdC, z_pdC, z_adC, z_sdC, z_lkC, z_ndC, z_gdC, z_mdC, z_cI_some', z_cV_some', z_w_ok, Int.reduceAdd, Int.reduceSub, Int.reduceMul, Int.reduceNeg, Int.reduceEq, Int.reduceLT, Int.reduceLE, Int.reduceNe, reduceIte, true_and, and_true, false_and, and_false, if_true, if_false, ne_eq, not_true_eq_false, not_false_eq_true]
      exact stk e f3 f4 _ _ _ _ _
    | inr x =>
      obtain ⟨b, p2⟩ := x
      rw [g2] at h2
      obtain ⟨f2, q2, q3⟩ := h2
      rw [f2] at k2
      have h3 := z_fN_R (X := X) ⟨q2, q3⟩ 0 99
      have k3 := c_numeral ht (b := 0) ⟨q2, q3⟩ (Or.inl rfl) d 0 99
      dsimp only at k2 ⊢
      cases g3 : z_nmb (z_txt X) p2 0 99 with
      | inl e =>
        rw [g3] at h3
        obtain ⟨f1, f2, f3, f4⟩ := h3
        rw [f1, f2] at k3
        obtain ⟨s8, s9, s10, s11, s12⟩ := c_stuck ht ⟨f3, f4⟩ d
        refine ⟨?_, f3, f4⟩
        simp (disch := omega) only [z_E505, k1, k2, k3, s8, z_fdC, z_pdC, z_adC, z_sdC, z_lkC, z_ndC, z_gdC, z_mdC, z_cI_some', z_cV_some', z_w_ok, Int.reduceAdd, Int.reduceSub, Int.reduceMul, Int.reduceNeg, Int.reduceEq, Int.reduceLT, Int.reduceLE, Int.reduceNe, reduceIte, true_and, and_true, false_and, and_false, if_true, if_false, ne_eq, not_true_eq_false, not_false_eq_true]
        exact stk e f3 f4 _ _ _ _ _
      | inr x =>
        obtain ⟨n, p3⟩ := x
        rw [g3] at h3
        obtain ⟨f3, q4, q5⟩ := h3
        rw [f3] at k3
        have k4 := c_eat ht (b := 0) (by omega : 0 ≤ p3 ∧ p3 ≤ 100) (Or.inl rfl) d 43
        dsimp only at k3 ⊢
        -- behind all
        have fin : ∀ h q, 0 ≤ q → q ≤ 60 → c_RI σ Y L (.inr ([1, o, a, b, n, h], q)) (z_go (z_ev z_hcC (d + 2)) z_hcC 505 42 [z_R 2, z_R L, z_I o, z_I a, z_I b, z_I n, z_U] [z_I h] z_hdC (z_rs σ q 0)) := fun h q q0 q1 => by
          have hx' : c_landx (z_rs σ q 0) L Y := c_landx_off z_rs_off (by omega) hx
          obtain ⟨σ', a1, a2, a3, a4⟩ := c_addR (a := a) (b := b) (n := n) (h := h) hL hw (by omega) hx' ho (d + 1)
          have e2 : σ' 2 2 = q := by rw [z_oat a2 (by omega)]; exact z_rs_2
          have e4 : σ' 2 4 = 0 := by rw [z_oat a2 (by omega)]; exact z_rs_4
          refine ⟨σ', ?_, ⟨fun c i h1 h2 => by rw [z_oat a2 (by omega)]; exact z_rs_at (by omega), by rw [a3 _ (by omega) (by omega)]; exact z_rs_at (by omega)⟩, a4, q0, q1⟩
          rw [z_rs_self e2 e4, z_B505_42]
          simp (disch := omega) only [r4, c_LC hL, a1, z_fdC, z_pdC, z_adC, z_sdC, z_lkC, z_ndC, z_gdC, z_mdC, z_cI_some', z_cV_some', z_w_ok, Int.reduceAdd, Int.reduceSub, Int.reduceMul, Int.reduceNeg, Int.reduceEq, Int.reduceLT, Int.reduceLE, Int.reduceNe, reduceIte, true_and, and_true, false_and, and_false, if_true, if_false, ne_eq, not_true_eq_false, not_false_eq_true]
        unfold z_opg
        by_cases c43 : z_txt X p3 = 43
        · have hlt := z_txt_lt (X := X) (p := p3) (by omega)
          have e43 : z_fE X 43 p3 0 = (1, p3 + 1, 0) := if_pos ⟨rfl, c43⟩
          rw [e43] at k4
          rw [if_pos c43]
          have h5 := z_fD_R (X := X) (p := p3 + 1) (by omega) 0 9 (by omega)
          have k5 := c_digit ht (b := 0) (by omega : 0 ≤ p3 + 1 ∧ p3 + 1 ≤ 100) (Or.inl rfl) d 0 9
          cases g5 : z_dgt (z_txt X) (p3 + 1) 0 9 with
          | inl e =>
            rw [g5] at h5
            obtain ⟨f1, f2, f3, f4⟩ := h5
            rw [f1, f2] at k5
            refine ⟨?_, f3, f4⟩
            simp (disch := omega) only [z_E505, k1, k2, k3, k4, k5, z_fdC, z_pdC, z_adC, z_sdC, z_lkC, z_ndC, z_gdC, z_mdC, z_cI_some', z_cV_some', z_w_ok, Int.reduceAdd, Int.reduceSub, Int.reduceMul, Int.reduceNeg, Int.reduceEq, Int.reduceLT, Int.reduceLE, Int.reduceNe, reduceIte, true_and, and_true, false_and, and_false, if_true, if_false, ne_eq, not_true_eq_false, not_false_eq_true]
            exact stk e f3 f4 _ _ _ _ _
          | inr x =>
            obtain ⟨h, p4⟩ := x
            rw [g5] at h5
            obtain ⟨f5, q6, q7⟩ := h5
            rw [f5] at k5
            have := fin h p4 q6 q7
            simp (disch := omega) only [z_E505, k1, k2, k3, k4, k5, z_fdC, z_pdC, z_adC, z_sdC, z_lkC, z_ndC, z_gdC, z_mdC, z_cI_some', z_cV_some', z_w_ok, Int.reduceAdd, Int.reduceSub, Int.reduceMul, Int.reduceNeg, Int.reduceEq, Int.reduceLT, Int.reduceLE, Int.reduceNe, reduceIte, true_and, and_true, false_and, and_false, if_true, if_false, ne_eq, not_true_eq_false, not_false_eq_true]
            exact this
        · have e43 : z_fE X 43 p3 0 = (0, p3, 0) := if_neg (fun h => c43 h.2)
          rw [e43] at k4
          rw [if_neg c43]
          have := fin 0 p3 q4 q5
          simp (disch := omega) only [z_E505, k1, k2, k3, k4, z_fdC, z_pdC, z_adC, z_sdC, z_lkC, z_ndC, z_gdC, z_mdC, z_cI_some', z_cV_some', z_w_ok, Int.reduceAdd, Int.reduceSub, Int.reduceMul, Int.reduceNeg, Int.reduceEq, Int.reduceLT, Int.reduceLE, Int.reduceNe, reduceIte, true_and, and_true, false_and, and_false, if_true, if_false, ne_eq, not_true_eq_false, not_false_eq_true]
          exact this
end
