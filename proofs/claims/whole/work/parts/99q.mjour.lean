/-! The reference reads a journey. -/
/-- all stands but cells lo..31 at i, and the reader's own two -/
def m_fr (lo i : Int) (σ σ' : z_S) : Prop := ∀ a j : Int, (a < lo ∨ 31 < a ∨ j ≠ i) → (a ≠ 1 ∨ (j ≠ 28 ∧ j ≠ 29)) → σ' a j = σ a j
def m_po (σ : z_S) (r : z_PI) (P : List Int → Prop) : Prop := match r with
  | .inl w => σ 1 29 = w
  | .inr (l, q) => σ 1 28 = q ∧ σ 1 29 = -1 ∧ P l
def m_out (σ : z_S) (i lo : Int) (e : Option z_Res) (r : z_PI) (P : z_S → List Int → Prop) : Prop := ∃ σ', e = some (z_U, z_hdM, σ') ∧ m_fr lo i σ σ' ∧ m_po σ' r (P σ')
def z_map (f : List Int → List Int) (r : z_PI) : z_PI := match r with
  | .inl e => .inl e
  | .inr (l, q) => .inr (f l, q)
def z_t1 (T : Int → Int) (p : Int) : z_PI := z_bd (z_opg T p 64 3) fun ti q => .inr ([ti], q)
def z_t2 (T : Int → Int) (p : Int) : z_PI := z_bd (z_opn T p 47 999 (-1)) fun ho q => z_map (fun l => ho :: l) (z_t1 T q)
def z_t3 (T : Int → Int) (p : Int) : z_PI := z_bd (z_opn T p 115 999 1000) fun sl q => z_map (fun l => sl :: l) (z_t2 T q)
theorem z_pTail_t {T : Int → Int} {a b n lo hi cr p : Int} : z_pTail T a b n (.inr ((lo, hi, cr), p)) = z_map (fun l => 2 :: a :: b :: n :: lo :: hi :: cr :: l) (z_t3 T p) := by
  unfold z_pTail z_t3 z_t2 z_t1
  dsimp only
  cases z_opn T p 115 999 1000 with
  | inl e => rfl
  | inr x =>
    obtain ⟨sl, p5⟩ := x
    show z_bd (z_opn T p5 47 999 (-1)) _ = z_map _ (z_map _ (z_bd (z_opn T p5 47 999 (-1)) _))
    cases z_opn T p5 47 999 (-1) with
    | inl e => rfl
    | inr x =>
      obtain ⟨ho, p6⟩ := x
      show z_bd (z_opg T p6 64 3) _ = z_map _ (z_map _ (z_map _ (z_bd (z_opg T p6 64 3) _)))
      cases z_opg T p6 64 3 with
      | inl e => rfl
      | inr x => rfl
section
variable {σ τ X : z_S} {e : Option z_Res} {i lo lo' : Int}
theorem m_fr_rfl : m_fr lo i σ σ := fun _ _ _ _ => rfl
theorem m_fr_tr (h : m_fr lo' i σ τ) {σ' : z_S} (h' : m_fr lo i τ σ') (hl : lo' ≤ lo) : m_fr lo' i σ σ' := fun a j h1 h2 => by rw [h' a j (by omega) h2, h a j h1 h2]
theorem m_fr_rs {p w : Int} : m_fr lo i σ (m_rs σ p w) := fun a j _ h2 => m_rs_at h2
theorem m_fr_up {c v : Int} (h : lo ≤ c ∧ c ≤ 31) (hl : 2 ≤ lo) : m_fr lo i σ (z_upd σ c i v) := fun a j h1 h2 => z_upd_ne (by omega)
theorem m_rt_fr (ht : m_rt σ X) (h : m_fr lo i σ τ) (hl : 20 ≤ lo) : m_rt τ X := m_rt_of ht fun a j hj => h a j (by omega) (by omega)
theorem m_txt_lt {p : Int} (h : 0 ≤ z_txt X p) : p < 60 := by
  unfold z_txt at h
  split at h <;> omega
theorem m_out_to {r : z_PI} {P P' : z_S → List Int → Prop} (h : m_out τ i lo e r P) (hf : m_fr lo' i σ τ) (hl : lo' ≤ lo) (f : List Int → List Int) (hP : ∀ s, m_fr lo i τ s → ∀ l, P s l → P' s (f l)) : m_out σ i lo' e (z_map f r) P' := by
  obtain ⟨s, e1, f1, p1⟩ := h
  refine ⟨s, e1, m_fr_tr hf f1 hl, ?_⟩
  cases r with
  | inl w => exact p1
  | inr x => obtain ⟨l, q⟩ := x; exact ⟨p1.1, p1.2.1, hP s f1 l p1.2.2⟩
theorem m_skip272 (d : Nat) (h : σ 1 29 ≠ -1) : z_go (z_ev z_hcM (d + 4)) z_hcM 1219 272 [z_R 1, z_I i] [] z_hdM σ = some (z_U, z_hdM, σ) := by
  rw [z_B1219_272]
  simp (disch := omega) only [m_unfine (d + 3) h, z_fdM, z_pdM, z_adM, z_sdM, z_lkM, z_ndM, z_gdM, z_cI_some', z_cV_some', z_w_ok, Int.reduceAdd, Int.reduceSub, Int.reduceMul, Int.reduceNeg, Int.reduceEq, Int.reduceLT, Int.reduceLE, Int.reduceNe, reduceIte, true_and, and_true, false_and, and_false, if_true, if_false, ne_eq, not_true_eq_false, not_false_eq_true]
theorem m_skip242 (d : Nat) (h : σ 1 29 ≠ -1) : z_go (z_ev z_hcM (d + 4)) z_hcM 1219 242 [z_R 1, z_I i] [] z_hdM σ = some (z_U, z_hdM, σ) := by
  rw [z_B1219_242]
  simp (disch := omega) only [m_unfine (d + 3) h, m_skip272 d h, z_fdM, z_pdM, z_adM, z_sdM, z_lkM, z_ndM, z_gdM, z_cI_some', z_cV_some', z_w_ok, Int.reduceAdd, Int.reduceSub, Int.reduceMul, Int.reduceNeg, Int.reduceEq, Int.reduceLT, Int.reduceLE, Int.reduceNe, reduceIte, true_and, and_true, false_and, and_false, if_true, if_false, ne_eq, not_true_eq_false, not_false_eq_true]
theorem m_skip212 (d : Nat) (h : σ 1 29 ≠ -1) : z_go (z_ev z_hcM (d + 4)) z_hcM 1219 212 [z_R 1, z_I i] [] z_hdM σ = some (z_U, z_hdM, σ) := by
  rw [z_B1219_212]
  simp (disch := omega) only [m_unfine (d + 3) h, m_skip242 d h, z_fdM, z_pdM, z_adM, z_sdM, z_lkM, z_ndM, z_gdM, z_cI_some', z_cV_some', z_w_ok, Int.reduceAdd, Int.reduceSub, Int.reduceMul, Int.reduceNeg, Int.reduceEq, Int.reduceLT, Int.reduceLE, Int.reduceNe, reduceIte, true_and, and_true, false_and, and_false, if_true, if_false, ne_eq, not_true_eq_false, not_false_eq_true]
theorem m_skip173 (d : Nat) (h : σ 1 29 ≠ -1) : z_go (z_ev z_hcM (d + 4)) z_hcM 1219 173 [z_R 1, z_I i] [] z_hdM σ = some (z_U, z_hdM, σ) := by
  rw [z_B1219_173]
  simp (disch := omega) only [m_unfine (d + 3) h, m_skip212 d h, z_fdM, z_pdM, z_adM, z_sdM, z_lkM, z_ndM, z_gdM, z_cI_some', z_cV_some', z_w_ok, Int.reduceAdd, Int.reduceSub, Int.reduceMul, Int.reduceNeg, Int.reduceEq, Int.reduceLT, Int.reduceLE, Int.reduceNe, reduceIte, true_and, and_true, false_and, and_false, if_true, if_false, ne_eq, not_true_eq_false, not_false_eq_true]
theorem m_j272 (ht : m_rt σ X) {p : Int} (h0 : 0 ≤ p ∧ p ≤ 90) (hp : σ 1 28 = p) (hw : σ 1 29 = -1) (hi : 0 ≤ i ∧ i < 60) (d : Nat) (h31 : σ 31 i = 0) : m_out σ i 31 (z_go (z_ev z_hcM (d + 4)) z_hcM 1219 272 [z_R 1, z_I i] [] z_hdM σ) (z_t1 (z_txt X) p) (fun s l => l = [s 31 i]) := by
  have ef := m_fine (d + 3) hw
  have ep := m_passes ht (p := p) (by omega) hp hw (d + 2) (ch := 64) (by omega)
  rw [z_B1219_272]
  unfold z_t1 z_opg
  by_cases c : z_txt X p = 64
  · have := m_txt_lt (X := X) (p := p) (by omega)
    have hd := m_digit (m_rt_rs ht) (p := p + 1) (by omega) m_rs_28 m_rs_29 (d + 1) (lo := 0) (hi := 3) (by omega) (σ := m_rs σ (p + 1) (-1))
    rw [if_pos c] at ep ⊢
    cases hz : z_dgt (z_txt X) (p + 1) 0 3 with
    | inl w =>
      rw [hz] at hd
      obtain ⟨v, q, hd⟩ := hd
      rw [m_rs_rs] at hd
      refine ⟨z_upd (m_rs σ q w) 31 i v, ?_, m_fr_tr (lo := 31) m_fr_rs (m_fr_up (by omega) (by omega)) (by omega), ?_⟩
      · simp (disch := omega) only [ef, ep, hd, z_fdM, z_pdM, z_adM, z_sdM, z_lkM, z_ndM, z_gdM, z_cI_some', z_cV_some', z_w_ok, Int.reduceAdd, Int.reduceSub, Int.reduceMul, Int.reduceNeg, Int.reduceEq, Int.reduceLT, Int.reduceLE, Int.reduceNe, reduceIte, true_and, and_true, false_and, and_false, if_true, if_false, ne_eq, not_true_eq_false, not_false_eq_true]
      · show z_upd (m_rs σ q w) 31 i v 1 29 = w
        rw [z_upd_ne (by omega), m_rs_29]
    | inr x =>
      obtain ⟨v, q⟩ := x
      rw [hz] at hd
      have hd' : _ = _ := hd
      rw [m_rs_rs] at hd'
      refine ⟨z_upd (m_rs σ q (-1)) 31 i v, ?_, m_fr_tr (lo := 31) m_fr_rs (m_fr_up (by omega) (by omega)) (by omega), ?_, ?_, ?_⟩
      · simp (disch := omega) only [ef, ep, hd', z_fdM, z_pdM, z_adM, z_sdM, z_lkM, z_ndM, z_gdM, z_cI_some', z_cV_some', z_w_ok, Int.reduceAdd, Int.reduceSub, Int.reduceMul, Int.reduceNeg, Int.reduceEq, Int.reduceLT, Int.reduceLE, Int.reduceNe, reduceIte, true_and, and_true, false_and, and_false, if_true, if_false, ne_eq, not_true_eq_false, not_false_eq_true]
      · rw [z_upd_ne (by omega), m_rs_28]
      · rw [z_upd_ne (by omega), m_rs_29]
      · show [v] = [z_upd (m_rs σ q (-1)) 31 i v 31 i]
        rw [z_upd_same]
  · rw [if_neg c] at ep ⊢
    refine ⟨σ, ?_, m_fr_rfl, hp, hw, ?_⟩
    · simp (disch := omega) only [ef, ep, z_fdM, z_pdM, z_adM, z_sdM, z_lkM, z_ndM, z_gdM, z_cI_some', z_cV_some', z_w_ok, Int.reduceAdd, Int.reduceSub, Int.reduceMul, Int.reduceNeg, Int.reduceEq, Int.reduceLT, Int.reduceLE, Int.reduceNe, reduceIte, true_and, and_true, false_and, and_false, if_true, if_false, ne_eq, not_true_eq_false, not_false_eq_true]
    · show [0] = [σ 31 i]
      rw [h31]
theorem m_j242 (ht : m_rt σ X) {p : Int} (h0 : 0 ≤ p ∧ p ≤ 80) (hp : σ 1 28 = p) (hw : σ 1 29 = -1) (hi : 0 ≤ i ∧ i < 60) (d : Nat) (h30 : σ 30 i = -1) (h31 : σ 31 i = 0) : m_out σ i 30 (z_go (z_ev z_hcM (d + 4)) z_hcM 1219 242 [z_R 1, z_I i] [] z_hdM σ) (z_t2 (z_txt X) p) (fun s l => l = [s 30 i, s 31 i]) := by
  have ef := m_fine (d + 3) hw
  have ep := m_passes ht (p := p) (by omega) hp hw (d + 2) (ch := 47) (by omega)
  rw [z_B1219_242]
  unfold z_t2 z_opn
  by_cases c : z_txt X p = 47
  · have := m_txt_lt (X := X) (p := p) (by omega)
    have hd := m_number (m_rt_rs ht) (p := p + 1) (by omega) m_rs_28 m_rs_29 d 0 999 (σ := m_rs σ (p + 1) (-1))
    rw [if_pos c] at ep ⊢
    cases hz : z_nmb (z_txt X) (p + 1) 0 999 with
    | inl w =>
      have hz' := z_nmb_e hz
      rw [hz] at hd
      obtain ⟨v, q, hd⟩ := hd
      rw [m_rs_rs] at hd
      have h29 : z_upd (m_rs σ q w) 30 i v 1 29 = w := by rw [z_upd_ne (by omega), m_rs_29]
      have es := m_skip272 (i := i) (σ := z_upd (m_rs σ q w) 30 i v) d (by omega)
      refine ⟨z_upd (m_rs σ q w) 30 i v, ?_, m_fr_tr (lo := 30) m_fr_rs (m_fr_up (by omega) (by omega)) (by omega), h29⟩
      simp (disch := omega) only [ef, ep, hd, es, z_fdM, z_pdM, z_adM, z_sdM, z_lkM, z_ndM, z_gdM, z_cI_some', z_cV_some', z_w_ok, Int.reduceAdd, Int.reduceSub, Int.reduceMul, Int.reduceNeg, Int.reduceEq, Int.reduceLT, Int.reduceLE, Int.reduceNe, reduceIte, true_and, and_true, false_and, and_false, if_true, if_false, ne_eq, not_true_eq_false, not_false_eq_true]
    | inr x =>
      obtain ⟨v, q⟩ := x
      have hz' := z_nmb_ok hz
      have hr := z_nct_rng (T := z_txt X) (p + 1)
      rw [hz] at hd
      have hd' : _ = _ := hd
      rw [m_rs_rs] at hd'
      have fr : m_fr 30 i σ (z_upd (m_rs σ q (-1)) 30 i v) := m_fr_tr (lo := 30) m_fr_rs (m_fr_up (by omega) (by omega)) (by omega)
      have nx := m_j272 (m_rt_fr ht fr (by omega)) (p := q) (i := i) (by omega) (by rw [z_upd_ne (by omega), m_rs_28]) (by rw [z_upd_ne (by omega), m_rs_29]) hi d (by rw [z_upd_ne (by omega), m_rs_at (by omega)]; exact h31)
      have go := m_out_to (P' := fun s l => l = [s 30 i, s 31 i]) nx fr (by omega) (fun l => v :: l) (fun s fs l hl => by
        rw [fs 30 i (by omega) (by omega), z_upd_same]
        show v :: l = _
        rw [hl])
      simp (disch := omega) only [ef, ep, hd', z_fdM, z_pdM, z_adM, z_sdM, z_lkM, z_ndM, z_gdM, z_cI_some', z_cV_some', z_w_ok, Int.reduceAdd, Int.reduceSub, Int.reduceMul, Int.reduceNeg, Int.reduceEq, Int.reduceLT, Int.reduceLE, Int.reduceNe, reduceIte, true_and, and_true, false_and, and_false, if_true, if_false, ne_eq, not_true_eq_false, not_false_eq_true]
      exact go
  · rw [if_neg c] at ep ⊢
    have nx := m_j272 ht (p := p) (by omega) hp hw hi d h31
    have go := m_out_to (P' := fun s l => l = [s 30 i, s 31 i]) (lo' := 30) nx m_fr_rfl (by omega) (fun l => -1 :: l) (fun s fs l hl => by
      rw [fs 30 i (by omega) (by omega), h30]
      show -1 :: l = _
      rw [hl])
    simp (disch := omega) only [ef, ep, z_fdM, z_pdM, z_adM, z_sdM, z_lkM, z_ndM, z_gdM, z_cI_some', z_cV_some', z_w_ok, Int.reduceAdd, Int.reduceSub, Int.reduceMul, Int.reduceNeg, Int.reduceEq, Int.reduceLT, Int.reduceLE, Int.reduceNe, reduceIte, true_and, and_true, false_and, and_false, if_true, if_false, ne_eq, not_true_eq_false, not_false_eq_true]
    exact go
theorem m_j212 (ht : m_rt σ X) {p : Int} (h0 : 0 ≤ p ∧ p ≤ 70) (hp : σ 1 28 = p) (hw : σ 1 29 = -1) (hi : 0 ≤ i ∧ i < 60) (d : Nat) (h29 : σ 29 i = 1000) (h30 : σ 30 i = -1) (h31 : σ 31 i = 0) : m_out σ i 29 (z_go (z_ev z_hcM (d + 4)) z_hcM 1219 212 [z_R 1, z_I i] [] z_hdM σ) (z_t3 (z_txt X) p) (fun s l => l = [s 29 i, s 30 i, s 31 i]) := by
  have ef := m_fine (d + 3) hw
  have ep := m_passes ht (p := p) (by omega) hp hw (d + 2) (ch := 115) (by omega)
  rw [z_B1219_212]
  unfold z_t3 z_opn
  by_cases c : z_txt X p = 115
  · have := m_txt_lt (X := X) (p := p) (by omega)
    have hd := m_number (m_rt_rs ht) (p := p + 1) (by omega) m_rs_28 m_rs_29 d 0 999 (σ := m_rs σ (p + 1) (-1))
    rw [if_pos c] at ep ⊢
    cases hz : z_nmb (z_txt X) (p + 1) 0 999 with
    | inl w =>
      have hz' := z_nmb_e hz
      rw [hz] at hd
      obtain ⟨v, q, hd⟩ := hd
      rw [m_rs_rs] at hd
      have h29 : z_upd (m_rs σ q w) 29 i v 1 29 = w := by rw [z_upd_ne (by omega), m_rs_29]
      have es := m_skip242 (i := i) (σ := z_upd (m_rs σ q w) 29 i v) d (by omega)
      refine ⟨z_upd (m_rs σ q w) 29 i v, ?_, m_fr_tr (lo := 29) m_fr_rs (m_fr_up (by omega) (by omega)) (by omega), h29⟩
      simp (disch := omega) only [ef, ep, hd, es, z_fdM, z_pdM, z_adM, z_sdM, z_lkM, z_ndM, z_gdM, z_cI_some', z_cV_some', z_w_ok, Int.reduceAdd, Int.reduceSub, Int.reduceMul, Int.reduceNeg, Int.reduceEq, Int.reduceLT, Int.reduceLE, Int.reduceNe, reduceIte, true_and, and_true, false_and, and_false, if_true, if_false, ne_eq, not_true_eq_false, not_false_eq_true]
    | inr x =>
      obtain ⟨v, q⟩ := x
      have hz' := z_nmb_ok hz
      have hr := z_nct_rng (T := z_txt X) (p + 1)
      rw [hz] at hd
      have hd' : _ = _ := hd
      rw [m_rs_rs] at hd'
      have fr : m_fr 29 i σ (z_upd (m_rs σ q (-1)) 29 i v) := m_fr_tr (lo := 29) m_fr_rs (m_fr_up (by omega) (by omega)) (by omega)
      have nx := m_j242 (m_rt_fr ht fr (by omega)) (p := q) (i := i) (by omega) (by rw [z_upd_ne (by omega), m_rs_28]) (by rw [z_upd_ne (by omega), m_rs_29]) hi d (by rw [z_upd_ne (by omega), m_rs_at (by omega)]; exact h30) (by rw [z_upd_ne (by omega), m_rs_at (by omega)]; exact h31)
      have go := m_out_to (P' := fun s l => l = [s 29 i, s 30 i, s 31 i]) nx fr (by omega) (fun l => v :: l) (fun s fs l hl => by
        rw [fs 29 i (by omega) (by omega), z_upd_same]
        show v :: l = _
        rw [hl])
      simp (disch := omega) only [ef, ep, hd', z_fdM, z_pdM, z_adM, z_sdM, z_lkM, z_ndM, z_gdM, z_cI_some', z_cV_some', z_w_ok, Int.reduceAdd, Int.reduceSub, Int.reduceMul, Int.reduceNeg, Int.reduceEq, Int.reduceLT, Int.reduceLE, Int.reduceNe, reduceIte, true_and, and_true, false_and, and_false, if_true, if_false, ne_eq, not_true_eq_false, not_false_eq_true]
      exact go
  · rw [if_neg c] at ep ⊢
    have nx := m_j242 ht (p := p) (by omega) hp hw hi d h30 h31
    have go := m_out_to (P' := fun s l => l = [s 29 i, s 30 i, s 31 i]) (lo' := 29) nx m_fr_rfl (by omega) (fun l => 1000 :: l) (fun s fs l hl => by
      rw [fs 29 i (by omega) (by omega), h29]
      show 1000 :: l = _
      rw [hl])
    simp (disch := omega) only [ef, ep, z_fdM, z_pdM, z_adM, z_sdM, z_lkM, z_ndM, z_gdM, z_cI_some', z_cV_some', z_w_ok, Int.reduceAdd, Int.reduceSub, Int.reduceMul, Int.reduceNeg, Int.reduceEq, Int.reduceLT, Int.reduceLE, Int.reduceNe, reduceIte, true_and, and_true, false_and, and_false, if_true, if_false, ne_eq, not_true_eq_false, not_false_eq_true]
    exact go
end
