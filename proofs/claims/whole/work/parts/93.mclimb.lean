/-! The reference: the climb. -/
/-- the toll found among those from v on: the least of those that bring more than the own one -/
def m_top (F : Nat → Int) (own : Int) (N v : Nat) (b : Int) : Prop := (b = own ∧ ∀ v' : Nat, v ≤ v' → v' < N → F v' ≤ F own.toNat) ∨ (∃ b' : Nat, b = b' ∧ v ≤ b' ∧ b' < N ∧ F own.toNat < F b' ∧ ∀ v' : Nat, v ≤ v' → v' < N → F v' ≤ F b' ∧ (v' < b' → F v' < F b'))
section
variable {σ0 σ σ' X : z_S} {D : z_D} {nw : Int → Bool} {t T : Int → Int}
/-- a slot's toll is sought: the least that brings most, if its own doesn't -/
theorem m_seekv (h : m_inv σ0 X) (q : m_on σ0 σ X D nw t) (htc : z_tcap (X 0 3) t) {w k m : Int} {F : Nat → Int} (k0 : 0 ≤ k) (k1 : k < X 0 1) (hF : ∀ v : Nat, (v : Int) ≤ (X 0 3) → σ 48 v = F v) (d : Nat) :
    ∃ b : Int, z_go (z_ev z_hcM (d + 6)) z_hcM 1265 60 [z_R 1, z_I w, z_I m, z_I k, z_I (t k), z_I (X 0 3)] [] z_hdM σ = z_go (z_ev z_hcM (d + 6)) z_hcM 1265 60 [z_R 1, z_I w, z_I m, z_I k, z_I b, z_I (-1)] [] z_hdM σ ∧
      ((b = t k ∧ F (t k).toNat = z_gr F ((X 0 3) + 1).toNat) ∨ (F (t k).toNat ≠ z_gr F ((X 0 3) + 1).toNat ∧ b = (z_am F ((X 0 3) + 1).toNat : Int) ∧ b ≠ t k)) := by
  have hcp := h.cp
  have hn := h.1.2.1
  have htk := htc k k0 (by omega)
  have e8 := q.2.2.2.1 k k0 (by omega)
  have eown := hF (t k).toNat (by omega)
  rw [Int.toNat_of_nonneg htk.1] at eown
  have hgr : z_gr F ((X 0 3) + 1).toNat = F (z_am F ((X 0 3) + 1).toNat) := by
    rw [show ((X 0 3) + 1).toNat = ((X 0 3)).toNat + 1 by omega]; rfl
  have hlt := z_am_lt (F := F) (n := ((X 0 3) + 1).toNat) (by omega)
  have go : ∀ (n v : Nat) (b : Int), v + n = ((X 0 3) + 1).toNat → m_top F (t k) ((X 0 3) + 1).toNat v b →
      ∃ b' : Int, z_go (z_ev z_hcM (d + 6)) z_hcM 1265 60 [z_R 1, z_I w, z_I m, z_I k, z_I b, z_I ((v : Int) - 1)] [] z_hdM σ = z_go (z_ev z_hcM (d + 6)) z_hcM 1265 60 [z_R 1, z_I w, z_I m, z_I k, z_I b', z_I (-1)] [] z_hdM σ ∧ m_top F (t k) ((X 0 3) + 1).toNat 0 b' := by
    intro n v
    induction v generalizing n with
    | zero =>
      intro b _ hb
      exact ⟨b, rfl, hb⟩
    | succ v ih =>
      intro b hv hb
      have ev := hF v (by omega)
      have ex : ((v + 1 : Nat) : Int) - 1 = (v : Int) := by omega
      have ex2 : (v : Int) + -1 = (v : Int) - 1 := by omega
      have keep : m_top F (t k) ((X 0 3) + 1).toNat v b → z_go (z_ev z_hcM (d + 6)) z_hcM 1265 60 [z_R 1, z_I w, z_I m, z_I k, z_I b, z_I (((v + 1 : Nat) : Int) - 1)] [] z_hdM σ = z_go (z_ev z_hcM (d + 6)) z_hcM 1265 60 [z_R 1, z_I w, z_I m, z_I k, z_I b, z_I ((v : Int) - 1)] [] z_hdM σ → ∃ b' : Int, z_go (z_ev z_hcM (d + 6)) z_hcM 1265 60 [z_R 1, z_I w, z_I m, z_I k, z_I b, z_I (((v + 1 : Nat) : Int) - 1)] [] z_hdM σ = z_go (z_ev z_hcM (d + 6)) z_hcM 1265 60 [z_R 1, z_I w, z_I m, z_I k, z_I b', z_I (-1)] [] z_hdM σ ∧ m_top F (t k) ((X 0 3) + 1).toNat 0 b' := fun hb' e => by
        obtain ⟨b', g1, g2⟩ := ih (n + 1) b (by omega) hb'
        exact ⟨b', e.trans g1, g2⟩
      by_cases c1 : F v ≤ F (t k).toNat
      · refine keep ?_ ?_
        · rcases hb with ⟨a1, a2⟩ | ⟨b', a1, a2, a3, a4, a5⟩
          · refine Or.inl ⟨a1, fun v' h1 h2 => ?_⟩
            by_cases cv : v' = v
            · rw [cv]; exact c1
            · exact a2 v' (by omega) h2
          · refine Or.inr ⟨b', a1, by omega, a3, a4, fun v' h1 h2 => ?_⟩
            by_cases cv : v' = v
            · rw [cv]; exact ⟨by omega, fun _ => by omega⟩
            · exact a5 v' (by omega) h2
        · rw [ex, z_B1265_60]
          simp (disch := omega) only [if_neg, if_pos, ev, e8, eown, ex2, z_fdM, z_pdM, z_adM, z_sdM, z_lkM, z_ndM, z_gdM, z_cI_some', z_cV_some', z_w_ok, Int.reduceAdd, Int.reduceSub, Int.reduceMul, Int.reduceNeg, Int.reduceEq, Int.reduceLT, Int.reduceLE, Int.reduceNe, reduceIte, true_and, and_true, false_and, and_false, if_true, if_false, ne_eq, not_true_eq_false, not_false_eq_true]
      · have hbr : ∃ bn : Nat, b = bn ∧ bn < ((X 0 3) + 1).toNat := by
          rcases hb with ⟨a1, a2⟩ | ⟨b', a1, a2, a3, a4, a5⟩
          · exact ⟨(t k).toNat, by omega, by omega⟩
          · exact ⟨b', a1, a3⟩
        obtain ⟨bn, hbn, hbl⟩ := hbr
        have eb := hF bn (by omega)
        by_cases c2 : F v < F bn
        · refine keep ?_ ?_
          · rcases hb with ⟨a1, a2⟩ | ⟨b', a1, a2, a3, a4, a5⟩
            · exfalso
              have : bn = (t k).toNat := by omega
              rw [this] at c2
              omega
            · have e : b' = bn := by omega
              subst e
              refine Or.inr ⟨b', a1, by omega, a3, a4, fun v' h1 h2 => ?_⟩
              by_cases cv : v' = v
              · rw [cv]; exact ⟨by omega, fun _ => c2⟩
              · exact a5 v' (by omega) h2
          · rw [ex, z_B1265_60, hbn]
            simp (disch := omega) only [if_neg, if_pos, ev, e8, eown, ex2, eb, z_fdM, z_pdM, z_adM, z_sdM, z_lkM, z_ndM, z_gdM, z_cI_some', z_cV_some', z_w_ok, Int.reduceAdd, Int.reduceSub, Int.reduceMul, Int.reduceNeg, Int.reduceEq, Int.reduceLT, Int.reduceLE, Int.reduceNe, reduceIte, true_and, and_true, false_and, and_false, if_true, if_false, ne_eq, not_true_eq_false, not_false_eq_true]
        · obtain ⟨b', g1, g2⟩ := ih (n + 1) (v : Int) (by omega) (Or.inr ⟨v, rfl, Nat.le_refl _, by omega, by omega, fun v' h1 h2 => by
            by_cases cv : v' = v
            · rw [cv]; exact ⟨Int.le_refl _, fun h => absurd h (by omega)⟩
            · refine ⟨?_, fun h => absurd h (by omega)⟩
              rcases hb with ⟨a1, a2⟩ | ⟨b', a1, a2, a3, a4, a5⟩
              · have := a2 v' (by omega) h2; omega
              · have e : b' = bn := by omega
                subst e
                have := (a5 v' (by omega) h2).1
                omega⟩)
          refine ⟨b', ?_, g2⟩
          rw [← g1, ex, z_B1265_60, hbn]
          simp (disch := omega) only [if_neg, if_pos, ev, e8, eown, ex2, eb, z_fdM, z_pdM, z_adM, z_sdM, z_lkM, z_ndM, z_gdM, z_cI_some', z_cV_some', z_w_ok, Int.reduceAdd, Int.reduceSub, Int.reduceMul, Int.reduceNeg, Int.reduceEq, Int.reduceLT, Int.reduceLE, Int.reduceNe, reduceIte, true_and, and_true, false_and, and_false, if_true, if_false, ne_eq, not_true_eq_false, not_false_eq_true]
  obtain ⟨b, g1, g2⟩ := go 0 ((X 0 3) + 1).toNat (t k) (by omega) (Or.inl ⟨rfl, fun v' h1 h2 => absurd h2 (by omega)⟩)
  rw [show ((((X 0 3) + 1).toNat : Nat) : Int) - 1 = (X 0 3) by omega] at g1
  refine ⟨b, g1, ?_⟩
  rcases g2 with ⟨a1, a2⟩ | ⟨b2, a1, -, a2, a3, a4⟩
  · left
    refine ⟨a1, ?_⟩
    have h1 := a2 _ (Nat.zero_le _) hlt
    have h2 := (z_am_first (F := F) (n := ((X 0 3) + 1).toNat) (i := (t k).toNat) (by omega)).1
    omega
  · right
    have h1 := (z_am_first (F := F) (n := ((X 0 3) + 1).toNat) (i := b2) a2)
    have h2 := a4 _ (Nat.zero_le _) hlt
    have hb : b2 = z_am F ((X 0 3) + 1).toNat := by
      rcases Nat.lt_trichotomy b2 (z_am F ((X 0 3) + 1).toNat) with c | c | c
      · have := h1.2 c; omega
      · exact c
      · have := h2.2 c; omega
    refine ⟨by rw [hgr, ← hb]; omega, by rw [a1, hb], fun e => ?_⟩
    have : b2 = (t k).toNat := by omega
    rw [this] at a3
    omega
theorem m_on.round (h : m_inv σ0 X) {q : (Int → Int) × Int} (qn : m_on σ0 σ X D nw q.1) (htc : z_tcap (X 0 3) q.1) (hq : 0 ≤ q.2 ∧ q.2 ≤ 480000000) (h63 : σ 1 63 = q.2) {w : Int} (d : Nat) (u3 u4 u5 : z_V) :
    ∃ (σ' : z_S) (u3' u4' u5' : z_V), z_go (z_ev z_hcM (d + 6)) z_hcM 1265 7 [z_R 1, z_I w, z_I 1, u3, u4, u5] [] z_hdM σ = z_go (z_ev z_hcM (d + 6)) z_hcM 1265 7 [z_R 1, z_I w, z_I (if (z_rn D (X 0 4) D.mn (z_side X w (-1)) (X 0 3) 5 q).2 = q.2 then 0 else 1), u3', u4', u5'] [] z_hdM σ' ∧ m_on σ0 σ' X D nw (z_rn D (X 0 4) D.mn (z_side X w (-1)) (X 0 3) 5 q).1 ∧ σ' 1 63 = (z_rn D (X 0 4) D.mn (z_side X w (-1)) (X 0 3) 5 q).2 ∧ ∀ i, σ' 49 i = σ 49 i := by
  have hcp := h.cp
  have hn := h.1.2.1
  have hR := h.1.1
  have hok := fun n (hn : n ≤ 5) => z_rn_ok (D := D) (lean := (X 0 4)) (share := D.mn) (side := (z_side X w (-1))) hcp.1 (n := n) (q := q) hn htc
  have htop : ∀ j : Nat, (X 0 1).toNat + j ≤ 5 → z_rn D (X 0 4) D.mn (z_side X w (-1)) (X 0 3) ((X 0 1).toNat + j) q = z_rn D (X 0 4) D.mn (z_side X w (-1)) (X 0 3) (X 0 1).toNat q := by
    intro j
    induction j with
    | zero => intro _; rfl
    | succ j ih =>
      intro hj
      show z_st1 D (X 0 4) D.mn (z_side X w (-1)) (X 0 3) ((X 0 1).toNat + j : Nat) (z_rn D (X 0 4) D.mn (z_side X w (-1)) (X 0 3) ((X 0 1).toNat + j) q) = _
      have hb := z_side_b0 h.1 (w := w) (k := (X 0 1).toNat + j) (by omega)
      unfold z_st1
      rw [if_neg (fun z => by rw [hb] at z; exact absurd z.1 (by simp))]
      exact ih (by omega)
  have h5 := htop (5 - (X 0 1).toNat) (by omega)
  rw [show (X 0 1).toNat + (5 - (X 0 1).toNat) = 5 by omega] at h5
  rw [h5]
  obtain ⟨⟨v4, v5⟩, σ2, e2, qx, e63, e49⟩ := z_foru (U := z_V × z_V) (fun (k : Nat) u (x : z_S) => z_go (z_ev z_hcM (d + 6)) z_hcM 1265 15 [z_R 1, z_I w, z_I (if (z_rn D (X 0 4) D.mn (z_side X w (-1)) (X 0 3) k q).2 = q.2 then 0 else 1), z_I k, u.1, u.2] [] z_hdM x) (fun u x => z_go (z_ev z_hcM (d + 6)) z_hcM 1265 7 [z_R 1, z_I w, z_I (if (z_rn D (X 0 4) D.mn (z_side X w (-1)) (X 0 3) (X 0 1).toNat q).2 = q.2 then 0 else 1), z_I (X 0 1), u.1, u.2] [] z_hdM x) (fun k x => m_on σ0 x X D nw (z_rn D (X 0 4) D.mn (z_side X w (-1)) (X 0 3) k q).1 ∧ x 1 63 = (z_rn D (X 0 4) D.mn (z_side X w (-1)) (X 0 3) k q).2 ∧ ∀ i, x 49 i = σ 49 i) (X 0 1).toNat (u := (u4, u5)) (s := σ) ⟨qn, h63, fun _ => rfl⟩
    (fun k u x hk ⟨qx, x63, x49⟩ => by
      obtain ⟨a1, a2, a3, -⟩ := hok k (by omega)
      have b1 := qx.brt h (z_tcap_20 hcp.2 a1) (X 0 4) (z_side X w (-1))
      have b2 := qn.brt h (z_tcap_20 hcp.2 htc) (X 0 4) (z_side X w (-1))
      have hto := h.1.2.2.2.2.2.2.2.2.1 k (by omega) (by omega)
      have e7 : x 7 k = X 6 k := (qx.land h).2.2.1 k (by omega) (by omega)
      have e6 : x 6 (X 6 k) = X 5 (X 6 k) := ((qx.land h).2.1 _ hto.1 hto.2.1).2.2.2.2
      have e8 := (qx.land h).1.2.1
      have hbk := z_side_bk h.1 (w := w) (k := k) (by omega)
      have hst : z_rn D (X 0 4) D.mn (z_side X w (-1)) (X 0 3) (k + 1) q = z_st1 D (X 0 4) D.mn (z_side X w (-1)) (X 0 3) k (z_rn D (X 0 4) D.mn (z_side X w (-1)) (X 0 3) k q) := rfl
      have hmono : (z_rn D (X 0 4) D.mn (z_side X w (-1)) (X 0 3) k q).2 ≤ (z_rn D (X 0 4) D.mn (z_side X w (-1)) (X 0 3) k q).2 + 1 := by omega
      by_cases c : X 5 (X 6 k) = w
      · rw [decide_eq_true c] at hbk
        obtain ⟨s1, f1, r1, o1, l1⟩ := qx.goLine h a1 (k := (k : Int)) (by omega) (by omega) (d + 1)
        rw [c] at l1
        obtain ⟨b, g1, g2⟩ := m_seekv h r1 a1 (w := w) (k := (k : Int)) (m := if (z_rn D (X 0 4) D.mn (z_side X w (-1)) (X 0 3) k q).2 = q.2 then 0 else 1) (by omega) (by omega) l1 d
        have t8 : s1 8 k = (z_rn D (X 0 4) D.mn (z_side X w (-1)) (X 0 3) k q).1 k := r1.2.2.2.1 k (by omega) (by omega)
        have l3 := r1.capv h
        have s63 : s1 1 63 = (z_rn D (X 0 4) D.mn (z_side X w (-1)) (X 0 3) k q).2 := by rw [o1 _ _ (by omega) (by omega) (by omega) (by omega)]; exact x63
        have s49 : ∀ i, s1 49 i = σ 49 i := fun i => by rw [o1 _ _ (by omega) (by omega) (by omega) (by omega)]; exact x49 i
        rcases g2 with ⟨p1, p2⟩ | ⟨p1, p2, p3⟩
        · have e : z_st1 D (X 0 4) D.mn (z_side X w (-1)) (X 0 3) k (z_rn D (X 0 4) D.mn (z_side X w (-1)) (X 0 3) k q) = z_rn D (X 0 4) D.mn (z_side X w (-1)) (X 0 3) k q := if_neg (fun z => z.2 p2)
          rw [hst, e]
          refine ⟨(z_I b, z_I (-1)), s1, ?_, r1, s63, s49⟩
          rw [z_B1265_15]
          simp (disch := omega) only [if_neg, e8, e7, e6, c, f1, t8, l3, z_fdM, z_pdM, z_adM, z_sdM, z_lkM, z_ndM, z_gdM, z_cI_some', z_cV_some', z_w_ok, Int.reduceAdd, Int.reduceSub, Int.reduceMul, Int.reduceNeg, Int.reduceEq, Int.reduceLT, Int.reduceLE, Int.reduceNe, reduceIte, true_and, and_true, false_and, and_false, if_true, if_false, ne_eq, not_true_eq_false, not_false_eq_true]
          refine g1.trans ?_
          rw [z_B1265_60, p1]
          simp (disch := omega) only [if_pos, t8, z_ns, z_fdM, z_pdM, z_adM, z_sdM, z_lkM, z_ndM, z_gdM, z_cI_some', z_cV_some', z_w_ok, Int.reduceAdd, Int.reduceSub, Int.reduceMul, Int.reduceNeg, Int.reduceEq, Int.reduceLT, Int.reduceLE, Int.reduceNe, reduceIte, true_and, and_true, false_and, and_false, if_true, if_false, ne_eq, not_true_eq_false, not_false_eq_true]
        · have e : z_st1 D (X 0 4) D.mn (z_side X w (-1)) (X 0 3) k (z_rn D (X 0 4) D.mn (z_side X w (-1)) (X 0 3) k q) = (z_ts (z_rn D (X 0 4) D.mn (z_side X w (-1)) (X 0 3) k q).1 k (z_am (z_Ln D (X 0 4) D.mn (z_side X w (-1)) (z_rn D (X 0 4) D.mn (z_side X w (-1)) (X 0 3) k q).1 k) ((X 0 3) + 1).toNat), (z_rn D (X 0 4) D.mn (z_side X w (-1)) (X 0 3) k q).2 + 1) := if_pos ⟨hbk, p1⟩
          rw [hst, e]
          have q2' := r1.setk (k := (k : Int)) (v := b)
          have q2 : m_on σ0 (z_upd (z_upd s1 8 k b) 1 63 ((z_rn D (X 0 4) D.mn (z_side X w (-1)) (X 0 3) k q).2 + 1)) X D nw (z_ts (z_rn D (X 0 4) D.mn (z_side X w (-1)) (X 0 3) k q).1 k b) := q2'.keep (m_off_upd (by omega)) (fun j j0 j1 => by rw [z_upd_ne (by omega)]; exact q2'.2.2.2.1 j j0 j1) (by rw [z_upd_ne (by omega)]; exact q2'.2.2.2.2)
          rw [p2] at q2
          refine ⟨(z_I b, z_I (-1)), z_upd (z_upd s1 8 k b) 1 63 ((z_rn D (X 0 4) D.mn (z_side X w (-1)) (X 0 3) k q).2 + 1), ?_, by rw [p2]; exact q2, z_upd_same, fun i => by rw [z_upd_ne (by omega), z_upd_ne (by omega)]; exact s49 i⟩
          rw [if_neg (show ¬ ((z_rn D (X 0 4) D.mn (z_side X w (-1)) (X 0 3) k q).2 + 1 = q.2) by omega), z_B1265_15]
          simp (disch := omega) only [if_neg, e8, e7, e6, c, f1, t8, l3, z_fdM, z_pdM, z_adM, z_sdM, z_lkM, z_ndM, z_gdM, z_cI_some', z_cV_some', z_w_ok, Int.reduceAdd, Int.reduceSub, Int.reduceMul, Int.reduceNeg, Int.reduceEq, Int.reduceLT, Int.reduceLE, Int.reduceNe, reduceIte, true_and, and_true, false_and, and_false, if_true, if_false, ne_eq, not_true_eq_false, not_false_eq_true]
          refine g1.trans ?_
          rw [z_B1265_60]
          have s63' : z_upd s1 8 k b 1 63 = (z_rn D (X 0 4) D.mn (z_side X w (-1)) (X 0 3) k q).2 := by rw [z_upd_ne (by omega)]; exact s63
          simp (disch := omega) only [if_pos, if_neg, t8, s63', z_ns, z_fdM, z_pdM, z_adM, z_sdM, z_lkM, z_ndM, z_gdM, z_cI_some', z_cV_some', z_w_ok, Int.reduceAdd, Int.reduceSub, Int.reduceMul, Int.reduceNeg, Int.reduceEq, Int.reduceLT, Int.reduceLE, Int.reduceNe, reduceIte, true_and, and_true, false_and, and_false, if_true, if_false, ne_eq, not_true_eq_false, not_false_eq_true]
      · rw [decide_eq_false c] at hbk
        have e : z_st1 D (X 0 4) D.mn (z_side X w (-1)) (X 0 3) k (z_rn D (X 0 4) D.mn (z_side X w (-1)) (X 0 3) k q) = z_rn D (X 0 4) D.mn (z_side X w (-1)) (X 0 3) k q := if_neg (fun z => by rw [hbk] at z; exact absurd z.1 (by simp))
        rw [hst, e]
        refine ⟨u, x, ?_, qx, x63, x49⟩
        rw [z_B1265_15]
        simp (disch := omega) only [if_neg, e8, e7, e6, z_ns, z_fdM, z_pdM, z_adM, z_sdM, z_lkM, z_ndM, z_gdM, z_cI_some', z_cV_some', z_w_ok, Int.reduceAdd, Int.reduceSub, Int.reduceMul, Int.reduceNeg, Int.reduceEq, Int.reduceLT, Int.reduceLE, Int.reduceNe, reduceIte, true_and, and_true, false_and, and_false, if_true, if_false, ne_eq, not_true_eq_false, not_false_eq_true]) (fun u x ⟨qx, x63, x49⟩ => by
      have e8 := (qx.land h).1.2.1
      rw [z_B1265_15, Int.toNat_of_nonneg hn.1]
      simp (disch := omega) only [if_pos, e8, z_fdM, z_pdM, z_adM, z_sdM, z_lkM, z_ndM, z_gdM, z_cI_some', z_cV_some', z_w_ok, Int.reduceAdd, Int.reduceSub, Int.reduceMul, Int.reduceNeg, Int.reduceEq, Int.reduceLT, Int.reduceLE, Int.reduceNe, reduceIte, true_and, and_true, false_and, and_false, if_true, if_false, ne_eq, not_true_eq_false, not_false_eq_true])
  refine ⟨σ2, z_I (X 0 1), v4, v5, ?_, qx, e63, e49⟩
  rw [z_B1265_7]
  simp (disch := omega) only [if_neg, z_fdM, z_pdM, z_adM, z_sdM, z_lkM, z_ndM, z_gdM, z_cI_some', z_cV_some', z_w_ok, Int.reduceAdd, Int.reduceSub, Int.reduceMul, Int.reduceNeg, Int.reduceEq, Int.reduceLT, Int.reduceLE, Int.reduceNe, reduceIte, true_and, and_true, false_and, and_false, if_true, if_false, ne_eq, not_true_eq_false, not_false_eq_true]
  rw [if_pos (show (z_rn D (X 0 4) D.mn (z_side X w (-1)) (X 0 3) 0 q).2 = q.2 from rfl)] at e2
  exact e2
theorem m_on.climbOf (h : m_inv σ0 X) (qn : m_on σ0 σ X D nw t) (htc : z_tcap (X 0 3) t) {w : Int} (hw : w = 0 ∨ w = 1) {n : Nat} (hst : z_stops D (X 0 4) D.mn (z_side X w (-1)) (X 0 3) t n) (d : Nat) :
    ∃ σ', z_ev z_hcM (d + 7) 1265 [z_R 1, z_I w] z_hdM σ = some (z_I (z_brt D.op D.mn D.gN (X 0 4) (z_side X w (-1)) (z_it D (X 0 4) D.mn (z_side X w (-1)) (X 0 3) t n).1), z_hdM, σ') ∧ m_on σ0 σ' X D nw (z_it D (X 0 4) D.mn (z_side X w (-1)) (X 0 3) t n).1 ∧ σ' 1 63 = (z_it D (X 0 4) D.mn (z_side X w (-1)) (X 0 3) t n).2 ∧ ∀ i, σ' 49 i = σ 49 i := by
  have hcp := h.cp
  obtain ⟨hn1, hn2, hn3⟩ := hst
  have hit : ∀ i, z_tcap (X 0 3) (z_it D (X 0 4) D.mn (z_side X w (-1)) (X 0 3) t i).1 ∧ 0 ≤ (z_it D (X 0 4) D.mn (z_side X w (-1)) (X 0 3) t i).2 ∧ (z_it D (X 0 4) D.mn (z_side X w (-1)) (X 0 3) t i).2 ≤ 480000000 := fun i => by
    obtain ⟨a1, a2, a3⟩ := z_it_ok (D := D) (lean := (X 0 4)) (share := D.mn) (side := (z_side X w (-1))) hcp.1 htc i
    have h1 := qn.brt h (z_tcap_20 hcp.2 a1) (X 0 4) (z_side X w (-1))
    have h2 := qn.brt h (z_tcap_20 hcp.2 htc) (X 0 4) (z_side X w (-1))
    exact ⟨a1, a2, by omega⟩
  have q0 : m_on σ0 (z_upd σ 1 63 0) X D nw t := qn.keep (m_off_upd (by omega)) (fun j j0 j1 => by rw [z_upd_ne (by omega)]; exact qn.2.2.2.1 j j0 j1) (by rw [z_upd_ne (by omega)]; exact qn.2.2.2.2)
  obtain ⟨u1, σ1, e1, q1, c1, f1⟩ := z_foru (U := z_V × z_V × z_V) (fun (i : Nat) u (x : z_S) => z_go (z_ev z_hcM (d + 6)) z_hcM 1265 7 [z_R 1, z_I w, z_I 1, u.1, u.2.1, u.2.2] [] z_hdM x) (fun u x => z_go (z_ev z_hcM (d + 6)) z_hcM 1265 7 [z_R 1, z_I w, z_I 1, u.1, u.2.1, u.2.2] [] z_hdM x) (fun i x => m_on σ0 x X D nw (z_it D (X 0 4) D.mn (z_side X w (-1)) (X 0 3) t i).1 ∧ x 1 63 = (z_it D (X 0 4) D.mn (z_side X w (-1)) (X 0 3) t i).2 ∧ ∀ i, x 49 i = σ 49 i) n (u := (z_U, z_U, z_U)) (s := z_upd σ 1 63 0) ⟨q0, z_upd_same, fun i => z_upd_ne (by omega)⟩
    (fun i u x hi ⟨qx, x63, x49⟩ => by
      obtain ⟨x', u3, u4, u5, k1, k2, k3, k4⟩ := qx.round h (q := z_it D (X 0 4) D.mn (z_side X w (-1)) (X 0 3) t i) (hit i).1 (hit i).2 x63 (w := w) d u.1 u.2.1 u.2.2
      rw [if_neg (by have := hn3 i hi; show ¬ (z_it D (X 0 4) D.mn (z_side X w (-1)) (X 0 3) t (i + 1)).2 = _; omega)] at k1
      exact ⟨(u3, u4, u5), x', k1, k2, k3, fun i => by rw [k4]; exact x49 i⟩) (fun u x _ => rfl)
  obtain ⟨σ2, u3, u4, u5, k1, k2, k3, k4⟩ := q1.round h (q := z_it D (X 0 4) D.mn (z_side X w (-1)) (X 0 3) t n) (hit n).1 (hit n).2 c1 (w := w) d u1.1 u1.2.1 u1.2.2
  have hrn : z_rn D (X 0 4) D.mn (z_side X w (-1)) (X 0 3) 5 (z_it D (X 0 4) D.mn (z_side X w (-1)) (X 0 3) t n) = z_it D (X 0 4) D.mn (z_side X w (-1)) (X 0 3) t n := (z_rn_ok hcp.1 (Nat.le_refl 5) (hit n).1).2.2.2 hn2
  rw [hrn] at k1 k2 k3
  rw [if_pos rfl] at k1
  obtain ⟨σ3, e3, o3, q3, -, b3, -⟩ := k2.work h (d + 2) (z_tcap_20 hcp.2 (hit n).1)
  have b3' := b3 w hw
  refine ⟨σ3, ?_, q3, by rw [o3 _ _ (by omega) (by omega)]; exact k3, fun i => by rw [o3 _ _ (by omega) (by omega), k4]; exact f1 i⟩
  have e4 := e1.trans k1
  have e4' : z_go (z_ev z_hcM (d + 6)) z_hcM 1265 7 [z_R 1, z_I w, z_I 1, z_U, z_U, z_U] [] z_hdM (z_upd σ 1 63 0) = _ := e4
  rw [z_E1265]
  simp (disch := omega) only [if_pos, z_fdM, z_pdM, z_adM, z_sdM, z_lkM, z_ndM, z_gdM, z_cI_some', z_cV_some', z_w_ok, Int.reduceAdd, Int.reduceSub, Int.reduceMul, Int.reduceNeg, Int.reduceEq, Int.reduceLT, Int.reduceLE, Int.reduceNe, reduceIte, true_and, and_true, false_and, and_false, if_true, if_false, ne_eq, not_true_eq_false, not_false_eq_true]
  rw [e4', z_B1265_7]
  simp (disch := omega) only [if_pos, e3, b3', z_fdM, z_pdM, z_adM, z_sdM, z_lkM, z_ndM, z_gdM, z_cI_some', z_cV_some', z_w_ok, Int.reduceAdd, Int.reduceSub, Int.reduceMul, Int.reduceNeg, Int.reduceEq, Int.reduceLT, Int.reduceLE, Int.reduceNe, reduceIte, true_and, and_true, false_and, and_false, if_true, if_false, ne_eq, not_true_eq_false, not_false_eq_true]
end
