/-! The reference: goers that are a part of all; times. -/
def z_lsm {α : Type} (f : α → Int) : List α → Int
  | [] => 0
  | x :: l => f x + z_lsm f l
theorem z_lsm_app {α : Type} {f : α → Int} : ∀ {l l' : List α}, z_lsm f (l ++ l') = z_lsm f l + z_lsm f l'
  | [], l' => by show z_lsm f l' = 0 + z_lsm f l'; omega
  | x :: l, l' => by
    show f x + z_lsm f (l ++ l') = f x + z_lsm f l + z_lsm f l'
    rw [z_lsm_app]
    omega
theorem z_lsm_flt {α : Type} {f : α → Int} {p : α → Bool} : ∀ {l : List α}, z_lsm f (l.filter p) = z_lsm (fun x => if p x = true then f x else 0) l
  | [] => rfl
  | x :: l => by
    have ih := z_lsm_flt (f := f) (p := p) (l := l)
    rw [List.filter_cons]
    show _ = (if p x = true then f x else 0) + z_lsm (fun x => if p x = true then f x else 0) l
    rw [← ih]
    by_cases c : p x = true
    · rw [if_pos c, if_pos c]; rfl
    · rw [if_neg c, if_neg c]; omega
theorem z_sm_ls {α : Type} (d : α) (f : α → Int) (G : List α) : z_sm G.length (fun g => f (G.getD g.toNat d)) = z_lsm f G := by
  have go : ∀ n : Nat, n ≤ G.length → z_sm n (fun g => f (G.getD g.toNat d)) = z_lsm f (G.take n) := by
    intro n
    induction n with
    | zero => intro _; rfl
    | succ n ih =>
      intro hn
      have e : G.take (n + 1) = G.take n ++ [G.getD n d] := by
        rw [List.getD_eq_getElem?_getD, List.getElem?_eq_getElem (by omega), Option.getD_some, List.take_append_getElem (by omega)]
      rw [z_sm_s, ih (by omega), e, z_lsm_app]
      show _ = _ + (f _ + 0)
      rw [Int.add_zero, Int.toNat_natCast]
  have := go G.length (Nat.le_refl _)
  rw [List.take_length] at this
  exact this
theorem z_sum_flt {X : z_S} (hw : z_wf X) (p : Int × Int → Bool) (F : Int × Int → Int) : z_sm ((z_gln X (X 0 2).toNat).filter p).length (fun g => F (((z_gln X (X 0 2).toNat).filter p).getD g.toNat (0, 0))) = z_sm (z_gs X (X 0 2).toNat).toNat (fun g => if p (z_gj X g, z_gw X g) = true then F (z_gj X g, z_gw X g) else 0) := by
  have hn := hw.2.2.1
  have hl := z_gln_len hw (n := (X 0 2).toNat) (by omega)
  rw [z_sm_ls (0, 0) F, z_lsm_flt, ← z_sm_ls (0, 0), show (z_gs X (X 0 2).toNat).toNat = (z_gln X (X 0 2).toNat).length by omega]
  refine z_sm_congr (fun k k0 k1 => ?_)
  have hg := z_gln_get hw (n := (X 0 2).toNat) (g := k.toNat) (by omega) (by omega)
  rw [Int.toNat_of_nonneg k0] at hg
  rw [hg]
theorem z_brt_flt {X : z_S} (hw : z_wf X) (p : Int × Int → Bool) (s lean side : Int) (t : Int → Int) : z_brt (z_DG X s ((z_gln X (X 0 2).toNat).filter p)).op (z_DG X s ((z_gln X (X 0 2).toNat).filter p)).mn (z_DG X s ((z_gln X (X 0 2).toNat).filter p)).gN lean side t = z_brt (z_Dm X s).op (fun g => if p (z_gj X g, z_gw X g) = true then (z_Dm X s).mn g else 0) (z_Dm X s).gN lean side t := by
  have h := z_sum_flt hw p (fun q => X 10 q.1 * z_pay t (z_and (z_ch (z_opG X s q) t lean) side))
  have e1 : z_brt (z_DG X s ((z_gln X (X 0 2).toNat).filter p)).op (z_DG X s ((z_gln X (X 0 2).toNat).filter p)).mn (z_DG X s ((z_gln X (X 0 2).toNat).filter p)).gN lean side t = z_sm ((z_gln X (X 0 2).toNat).filter p).length (fun g => X 10 (((z_gln X (X 0 2).toNat).filter p).getD g.toNat (0, 0)).1 * z_pay t (z_and (z_ch (z_opG X s (((z_gln X (X 0 2).toNat).filter p).getD g.toNat (0, 0))) t lean) side)) := rfl
  rw [e1, h]
  refine z_sm_congr (fun k k0 k1 => ?_)
  show _ = (if p (z_gj X k, z_gw X k) = true then X 10 (z_gj X k) else 0) * z_pay t (z_and (z_ch (z_opD X s k) t lean) side)
  by_cases c : p (z_gj X k, z_gw X k) = true
  · rw [if_pos c, if_pos c]; rfl
  · rw [if_neg c, if_neg c, Int.zero_mul]
theorem z_hv_congr {D D' : z_D} {sh sh' : Int → Int} {lean side mv cp : Int} {t : Int → Int} (h : ∀ u, z_brt D.op sh D.gN lean side u = z_brt D'.op sh' D'.gN lean side u) : z_hv D lean sh side mv cp t = z_hv D' lean sh' side mv cp t ∧ z_ht D lean sh side mv cp t = z_ht D' lean sh' side mv cp t := by
  have e : z_Bi D lean sh side mv cp t = z_Bi D' lean sh' side mv cp t := funext fun i => h _
  unfold z_hv z_ht
  rw [e]
  exact ⟨h _, rfl⟩
theorem z_srow_srow {X : z_S} {l l' : List Int} : z_srow (z_srow X l) l' = z_srow X l' := by
  funext a i
  unfold z_srow
  by_cases h : a = 0
  · by_cases h2 : i = 6 <;> simp [h, h2]
  · by_cases h2 : a = 19 <;> simp [h, h2]
section
variable {σ0 σ σ' σ'' X : z_S} {D : z_D} {nw : Int → Bool} {t T : Int → Int} {l : List Int}
theorem m_tv (hw : z_wf X) {u lean side mv cp : Int} {t : Int → Int} (hu : 0 ≤ u) : z_hv (z_DG X (-1) ((z_gln X (X 0 2).toNat).filter (z_gpr X u (-1)))) lean (z_DG X (-1) ((z_gln X (X 0 2).toNat).filter (z_gpr X u (-1)))).mn side mv cp t = z_hv (z_Dm X (-1)) lean (z_tsh X u) side mv cp t := by
  refine (z_hv_congr (fun v => ?_)).1
  rw [z_brt_flt hw]
  refine congrArg (fun sh => z_brt (z_Dm X (-1)).op sh (z_Dm X (-1)).gN lean side v) (funext fun g => ?_)
  show (if z_gpr X u (-1) (z_gj X g, z_gw X g) = true then X 10 (z_gj X g) else 0) = if X 16 (z_gj X g) = u then X 10 (z_gj X g) else 0
  have e : z_gpr X u (-1) (z_gj X g, z_gw X g) = decide (X 16 (z_gj X g) = u) := by
    unfold z_gpr
    rw [decide_eq_false (show ¬ u = -1 by omega)]
    simp
  rw [e]
  by_cases c : X 16 (z_gj X g) = u
  · rw [if_pos c, if_pos (decide_eq_true c)]
  · rw [if_neg c, if_neg (by simpa using c)]
theorem M_times (h : m_inv σ X) (d : Nat) (w : Int) : m_does (z_ev z_hcM (d + 20) 1268 [z_R 1, z_I w] z_hdM σ) (s_times X w) := by
  have hi := m_inv_thr h
  have hcp := h.cp
  have k := m_canSet (d + 17) h.1 hi.2.1 w
  unfold s_times
  by_cases c : z_seek X w = true
  · rw [if_pos c] at k ⊢
    obtain ⟨cw, ctot⟩ := z_seek_t.mp c
    let V : Int → Int := fun u => z_hv (z_Dm X (-1)) (X 0 4) (z_tsh X u) (z_side X w (-1)) (z_side X w (-1)) (X 0 3) (X 7)
    have hVd : V = fun u => z_hv (z_Dm X (-1)) (X 0 4) (z_tsh X u) (z_side X w (-1)) (z_side X w (-1)) (X 0 3) (X 7) := rfl
    -- a time asked
    have ask : ∀ (k : Nat) (x : z_S) (l : List Int), m_inv x (z_srow X l) → l.length < 20 → x 1 26 = 0 → ∃ x1 x2 x3, z_ev z_hcM (d + 19) 1228 [z_R 1, z_I k, z_I (-1), z_I (-1)] z_hdM x = some (z_U, z_hdM, x1) ∧ x1 1 9 = (X 0 3) ∧ z_ev z_hcM (d + 19) 1253 [z_R 1, z_I w, z_I 0, z_I (X 0 3)] z_hdM x1 = some (z_I (V k), z_hdM, x2) ∧ z_ev z_hcM (d + 19) 1204 [z_R 1, z_I (V k)] z_hdM x2 = some (z_U, z_hdM, x3) ∧ m_inv x3 (z_srow X (l ++ [V k])) ∧ x3 1 26 = 0 ∧ 0 ≤ V k ∧ V k ≤ 480000000 := by
      intro k x l hx hl h26
      have heq : z_eqd X (z_srow X l) := z_srow_eqd
      obtain ⟨x1, g1, o1, q1⟩ := m_gatG hx m_off_refl hx.2.2.2.1 hx.2.2.2.2.1 (d + 15) k (-1) (-1)
      have lx := q1.capv hx
      rw [z_srow_0 (by omega)] at lx
      obtain ⟨x2, g2, o2, q2, -, -⟩ := q1.best hx (d + 13) (w := w) (cp := z_srow X l 0 3) cw hx.tc ⟨hx.cp.1, Int.le_refl _⟩
      have vr := fun i => q1.brt hx (z_tcap_20 hx.cp.2 (z_ti_cap (mv := z_side (z_srow X l) w (-1)) (Int.le_refl _) hx.cp.1 hx.tc i)) (z_srow X l 0 4) (z_side (z_srow X l) w (-1))
      have hV : z_hv (z_DG (z_srow X l) (-1) ((z_gln (z_srow X l) (z_srow X l 0 2).toNat).filter (z_gpr (z_srow X l) k (-1)))) (z_srow X l 0 4) (z_DG (z_srow X l) (-1) ((z_gln (z_srow X l) (z_srow X l 0 2).toNat).filter (z_gpr (z_srow X l) k (-1)))).mn (z_side (z_srow X l) w (-1)) (z_side (z_srow X l) w (-1)) (z_srow X l 0 3) (z_srow X l 7) = V k := by
        rw [m_tv hx.1 (by omega)]
        have et : z_tsh (z_srow X l) k = z_tsh X k := by
          funext g
          unfold z_tsh
          rw [z_Dm_congr heq, heq.1 16 (by omega)]
        rw [et, z_Dm_congr heq, z_side_congr heq, z_srow_0 (by omega), z_srow_0 (by omega), z_srow_a (by omega) (by omega)]
      have vr' : 0 ≤ V k ∧ V k ≤ 480000000 := by rw [← hV]; exact vr _
      rw [hV, z_srow_0 (by omega)] at g2
      have off2 : m_off 27 35 57 x x2 := q2.1
      have rw2 : m_rw x2 l := by
        have e6 : z_srow X l 0 6 = (l.length : Int) := by unfold z_srow; rw [if_pos rfl, if_pos rfl]
        obtain ⟨-, -, -, -, -, -, -, -, -, j1, j2⟩ := hx
        rw [e6] at j1 j2
        refine ⟨by rw [m_at off2 (by omega)]; exact j1, fun i hi' => ?_⟩
        rw [m_at off2 (by omega), j2 i (by omega) (by omega)]
        unfold z_srow
        rw [if_neg (by omega), if_pos rfl, Int.toNat_natCast]
      obtain ⟨x3, g3, r3, o3⟩ := m_tell1 rw2 (by omega) (d + 18) (V k)
      have hfin := m_inv_row hx (m_ofr_ro (m_ofr_of off2) o3) (fun k k0 k1 => by rw [o3 _ _ (by omega) (by omega)]; exact q2.2.2.2.1 k k0 k1) (by rw [o3 _ _ (by omega) (by omega)]; exact q2.2.2.2.2) r3 (by rw [List.length_append, List.length_singleton]; omega)
      rw [z_srow_srow] at hfin
      exact ⟨x1, x2, x3, g1, lx, g2, g3, hfin, by rw [o3 _ _ (by omega) (by omega), m_at off2 (by omega)]; exact h26, vr'⟩
    have base : m_inv (z_upd (z_upd σ 1 26 0) 1 25 0) (z_srow X []) := m_inv_row hi (m_ofr_ro (m_ofr_of m_off_refl) m_ro0) (fun k k0 k1 => by rw [z_upd_ne (by omega)]; exact hi.2.2.2.1 k k0 k1) (by rw [z_upd_ne (by omega)]; exact hi.2.2.2.2.1) m_rw0 (by simp)
    have vsum : ∀ k : Nat, k ≤ 4 → 0 ≤ z_sm k V ∧ z_sm k V ≤ k * 480000000 := fun k hk => z_sm_rng (fun u u0 u1 => by
      obtain ⟨x1, x2, x3, -, -, -, -, -, -, hh⟩ := ask u.toNat _ [] base (by simp) (by rw [z_upd_ne (by omega), z_upd_same])
      rw [Int.toNat_of_nonneg u0] at hh
      exact hh)
    obtain ⟨u3, σ3, e3, i3, t3⟩ := z_foru (fun (k : Nat) (u : z_V) (x : z_S) => z_go (z_ev z_hcM (d + 19)) z_hcM 1268 24 [z_R 1, z_I w, z_I (z_sm k V), z_I k, u] [] z_hdM x) (fun _ x => some (z_I (z_sm 4 V), z_hdM, x))
      (fun k x => m_inv x (z_srow X ((List.range k).map (fun (u : Nat) => V u))) ∧ x 1 26 = 0) 4 (u := z_U) (s := z_upd (z_upd σ 1 26 0) 1 25 0) ⟨base, by rw [z_upd_ne (by omega), z_upd_same]⟩
      (fun k u x hk ⟨hx, h26⟩ => by
        obtain ⟨x1, x2, x3, g1, g2, g3, g4, g5, g6, g7⟩ := ask k x _ hx (by rw [List.length_map, List.length_range]; omega) h26
        have v0 := vsum k (by omega)
        have hs : z_sm (k + 1) V = z_sm k V + V k := rfl
        refine ⟨z_I (V k), x3, ?_, by rw [List.range_succ, List.map_append]; exact g5, g6⟩
        have hw5 : z_w (z_sm k V + V k) = z_sm (k + 1) V := z_w_ok (by omega) (by omega)
        rw [z_B1268_24]
        simp (disch := omega) only [if_neg, g1, g2, g3, g4, hw5, z_ns, z_fdM, z_pdM, z_adM, z_sdM, z_lkM, z_ndM, z_gdM, z_cI_some', z_cV_some', z_w_ok, Int.reduceAdd, Int.reduceSub, Int.reduceMul, Int.reduceNeg, Int.reduceEq, Int.reduceLT, Int.reduceLE, Int.reduceNe, reduceIte, true_and, and_true, false_and, and_false, if_true, if_false, ne_eq, not_true_eq_false, not_false_eq_true]) (fun u x _ => by
        rw [z_B1268_24]
        simp (disch := omega) only [if_pos, z_fdM, z_pdM, z_adM, z_sdM, z_lkM, z_ndM, z_gdM, z_cI_some', z_cV_some', z_w_ok, Int.reduceAdd, Int.reduceSub, Int.reduceMul, Int.reduceNeg, Int.reduceEq, Int.reduceLT, Int.reduceLE, Int.reduceNe, reduceIte, true_and, and_true, false_and, and_false, if_true, if_false, ne_eq, not_true_eq_false, not_false_eq_true])
    refine ⟨σ3, ?_, i3, t3⟩
    have e3' : z_go (z_ev z_hcM (d + 19)) z_hcM 1268 24 [z_R 1, z_I w, z_I 0, z_I 0, z_U] [] z_hdM (z_upd (z_upd σ 1 26 0) 1 25 0) = _ := e3
    simp (disch := omega) only [z_E1268, k, if_pos, e3', z_fdM, z_pdM, z_adM, z_sdM, z_lkM, z_ndM, z_gdM, z_cI_some', z_cV_some', z_w_ok, Int.reduceAdd, Int.reduceSub, Int.reduceMul, Int.reduceNeg, Int.reduceEq, Int.reduceLT, Int.reduceLE, Int.reduceNe, reduceIte, true_and, and_true, false_and, and_false, if_true, if_false, ne_eq, not_true_eq_false, not_false_eq_true]
    rfl
  · rw [if_neg c] at k ⊢
    refine ⟨_, ?_, hi, z_upd_same⟩
    simp (disch := omega) only [z_E1268, k, z_fdM, z_pdM, z_adM, z_sdM, z_lkM, z_ndM, z_gdM, z_cI_some', z_cV_some', z_w_ok, Int.reduceAdd, Int.reduceSub, Int.reduceMul, Int.reduceNeg, Int.reduceEq, Int.reduceLT, Int.reduceLE, Int.reduceNe, reduceIte, true_and, and_true, false_and, and_false, if_true, if_false, ne_eq, not_true_eq_false, not_false_eq_true]
end
