/-! The reference: without. -/
theorem z_pay_off {t t' : Int → Int} {m m' s : Int} (h : ∀ k : Int, 0 ≤ k → k < 5 → k ≠ s → t k = t' k ∧ z_bt m k = z_bt m' k) (hb : z_bt m s = false) (hb' : z_bt m' s = false) : z_pay t m = z_pay t' m' := by
  unfold z_pay
  refine z_sm_congr (fun k k0 k1 => ?_)
  by_cases c : k = s
  · rw [c, hb, hb']
    simp
  · obtain ⟨a, b⟩ := h k k0 k1 c
    rw [a, b]
theorem z_ch_off {op : z_Opt} {t t' : Int → Int} {lean s : Int} (ho : z_opok op) (hm : ∀ m q, 0 ≤ m → m < 32 → op m = some q → z_bt m s = false) (h : ∀ k : Int, k ≠ s → t k = t' k) : z_ch op t lean = z_ch op t' lean := by
  have hp : ∀ m q, 0 ≤ m → m < 32 → op m = some q → z_pay t m = z_pay t' m := fun m q m0 m1 hq => z_pay_off (fun k _ _ hk => ⟨h k hk, rfl⟩) (hm m q m0 m1 hq) (hm m q m0 m1 hq)
  refine z_ch_eq ho ?_
  obtain ⟨q, h1, h2, h3, h4⟩ := z_ch_tk (t := t') (lean := lean) ho
  refine ⟨q, h1, h2, h3, fun m' q' a b c hh => h4 m' q' a b c ?_⟩
  unfold z_ah at hh ⊢
  rw [hp _ _ a b c, hp _ _ h2 h3 h1] at hh
  exact hh
theorem z_inc_off {mv cp s : Int} (hmv : z_bt mv s = false) : ∀ {n : Nat} {t t' : Int → Int}, (∀ k : Int, k ≠ s → t k = t' k) → ∀ k : Int, k ≠ s → z_inc mv cp n t k = z_inc mv cp n t' k
  | 0, t, t', h, k, hk => h k hk
  | n + 1, t, t', h, k, hk => by
    have e : ∀ u : Int → Int, z_inc mv cp (n + 1) u = if z_bt mv n = true then (if u n < cp then (fun i : Int => if i = (n : Int) then u n + 1 else u i) else z_inc mv cp n (fun i : Int => if i = (n : Int) then 0 else u i)) else z_inc mv cp n u := fun u => rfl
    rw [e, e]
    by_cases c : z_bt mv n = true
    · have hn : (n : Int) ≠ s := fun e => by rw [e, hmv] at c; cases c
      rw [if_pos c, if_pos c, h n hn]
      by_cases c2 : t' n < cp
      · rw [if_pos c2, if_pos c2]
        show (if k = (n : Int) then t' n + 1 else t k) = if k = (n : Int) then t' n + 1 else t' k
        rw [h k hk]
      · rw [if_neg c2, if_neg c2]
        refine z_inc_off hmv (fun j hj => ?_) k hk
        show (if j = (n : Int) then 0 else t j) = if j = (n : Int) then 0 else t' j
        rw [h j hj]
    · rw [if_neg c, if_neg c]
      exact z_inc_off hmv h k hk
theorem z_ti_off {mv cp s : Int} {t t' : Int → Int} (hmv : z_bt mv s = false) (h : ∀ k : Int, k ≠ s → t k = t' k) : ∀ (i : Nat) (k : Int), k ≠ s → z_ti mv cp t i k = z_ti mv cp t' i k
  | 0, k, hk => by
    show (if 0 ≤ k ∧ z_bt mv k = true then 0 else t k) = if 0 ≤ k ∧ z_bt mv k = true then 0 else t' k
    rw [h k hk]
  | i + 1, k, hk => z_inc_off hmv (z_ti_off hmv h i) k hk
theorem z_hv_off {D : z_D} {sh : Int → Int} {lean mv cp S S' s : Int} {t t' : Int → Int} (ho : ∀ g, 0 ≤ g → g < D.gN → z_opok (D.op g) ∧ ∀ m q, 0 ≤ m → m < 32 → D.op g m = some q → z_bt m s = false) (hmv : z_bt mv s = false) (hS0 : 0 ≤ S ∧ S < 32) (hS1 : 0 ≤ S' ∧ S' < 32) (hS : ∀ k : Int, 0 ≤ k → k < 5 → k ≠ s → z_bt S k = z_bt S' k) (hs : 0 ≤ s ∧ s < 5) (ht : ∀ k : Int, k ≠ s → t k = t' k) : z_hv D lean sh S mv cp t = z_hv D lean sh S' mv cp t' := by
  have hb : ∀ u u' : Int → Int, (∀ k : Int, k ≠ s → u k = u' k) → z_brt D.op sh D.gN lean S u = z_brt D.op sh D.gN lean S' u' := fun u u' hu => by
    unfold z_brt
    refine z_sm_congr (fun g g0 g1 => ?_)
    obtain ⟨o1, o2⟩ := ho g g0 (by omega)
    have hc := z_ch_off (lean := lean) o1 o2 hu
    rw [hc]
    obtain ⟨q, h1, h2, h3, -⟩ := z_ch_tk (t := u') (lean := lean) o1
    have hbs := o2 _ q h2 h3 h1
    have an : ∀ T : Int, 0 ≤ T → T < 32 → ∀ k : Int, 0 ≤ k → k < 5 → z_bt (z_and (z_ch (D.op g) u' lean) T) k = (z_bt (z_ch (D.op g) u' lean) k && z_bt T k) := fun T T0 T1 k k0 k1 => by
      have := (z_or_32 (z_ch (D.op g) u' lean).toNat (by omega) T.toNat (by omega)).2.2.2.2 k.toNat (by omega)
      rw [Int.toNat_of_nonneg h2, Int.toNat_of_nonneg T0, Int.toNat_of_nonneg k0] at this
      exact this.2
    refine congrArg (sh g * ·) (z_pay_off (s := s) (fun k k0 k1 hk => ⟨hu k hk, by rw [an S hS0.1 hS0.2 k k0 k1, an S' hS1.1 hS1.2 k k0 k1, hS k k0 k1 hk]⟩) (by rw [an S hS0.1 hS0.2 s hs.1 hs.2, hbs]; rfl) (by rw [an S' hS1.1 hS1.2 s hs.1 hs.2, hbs]; rfl))
  have e : z_Bi D lean sh S mv cp t = z_Bi D lean sh S' mv cp t' := funext fun i => hb _ _ (z_ti_off hmv ht i)
  unfold z_hv z_ht
  rw [e]
  exact hb _ _ (z_ti_off hmv ht _)
section
variable {σ0 σ σ' σ'' X : z_S} {D : z_D} {nw : Int → Bool} {t T : Int → Int} {l : List Int}
/-- options of goers that don't go a shut road lack its slot -/
theorem z_opD_lack (hw : z_wf X) {r g : Int} (hr : 0 ≤ r) (hg : 0 ≤ g ∧ g < z_gs X (X 0 2).toNat) {s : Int} (hs : 0 ≤ s ∧ X 6 s = r) {m : Int} {q : Int × Int} (hq : z_opD X r g m = some q) : z_bt m s = false := by
  have hj := (z_gjw_rng hw hg.1 hg.2).1
  unfold z_opD at hq
  rcases z_opl_chr0 (msk := z_msk X) (pn := z_pnf X (z_gj X g) (z_gw X g)) (z_wz X r (z_gj X g)) m with ⟨e, -⟩ | ⟨l, l1, l2, -⟩
  · rw [e] at hq; cases hq
  · have hn : r ∉ l := by
      unfold z_wz z_wzl at l1
      have key : l ∈ z_wys X r (z_gj X g) ∨ l = [] := by
        split at l1
        · split at l1
          · rcases List.mem_append.mp l1 with h | h
            · exact Or.inl h
            · exact Or.inr (List.mem_singleton.mp h)
          · exact Or.inl l1
        · rcases List.mem_append.mp l1 with h | h
          · exact Or.inl h
          · exact Or.inr (List.mem_singleton.mp h)
      rcases key with h | h
      · rcases ((z_wys_shut hw hj l).mp h).2 with e | e
        · omega
        · exact e
      · rw [h]; simp
    rw [← l2]
    have hb := z_bs_bit (P := fun k => decide (X 6 k ∈ l)) (k := s.toNat) (n := (X 0 1).toNat)
    rw [Int.toNat_of_nonneg hs.1] at hb
    unfold z_msk
    rw [hb, hs.2, decide_eq_false hn, Bool.and_false]
theorem M_without (h : m_inv σ X) (d : Nat) (w r : Int) : m_does (z_ev z_hcM (d + 20) 1277 [z_R 1, z_I w, z_I r] z_hdM σ) (s_without X w r) := by
  have hi := m_inv_thr h
  have hcp := h.cp
  have hn := h.1.2.1
  have hR := h.1.1
  have k := m_canSet (d + 17) h.1 hi.2.1 w
  have kr := m_isRoad (d + 17) h.1 hi.2.1 r
  have hsr := z_side_rng h.1 w (-1)
  have hsr' := z_side_rng h.1 w r
  unfold s_without
  by_cases c : z_seek X w = true
  · rw [if_pos c] at k
    obtain ⟨cw, ctot⟩ := z_seek_t.mp c
    by_cases c2 : 0 ≤ r ∧ r < X 0 0
    · rw [if_pos c2] at kr
      rw [if_pos ⟨c, c2⟩]
      obtain ⟨σ1, e1, q1⟩ := m_gat0 hi (d + 14)
      have l3 := q1.capv hi
      obtain ⟨σ2, e2, o2, q2, -, -⟩ := q1.best hi (d + 13) (cp := X 0 3) cw h.tc ⟨hcp.1, Int.le_refl _⟩
      obtain ⟨σ3, e3, o3, q3⟩ := m_gatB hi q2.1 q2.2.2.2.1 q2.2.2.2.2 (d + 15) r
      have l33 := q3.capv hi
      have kt := m_tollOf (d + 18) h.1 (q3.land hi) r
      have hti : ∀ u, z_tcap (X 0 3) u → ∀ i mv, c_t20 (z_ti mv (X 0 3) u i) := fun u hu i mv => z_tcap_20 hcp.2 (z_ti_cap (Int.le_refl _) hcp.1 hu i)
      have v1 : 0 ≤ z_hv (z_Dm X (-1)) (X 0 4) (z_Dm X (-1)).mn (z_side X w (-1)) (z_side X w (-1)) (X 0 3) (X 7) ∧ z_hv (z_Dm X (-1)) (X 0 4) (z_Dm X (-1)).mn (z_side X w (-1)) (z_side X w (-1)) (X 0 3) (X 7) ≤ 480000000 := q1.brt hi (hti _ h.tc _ _) (X 0 4) (z_side X w (-1))
      have v2 : 0 ≤ z_hv (z_Dm X r) (X 0 4) (z_Dm X r).mn (z_side X w r) (z_side X w r) (X 0 3) (X 7) ∧ z_hv (z_Dm X r) (X 0 4) (z_Dm X r).mn (z_side X w r) (z_side X w r) (X 0 3) (X 7) ≤ 480000000 := q3.brt hi (hti _ h.tc _ _) (X 0 4) _
      have hsl := z_slt_some h.1 r
      have e6 : σ3 6 r = X 5 r := ((q3.land hi).2.1 r c2.1 c2.2).2.2.2.2
      have hbits : (∀ k : Int, 0 ≤ k → k < X 0 1 → X 5 (X 6 k) = w → X 6 k ≠ r) → z_side X w r = (z_side X w (-1)) := fun hne => z_ext32 ⟨hsr'.1, hsr'.2.1⟩ ⟨hsr.1, hsr.2.1⟩ (fun k k0 k1 => by
        have a := z_side_bt h.1 (h := w) (s := r) k0
        have b := z_side_bt h.1 (h := w) (s := -1) k0
        rw [Bool.eq_iff_iff, a, b]
        constructor
        · rintro ⟨p1, p2, p3⟩
          have := h.1.2.2.2.2.2.2.2.2.1 k k0 p1
          exact ⟨p1, p2, by omega⟩
        · rintro ⟨p1, p2, p3⟩
          exact ⟨p1, p2, hne k k0 p1 p2⟩)
      by_cases c3 : 0 ≤ z_slt X r ∧ X 5 r = w
      · have s3 : z_slt X r < X 0 1 ∧ X 6 (z_slt X r) = r := by
          rcases hsl with ⟨e, -⟩ | ⟨-, a, b, -⟩
          · omega
          · exact ⟨a, b⟩
        have hp := z_pow_32 c3.1 (by omega)
        have hsh := z_shl1 c3.1 (by omega)
        have hpb : ∀ k : Int, 0 ≤ k → k < 5 → z_bt ((2 ^ (z_slt X r).toNat : Nat) : Int) k = decide (k = z_slt X r) := fun k k0 _ => z_bt_pow c3.1 k0
        have hbit : z_bt (z_side X w (-1)) (z_slt X r) = true := (z_side_bt h.1 c3.1).mpr ⟨s3.1, by rw [s3.2]; exact c3.2, by rw [s3.2]; omega⟩
        obtain ⟨σ4, e4, o4, q4, -, -⟩ := q3.bestF hi (d + 13) (w := w) (free := ((2 ^ (z_slt X r).toNat : Nat) : Int)) cw h.tc hp (fun k k0 k1 hk => by
          rw [hpb k k0 k1, decide_eq_true_eq] at hk
          rw [hk]; exact hbit)
        have hdm : z_dm (z_side X w (-1)) ((2 ^ (z_slt X r).toNat : Nat) : Int) = z_side X w r := by
          obtain ⟨d0, -, db⟩ := z_dm_ok (x := (z_side X w (-1))) (y := ((2 ^ (z_slt X r).toNat : Nat) : Int)) ⟨hsr.1, hsr.2.1⟩ hp
          refine z_ext32 d0 ⟨hsr'.1, hsr'.2.1⟩ (fun k k0 k1 => ?_)
          have a := z_side_bt h.1 (h := w) (s := r) k0
          have b := z_side_bt h.1 (h := w) (s := -1) k0
          rw [db k k0 k1, hpb k k0 k1, Bool.eq_iff_iff, a, Bool.and_eq_true, b, Bool.not_eq_true', decide_eq_false_iff_not]
          rcases hsl with ⟨e, -⟩ | ⟨-, -, -, hu⟩
          · omega
          · constructor
            · rintro ⟨⟨p1, p2, p3⟩, p4⟩
              exact ⟨p1, p2, fun e => p4 ((hu k k0 p1).mp e)⟩
            · rintro ⟨p1, p2, p3⟩
              have := h.1.2.2.2.2.2.2.2.2.1 k k0 p1
              exact ⟨⟨p1, p2, by omega⟩, fun e => p3 ((hu k k0 p1).mpr e)⟩
        have hv : z_xv (z_Dm X r) (X 0 4) (z_Dm X r).mn (z_side X w (-1)) (X 0 3) (X 7) ((2 ^ (z_slt X r).toNat : Nat) : Int) = z_hv (z_Dm X r) (X 0 4) (z_Dm X r).mn (z_side X w r) (z_side X w r) (X 0 3) (X 7) := by
          unfold z_xv
          rw [hdm]
          have hrb : z_bt (z_side X w r) (z_slt X r) = false := by
            cases hb : z_bt (z_side X w r) (z_slt X r) with
            | false => rfl
            | true => exact absurd s3.2 ((z_side_bt h.1 c3.1).mp hb).2.2
          refine z_hv_off (s := z_slt X r) (fun g g0 g1 => ⟨(q3.goer hi g0 g1).1, fun m q m0 m1 hq => z_opD_lack h.1 c2.1 ⟨g0, g1⟩ ⟨c3.1, s3.2⟩ hq⟩) hrb ⟨hsr.1, hsr.2.1⟩ ⟨hsr'.1, hsr'.2.1⟩ (fun k k0 k1 hk => ?_) ⟨c3.1, by omega⟩ (fun k hk => ?_)
          · obtain ⟨d0, -, db⟩ := z_dm_ok (x := (z_side X w (-1))) (y := ((2 ^ (z_slt X r).toNat : Nat) : Int)) ⟨hsr.1, hsr.2.1⟩ hp
            have := db k k0 k1
            rw [hdm, hpb k k0 k1, decide_eq_false hk] at this
            simpa using this.symm
          · show (if 0 ≤ k ∧ z_bt ((2 ^ (z_slt X r).toNat : Nat) : Int) k = true then 0 else X 7 k) = X 7 k
            rw [if_neg (fun z => by rw [z_bt_pow c3.1 z.1, decide_eq_true_eq] at z; exact hk z.2)]
        rw [hv] at e4
        refine m_does_on hi z_upd_same ?_ q4
        simp (disch := omega) only [z_E1277, k, kr, if_pos, if_neg, e1, l3, e2, e3, kt, e6, c3.2, hsh, l33, e4, z_fdM, z_pdM, z_adM, z_sdM, z_lkM, z_ndM, z_gdM, z_cI_some', z_cV_some', z_w_ok, Int.reduceAdd, Int.reduceSub, Int.reduceMul, Int.reduceNeg, Int.reduceEq, Int.reduceLT, Int.reduceLE, Int.reduceNe, reduceIte, true_and, and_true, false_and, and_false, if_true, if_false, ne_eq, not_true_eq_false, not_false_eq_true]
      · have hS : z_side X w r = (z_side X w (-1)) := hbits (fun k k0 k1 kw e => by
          rcases hsl with ⟨-, hh⟩ | ⟨a, -, -, -⟩
          · exact hh k k0 k1 e
          · rw [e] at kw
            exact c3 ⟨a, kw⟩)
        rw [hS] at v2 ⊢
        obtain ⟨σ4, e4, o4, q4, -, -⟩ := q3.best hi (d + 13) (cp := X 0 3) cw h.tc ⟨hcp.1, Int.le_refl _⟩
        refine m_does_on hi z_upd_same ?_ q4
        by_cases c4 : z_slt X r = -1
        · rw [c4] at kt
          simp (disch := omega) only [z_E1277, k, kr, if_pos, if_neg, e1, l3, e2, e3, kt, z_B1277_77, l33, e4, z_fdM, z_pdM, z_adM, z_sdM, z_lkM, z_ndM, z_gdM, z_cI_some', z_cV_some', z_w_ok, Int.reduceAdd, Int.reduceSub, Int.reduceMul, Int.reduceNeg, Int.reduceEq, Int.reduceLT, Int.reduceLE, Int.reduceNe, reduceIte, true_and, and_true, false_and, and_false, if_true, if_false, ne_eq, not_true_eq_false, not_false_eq_true]
        · have c5 : 0 ≤ z_slt X r := by rcases hsl with ⟨e, -⟩ | ⟨a, -⟩ <;> omega
          have c6 : X 5 r ≠ w := fun e => c3 ⟨c5, e⟩
          simp (disch := omega) only [z_E1277, k, kr, if_pos, if_neg, e1, l3, e2, e3, kt, e6, z_B1277_77, l33, e4, z_fdM, z_pdM, z_adM, z_sdM, z_lkM, z_ndM, z_gdM, z_cI_some', z_cV_some', z_w_ok, Int.reduceAdd, Int.reduceSub, Int.reduceMul, Int.reduceNeg, Int.reduceEq, Int.reduceLT, Int.reduceLE, Int.reduceNe, reduceIte, true_and, and_true, false_and, and_false, if_true, if_false, ne_eq, not_true_eq_false, not_false_eq_true]
    · rw [if_neg c2] at kr
      rw [if_neg (fun z => c2 z.2)]
      refine ⟨_, ?_, hi, z_upd_same⟩
      simp (disch := omega) only [z_E1277, k, kr, if_pos, if_neg, z_fdM, z_pdM, z_adM, z_sdM, z_lkM, z_ndM, z_gdM, z_cI_some', z_cV_some', z_w_ok, Int.reduceAdd, Int.reduceSub, Int.reduceMul, Int.reduceNeg, Int.reduceEq, Int.reduceLT, Int.reduceLE, Int.reduceNe, reduceIte, true_and, and_true, false_and, and_false, if_true, if_false, ne_eq, not_true_eq_false, not_false_eq_true]
  · rw [if_neg c] at k
    rw [if_neg (fun z => c z.1)]
    refine ⟨_, ?_, hi, z_upd_same⟩
    rw [z_E1277, z_pdM, z_fdM, k, z_cI_some', if_pos rfl]
end
