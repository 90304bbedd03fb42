/-! The law: its questions, one by one. -/
section
variable {p : Program} {l : Launch} {e : Env} {s : State} {m : MethodId} {below : List Frame} {meth : Method} {c : Code} {dC : Nat → ClassId} {dI : Nat → Nat → Nat} {dA : Nat → ClassId} {dL : ClassId} {adC adM : Nat → Nat} {qo : Nat} {σ τ X : z_S} {f : Nat → Int64} {H : Heap} {locs : List Loc} {b L : Nat} {xs : Nat → Int32} {Q : State → Prop} {cells slots : Nat} {ls : Array Slot} {x4 : Int32}
set_option maxHeartbeats 4000000 in
theorem w_case12 (C0 : lw_At p s m meth c b L xs) (hK : va_K (dC, dI) vwCl (z_tys dA) s) (hap : w_ap adC adM qo) (h1 : vp_in (x4 + 1) L) (h2 : vp_in (x4 + 2) L) (h3 : vp_in (x4 + 3) L) (h4 : vp_in (x4 + 4) L) (hfit : cells + 1 ≤ room_1.cells ∧ slots + 6 ≤ room_1.slots) (hc : c_inv σ X) (hm : m_inv τ X) (J : w_J s dC dI dA dL adC adM qo σ τ f H locs) (hl : lv_has ls 7 [(0, .ref b), (1, .ref (adC 0)), (2, .ref (adM 0)), (3, .ref qo), (4, .int x4)])
    (K : w_K p l e s m below meth c dC dI dA dL adC adM qo b x4 Q cells slots) : W p l e room_1 s m #[.ref b] below meth c H locs cells slots Q (F0 m 528 ls []) := by
  obtain ⟨hx, hb, hr, hml, hown, hts, hX, hbl, hlocks, hgv⟩ := id C0
  have hbA : ¬ (fun q : Nat => s.heap.size ≤ q) b := Nat.not_le.mpr hbl
  have hf0 : cells ≤ room_1.cells ∧ slots ≤ room_1.slots := ⟨by omega, by omega⟩
  refine lv_aload_n hx hb dL_law_528 rfl (lv_at hl 1 rfl) ?_
  refine lv_aload_n hx hb dL_law_529 rfl (lv_at hl 0 rfl) ?_
  refine lv_iload hx hb dL_law_530 (lv_at hl 4 rfl) ?_
  refine lv_iconst (v := 1) hx hb dL_law_532 (by decide) ?_
  refine lv_iadd hx hb dL_law_533 ?_
  refine va_sld hx hb hX hbl hbA J.2.2.2.2.2.2.2.2 h1 dL_law_534 ?_
  refine w_callC (rest := []) (ts := [xs (x4 + 1).toNatClampNeg]) C0 hK hap w_o1113 (C_best hc 20 (xs (x4 + 1).toNatClampNeg).toInt) J dL_law_535 (Nat.le_of_ble_eq_true rfl) hl.1 hf0 (fun σ1 H1 locs1 hc1 J1 hv1 => ?_)
  refine lv_aload_n hx hb dL_law_538 rfl (lv_at hl 2 rfl) ?_
  refine lv_aload_n hx hb dL_law_539 rfl (lv_at hl 0 rfl) ?_
  refine lv_iload hx hb dL_law_540 (lv_at hl 4 rfl) ?_
  refine lv_iconst (v := 1) hx hb dL_law_542 (by decide) ?_
  refine lv_iadd hx hb dL_law_543 ?_
  refine va_sld hx hb hX hbl hbA J1.2.2.2.2.2.2.2.2 h1 dL_law_544 ?_
  obtain ⟨τ1, em, hm1, -⟩ := M_best hm 20 (xs (x4 + 1).toNatClampNeg).toInt
  refine w_callM (ts := [xs (x4 + 1).toNatClampNeg]) C0 hK hap w_o1255 em J1 dL_law_545 (Nat.le_of_ble_eq_true rfl) hl.1 hf0 (fun H2 locs2 J2 hv2 => ?_)
  refine lv_icmp_eq (tgt := 1336) hx hb dL_law_548 (by decide) (fun _ => ?_) (fun hne => absurd rfl hne)
  exact W.widen (k := cells + 1) (n := slots + 6) (Nat.le_succ _) (Nat.le_add_right _ _) (K _ _ _ _ _ _ _ hc1 hm1 J2 hl)
set_option maxHeartbeats 4000000 in
theorem w_case13 (C0 : lw_At p s m meth c b L xs) (hK : va_K (dC, dI) vwCl (z_tys dA) s) (hap : w_ap adC adM qo) (h1 : vp_in (x4 + 1) L) (h2 : vp_in (x4 + 2) L) (h3 : vp_in (x4 + 3) L) (h4 : vp_in (x4 + 4) L) (hfit : cells + 1 ≤ room_1.cells ∧ slots + 6 ≤ room_1.slots) (hc : c_inv σ X) (hm : m_inv τ X) (J : w_J s dC dI dA dL adC adM qo σ τ f H locs) (hl : lv_has ls 7 [(0, .ref b), (1, .ref (adC 0)), (2, .ref (adM 0)), (3, .ref qo), (4, .int x4)])
    (K : w_K p l e s m below meth c dC dI dA dL adC adM qo b x4 Q cells slots) : W p l e room_1 s m #[.ref b] below meth c H locs cells slots Q (F0 m 553 ls []) := by
  obtain ⟨hx, hb, hr, hml, hown, hts, hX, hbl, hlocks, hgv⟩ := id C0
  have hbA : ¬ (fun q : Nat => s.heap.size ≤ q) b := Nat.not_le.mpr hbl
  have hf0 : cells ≤ room_1.cells ∧ slots ≤ room_1.slots := ⟨by omega, by omega⟩
  refine lv_aload_n hx hb dL_law_553 rfl (lv_at hl 1 rfl) ?_
  refine lv_aload_n hx hb dL_law_554 rfl (lv_at hl 0 rfl) ?_
  refine lv_iload hx hb dL_law_555 (lv_at hl 4 rfl) ?_
  refine lv_iconst (v := 1) hx hb dL_law_557 (by decide) ?_
  refine lv_iadd hx hb dL_law_558 ?_
  refine va_sld hx hb hX hbl hbA J.2.2.2.2.2.2.2.2 h1 dL_law_559 ?_
  refine w_callC (rest := []) (ts := [xs (x4 + 1).toNatClampNeg]) C0 hK hap w_o1114 (C_set hc 20 (xs (x4 + 1).toNatClampNeg).toInt) J dL_law_560 (Nat.le_of_ble_eq_true rfl) hl.1 hf0 (fun σ1 H1 locs1 hc1 J1 hv1 => ?_)
  refine lv_aload_n hx hb dL_law_563 rfl (lv_at hl 2 rfl) ?_
  refine lv_aload_n hx hb dL_law_564 rfl (lv_at hl 0 rfl) ?_
  refine lv_iload hx hb dL_law_565 (lv_at hl 4 rfl) ?_
  refine lv_iconst (v := 1) hx hb dL_law_567 (by decide) ?_
  refine lv_iadd hx hb dL_law_568 ?_
  refine va_sld hx hb hX hbl hbA J1.2.2.2.2.2.2.2.2 h1 dL_law_569 ?_
  obtain ⟨τ1, em, hm1, -⟩ := M_set hm 20 (xs (x4 + 1).toNatClampNeg).toInt
  refine w_callM (ts := [xs (x4 + 1).toNatClampNeg]) C0 hK hap w_o1256 em J1 dL_law_570 (Nat.le_of_ble_eq_true rfl) hl.1 hf0 (fun H2 locs2 J2 hv2 => ?_)
  refine lv_icmp_eq (tgt := 1336) hx hb dL_law_573 (by decide) (fun _ => ?_) (fun hne => absurd rfl hne)
  exact W.widen (k := cells + 1) (n := slots + 6) (Nat.le_succ _) (Nat.le_add_right _ _) (K _ _ _ _ _ _ _ hc1 hm1 J2 hl)
set_option maxHeartbeats 4000000 in
theorem w_case14 (C0 : lw_At p s m meth c b L xs) (hK : va_K (dC, dI) vwCl (z_tys dA) s) (hap : w_ap adC adM qo) (h1 : vp_in (x4 + 1) L) (h2 : vp_in (x4 + 2) L) (h3 : vp_in (x4 + 3) L) (h4 : vp_in (x4 + 4) L) (hfit : cells + 1 ≤ room_1.cells ∧ slots + 6 ≤ room_1.slots) (hc : c_inv σ X) (hm : m_inv τ X) (J : w_J s dC dI dA dL adC adM qo σ τ f H locs) (hl : lv_has ls 7 [(0, .ref b), (1, .ref (adC 0)), (2, .ref (adM 0)), (3, .ref qo), (4, .int x4)])
    (K : w_K p l e s m below meth c dC dI dA dL adC adM qo b x4 Q cells slots) : W p l e room_1 s m #[.ref b] below meth c H locs cells slots Q (F0 m 578 ls []) := by
  obtain ⟨hx, hb, hr, hml, hown, hts, hX, hbl, hlocks, hgv⟩ := id C0
  have hbA : ¬ (fun q : Nat => s.heap.size ≤ q) b := Nat.not_le.mpr hbl
  have hf0 : cells ≤ room_1.cells ∧ slots ≤ room_1.slots := ⟨by omega, by omega⟩
  refine lv_aload_n hx hb dL_law_578 rfl (lv_at hl 1 rfl) ?_
  refine lv_aload_n hx hb dL_law_579 rfl (lv_at hl 0 rfl) ?_
  refine lv_iload hx hb dL_law_580 (lv_at hl 4 rfl) ?_
  refine lv_iconst (v := 1) hx hb dL_law_582 (by decide) ?_
  refine lv_iadd hx hb dL_law_583 ?_
  refine va_sld hx hb hX hbl hbA J.2.2.2.2.2.2.2.2 h1 dL_law_584 ?_
  refine w_callC (rest := []) (ts := [xs (x4 + 1).toNatClampNeg]) C0 hK hap w_o1115 (C_ties hc 20 (xs (x4 + 1).toNatClampNeg).toInt) J dL_law_585 (Nat.le_of_ble_eq_true rfl) hl.1 hf0 (fun σ1 H1 locs1 hc1 J1 hv1 => ?_)
  refine lv_aload_n hx hb dL_law_588 rfl (lv_at hl 2 rfl) ?_
  refine lv_aload_n hx hb dL_law_589 rfl (lv_at hl 0 rfl) ?_
  refine lv_iload hx hb dL_law_590 (lv_at hl 4 rfl) ?_
  refine lv_iconst (v := 1) hx hb dL_law_592 (by decide) ?_
  refine lv_iadd hx hb dL_law_593 ?_
  refine va_sld hx hb hX hbl hbA J1.2.2.2.2.2.2.2.2 h1 dL_law_594 ?_
  obtain ⟨τ1, em, hm1, -⟩ := M_ties hm 20 (xs (x4 + 1).toNatClampNeg).toInt
  refine w_callM (ts := [xs (x4 + 1).toNatClampNeg]) C0 hK hap w_o1257 em J1 dL_law_595 (Nat.le_of_ble_eq_true rfl) hl.1 hf0 (fun H2 locs2 J2 hv2 => ?_)
  refine lv_icmp_eq (tgt := 1336) hx hb dL_law_598 (by decide) (fun _ => ?_) (fun hne => absurd rfl hne)
  exact W.widen (k := cells + 1) (n := slots + 6) (Nat.le_succ _) (Nat.le_add_right _ _) (K _ _ _ _ _ _ _ hc1 hm1 J2 hl)
set_option maxHeartbeats 4000000 in
theorem w_case15 (C0 : lw_At p s m meth c b L xs) (hK : va_K (dC, dI) vwCl (z_tys dA) s) (hap : w_ap adC adM qo) (h1 : vp_in (x4 + 1) L) (h2 : vp_in (x4 + 2) L) (h3 : vp_in (x4 + 3) L) (h4 : vp_in (x4 + 4) L) (hfit : cells + 1 ≤ room_1.cells ∧ slots + 6 ≤ room_1.slots) (hc : c_inv σ X) (hm : m_inv τ X) (J : w_J s dC dI dA dL adC adM qo σ τ f H locs) (hl : lv_has ls 7 [(0, .ref b), (1, .ref (adC 0)), (2, .ref (adM 0)), (3, .ref qo), (4, .int x4)])
    (K : w_K p l e s m below meth c dC dI dA dL adC adM qo b x4 Q cells slots) : W p l e room_1 s m #[.ref b] below meth c H locs cells slots Q (F0 m 603 ls []) := by
  obtain ⟨hx, hb, hr, hml, hown, hts, hX, hbl, hlocks, hgv⟩ := id C0
  have hbA : ¬ (fun q : Nat => s.heap.size ≤ q) b := Nat.not_le.mpr hbl
  have hf0 : cells ≤ room_1.cells ∧ slots ≤ room_1.slots := ⟨by omega, by omega⟩
  refine lv_aload_n hx hb dL_law_603 rfl (lv_at hl 1 rfl) ?_
  refine lv_aload_n hx hb dL_law_604 rfl (lv_at hl 0 rfl) ?_
  refine lv_iload hx hb dL_law_605 (lv_at hl 4 rfl) ?_
  refine lv_iconst (v := 1) hx hb dL_law_607 (by decide) ?_
  refine lv_iadd hx hb dL_law_608 ?_
  refine va_sld hx hb hX hbl hbA J.2.2.2.2.2.2.2.2 h1 dL_law_609 ?_
  refine w_callC (rest := []) (ts := [xs (x4 + 1).toNatClampNeg]) C0 hK hap w_o1116 (C_bound hc 20 (xs (x4 + 1).toNatClampNeg).toInt) J dL_law_610 (Nat.le_of_ble_eq_true rfl) hl.1 hf0 (fun σ1 H1 locs1 hc1 J1 hv1 => ?_)
  refine lv_aload_n hx hb dL_law_613 rfl (lv_at hl 2 rfl) ?_
  refine lv_aload_n hx hb dL_law_614 rfl (lv_at hl 0 rfl) ?_
  refine lv_iload hx hb dL_law_615 (lv_at hl 4 rfl) ?_
  refine lv_iconst (v := 1) hx hb dL_law_617 (by decide) ?_
  refine lv_iadd hx hb dL_law_618 ?_
  refine va_sld hx hb hX hbl hbA J1.2.2.2.2.2.2.2.2 h1 dL_law_619 ?_
  obtain ⟨τ1, em, hm1, -⟩ := M_bound hm 20 (xs (x4 + 1).toNatClampNeg).toInt
  refine w_callM (ts := [xs (x4 + 1).toNatClampNeg]) C0 hK hap w_o1258 em J1 dL_law_620 (Nat.le_of_ble_eq_true rfl) hl.1 hf0 (fun H2 locs2 J2 hv2 => ?_)
  refine lv_icmp_eq (tgt := 1336) hx hb dL_law_623 (by decide) (fun _ => ?_) (fun hne => absurd rfl hne)
  exact W.widen (k := cells + 1) (n := slots + 6) (Nat.le_succ _) (Nat.le_add_right _ _) (K _ _ _ _ _ _ _ hc1 hm1 J2 hl)
set_option maxHeartbeats 4000000 in
theorem w_case16 (C0 : lw_At p s m meth c b L xs) (hK : va_K (dC, dI) vwCl (z_tys dA) s) (hap : w_ap adC adM qo) (h1 : vp_in (x4 + 1) L) (h2 : vp_in (x4 + 2) L) (h3 : vp_in (x4 + 3) L) (h4 : vp_in (x4 + 4) L) (hfit : cells + 1 ≤ room_1.cells ∧ slots + 6 ≤ room_1.slots) (hc : c_inv σ X) (hm : m_inv τ X) (J : w_J s dC dI dA dL adC adM qo σ τ f H locs) (hl : lv_has ls 7 [(0, .ref b), (1, .ref (adC 0)), (2, .ref (adM 0)), (3, .ref qo), (4, .int x4)])
    (K : w_K p l e s m below meth c dC dI dA dL adC adM qo b x4 Q cells slots) : W p l e room_1 s m #[.ref b] below meth c H locs cells slots Q (F0 m 628 ls []) := by
  obtain ⟨hx, hb, hr, hml, hown, hts, hX, hbl, hlocks, hgv⟩ := id C0
  have hbA : ¬ (fun q : Nat => s.heap.size ≤ q) b := Nat.not_le.mpr hbl
  have hf0 : cells ≤ room_1.cells ∧ slots ≤ room_1.slots := ⟨by omega, by omega⟩
  refine lv_aload_n hx hb dL_law_628 rfl (lv_at hl 1 rfl) ?_
  refine lv_aload_n hx hb dL_law_629 rfl (lv_at hl 0 rfl) ?_
  refine lv_iload hx hb dL_law_630 (lv_at hl 4 rfl) ?_
  refine lv_iconst (v := 1) hx hb dL_law_632 (by decide) ?_
  refine lv_iadd hx hb dL_law_633 ?_
  refine va_sld hx hb hX hbl hbA J.2.2.2.2.2.2.2.2 h1 dL_law_634 ?_
  refine w_callC (rest := []) (ts := [xs (x4 + 1).toNatClampNeg]) C0 hK hap w_o1117 (C_given hc 20 (xs (x4 + 1).toNatClampNeg).toInt) J dL_law_635 (Nat.le_of_ble_eq_true rfl) hl.1 hf0 (fun σ1 H1 locs1 hc1 J1 hv1 => ?_)
  refine lv_aload_n hx hb dL_law_638 rfl (lv_at hl 2 rfl) ?_
  refine lv_aload_n hx hb dL_law_639 rfl (lv_at hl 0 rfl) ?_
  refine lv_iload hx hb dL_law_640 (lv_at hl 4 rfl) ?_
  refine lv_iconst (v := 1) hx hb dL_law_642 (by decide) ?_
  refine lv_iadd hx hb dL_law_643 ?_
  refine va_sld hx hb hX hbl hbA J1.2.2.2.2.2.2.2.2 h1 dL_law_644 ?_
  obtain ⟨τ1, em, hm1, -⟩ := M_given hm 20 (xs (x4 + 1).toNatClampNeg).toInt
  refine w_callM (ts := [xs (x4 + 1).toNatClampNeg]) C0 hK hap w_o1259 em J1 dL_law_645 (Nat.le_of_ble_eq_true rfl) hl.1 hf0 (fun H2 locs2 J2 hv2 => ?_)
  refine lv_icmp_eq (tgt := 1336) hx hb dL_law_648 (by decide) (fun _ => ?_) (fun hne => absurd rfl hne)
  exact W.widen (k := cells + 1) (n := slots + 6) (Nat.le_succ _) (Nat.le_add_right _ _) (K _ _ _ _ _ _ _ hc1 hm1 J2 hl)
set_option maxHeartbeats 4000000 in
theorem w_case17 (C0 : lw_At p s m meth c b L xs) (hK : va_K (dC, dI) vwCl (z_tys dA) s) (hap : w_ap adC adM qo) (h1 : vp_in (x4 + 1) L) (h2 : vp_in (x4 + 2) L) (h3 : vp_in (x4 + 3) L) (h4 : vp_in (x4 + 4) L) (hfit : cells + 1 ≤ room_1.cells ∧ slots + 6 ≤ room_1.slots) (hc : c_inv σ X) (hm : m_inv τ X) (J : w_J s dC dI dA dL adC adM qo σ τ f H locs) (hl : lv_has ls 7 [(0, .ref b), (1, .ref (adC 0)), (2, .ref (adM 0)), (3, .ref qo), (4, .int x4)])
    (K : w_K p l e s m below meth c dC dI dA dL adC adM qo b x4 Q cells slots) : W p l e room_1 s m #[.ref b] below meth c H locs cells slots Q (F0 m 653 ls []) := by
  obtain ⟨hx, hb, hr, hml, hown, hts, hX, hbl, hlocks, hgv⟩ := id C0
  have hbA : ¬ (fun q : Nat => s.heap.size ≤ q) b := Nat.not_le.mpr hbl
  have hf0 : cells ≤ room_1.cells ∧ slots ≤ room_1.slots := ⟨by omega, by omega⟩
  refine lv_aload_n hx hb dL_law_653 rfl (lv_at hl 1 rfl) ?_
  refine lv_aload_n hx hb dL_law_654 rfl (lv_at hl 0 rfl) ?_
  refine lv_iload hx hb dL_law_655 (lv_at hl 4 rfl) ?_
  refine lv_iconst (v := 1) hx hb dL_law_657 (by decide) ?_
  refine lv_iadd hx hb dL_law_658 ?_
  refine va_sld hx hb hX hbl hbA J.2.2.2.2.2.2.2.2 h1 dL_law_659 ?_
  refine lv_aload_n hx hb dL_law_660 rfl (lv_at hl 0 rfl) ?_
  refine lv_iload hx hb dL_law_661 (lv_at hl 4 rfl) ?_
  refine lv_iconst (v := 2) hx hb dL_law_663 (by decide) ?_
  refine lv_iadd hx hb dL_law_664 ?_
  refine va_sld hx hb hX hbl hbA J.2.2.2.2.2.2.2.2 h2 dL_law_665 ?_
  refine w_callC (rest := []) (ts := [xs (x4 + 1).toNatClampNeg, xs (x4 + 2).toNatClampNeg]) C0 hK hap w_o1118 (C_above hc 20 (xs (x4 + 1).toNatClampNeg).toInt (xs (x4 + 2).toNatClampNeg).toInt) J dL_law_666 (Nat.le_of_ble_eq_true rfl) hl.1 hf0 (fun σ1 H1 locs1 hc1 J1 hv1 => ?_)
  refine lv_aload_n hx hb dL_law_669 rfl (lv_at hl 2 rfl) ?_
  refine lv_aload_n hx hb dL_law_670 rfl (lv_at hl 0 rfl) ?_
  refine lv_iload hx hb dL_law_671 (lv_at hl 4 rfl) ?_
  refine lv_iconst (v := 1) hx hb dL_law_673 (by decide) ?_
  refine lv_iadd hx hb dL_law_674 ?_
  refine va_sld hx hb hX hbl hbA J1.2.2.2.2.2.2.2.2 h1 dL_law_675 ?_
  refine lv_aload_n hx hb dL_law_676 rfl (lv_at hl 0 rfl) ?_
  refine lv_iload hx hb dL_law_677 (lv_at hl 4 rfl) ?_
  refine lv_iconst (v := 2) hx hb dL_law_679 (by decide) ?_
  refine lv_iadd hx hb dL_law_680 ?_
  refine va_sld hx hb hX hbl hbA J1.2.2.2.2.2.2.2.2 h2 dL_law_681 ?_
  obtain ⟨τ1, em, hm1, -⟩ := M_above hm 20 (xs (x4 + 1).toNatClampNeg).toInt (xs (x4 + 2).toNatClampNeg).toInt
  refine w_callM (ts := [xs (x4 + 1).toNatClampNeg, xs (x4 + 2).toNatClampNeg]) C0 hK hap w_o1260 em J1 dL_law_682 (Nat.le_of_ble_eq_true rfl) hl.1 hf0 (fun H2 locs2 J2 hv2 => ?_)
  refine lv_icmp_eq (tgt := 1336) hx hb dL_law_685 (by decide) (fun _ => ?_) (fun hne => absurd rfl hne)
  exact W.widen (k := cells + 1) (n := slots + 6) (Nat.le_succ _) (Nat.le_add_right _ _) (K _ _ _ _ _ _ _ hc1 hm1 J2 hl)
set_option maxHeartbeats 4000000 in
theorem w_case18 (C0 : lw_At p s m meth c b L xs) (hK : va_K (dC, dI) vwCl (z_tys dA) s) (hap : w_ap adC adM qo) (h1 : vp_in (x4 + 1) L) (h2 : vp_in (x4 + 2) L) (h3 : vp_in (x4 + 3) L) (h4 : vp_in (x4 + 4) L) (hfit : cells + 1 ≤ room_1.cells ∧ slots + 6 ≤ room_1.slots) (hc : c_inv σ X) (hm : m_inv τ X) (J : w_J s dC dI dA dL adC adM qo σ τ f H locs) (hl : lv_has ls 7 [(0, .ref b), (1, .ref (adC 0)), (2, .ref (adM 0)), (3, .ref qo), (4, .int x4)])
    (K : w_K p l e s m below meth c dC dI dA dL adC adM qo b x4 Q cells slots) : W p l e room_1 s m #[.ref b] below meth c H locs cells slots Q (F0 m 690 ls []) := by
  obtain ⟨hx, hb, hr, hml, hown, hts, hX, hbl, hlocks, hgv⟩ := id C0
  have hbA : ¬ (fun q : Nat => s.heap.size ≤ q) b := Nat.not_le.mpr hbl
  have hf0 : cells ≤ room_1.cells ∧ slots ≤ room_1.slots := ⟨by omega, by omega⟩
  refine lv_aload_n hx hb dL_law_690 rfl (lv_at hl 1 rfl) ?_
  refine lv_aload_n hx hb dL_law_691 rfl (lv_at hl 0 rfl) ?_
  refine lv_iload hx hb dL_law_692 (lv_at hl 4 rfl) ?_
  refine lv_iconst (v := 1) hx hb dL_law_694 (by decide) ?_
  refine lv_iadd hx hb dL_law_695 ?_
  refine va_sld hx hb hX hbl hbA J.2.2.2.2.2.2.2.2 h1 dL_law_696 ?_
  refine w_callC (rest := []) (ts := [xs (x4 + 1).toNatClampNeg]) C0 hK hap w_o1119 (C_line hc 20 (xs (x4 + 1).toNatClampNeg).toInt) J dL_law_697 (Nat.le_of_ble_eq_true rfl) hl.1 hf0 (fun σ1 H1 locs1 hc1 J1 hv1 => ?_)
  refine lv_aload_n hx hb dL_law_700 rfl (lv_at hl 2 rfl) ?_
  refine lv_aload_n hx hb dL_law_701 rfl (lv_at hl 0 rfl) ?_
  refine lv_iload hx hb dL_law_702 (lv_at hl 4 rfl) ?_
  refine lv_iconst (v := 1) hx hb dL_law_704 (by decide) ?_
  refine lv_iadd hx hb dL_law_705 ?_
  refine va_sld hx hb hX hbl hbA J1.2.2.2.2.2.2.2.2 h1 dL_law_706 ?_
  obtain ⟨τ1, em, hm1, -⟩ := M_line hm 20 (xs (x4 + 1).toNatClampNeg).toInt
  refine w_callM (ts := [xs (x4 + 1).toNatClampNeg]) C0 hK hap w_o1263 em J1 dL_law_707 (Nat.le_of_ble_eq_true rfl) hl.1 hf0 (fun H2 locs2 J2 hv2 => ?_)
  refine lv_icmp_eq (tgt := 1336) hx hb dL_law_710 (by decide) (fun _ => ?_) (fun hne => absurd rfl hne)
  exact W.widen (k := cells + 1) (n := slots + 6) (Nat.le_succ _) (Nat.le_add_right _ _) (K _ _ _ _ _ _ _ hc1 hm1 J2 hl)
set_option maxHeartbeats 4000000 in
theorem w_case19 (C0 : lw_At p s m meth c b L xs) (hK : va_K (dC, dI) vwCl (z_tys dA) s) (hap : w_ap adC adM qo) (h1 : vp_in (x4 + 1) L) (h2 : vp_in (x4 + 2) L) (h3 : vp_in (x4 + 3) L) (h4 : vp_in (x4 + 4) L) (hfit : cells + 1 ≤ room_1.cells ∧ slots + 6 ≤ room_1.slots) (hc : c_inv σ X) (hm : m_inv τ X) (J : w_J s dC dI dA dL adC adM qo σ τ f H locs) (hl : lv_has ls 7 [(0, .ref b), (1, .ref (adC 0)), (2, .ref (adM 0)), (3, .ref qo), (4, .int x4)])
    (K : w_K p l e s m below meth c dC dI dA dL adC adM qo b x4 Q cells slots) : W p l e room_1 s m #[.ref b] below meth c H locs cells slots Q (F0 m 715 ls []) := by
  obtain ⟨hx, hb, hr, hml, hown, hts, hX, hbl, hlocks, hgv⟩ := id C0
  have hbA : ¬ (fun q : Nat => s.heap.size ≤ q) b := Nat.not_le.mpr hbl
  have hf0 : cells ≤ room_1.cells ∧ slots ≤ room_1.slots := ⟨by omega, by omega⟩
  refine lv_aload_n hx hb dL_law_715 rfl (lv_at hl 1 rfl) ?_
  refine lv_aload_n hx hb dL_law_716 rfl (lv_at hl 0 rfl) ?_
  refine lv_iload hx hb dL_law_717 (lv_at hl 4 rfl) ?_
  refine lv_iconst (v := 1) hx hb dL_law_719 (by decide) ?_
  refine lv_iadd hx hb dL_law_720 ?_
  refine va_sld hx hb hX hbl hbA J.2.2.2.2.2.2.2.2 h1 dL_law_721 ?_
  refine w_callC (rest := []) (ts := [xs (x4 + 1).toNatClampNeg]) C0 hK hap w_o1120 (C_bends hc 20 (xs (x4 + 1).toNatClampNeg).toInt) J dL_law_722 (Nat.le_of_ble_eq_true rfl) hl.1 hf0 (fun σ1 H1 locs1 hc1 J1 hv1 => ?_)
  refine lv_aload_n hx hb dL_law_725 rfl (lv_at hl 2 rfl) ?_
  refine lv_aload_n hx hb dL_law_726 rfl (lv_at hl 0 rfl) ?_
  refine lv_iload hx hb dL_law_727 (lv_at hl 4 rfl) ?_
  refine lv_iconst (v := 1) hx hb dL_law_729 (by decide) ?_
  refine lv_iadd hx hb dL_law_730 ?_
  refine va_sld hx hb hX hbl hbA J1.2.2.2.2.2.2.2.2 h1 dL_law_731 ?_
  obtain ⟨τ1, em, hm1, -⟩ := M_bends hm 20 (xs (x4 + 1).toNatClampNeg).toInt
  refine w_callM (ts := [xs (x4 + 1).toNatClampNeg]) C0 hK hap w_o1264 em J1 dL_law_732 (Nat.le_of_ble_eq_true rfl) hl.1 hf0 (fun H2 locs2 J2 hv2 => ?_)
  refine lv_icmp_eq (tgt := 1336) hx hb dL_law_735 (by decide) (fun _ => ?_) (fun hne => absurd rfl hne)
  exact W.widen (k := cells + 1) (n := slots + 6) (Nat.le_succ _) (Nat.le_add_right _ _) (K _ _ _ _ _ _ _ hc1 hm1 J2 hl)
set_option maxHeartbeats 4000000 in
theorem w_case20 (C0 : lw_At p s m meth c b L xs) (hK : va_K (dC, dI) vwCl (z_tys dA) s) (hap : w_ap adC adM qo) (h1 : vp_in (x4 + 1) L) (h2 : vp_in (x4 + 2) L) (h3 : vp_in (x4 + 3) L) (h4 : vp_in (x4 + 4) L) (hfit : cells + 1 ≤ room_1.cells ∧ slots + 6 ≤ room_1.slots) (hc : c_inv σ X) (hm : m_inv τ X) (J : w_J s dC dI dA dL adC adM qo σ τ f H locs) (hl : lv_has ls 7 [(0, .ref b), (1, .ref (adC 0)), (2, .ref (adM 0)), (3, .ref qo), (4, .int x4)])
    (K : w_K p l e s m below meth c dC dI dA dL adC adM qo b x4 Q cells slots) : W p l e room_1 s m #[.ref b] below meth c H locs cells slots Q (F0 m 740 ls []) := by
  obtain ⟨hx, hb, hr, hml, hown, hts, hX, hbl, hlocks, hgv⟩ := id C0
  have hbA : ¬ (fun q : Nat => s.heap.size ≤ q) b := Nat.not_le.mpr hbl
  have hf0 : cells ≤ room_1.cells ∧ slots ≤ room_1.slots := ⟨by omega, by omega⟩
  refine lv_aload_n hx hb dL_law_740 rfl (lv_at hl 1 rfl) ?_
  refine lv_aload_n hx hb dL_law_741 rfl (lv_at hl 0 rfl) ?_
  refine lv_iload hx hb dL_law_742 (lv_at hl 4 rfl) ?_
  refine lv_iconst (v := 1) hx hb dL_law_744 (by decide) ?_
  refine lv_iadd hx hb dL_law_745 ?_
  refine va_sld hx hb hX hbl hbA J.2.2.2.2.2.2.2.2 h1 dL_law_746 ?_
  refine w_callC (rest := []) (ts := [xs (x4 + 1).toNatClampNeg]) C0 hK hap w_o1121 (C_climb hc 20 (xs (x4 + 1).toNatClampNeg).toInt) J dL_law_747 (Nat.le_of_ble_eq_true rfl) hl.1 hf0 (fun σ1 H1 locs1 hc1 J1 hv1 => ?_)
  refine lv_aload_n hx hb dL_law_750 rfl (lv_at hl 2 rfl) ?_
  refine lv_aload_n hx hb dL_law_751 rfl (lv_at hl 0 rfl) ?_
  refine lv_iload hx hb dL_law_752 (lv_at hl 4 rfl) ?_
  refine lv_iconst (v := 1) hx hb dL_law_754 (by decide) ?_
  refine lv_iadd hx hb dL_law_755 ?_
  refine va_sld hx hb hX hbl hbA J1.2.2.2.2.2.2.2.2 h1 dL_law_756 ?_
  obtain ⟨τ1, em, hm1, -⟩ := M_climb hm 20 (xs (x4 + 1).toNatClampNeg).toInt
  refine w_callM (ts := [xs (x4 + 1).toNatClampNeg]) C0 hK hap w_o1266 em J1 dL_law_757 (Nat.le_of_ble_eq_true rfl) hl.1 hf0 (fun H2 locs2 J2 hv2 => ?_)
  refine lv_icmp_eq (tgt := 1336) hx hb dL_law_760 (by decide) (fun _ => ?_) (fun hne => absurd rfl hne)
  exact W.widen (k := cells + 1) (n := slots + 6) (Nat.le_succ _) (Nat.le_add_right _ _) (K _ _ _ _ _ _ _ hc1 hm1 J2 hl)
set_option maxHeartbeats 4000000 in
theorem w_case21 (C0 : lw_At p s m meth c b L xs) (hK : va_K (dC, dI) vwCl (z_tys dA) s) (hap : w_ap adC adM qo) (h1 : vp_in (x4 + 1) L) (h2 : vp_in (x4 + 2) L) (h3 : vp_in (x4 + 3) L) (h4 : vp_in (x4 + 4) L) (hfit : cells + 1 ≤ room_1.cells ∧ slots + 6 ≤ room_1.slots) (hc : c_inv σ X) (hm : m_inv τ X) (J : w_J s dC dI dA dL adC adM qo σ τ f H locs) (hl : lv_has ls 7 [(0, .ref b), (1, .ref (adC 0)), (2, .ref (adM 0)), (3, .ref qo), (4, .int x4)])
    (K : w_K p l e s m below meth c dC dI dA dL adC adM qo b x4 Q cells slots) : W p l e room_1 s m #[.ref b] below meth c H locs cells slots Q (F0 m 765 ls []) := by
  obtain ⟨hx, hb, hr, hml, hown, hts, hX, hbl, hlocks, hgv⟩ := id C0
  have hbA : ¬ (fun q : Nat => s.heap.size ≤ q) b := Nat.not_le.mpr hbl
  have hf0 : cells ≤ room_1.cells ∧ slots ≤ room_1.slots := ⟨by omega, by omega⟩
  refine lv_aload_n hx hb dL_law_765 rfl (lv_at hl 1 rfl) ?_
  refine lv_aload_n hx hb dL_law_766 rfl (lv_at hl 0 rfl) ?_
  refine lv_iload hx hb dL_law_767 (lv_at hl 4 rfl) ?_
  refine lv_iconst (v := 1) hx hb dL_law_769 (by decide) ?_
  refine lv_iadd hx hb dL_law_770 ?_
  refine va_sld hx hb hX hbl hbA J.2.2.2.2.2.2.2.2 h1 dL_law_771 ?_
  refine w_callC (rest := []) (ts := [xs (x4 + 1).toNatClampNeg]) C0 hK hap w_o1122 (C_gap hc 20 (xs (x4 + 1).toNatClampNeg).toInt) J dL_law_772 (Nat.le_of_ble_eq_true rfl) hl.1 hf0 (fun σ1 H1 locs1 hc1 J1 hv1 => ?_)
  refine lv_aload_n hx hb dL_law_775 rfl (lv_at hl 2 rfl) ?_
  refine lv_aload_n hx hb dL_law_776 rfl (lv_at hl 0 rfl) ?_
  refine lv_iload hx hb dL_law_777 (lv_at hl 4 rfl) ?_
  refine lv_iconst (v := 1) hx hb dL_law_779 (by decide) ?_
  refine lv_iadd hx hb dL_law_780 ?_
  refine va_sld hx hb hX hbl hbA J1.2.2.2.2.2.2.2.2 h1 dL_law_781 ?_
  obtain ⟨τ1, em, hm1, -⟩ := M_gap hm 20 (xs (x4 + 1).toNatClampNeg).toInt
  refine w_callM (ts := [xs (x4 + 1).toNatClampNeg]) C0 hK hap w_o1267 em J1 dL_law_782 (Nat.le_of_ble_eq_true rfl) hl.1 hf0 (fun H2 locs2 J2 hv2 => ?_)
  refine lv_icmp_eq (tgt := 1336) hx hb dL_law_785 (by decide) (fun _ => ?_) (fun hne => absurd rfl hne)
  exact W.widen (k := cells + 1) (n := slots + 6) (Nat.le_succ _) (Nat.le_add_right _ _) (K _ _ _ _ _ _ _ hc1 hm1 J2 hl)
set_option maxHeartbeats 4000000 in
theorem w_case22 (C0 : lw_At p s m meth c b L xs) (hK : va_K (dC, dI) vwCl (z_tys dA) s) (hap : w_ap adC adM qo) (h1 : vp_in (x4 + 1) L) (h2 : vp_in (x4 + 2) L) (h3 : vp_in (x4 + 3) L) (h4 : vp_in (x4 + 4) L) (hfit : cells + 1 ≤ room_1.cells ∧ slots + 6 ≤ room_1.slots) (hc : c_inv σ X) (hm : m_inv τ X) (J : w_J s dC dI dA dL adC adM qo σ τ f H locs) (hl : lv_has ls 7 [(0, .ref b), (1, .ref (adC 0)), (2, .ref (adM 0)), (3, .ref qo), (4, .int x4)])
    (K : w_K p l e s m below meth c dC dI dA dL adC adM qo b x4 Q cells slots) : W p l e room_1 s m #[.ref b] below meth c H locs cells slots Q (F0 m 790 ls []) := by
  obtain ⟨hx, hb, hr, hml, hown, hts, hX, hbl, hlocks, hgv⟩ := id C0
  have hbA : ¬ (fun q : Nat => s.heap.size ≤ q) b := Nat.not_le.mpr hbl
  have hf0 : cells ≤ room_1.cells ∧ slots ≤ room_1.slots := ⟨by omega, by omega⟩
  refine lv_aload_n hx hb dL_law_790 rfl (lv_at hl 1 rfl) ?_
  refine lv_aload_n hx hb dL_law_791 rfl (lv_at hl 0 rfl) ?_
  refine lv_iload hx hb dL_law_792 (lv_at hl 4 rfl) ?_
  refine lv_iconst (v := 1) hx hb dL_law_794 (by decide) ?_
  refine lv_iadd hx hb dL_law_795 ?_
  refine va_sld hx hb hX hbl hbA J.2.2.2.2.2.2.2.2 h1 dL_law_796 ?_
  refine w_callC (rest := []) (ts := [xs (x4 + 1).toNatClampNeg]) C0 hK hap w_o1123 (C_times hc 20 (xs (x4 + 1).toNatClampNeg).toInt) J dL_law_797 (Nat.le_of_ble_eq_true rfl) hl.1 hf0 (fun σ1 H1 locs1 hc1 J1 hv1 => ?_)
  refine lv_aload_n hx hb dL_law_800 rfl (lv_at hl 2 rfl) ?_
  refine lv_aload_n hx hb dL_law_801 rfl (lv_at hl 0 rfl) ?_
  refine lv_iload hx hb dL_law_802 (lv_at hl 4 rfl) ?_
  refine lv_iconst (v := 1) hx hb dL_law_804 (by decide) ?_
  refine lv_iadd hx hb dL_law_805 ?_
  refine va_sld hx hb hX hbl hbA J1.2.2.2.2.2.2.2.2 h1 dL_law_806 ?_
  obtain ⟨τ1, em, hm1, -⟩ := M_times hm 20 (xs (x4 + 1).toNatClampNeg).toInt
  refine w_callM (ts := [xs (x4 + 1).toNatClampNeg]) C0 hK hap w_o1268 em J1 dL_law_807 (Nat.le_of_ble_eq_true rfl) hl.1 hf0 (fun H2 locs2 J2 hv2 => ?_)
  refine lv_icmp_eq (tgt := 1336) hx hb dL_law_810 (by decide) (fun _ => ?_) (fun hne => absurd rfl hne)
  exact W.widen (k := cells + 1) (n := slots + 6) (Nat.le_succ _) (Nat.le_add_right _ _) (K _ _ _ _ _ _ _ hc1 hm1 J2 hl)
set_option maxHeartbeats 4000000 in
theorem w_case23 (C0 : lw_At p s m meth c b L xs) (hK : va_K (dC, dI) vwCl (z_tys dA) s) (hap : w_ap adC adM qo) (h1 : vp_in (x4 + 1) L) (h2 : vp_in (x4 + 2) L) (h3 : vp_in (x4 + 3) L) (h4 : vp_in (x4 + 4) L) (hfit : cells + 1 ≤ room_1.cells ∧ slots + 6 ≤ room_1.slots) (hc : c_inv σ X) (hm : m_inv τ X) (J : w_J s dC dI dA dL adC adM qo σ τ f H locs) (hl : lv_has ls 7 [(0, .ref b), (1, .ref (adC 0)), (2, .ref (adM 0)), (3, .ref qo), (4, .int x4)])
    (K : w_K p l e s m below meth c dC dI dA dL adC adM qo b x4 Q cells slots) : W p l e room_1 s m #[.ref b] below meth c H locs cells slots Q (F0 m 815 ls []) := by
  obtain ⟨hx, hb, hr, hml, hown, hts, hX, hbl, hlocks, hgv⟩ := id C0
  have hbA : ¬ (fun q : Nat => s.heap.size ≤ q) b := Nat.not_le.mpr hbl
  have hf0 : cells ≤ room_1.cells ∧ slots ≤ room_1.slots := ⟨by omega, by omega⟩
  refine lv_aload_n hx hb dL_law_815 rfl (lv_at hl 1 rfl) ?_
  refine lv_aload_n hx hb dL_law_816 rfl (lv_at hl 0 rfl) ?_
  refine lv_iload hx hb dL_law_817 (lv_at hl 4 rfl) ?_
  refine lv_iconst (v := 1) hx hb dL_law_819 (by decide) ?_
  refine lv_iadd hx hb dL_law_820 ?_
  refine va_sld hx hb hX hbl hbA J.2.2.2.2.2.2.2.2 h1 dL_law_821 ?_
  refine w_callC (rest := []) (ts := [xs (x4 + 1).toNatClampNeg]) C0 hK hap w_o1124 (C_answers hc 20 (xs (x4 + 1).toNatClampNeg).toInt) J dL_law_822 (Nat.le_of_ble_eq_true rfl) hl.1 hf0 (fun σ1 H1 locs1 hc1 J1 hv1 => ?_)
  refine lv_aload_n hx hb dL_law_825 rfl (lv_at hl 2 rfl) ?_
  refine lv_aload_n hx hb dL_law_826 rfl (lv_at hl 0 rfl) ?_
  refine lv_iload hx hb dL_law_827 (lv_at hl 4 rfl) ?_
  refine lv_iconst (v := 1) hx hb dL_law_829 (by decide) ?_
  refine lv_iadd hx hb dL_law_830 ?_
  refine va_sld hx hb hX hbl hbA J1.2.2.2.2.2.2.2.2 h1 dL_law_831 ?_
  obtain ⟨τ1, em, hm1, -⟩ := M_answers hm 20 (xs (x4 + 1).toNatClampNeg).toInt
  refine w_callM (ts := [xs (x4 + 1).toNatClampNeg]) C0 hK hap w_o1270 em J1 dL_law_832 (Nat.le_of_ble_eq_true rfl) hl.1 hf0 (fun H2 locs2 J2 hv2 => ?_)
  refine lv_icmp_eq (tgt := 1336) hx hb dL_law_835 (by decide) (fun _ => ?_) (fun hne => absurd rfl hne)
  exact W.widen (k := cells + 1) (n := slots + 6) (Nat.le_succ _) (Nat.le_add_right _ _) (K _ _ _ _ _ _ _ hc1 hm1 J2 hl)
end
