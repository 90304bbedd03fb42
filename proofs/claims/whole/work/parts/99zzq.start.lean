/-! The law, from its entry. -/
theorem w_n1 : Jvm.Cond.classLink RL 8 (z_cl 11) ∈ z_tw := List.mem_filter.mpr ⟨by decide +kernel, by decide +kernel⟩
theorem w_n2 (a : Nat) (ha : a < 13) : Jvm.Cond.instantiable (z_cl a) (z_nf a) ∈ z_tw := List.mem_filter.mpr ⟨w_insts a ha, rfl⟩
theorem w_n3 : Jvm.Cond.initialized (z_cl 11) ∈ z_tw := List.mem_filter.mpr ⟨by decide +kernel, by decide +kernel⟩
theorem w_n4 : Jvm.Cond.methodLink RL 19 (z_my 1100) ∈ z_tw := List.mem_filter.mpr ⟨by decide +kernel, by decide +kernel⟩
theorem w_n5 : Jvm.Cond.classLink RL 20 (z_cl 12) ∈ z_tw := List.mem_filter.mpr ⟨by decide +kernel, by decide +kernel⟩
theorem w_n6 : Jvm.Cond.initialized (z_cl 12) ∈ z_tw := List.mem_filter.mpr ⟨by decide +kernel, by decide +kernel⟩
theorem w_n7 : Jvm.Cond.methodLink RL 22 (z_my 1200) ∈ z_tw := List.mem_filter.mpr ⟨by decide +kernel, by decide +kernel⟩
theorem w_sl1 : 1 ≤ z_hdC.length ∧ z_nf 11 ≤ z_sl z_hdC ∧ 1 ≤ z_hdM.length ∧ z_nf 12 ≤ z_sl z_hdM := by decide +kernel
theorem w_sl2 : 0 + z_hdC.length ≤ 601024 ∧ 0 + z_sl z_hdC ≤ 7293034 := by decide +kernel
theorem w_sl3 : 0 + z_hdC.length + z_hdM.length ≤ 601024 ∧ 0 + z_sl z_hdC + z_sl z_hdM ≤ 7293034 := by decide +kernel
theorem w_sl4 : 0 + z_hdC.length + z_hdM.length + 1 ≤ 601024 ∧ 0 + z_sl z_hdC + z_sl z_hdM + 1 ≤ 7293034 := by decide +kernel
theorem w_sl5 : 0 + z_hdC.length + z_hdM.length + 1 + 513 ≤ 601024 ∧ 0 + z_sl z_hdC + z_sl z_hdM + 1 + 6 * 513 ≤ 7293034 := by decide +kernel
set_option maxHeartbeats 4000000 in
/-- YOUR PART: from the entry, for every script of at most 2560 ints, the law comes to its end with true ('hflags': the launch's flags, for a law that throws: no stack traces) -/
theorem whole_start {p : Program} {e : Env} {s : State} {m : MethodId} {below : List Frame} {meth : Method} {c : Code} (l : Launch) (hflags : l.flags = flags0) {b L : Nat} {xs : Nat → Int32} (hL : L ≤ 2560) (C0 : lw_At p s m meth c b L xs) : W p l e room_1 s m #[Value.ref b] below meth c s.heap [] 0 0 (lw_Z below #[Value.ref b] s) (entryFrame m ([Value.ref b] : List Value).toArray 7) := by
  obtain ⟨hx, hb, hr, hml, hown, hts, hX, hbl, hlocks, hgv⟩ := id C0
  have htw : ∀ w ∈ z_tw, w.before #[Value.ref b] s = true := fun w hw => hts w (List.mem_filter.mp hw).1
  obtain ⟨dC, dI, dA, dL0, hK0⟩ := w_known hts
  have hK : va_K (dC, dI) vwCl (z_tys dA) s := hK0.sub [0, 1, 2, 3] rfl
  obtain ⟨hU, hN⟩ := w_Zq hts hgv
  have hl := lv_entry ([.ref b]) (n := 7) (Nat.le_of_ble_eq_true rfl)
  rw [lg_entry_eq]
  generalize (lg_sl ([.ref b]) ++ List.replicate (7 - (lg_sl ([.ref b])).length) Slot.unset).toArray = ls at hl ⊢
  have hl : lv_has ls 7 [(0, .ref b)] := hl
  refine w_make (a := 11) (x := 8) (y := 19) (mm := 1100) (hd := z_hdC) (σ0 := z_sC) (rest := []) hx hb hml hown htw hK (by decide) w_n1 (w_n2 11 (by decide)) w_n3 z_initC (by decide +kernel) (by decide +kernel) (by decide +kernel) (by decide +kernel) w_n4 dL_law_0 dL_law_3 dL_law_4 (Nat.le_of_ble_eq_true rfl) (Nat.le_refl _) hl.1 w_sl1.1 w_sl1.2.1 w_sl2 (Nat.le_of_ble_eq_true rfl) (Nat.le_of_ble_eq_true rfl) (fun adC H1 P1 D1 S1 k1 z1 => ?_)
  rw [w_wdC.1] at P1 D1
  have S1' := (w_wdC (dA := dA) (ad := adC)).2 S1
  refine lv_astore_n (lv' := [(1, .ref (adC 0)), (0, .ref b)]) hx hb dL_law_7 rfl hl (by decide) rfl (fun ls hl => ?_)
  refine w_make (a := 12) (x := 20) (y := 22) (mm := 1200) (hd := z_hdM) (σ0 := z_sM) (rest := []) hx hb hml hown htw hK (by decide) w_n5 (w_n2 12 (by decide)) w_n6 z_initM (by decide +kernel) (by decide +kernel) (by decide +kernel) (by decide +kernel) w_n7 dL_law_8 dL_law_11 dL_law_12 (Nat.le_of_ble_eq_true rfl) z1 hl.1 w_sl1.2.2.1 w_sl1.2.2.2 w_sl3 (Nat.le_of_ble_eq_true rfl) (Nat.le_of_ble_eq_true rfl) (fun adM H2 P2 D2 S2 k2 z2 => ?_)
  rw [w_wdM.1] at P2 D2
  have S2' := (w_wdM (dA := dA) (ad := adM)).2 S2
  refine lv_astore_n (lv' := [(2, .ref (adM 0)), (1, .ref (adC 0)), (0, .ref b)]) hx hb dL_law_15 rfl hl (by decide) rfl (fun ls hl => ?_)
  refine lv_iconst (v := 1) hx hb dL_law_16 (by decide) ?_
  refine va_newa (atype := .long) (ty := .long) (N' := 1) (a0 := (1, .inr (.inl (fun _ => 0)))) (A := fun q => H2.size ≤ q) (ws := []) hx hb (hts _ w_wg) rfl hK (fun k q h => by simp at h) ⟨fun i j p q h => by simp at h, fun k q h => by simp at h⟩ (va_S.rf (H0 := H2)) (fun q h => h) (fun cA => rfl) (by decide) (by decide) (by decide) w_sl4.1 w_sl4.2 dL_law_17 (fun qo dL H3 hK5 P3 D3 S3 => ?_)
  have hq : H2.size ≤ qo := D3.2 0 _ rfl
  have o3 : H3[qo]? = some (vp_cell dL (1, .inr (.inl (fun _ => 0)))) := P3 0 _ rfl
  have f3 : ∀ q : Nat, q < H2.size → H3[q]? = H2[q]? := fun q hq => S3.2.1 q hq (Nat.not_le.mpr hq)
  refine lv_astore_n (lv' := [(3, .ref qo), (2, .ref (adM 0)), (1, .ref (adC 0)), (0, .ref b)]) hx hb dL_law_19 rfl hl (by decide) rfl (fun ls hl => ?_)
  refine lv_iconst (v := 0) hx hb dL_law_20 (by decide) ?_
  refine lv_istore (lv' := [(4, .int 0), (3, .ref qo), (2, .ref (adM 0)), (1, .ref (adC 0)), (0, .ref b)]) hx hb dL_law_21 hl (by decide) rfl (fun ls hl => ?_)
  have aM : ∀ j, j < z_hdM.length → H1.size ≤ adM j := fun j hj => D2.2 j _ (z_wd_get (List.getElem?_eq_getElem hj))
  have hap : w_ap adC adM qo := ⟨fun i j hi hj z => Nat.lt_irrefl _ (Nat.lt_of_lt_of_le (z ▸ w_lt P1 hi) (aM j hj)), fun i hi z => Nat.lt_irrefl _ (Nat.lt_of_lt_of_le (z ▸ w_lt P1 hi) (Nat.le_trans z2 hq)), fun j hj z => Nat.lt_irrefl _ (Nat.lt_of_lt_of_le (z ▸ w_lt P2 hj) hq)⟩
  refine w_loop hL C0 hK5 (w_traces hflags) (w_bad0 hts) hU hN hap 513 0 (Nat.zero_le _) (Nat.lt_of_le_of_lt hL (by decide)) z_X0 z_sC z_sM (fun _ => 0) H3 [] ls _ _ w_sl5.1 w_sl5.2 c_new m_new.1 ⟨?_, D1, S1', w_keep P2 (fun j hj => f3 _ (w_lt P2 hj)), D2.weaken (fun _ q _ h => Nat.le_trans z1 h), S2', o3, Nat.le_trans z1 (Nat.le_trans z2 hq), Nat.le_trans z1 (Nat.le_trans z2 S3.1), fun q h1 h2 => ?_, fun q hq => by cases hq⟩ (lv_sub hl [4, 3, 2, 1, 0] rfl)
  · exact w_keep P1 (fun j hj => by
      have h1 := w_lt P1 hj
      rw [f3 _ (Nat.lt_of_lt_of_le h1 z2), k2 _ h1])
  · rw [f3 q (Nat.lt_of_lt_of_le h1 (Nat.le_trans z1 z2)), k2 q (Nat.lt_of_lt_of_le h1 z1), k1 q h1]
