/-! The law calls its own of and row. -/
section
variable {p : Program} {l : Launch} {e : Env} {s : State} {m : MethodId} {below : List Frame} {meth : Method} {c : Code} {dC : Nat → ClassId} {dI : Nat → Nat → Nat} {dA : Nat → ClassId} {dL : ClassId} {adC adM : Nat → Nat} {qo : Nat} {σ τ X : z_S} {f : Nat → Int64} {H : Heap} {locs : List Loc} {b L : Nat} {xs : Nat → Int32} {Q : State → Prop} {arr : Array Slot} {cells slots : Nat} {rest : List Value}
theorem w_iRL : Jvm.Cond.initialized RL ∈ z_tw := z_has_mem (p := 83) (by decide +kernel)
/-- apartness speaks of addresses alone -/
theorem w_Dany {A : Nat → Prop} {hc : z_C} {ad : Nat → Nat} {hd : z_H} {σ' : z_S} (h : va_D A (z_wd dA hc ad hd σ)) : va_D A (z_wd dA hc ad hd σ') := by
  have g : ∀ (k : Nat) (q : Nat × va_E), (z_wd dA hc ad hd σ')[k]? = some q → ∃ x, (z_wd dA hc ad hd σ)[k]? = some (q.1, x) := fun k q hq => by
    have hk : k < hd.length := by rw [← z_wd_len (dA := dA) (hc := hc) (ad := ad) (hd := hd) (σ := σ')]; exact (List.getElem?_eq_some_iff.mp hq).1
    rw [z_wd_get (List.getElem?_eq_getElem hk)] at hq
    cases hq
    exact ⟨_, z_wd_get (List.getElem?_eq_getElem hk)⟩
  refine ⟨fun i j a b ha hb hab => ?_, fun k q hq => ?_⟩
  · obtain ⟨x, hx⟩ := g i a ha
    obtain ⟨y, hy⟩ := g j b hb
    exact h.1 i j (a.1, x) (b.1, y) hx hy hab
  · obtain ⟨x, hx⟩ := g k q hq
    exact h.2 k (q.1, x) hx
theorem w_st_of : Jvm.Cond.static yL_of ∈ z_tw := z_has_mem (p := 1241) (by decide +kernel)
theorem w_np_of : (parseMethodDescriptor yL_of.desc).map (fun d => d.parameters.length) = some 4 := by decide +kernel
theorem w_cs_of {s : State} {args : Array Value} {mc ms : Nat} (h : mc ≤ 1) (hts : ∀ w ∈ z_tw, w.before args s = true) : vx_CSW room_1 s args RL 170 yL_of cL_of 5 (some .int) [(0, 10, 13, 13)] (.codeWith yL_of cL_of 5 (some .int) [(0, 10, 13, 13)] :: z_tw) ({ frames := 50, cells := mc, slots := ms, locals := 3000 } : Room) mc ms 4 := by
  have hG : GoodIn z_tw (.codeWith yL_of cL_of 5 (some .int) [(0, 10, 13, 13)] :: z_tw) := z_goodIn _ (fun w hw => by
    rcases List.mem_cons.mp hw with rfl | hw
    · exact w_we
    · exact hw)
  refine ⟨⟨rfl, rfl, Nat.le_of_ble_eq_true rfl, Nat.le_of_ble_eq_true rfl, pay_in hts hG, List.mem_cons_self⟩, hts _ w_we, hts _ w_iRL, ⟨by decide, by decide⟩, fun sig h => ?_, hts _ w_wc, hts _ w_st_of⟩
  have h2 := w_np_of
  rw [h] at h2
  exact (Option.some.inj h2).symm
set_option maxHeartbeats 4000000 in
theorem w_call_of {pc : Nat} (C0 : lw_At p s m meth c b L xs) (hK5 : va_K (dC, dI) vwCl (z_tys dA ++ [(dL, .long)]) s) (hfl : l.stackTraces = false) (hbad : w_bad s) (hU : vx_Zq Bundle.tN "UNASSIGNED_STACK" Bundle.steD (fun q => s.heap.size ≤ q) s s.heap) (hN : vx_Zq Bundle.tN "SUPPRESSED_SENTINEL" Bundle.listD (fun q => s.heap.size ≤ q) s s.heap)
    (hap : w_ap adC adM qo) (hc : c_inv σ X) (J : w_J s dC dI dA dL adC adM qo σ τ f H locs) {p0 p1 : Int32} (hdg : decode code pc = .ok (.invokestatic 170, 3)) (hcats : (rest.map fun v => v.category).sum ≤ 8) (hsize : arr.size = 7) (hfit : cells + 1 ≤ room_1.cells ∧ slots + 6 ≤ room_1.slots)
    (k0 : (0 ≤ p0.toInt ∧ p0.toInt < X 0 0) ∧ 0 ≤ p1.toInt ∧ p1.toInt ≤ 5 → ∀ (σ' : z_S) (H1 : Heap) (locs1 : List Loc), c_inv σ' X → w_J s dC dI dA dL adC adM qo σ' τ (vp_updL f 0 (Int32.ofInt (s_of X p0.toInt p1.toInt)).toInt64) H1 locs1 → W p l e room_1 s m #[.ref b] below meth c H1 locs1 cells slots Q (F0 m (pc + 3) arr (.int 0 :: rest)))
    (k1 : ¬ ((0 ≤ p0.toInt ∧ p0.toInt < X 0 0) ∧ 0 ≤ p1.toInt ∧ p1.toInt ≤ 5) → ∀ (H1 : Heap) (locs1 : List Loc), w_J s dC dI dA dL adC adM qo σ τ f H1 locs1 → W p l e room_1 s m #[.ref b] below meth c H1 locs1 (cells + 1) (slots + 6) Q (F0 m (pc + 3) arr (.int 1 :: rest))) :
    W p l e room_1 s m #[.ref b] below meth c H locs cells slots Q (F0 m pc arr (.ref qo :: .int p1 :: .int p0 :: .ref (adC 0) :: rest)) := by
  obtain ⟨hx, hb, hr, hml, hown, hts0, hX, hbl, hlocks, hgv⟩ := id C0
  have hts : ∀ w ∈ z_tw, w.before _ s = true := fun w hw => hts0 w (List.mem_filter.mp hw).1
  obtain ⟨J1, J2, J3, J4, J5, J6, J7, J8, J9⟩ := J
  have hfr : ∀ q, w_frO adC qo H.size q → s.heap.size ≤ q := fun q hq => by
    rcases hq with (⟨j, hj, rfl⟩ | hq) | rfl
    · exact J2.2 j _ (z_wd_get (List.getElem?_eq_getElem hj))
    · exact Nat.le_trans J9.1 hq
    · exact J8
  have hPre : ∀ U : State, U.heap = H → s.WarmedH U.vm → w_PO dC dI dA dL adC qo H.size σ f [.ref (adC 0), .int p0, .int p1, .ref qo] ([.ref (adC 0), .int p0, .int p1, .ref qo] : List Value).toArray U := fun U hU9 hW => ⟨rfl, by rw [hU9], by rw [hU9]; exact J1, va_K.moved hW.alike hK5, J2.weaken (fun _ _ _ _ => trivial), by rw [hU9]; exact J7, w_bad_warm hW hbad, by rw [hU9]; exact ((vx_Zq.moved hW.alike hU).kept J9.2.1).narrow hfr, by rw [hU9]; exact ((vx_Zq.moved hW.alike hN).kept J9.2.1).narrow hfr⟩
  have keepM : ∀ H1 : Heap, (∀ q : Nat, q < H.size → ¬ w_frO adC qo H.size q → H1[q]? = H[q]?) → va_P (dC, dI) vwCl (z_wd dA z_hcM adM z_hdM τ) H1 := fun H1 hk => w_keep J4 (fun j hj => hk _ (w_lt J4 hj) (fun z => by
    rcases z with (⟨i, hi, hq⟩ | hq) | hq
    · exact hap.1 i j hi hj hq
    · have := w_lt J4 hj
      omega
    · exact hap.2.2 j hj hq))
  by_cases hp : (0 ≤ p0.toInt ∧ p0.toInt < X 0 0) ∧ 0 ≤ p1.toInt ∧ p1.toInt ≤ 5
  · obtain ⟨σ', hev, hinv⟩ := C_of hc 20 hp.1 hp.2
    have S' : z_sok z_hcC z_hdC σ' := (z_run_met (l := l) (dC := dC) (dI := dI) (dA := dA) (fun h => by cases h) hev (by decide +kernel) w_hokC J3 (fun v hv => by
      rcases List.mem_cons.mp hv with rfl | hv
      · exact ⟨by omega, by decide⟩
      · exact w_argsok [p0, p1] v hv)).1.2.2.1
    refine vx_calli (vx_runSX (As := [.ref (adC 0), .int p0, .int p1, .ref qo]) (rest := rest) ⟨hx, hb, hml, hown, hts⟩ (w_Lof_ret (dC := dC) (dI := dI) (dA := dA) (dL := dL) (sz := H.size) (f := f) hap.2.1 J3 hev) (w_cs_of (Nat.zero_le _) hts) ⟨w_PO_blind, hPre⟩ rfl rfl hsize rfl (lv_room hcats) hdg ⟨by omega, by omega⟩) J9 (fun q _ h => hfr q h) (fun q h => hfr q h) (fun q _ h => h.elim)
      (fun E ce q9 u t H1 locs1 _ _ h => h.elim) (fun r u t H1 locs1 ht hvm hpost hB hz hk hS1 => ?_)
    obtain rfl : r = 0 := hpost
    obtain ⟨hB1, hB2⟩ := hB
    rw [ht] at hB1 hB2
    exact k0 hp σ' H1 locs1 hinv ⟨hB1, w_Dany J2, S', keepM H1 hk, J5, J6, hB2, J8, hS1⟩
  · refine vx_calli (vx_runSX (As := [.ref (adC 0), .int p0, .int p1, .ref qo]) (rest := rest) ⟨hx, hb, hml, hown, hts⟩ (w_Lof_thr (dC := dC) (dI := dI) (dA := dA) (dL := dL) (sz := H.size) (f := f) hfl hap.2.1 hc J3 hp) (w_cs_of (Nat.le_refl _) hts) ⟨w_PO_blind, hPre⟩ rfl rfl hsize rfl (lv_room hcats) hdg hfit) J9 (fun q _ h => hfr q h) (fun q h => hfr q h) (fun q _ h => h.elim)
      (fun E ce q9 u t H1 locs1 _ _ h => h.elim) (fun r u t H1 locs1 ht hvm hpost hB hz hk hS1 => ?_)
    obtain rfl : r = 1 := hpost
    obtain ⟨hB1, hB2⟩ := hB
    rw [ht] at hB1 hB2
    exact k1 hp H1 locs1 ⟨hB1, J2, J3, keepM H1 hk, J5, J6, hB2, J8, hS1⟩
theorem w_st_row : Jvm.Cond.static yL_row ∈ z_tw := z_has_mem (p := 1315) (by decide +kernel)
theorem w_np_row : (parseMethodDescriptor yL_row.desc).map (fun d => d.parameters.length) = some 3 := by decide +kernel
theorem w_cs_row {s : State} {args : Array Value} {mc ms : Nat} (h : mc ≤ 1) (hts : ∀ w ∈ z_tw, w.before args s = true) : vx_CSW room_1 s args RL 179 yL_row cL_row 4 (some .int) [(0, 9, 12, 13)] (.codeWith yL_row cL_row 4 (some .int) [(0, 9, 12, 13)] :: z_tw) ({ frames := 50, cells := mc, slots := ms, locals := 3000 } : Room) mc ms 3 := by
  have hG : GoodIn z_tw (.codeWith yL_row cL_row 4 (some .int) [(0, 9, 12, 13)] :: z_tw) := z_goodIn _ (fun w hw => by
    rcases List.mem_cons.mp hw with rfl | hw
    · exact w_wf
    · exact hw)
  refine ⟨⟨rfl, rfl, Nat.le_of_ble_eq_true rfl, Nat.le_of_ble_eq_true rfl, pay_in hts hG, List.mem_cons_self⟩, hts _ w_wf, hts _ w_iRL, ⟨by decide, by decide⟩, fun sig h => ?_, hts _ w_wd', hts _ w_st_row⟩
  have h2 := w_np_row
  rw [h] at h2
  exact (Option.some.inj h2).symm
set_option maxHeartbeats 4000000 in
theorem w_call_row {pc : Nat} (C0 : lw_At p s m meth c b L xs) (hK5 : va_K (dC, dI) vwCl (z_tys dA ++ [(dL, .long)]) s) (hfl : l.stackTraces = false) (hbad : w_bad s) (hU : vx_Zq Bundle.tN "UNASSIGNED_STACK" Bundle.steD (fun q => s.heap.size ≤ q) s s.heap) (hN : vx_Zq Bundle.tN "SUPPRESSED_SENTINEL" Bundle.listD (fun q => s.heap.size ≤ q) s s.heap)
    (hap : w_ap adC adM qo) (hc : c_inv σ X) (J : w_J s dC dI dA dL adC adM qo σ τ f H locs) {p0 : Int32} (hdg : decode code pc = .ok (.invokestatic 179, 3)) (hcats : (rest.map fun v => v.category).sum ≤ 8) (hsize : arr.size = 7) (hfit : cells + 1 ≤ room_1.cells ∧ slots + 6 ≤ room_1.slots)
    (k0 : 0 ≤ p0.toInt ∧ p0.toInt < X 0 6 → ∀ (σ' : z_S) (H1 : Heap) (locs1 : List Loc), c_inv σ' X → w_J s dC dI dA dL adC adM qo σ' τ (vp_updL f 0 (Int32.ofInt (X 19 p0.toInt)).toInt64) H1 locs1 → W p l e room_1 s m #[.ref b] below meth c H1 locs1 cells slots Q (F0 m (pc + 3) arr (.int 0 :: rest)))
    (k1 : ¬ (0 ≤ p0.toInt ∧ p0.toInt < X 0 6) → ∀ (H1 : Heap) (locs1 : List Loc), w_J s dC dI dA dL adC adM qo σ τ f H1 locs1 → W p l e room_1 s m #[.ref b] below meth c H1 locs1 (cells + 1) (slots + 6) Q (F0 m (pc + 3) arr (.int 1 :: rest))) :
    W p l e room_1 s m #[.ref b] below meth c H locs cells slots Q (F0 m pc arr (.ref qo :: .int p0 :: .ref (adC 0) :: rest)) := by
  obtain ⟨hx, hb, hr, hml, hown, hts0, hX, hbl, hlocks, hgv⟩ := id C0
  have hts : ∀ w ∈ z_tw, w.before _ s = true := fun w hw => hts0 w (List.mem_filter.mp hw).1
  obtain ⟨J1, J2, J3, J4, J5, J6, J7, J8, J9⟩ := J
  have hfr : ∀ q, w_frO adC qo H.size q → s.heap.size ≤ q := fun q hq => by
    rcases hq with (⟨j, hj, rfl⟩ | hq) | rfl
    · exact J2.2 j _ (z_wd_get (List.getElem?_eq_getElem hj))
    · exact Nat.le_trans J9.1 hq
    · exact J8
  have hPre : ∀ U : State, U.heap = H → s.WarmedH U.vm → w_PO dC dI dA dL adC qo H.size σ f [.ref (adC 0), .int p0, .ref qo] ([.ref (adC 0), .int p0, .ref qo] : List Value).toArray U := fun U hU9 hW => ⟨rfl, by rw [hU9], by rw [hU9]; exact J1, va_K.moved hW.alike hK5, J2.weaken (fun _ _ _ _ => trivial), by rw [hU9]; exact J7, w_bad_warm hW hbad, by rw [hU9]; exact ((vx_Zq.moved hW.alike hU).kept J9.2.1).narrow hfr, by rw [hU9]; exact ((vx_Zq.moved hW.alike hN).kept J9.2.1).narrow hfr⟩
  have keepM : ∀ H1 : Heap, (∀ q : Nat, q < H.size → ¬ w_frO adC qo H.size q → H1[q]? = H[q]?) → va_P (dC, dI) vwCl (z_wd dA z_hcM adM z_hdM τ) H1 := fun H1 hk => w_keep J4 (fun j hj => hk _ (w_lt J4 hj) (fun z => by
    rcases z with (⟨i, hi, hq⟩ | hq) | hq
    · exact hap.1 i j hi hj hq
    · have := w_lt J4 hj
      omega
    · exact hap.2.2 j hj hq))
  by_cases hp : 0 ≤ p0.toInt ∧ p0.toInt < X 0 6
  · obtain ⟨σ', hev, hinv⟩ := C_row hc 20 hp
    have S' : z_sok z_hcC z_hdC σ' := (z_run_met (l := l) (dC := dC) (dI := dI) (dA := dA) (fun h => by cases h) hev (by decide +kernel) w_hokC J3 (fun v hv => by
      rcases List.mem_cons.mp hv with rfl | hv
      · exact ⟨by omega, by decide⟩
      · exact w_argsok [p0] v hv)).1.2.2.1
    refine vx_calli (vx_runSX (As := [.ref (adC 0), .int p0, .ref qo]) (rest := rest) ⟨hx, hb, hml, hown, hts⟩ (w_Lrow_ret (dC := dC) (dI := dI) (dA := dA) (dL := dL) (sz := H.size) (f := f) hap.2.1 J3 hev) (w_cs_row (Nat.zero_le _) hts) ⟨w_PO_blind, hPre⟩ rfl rfl hsize rfl (lv_room hcats) hdg ⟨by omega, by omega⟩) J9 (fun q _ h => hfr q h) (fun q h => hfr q h) (fun q _ h => h.elim)
      (fun E ce q9 u t H1 locs1 _ _ h => h.elim) (fun r u t H1 locs1 ht hvm hpost hB hz hk hS1 => ?_)
    obtain rfl : r = 0 := hpost
    obtain ⟨hB1, hB2⟩ := hB
    rw [ht] at hB1 hB2
    exact k0 hp σ' H1 locs1 hinv ⟨hB1, w_Dany J2, S', keepM H1 hk, J5, J6, hB2, J8, hS1⟩
  · refine vx_calli (vx_runSX (As := [.ref (adC 0), .int p0, .ref qo]) (rest := rest) ⟨hx, hb, hml, hown, hts⟩ (w_Lrow_thr (dC := dC) (dI := dI) (dA := dA) (dL := dL) (sz := H.size) (f := f) hfl hap.2.1 hc J3 hp) (w_cs_row (Nat.le_refl _) hts) ⟨w_PO_blind, hPre⟩ rfl rfl hsize rfl (lv_room hcats) hdg hfit) J9 (fun q _ h => hfr q h) (fun q h => hfr q h) (fun q _ h => h.elim)
      (fun E ce q9 u t H1 locs1 _ _ h => h.elim) (fun r u t H1 locs1 ht hvm hpost hB hz hk hS1 => ?_)
    obtain rfl : r = 1 := hpost
    obtain ⟨hB1, hB2⟩ := hB
    rw [ht] at hB1 hB2
    exact k1 hp H1 locs1 ⟨hB1, J2, J3, keepM H1 hk, J5, J6, hB2, J8, hS1⟩
end
