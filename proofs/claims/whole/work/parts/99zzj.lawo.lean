/-! The law's own of and row. -/
def w_frO (adC : Nat → Nat) (qo sz : Nat) : Nat → Prop := fun q => z_fr adC z_hdC.length sz q ∨ q = qo
def w_out (dL : ClassId) (f : Nat → Int64) : Cell := vp_cell dL (1, .inr (.inl f))
def w_PO (dC : Nat → ClassId) (dI : Nat → Nat → Nat) (dA : Nat → ClassId) (dL : ClassId) (adC : Nat → Nat) (qo sz : Nat) (σ : z_S) (f : Nat → Int64) (as : List Value) : Array Value → State → Prop :=
  va_Pc as (fun U => U.heap.size = sz ∧ va_P (dC, dI) vwCl (z_wd dA z_hcC adC z_hdC σ) U.heap ∧ va_K (dC, dI) vwCl (z_tys dA ++ [(dL, .long)]) U ∧ va_D (fun _ => True) (z_wd dA z_hcC adC z_hdC σ) ∧ U.heap[qo]? = some (w_out dL f) ∧ w_bad U ∧
    vx_Zq Bundle.tN "UNASSIGNED_STACK" Bundle.steD (w_frO adC qo sz) U U.heap ∧ vx_Zq Bundle.tN "SUPPRESSED_SENTINEL" Bundle.listD (w_frO adC qo sz) U U.heap)
theorem w_set {w : va_W} {x y : Nat × va_E} : (w ++ [x]).set w.length y = w ++ [y] := by simp
section
variable {dC : Nat → ClassId} {dI : Nat → Nat → Nat} {dA : Nat → ClassId} {dL : ClassId} {adC : Nat → Nat} {qo sz : Nat} {σ σ' X : z_S} {f : Nat → Int64}
theorem w_in0 : vp_in 0 1 := z_vpin (x := 0) (n := 1) ⟨by omega, by omega⟩ (by omega) (by omega)
theorem w_ty4 : (z_tys dA ++ [(dL, .long)])[4]? = some (dL, FieldType.long) := rfl
theorem w_recvC {H : Heap} {s : State} {C : String} (hC : z_cl 11 = C) (hK : va_K (dC, dI) vwCl (z_tys dA) s) (hP : va_P (dC, dI) vwCl (z_wd dA z_hcC adC z_hdC σ) H) : ∃ cellB : Cell, H[adC 0]? = some cellB ∧ cellB.vm.isStatics = false ∧ s.vm.findClass C = some cellB.cls := by
  have h0 : z_hdC[0]? = some (10 + 11, 10) := rfl
  have he : (z_wd dA z_hcC adC z_hdC σ)[0]? = some (adC 0, .inr (11, (List.range (10 : Int).toNat).map (fun f => z_cv adC (z_fv z_hcC σ ((0 : Nat) + 1) f (z_ft 11 f))))) := by
    rw [z_wd_get h0]
    unfold z_cell
    rw [if_neg (by show ¬ 10 + 11 < 10; omega)]
    rfl
  have h1 := va_recv hK hP (z_vwCl 11 (by decide)) he
  rw [show (z_cl 11, z_T 11, z_nf 11).1 = C from hC] at h1
  exact h1
theorem w_PO_blind {as : List Value} : FrameBlind (w_PO dC dI dA dL adC qo sz σ f as) := by
  intro a U g mk q
  obtain ⟨h1, h2, h3, h4, h5, h9, h6, h7, h8⟩ := q
  exact ⟨h1, h2, h3, va_K.moved (u := U) (U := U.calling g mk a) (Vm.Alike.refl U.vm) h4, h5, h9, w_bad_same (s := U) (U := U.calling g mk a) rfl h6, vx_Zq.moved (u := U) (U := U.calling g mk a) (Vm.Alike.refl U.vm) h7, vx_Zq.moved (u := U) (U := U.calling g mk a) (Vm.Alike.refl U.vm) h8⟩
def w_BR (dC : Nat → ClassId) (dI : Nat → Nat → Nat) (dA : Nat → ClassId) (dL : ClassId) (adC : Nat → Nat) (qo : Nat) (σ : z_S) (f : Nat → Int64) : Unit → State → Prop := fun _ t => va_P (dC, dI) vwCl (z_wd dA z_hcC adC z_hdC σ) t.heap ∧ t.heap[qo]? = some (w_out dL f)
set_option maxHeartbeats 4000000 in
theorem w_Lof_ret {l : Launch} (hap : ∀ i, i < z_hdC.length → adC i ≠ qo) (hso : z_sok z_hcC z_hdC σ) {p0 : Int32} {p1 : Int32} {v : Int} (hev : z_ev z_hcC 40 1137 [z_R 1, z_I p0.toInt, z_I p1.toInt] z_hdC σ = some (z_I v, z_hdC, σ')) :
    vx_Met l yL_of (.codeWith yL_of cL_of 5 (some .int) [(0, 10, 13, 13)] :: z_tw) ({ frames := 50, cells := 0, slots := 0, locals := 3000 } : Room) (w_PO dC dI dA dL adC qo sz σ f [.ref (adC 0), .int p0, .int p1, .ref qo])
      (va_Qi (fun r (_ : Unit) => r = 0) (w_BR dC dI dA dL adC qo σ' (vp_updL f 0 (Int32.ofInt v).toInt64)) (w_frO adC qo sz)) (vx_X (fun _ : Unit => False) (fun _ _ _ => False) (fun _ => False)) 0 0 (w_frO adC qo sz) := by
  refine vx_ofWH (cc := cL_of) (maxL := 5) (ret := some .int) (hh := [(0, 10, 13, 13)]) (by decide +kernel) rfl ?_
  intro p e s m args below meth c s₁ B hml hv
  obtain ⟨rfl, hsz, hP, hK5, hD0, hqo, hbad, hU, hN⟩ := hv
  have hx := B.exec
  have hb : c.code = cL_of := B.bytes
  have hr : meth.sig.returnType = some .int := B.returns
  have hts0 := atoms_spec (ws := (.codeWith yL_of cL_of 5 (some .int) [(0, 10, 13, 13)] :: z_tw)) B.pre
  have hts : ∀ w ∈ z_tw, w.before _ s = true := fun w hw => hts0 w (List.mem_cons_of_mem _ hw)
  have hown : s.vm.findClass RL = some m.cls := findClass_of_methodNamed B.named
  have hlocks := B.notSynchronized
  have hK : va_K (dC, dI) vwCl (z_tys dA) s := hK5.sub [0, 1, 2, 3] rfl
  subst hsz
  have hD : va_D (w_frO adC qo s.heap.size) (z_wd dA z_hcC adC z_hdC σ) := (w_Dself hD0).weaken (fun _ _ _ h => Or.inl h)
  have hS : va_S (w_frO adC qo s.heap.size) s.heap s.heap [] := va_S.rf
  have hl := lv_entry ([.ref (adC 0), .int p0, .int p1, .ref qo]) (n := 5) (Nat.le_of_ble_eq_true rfl)
  show W _ _ _ _ _ _ _ _ _ _ _ _ _ _ _ (entryFrame m ([.ref (adC 0), .int p0, .int p1, .ref qo] : List Value).toArray 5)
  rw [lg_entry_eq]
  generalize (lg_sl ([.ref (adC 0), .int p0, .int p1, .ref qo]) ++ List.replicate (5 - (lg_sl ([.ref (adC 0), .int p0, .int p1, .ref qo])).length) Slot.unset).toArray = ls at hl ⊢
  have hl : lv_has ls 5 [(0, .ref (adC 0)), (1, .int p0), (2, .int p1), (3, .ref qo)] := hl
  refine lv_aload_n hx hb dL_of_0 rfl (lv_at hl 3 rfl) ?_
  refine lv_iconst (v := 0) hx hb dL_of_1 (by decide) ?_
  refine lv_aload_n hx hb dL_of_2 rfl (lv_at hl 0 rfl) ?_
  refine lv_iload_n hx hb dL_of_3 rfl (lv_at hl 1 rfl) ?_
  refine lv_iload_n hx hb dL_of_4 rfl (lv_at hl 2 rfl) ?_
  have e0 : ([z_I p0.toInt, z_I p1.toInt].map (z_cv adC)).reverse ++ .ref (adC 0) :: [Value.int 0, .ref qo] = [Value.int p1, Value.int p0, .ref (adC 0), .int 0, .ref qo] := by
    show [Value.int (Int32.ofInt p1.toInt), Value.int (Int32.ofInt p0.toInt), .ref (adC 0), .int 0, .ref qo] = _
    rw [Int32.ofInt_toInt, Int32.ofInt_toInt]
  rw [← e0]
  refine w_call (rest := [.int 0, .ref qo]) (hc := z_hcC) (hd := z_hdC) (σ := σ) (σ' := σ') (t := [z_I p0.toInt, z_I p1.toInt]) (d := 40) (a := 1137) (b := 11) (n := 10) hx hb hml hown hts hK (Nat.le_of_ble_eq_true rfl) (Nat.le_of_ble_eq_true rfl) (fun h => by cases h) hev (by decide +kernel) (by decide +kernel) (show 2 = z_np 1137 by decide +kernel) (by decide +kernel) (by decide) rfl w_hokC hso (fun v hv => by
    simp only [List.mem_cons, List.not_mem_nil, or_false] at hv
    rcases hv with rfl | rfl
    · exact ⟨Int32.le_toInt _, by have := Int32.toInt_lt p0; omega⟩
    · exact ⟨Int32.le_toInt _, by have := Int32.toInt_lt p1; omega⟩) w_wa dL_of_5 (Nat.le_of_ble_eq_true rfl) hP hD hS (fun q h => Or.inl (Or.inr h)) hl.1 ⟨Nat.zero_le _, Nat.zero_le _⟩ (fun H1 locs1 P1 D1 S1 hv1 hz1 hk1 hS1 => ?_)
  refine lv_i2l (v := (Int32.ofInt v).toInt64) hx hb dL_of_8 rfl ?_
  have q1 : H1[qo]? = some (w_out dL f) := by rw [hk1 qo (Array.getElem?_eq_some_iff.mp hqo).1 hap]; exact hqo
  have P2 : va_P (dC, dI) vwCl (z_wd dA z_hcC adC z_hdC σ' ++ [(qo, .inl (dL, 1, .inr (.inl f)))]) H1 := P1.app (fun k x hx => by
    have hz : k < 1 := (List.getElem?_eq_some_iff.mp hx).1
    rw [show k = 0 by omega] at hx
    cases hx
    exact q1)
  have D2 : va_D (w_frO adC qo s.heap.size) (z_wd dA z_hcC adC z_hdC σ' ++ [(qo, .inl (dL, 1, .inr (.inl f)))]) := va_D.app D1 ⟨fun i j a b ha hb _ => by
      have h1 : i < 1 := (List.getElem?_eq_some_iff.mp ha).1
      have h2 : j < 1 := (List.getElem?_eq_some_iff.mp hb).1
      omega, fun k x hx => by
      have hz : k < 1 := (List.getElem?_eq_some_iff.mp hx).1
      rw [show k = 0 by omega] at hx
      cases hx
      exact Or.inr rfl⟩ (fun i j a b ha hb => by
      have hi : i < z_hdC.length := by rw [← z_wd_len (dA := dA) (hc := z_hcC) (ad := adC) (hd := z_hdC) (σ := σ')]; exact (List.getElem?_eq_some_iff.mp ha).1
      rw [z_wd_get (List.getElem?_eq_getElem hi)] at ha
      have hz : j < 1 := (List.getElem?_eq_some_iff.mp hb).1
      rw [show j = 0 by omega] at hb
      cases ha
      cases hb
      exact hap i hi)
  generalize hw : z_wd dA z_hcC adC z_hdC σ' = w1 at P1 P2 D2 ⊢
  have ha : (w1 ++ [(qo, (.inl (dL, 1, .inr (.inl f)) : va_E))])[w1.length]? = some (qo, .inl (dL, 1, .inr (.inl f))) := by rw [List.getElem?_append_right (Nat.le_refl _), Nat.sub_self]; rfl
  refine va_last hx hb hK5 P2 D2 hS1 w1.length 4 ha w_ty4 (i := 0) w_in0 dL_of_9 (fun H2 locs2 P3 D3 hS3 => ?_)
  rw [w_set] at P3
  refine lv_goto (tgt := 17) hx hb dL_of_10 (by decide) ?_
  refine lv_iconst (v := 0) hx hb dL_of_17 (by decide) ?_
  refine vx_ret (W.iret (v := 0) hx hb hr (fun t ht hW => ⟨⟨0, (), rfl, rfl, ?_, ?_⟩, hS3.F ht⟩) hS3.2.2 dL_of_18)
  · rw [ht, hw]
    exact fun k q hk => P3 k q (by rw [List.getElem?_append_left (List.getElem?_eq_some_iff.mp hk).1]; exact hk)
  · rw [ht]
    exact P3 w1.length (qo, .inl (dL, 1, .inr (.inl (vp_updL f 0 (Int32.ofInt v).toInt64)))) (by rw [List.getElem?_append_right (Nat.le_refl _), Nat.sub_self]; rfl)
set_option maxHeartbeats 4000000 in
theorem w_Lof_thr {l : Launch} (hfl : l.stackTraces = false) (hap : ∀ i, i < z_hdC.length → adC i ≠ qo) (hc : c_inv σ X) (hso : z_sok z_hcC z_hdC σ) {p0 : Int32} {p1 : Int32} (hn : ¬ ((0 ≤ p0.toInt ∧ p0.toInt < X 0 0) ∧ 0 ≤ p1.toInt ∧ p1.toInt ≤ 5)) :
    vx_Met l yL_of (.codeWith yL_of cL_of 5 (some .int) [(0, 10, 13, 13)] :: z_tw) ({ frames := 50, cells := 1, slots := 6, locals := 3000 } : Room) (w_PO dC dI dA dL adC qo sz σ f [.ref (adC 0), .int p0, .int p1, .ref qo])
      (va_Qi (fun r (_ : Unit) => r = 1) (w_BR dC dI dA dL adC qo σ f) (w_frO adC qo sz)) (vx_X (fun _ : Unit => False) (fun _ _ _ => False) (fun _ => False)) 1 6 (w_frO adC qo sz) := by
  refine vx_ofWH (cc := cL_of) (maxL := 5) (ret := some .int) (hh := [(0, 10, 13, 13)]) (by decide +kernel) rfl ?_
  intro p e s m args below meth c s₁ B hml hv
  obtain ⟨rfl, hsz, hP, hK5, hD0, hqo, hbad, hU, hN⟩ := hv
  have hx := B.exec
  have hb : c.code = cL_of := B.bytes
  have hr : meth.sig.returnType = some .int := B.returns
  have hts0 := atoms_spec (ws := (.codeWith yL_of cL_of 5 (some .int) [(0, 10, 13, 13)] :: z_tw)) B.pre
  have hts : ∀ w ∈ z_tw, w.before _ s = true := fun w hw => hts0 w (List.mem_cons_of_mem _ hw)
  have hown : s.vm.findClass RL = some m.cls := findClass_of_methodNamed B.named
  have hlocks := B.notSynchronized
  have hK : va_K (dC, dI) vwCl (z_tys dA) s := hK5.sub [0, 1, 2, 3] rfl
  subst hsz
  have hD : va_D (w_frO adC qo s.heap.size) (z_wd dA z_hcC adC z_hdC σ) := (w_Dself hD0).weaken (fun _ _ _ h => Or.inl h)
  have hS : va_S (w_frO adC qo s.heap.size) s.heap s.heap [] := va_S.rf
  have hl := lv_entry ([.ref (adC 0), .int p0, .int p1, .ref qo]) (n := 5) (Nat.le_of_ble_eq_true rfl)
  show W _ _ _ _ _ _ _ _ _ _ _ _ _ _ _ (entryFrame m ([.ref (adC 0), .int p0, .int p1, .ref qo] : List Value).toArray 5)
  rw [lg_entry_eq]
  generalize (lg_sl ([.ref (adC 0), .int p0, .int p1, .ref qo]) ++ List.replicate (5 - (lg_sl ([.ref (adC 0), .int p0, .int p1, .ref qo])).length) Slot.unset).toArray = ls at hl ⊢
  have hl : lv_has ls 5 [(0, .ref (adC 0)), (1, .int p0), (2, .int p1), (3, .ref qo)] := hl
  refine lv_aload_n hx hb dL_of_0 rfl (lv_at hl 3 rfl) ?_
  refine lv_iconst (v := 0) hx hb dL_of_1 (by decide) ?_
  refine lv_aload_n hx hb dL_of_2 rfl (lv_at hl 0 rfl) ?_
  refine lv_iload_n hx hb dL_of_3 rfl (lv_at hl 1 rfl) ?_
  refine lv_iload_n hx hb dL_of_4 rfl (lv_at hl 2 rfl) ?_
  have ok := z_allok 1137 (by decide +kernel)
  obtain ⟨m1, m2, m3, m4, m5, m6, m7, m8, m9, m10⟩ := z_mchk_of ok
  have hB : CallB ({ frames := 50, cells := 1, slots := 6, locals := 3000 } : Room) s _ RL 7 (z_my 1137) (z_mb 1137) (z_ml 1137) (z_mr 1137) (z_ws 1137) ({ frames := 10, cells := 1, slots := 6, locals := 300 } : Room) 1 6 (z_np 1137) :=
    callB_of (z_np 1137) hts (z_ws_good ok) rfl rfl rfl (hts _ m4) (hts _ w_wa) ⟨m3.1, m3.2, m1⟩ ⟨Nat.le_of_ble_eq_true rfl, by
      have h5 := m5
      show 8 + (z_ml 1137 + 11) + 300 ≤ 3000
      generalize z_ml 1137 = k at h5 ⊢
      omega⟩
  have hrecv := w_recvC (H := s.heap) (C := (z_my 1137).cls) (by decide +kernel) hK hP
  refine vx_calli (vx_runV (C := (z_my 1137).cls) (b := adC 0) (As := [.int p0, .int p1]) (rest := [.int 0, .ref qo]) ⟨hx, hb, hml, hown, hts⟩ (w_Xof (sz := s.heap.size) hfl hc hso hn) ⟨hB, hts _ (m8 (by decide +kernel)), hts _ (m9 (by decide +kernel))⟩ ⟨w_PX_blind, hrecv, fun U hU9 hW => ⟨rfl, by rw [hU9], by rw [hU9]; exact hP, va_K.moved hW.alike hK, hD0, w_bad_warm hW hbad, by rw [hU9]; exact (vx_Zq.moved hW.alike hU).narrow (fun q h => Or.inl h), by rw [hU9]; exact (vx_Zq.moved hW.alike hN).narrow (fun q h => Or.inl h)⟩⟩ rfl (show 2 = z_np 1137 by decide +kernel) hl.1 rfl (lv_room (Nat.le_of_ble_eq_true rfl)) dL_of_5 ⟨Nat.le_of_ble_eq_true rfl, Nat.le_of_ble_eq_true rfl⟩) hS (fun q _ h => Or.inl h) (fun q h => Or.inl h) (fun q _ h => Or.inl h)
    (fun E ce q9 u t H1 locs1 ht hvm _ hBX hz hk hS1 hce hcv hcl => ?_) (fun r u t H1 locs1 _ _ hpost => absurd hpost id)
  obtain ⟨rfl, hP1⟩ := hBX
  rw [ht] at hP1
  have hcw : (Jvm.Cond.codeWith yL_of cL_of 5 (some .int) [(0, 10, 13, 13)]).before _ s = true := hts0 _ List.mem_cons_self
  have htab : c.exceptionTable.toList = [] ++ (⟨0, 10, 13, 13⟩ : ExceptionTableEntry) :: [] := vx_table (x := yL_of) B hcw
  have hcov : covers (⟨0, 10, 13, 13⟩ : ExceptionTableEntry) 5 = true := rfl
  refine vx_catch (pc := 5) (own := RL) (name := w_QX) (E := w_QX) hown [] ⟨0, 10, 13, 13⟩ [] htab (fun z hz => by cases hz) hcov (Nat.succ_ne_zero 12) (hts _ w_w1) (w_bad_use hbad _ w_cast) hce hcv hcl ?_
  refine lv_astore (lv' := [(4, .ref q9), (0, .ref (adC 0)), (1, .int p0), (2, .int p1), (3, .ref qo)]) hx hb dL_of_13 hl (by decide) rfl (fun ls hl => ?_)
  refine lv_iconst (v := 1) hx hb dL_of_15 (by decide) ?_
  refine vx_ret (W.iret (v := 1) hx hb hr (fun t9 ht9 hW => ⟨⟨1, (), rfl, rfl, ?_, ?_⟩, hS1.F ht9⟩) hS1.2.2 dL_of_16)
  · rw [ht9]
    exact hP1
  · rw [ht9, hk qo (Array.getElem?_eq_some_iff.mp hqo).1 (fun z => by
      rcases z with ⟨j, hj, hq⟩ | hq
      · exact hap j hj hq
      · have := (Array.getElem?_eq_some_iff.mp hqo).1
        omega)]
    exact hqo
set_option maxHeartbeats 4000000 in
theorem w_Lrow_ret {l : Launch} (hap : ∀ i, i < z_hdC.length → adC i ≠ qo) (hso : z_sok z_hcC z_hdC σ) {p0 : Int32} {v : Int} (hev : z_ev z_hcC 40 1138 [z_R 1, z_I p0.toInt] z_hdC σ = some (z_I v, z_hdC, σ')) :
    vx_Met l yL_row (.codeWith yL_row cL_row 4 (some .int) [(0, 9, 12, 13)] :: z_tw) ({ frames := 50, cells := 0, slots := 0, locals := 3000 } : Room) (w_PO dC dI dA dL adC qo sz σ f [.ref (adC 0), .int p0, .ref qo])
      (va_Qi (fun r (_ : Unit) => r = 0) (w_BR dC dI dA dL adC qo σ' (vp_updL f 0 (Int32.ofInt v).toInt64)) (w_frO adC qo sz)) (vx_X (fun _ : Unit => False) (fun _ _ _ => False) (fun _ => False)) 0 0 (w_frO adC qo sz) := by
  refine vx_ofWH (cc := cL_row) (maxL := 4) (ret := some .int) (hh := [(0, 9, 12, 13)]) (by decide +kernel) rfl ?_
  intro p e s m args below meth c s₁ B hml hv
  obtain ⟨rfl, hsz, hP, hK5, hD0, hqo, hbad, hU, hN⟩ := hv
  have hx := B.exec
  have hb : c.code = cL_row := B.bytes
  have hr : meth.sig.returnType = some .int := B.returns
  have hts0 := atoms_spec (ws := (.codeWith yL_row cL_row 4 (some .int) [(0, 9, 12, 13)] :: z_tw)) B.pre
  have hts : ∀ w ∈ z_tw, w.before _ s = true := fun w hw => hts0 w (List.mem_cons_of_mem _ hw)
  have hown : s.vm.findClass RL = some m.cls := findClass_of_methodNamed B.named
  have hlocks := B.notSynchronized
  have hK : va_K (dC, dI) vwCl (z_tys dA) s := hK5.sub [0, 1, 2, 3] rfl
  subst hsz
  have hD : va_D (w_frO adC qo s.heap.size) (z_wd dA z_hcC adC z_hdC σ) := (w_Dself hD0).weaken (fun _ _ _ h => Or.inl h)
  have hS : va_S (w_frO adC qo s.heap.size) s.heap s.heap [] := va_S.rf
  have hl := lv_entry ([.ref (adC 0), .int p0, .ref qo]) (n := 4) (Nat.le_of_ble_eq_true rfl)
  show W _ _ _ _ _ _ _ _ _ _ _ _ _ _ _ (entryFrame m ([.ref (adC 0), .int p0, .ref qo] : List Value).toArray 4)
  rw [lg_entry_eq]
  generalize (lg_sl ([.ref (adC 0), .int p0, .ref qo]) ++ List.replicate (4 - (lg_sl ([.ref (adC 0), .int p0, .ref qo])).length) Slot.unset).toArray = ls at hl ⊢
  have hl : lv_has ls 4 [(0, .ref (adC 0)), (1, .int p0), (2, .ref qo)] := hl
  refine lv_aload_n hx hb dL_row_0 rfl (lv_at hl 2 rfl) ?_
  refine lv_iconst (v := 0) hx hb dL_row_1 (by decide) ?_
  refine lv_aload_n hx hb dL_row_2 rfl (lv_at hl 0 rfl) ?_
  refine lv_iload_n hx hb dL_row_3 rfl (lv_at hl 1 rfl) ?_
  have e0 : ([z_I p0.toInt].map (z_cv adC)).reverse ++ .ref (adC 0) :: [Value.int 0, .ref qo] = [Value.int p0, .ref (adC 0), .int 0, .ref qo] := by
    show [Value.int (Int32.ofInt p0.toInt), .ref (adC 0), .int 0, .ref qo] = _
    rw [Int32.ofInt_toInt]
  rw [← e0]
  refine w_call (rest := [.int 0, .ref qo]) (hc := z_hcC) (hd := z_hdC) (σ := σ) (σ' := σ') (t := [z_I p0.toInt]) (d := 40) (a := 1138) (b := 11) (n := 10) hx hb hml hown hts hK (Nat.le_of_ble_eq_true rfl) (Nat.le_of_ble_eq_true rfl) (fun h => by cases h) hev (by decide +kernel) (by decide +kernel) (show 1 = z_np 1138 by decide +kernel) (by decide +kernel) (by decide) rfl w_hokC hso (fun v hv => by
    rw [List.mem_singleton] at hv
    subst hv
    exact ⟨Int32.le_toInt _, by have := Int32.toInt_lt p0; omega⟩) w_wb dL_row_4 (Nat.le_of_ble_eq_true rfl) hP hD hS (fun q h => Or.inl (Or.inr h)) hl.1 ⟨Nat.zero_le _, Nat.zero_le _⟩ (fun H1 locs1 P1 D1 S1 hv1 hz1 hk1 hS1 => ?_)
  refine lv_i2l (v := (Int32.ofInt v).toInt64) hx hb dL_row_7 rfl ?_
  have q1 : H1[qo]? = some (w_out dL f) := by rw [hk1 qo (Array.getElem?_eq_some_iff.mp hqo).1 hap]; exact hqo
  have P2 : va_P (dC, dI) vwCl (z_wd dA z_hcC adC z_hdC σ' ++ [(qo, .inl (dL, 1, .inr (.inl f)))]) H1 := P1.app (fun k x hx => by
    have hz : k < 1 := (List.getElem?_eq_some_iff.mp hx).1
    rw [show k = 0 by omega] at hx
    cases hx
    exact q1)
  have D2 : va_D (w_frO adC qo s.heap.size) (z_wd dA z_hcC adC z_hdC σ' ++ [(qo, .inl (dL, 1, .inr (.inl f)))]) := va_D.app D1 ⟨fun i j a b ha hb _ => by
      have h1 : i < 1 := (List.getElem?_eq_some_iff.mp ha).1
      have h2 : j < 1 := (List.getElem?_eq_some_iff.mp hb).1
      omega, fun k x hx => by
      have hz : k < 1 := (List.getElem?_eq_some_iff.mp hx).1
      rw [show k = 0 by omega] at hx
      cases hx
      exact Or.inr rfl⟩ (fun i j a b ha hb => by
      have hi : i < z_hdC.length := by rw [← z_wd_len (dA := dA) (hc := z_hcC) (ad := adC) (hd := z_hdC) (σ := σ')]; exact (List.getElem?_eq_some_iff.mp ha).1
      rw [z_wd_get (List.getElem?_eq_getElem hi)] at ha
      have hz : j < 1 := (List.getElem?_eq_some_iff.mp hb).1
      rw [show j = 0 by omega] at hb
      cases ha
      cases hb
      exact hap i hi)
  generalize hw : z_wd dA z_hcC adC z_hdC σ' = w1 at P1 P2 D2 ⊢
  have ha : (w1 ++ [(qo, (.inl (dL, 1, .inr (.inl f)) : va_E))])[w1.length]? = some (qo, .inl (dL, 1, .inr (.inl f))) := by rw [List.getElem?_append_right (Nat.le_refl _), Nat.sub_self]; rfl
  refine va_last hx hb hK5 P2 D2 hS1 w1.length 4 ha w_ty4 (i := 0) w_in0 dL_row_8 (fun H2 locs2 P3 D3 hS3 => ?_)
  rw [w_set] at P3
  refine lv_goto (tgt := 15) hx hb dL_row_9 (by decide) ?_
  refine lv_iconst (v := 0) hx hb dL_row_15 (by decide) ?_
  refine vx_ret (W.iret (v := 0) hx hb hr (fun t ht hW => ⟨⟨0, (), rfl, rfl, ?_, ?_⟩, hS3.F ht⟩) hS3.2.2 dL_row_16)
  · rw [ht, hw]
    exact fun k q hk => P3 k q (by rw [List.getElem?_append_left (List.getElem?_eq_some_iff.mp hk).1]; exact hk)
  · rw [ht]
    exact P3 w1.length (qo, .inl (dL, 1, .inr (.inl (vp_updL f 0 (Int32.ofInt v).toInt64)))) (by rw [List.getElem?_append_right (Nat.le_refl _), Nat.sub_self]; rfl)
set_option maxHeartbeats 4000000 in
theorem w_Lrow_thr {l : Launch} (hfl : l.stackTraces = false) (hap : ∀ i, i < z_hdC.length → adC i ≠ qo) (hc : c_inv σ X) (hso : z_sok z_hcC z_hdC σ) {p0 : Int32} (hn : ¬ (0 ≤ p0.toInt ∧ p0.toInt < X 0 6)) :
    vx_Met l yL_row (.codeWith yL_row cL_row 4 (some .int) [(0, 9, 12, 13)] :: z_tw) ({ frames := 50, cells := 1, slots := 6, locals := 3000 } : Room) (w_PO dC dI dA dL adC qo sz σ f [.ref (adC 0), .int p0, .ref qo])
      (va_Qi (fun r (_ : Unit) => r = 1) (w_BR dC dI dA dL adC qo σ f) (w_frO adC qo sz)) (vx_X (fun _ : Unit => False) (fun _ _ _ => False) (fun _ => False)) 1 6 (w_frO adC qo sz) := by
  refine vx_ofWH (cc := cL_row) (maxL := 4) (ret := some .int) (hh := [(0, 9, 12, 13)]) (by decide +kernel) rfl ?_
  intro p e s m args below meth c s₁ B hml hv
  obtain ⟨rfl, hsz, hP, hK5, hD0, hqo, hbad, hU, hN⟩ := hv
  have hx := B.exec
  have hb : c.code = cL_row := B.bytes
  have hr : meth.sig.returnType = some .int := B.returns
  have hts0 := atoms_spec (ws := (.codeWith yL_row cL_row 4 (some .int) [(0, 9, 12, 13)] :: z_tw)) B.pre
  have hts : ∀ w ∈ z_tw, w.before _ s = true := fun w hw => hts0 w (List.mem_cons_of_mem _ hw)
  have hown : s.vm.findClass RL = some m.cls := findClass_of_methodNamed B.named
  have hlocks := B.notSynchronized
  have hK : va_K (dC, dI) vwCl (z_tys dA) s := hK5.sub [0, 1, 2, 3] rfl
  subst hsz
  have hD : va_D (w_frO adC qo s.heap.size) (z_wd dA z_hcC adC z_hdC σ) := (w_Dself hD0).weaken (fun _ _ _ h => Or.inl h)
  have hS : va_S (w_frO adC qo s.heap.size) s.heap s.heap [] := va_S.rf
  have hl := lv_entry ([.ref (adC 0), .int p0, .ref qo]) (n := 4) (Nat.le_of_ble_eq_true rfl)
  show W _ _ _ _ _ _ _ _ _ _ _ _ _ _ _ (entryFrame m ([.ref (adC 0), .int p0, .ref qo] : List Value).toArray 4)
  rw [lg_entry_eq]
  generalize (lg_sl ([.ref (adC 0), .int p0, .ref qo]) ++ List.replicate (4 - (lg_sl ([.ref (adC 0), .int p0, .ref qo])).length) Slot.unset).toArray = ls at hl ⊢
  have hl : lv_has ls 4 [(0, .ref (adC 0)), (1, .int p0), (2, .ref qo)] := hl
  refine lv_aload_n hx hb dL_row_0 rfl (lv_at hl 2 rfl) ?_
  refine lv_iconst (v := 0) hx hb dL_row_1 (by decide) ?_
  refine lv_aload_n hx hb dL_row_2 rfl (lv_at hl 0 rfl) ?_
  refine lv_iload_n hx hb dL_row_3 rfl (lv_at hl 1 rfl) ?_
  have ok := z_allok 1138 (by decide +kernel)
  obtain ⟨m1, m2, m3, m4, m5, m6, m7, m8, m9, m10⟩ := z_mchk_of ok
  have hB : CallB ({ frames := 50, cells := 1, slots := 6, locals := 3000 } : Room) s _ RL 15 (z_my 1138) (z_mb 1138) (z_ml 1138) (z_mr 1138) (z_ws 1138) ({ frames := 10, cells := 1, slots := 6, locals := 300 } : Room) 1 6 (z_np 1138) :=
    callB_of (z_np 1138) hts (z_ws_good ok) rfl rfl rfl (hts _ m4) (hts _ w_wb) ⟨m3.1, m3.2, m1⟩ ⟨Nat.le_of_ble_eq_true rfl, by
      have h5 := m5
      show 8 + (z_ml 1138 + 11) + 300 ≤ 3000
      generalize z_ml 1138 = k at h5 ⊢
      omega⟩
  have hrecv := w_recvC (H := s.heap) (C := (z_my 1138).cls) (by decide +kernel) hK hP
  refine vx_calli (vx_runV (C := (z_my 1138).cls) (b := adC 0) (As := [.int p0]) (rest := [.int 0, .ref qo]) ⟨hx, hb, hml, hown, hts⟩ (w_Xrow (sz := s.heap.size) hfl hc hn) ⟨hB, hts _ (m8 (by decide +kernel)), hts _ (m9 (by decide +kernel))⟩ ⟨w_PX_blind, hrecv, fun U hU9 hW => ⟨rfl, by rw [hU9], by rw [hU9]; exact hP, va_K.moved hW.alike hK, hD0, w_bad_warm hW hbad, by rw [hU9]; exact (vx_Zq.moved hW.alike hU).narrow (fun q h => Or.inl h), by rw [hU9]; exact (vx_Zq.moved hW.alike hN).narrow (fun q h => Or.inl h)⟩⟩ rfl (show 1 = z_np 1138 by decide +kernel) hl.1 rfl (lv_room (Nat.le_of_ble_eq_true rfl)) dL_row_4 ⟨Nat.le_of_ble_eq_true rfl, Nat.le_of_ble_eq_true rfl⟩) hS (fun q _ h => Or.inl h) (fun q h => Or.inl h) (fun q _ h => Or.inl h)
    (fun E ce q9 u t H1 locs1 ht hvm _ hBX hz hk hS1 hce hcv hcl => ?_) (fun r u t H1 locs1 _ _ hpost => absurd hpost id)
  obtain ⟨rfl, hP1⟩ := hBX
  rw [ht] at hP1
  have hcw : (Jvm.Cond.codeWith yL_row cL_row 4 (some .int) [(0, 9, 12, 13)]).before _ s = true := hts0 _ List.mem_cons_self
  have htab : c.exceptionTable.toList = [] ++ (⟨0, 9, 12, 13⟩ : ExceptionTableEntry) :: [] := vx_table (x := yL_row) B hcw
  have hcov : covers (⟨0, 9, 12, 13⟩ : ExceptionTableEntry) 4 = true := rfl
  refine vx_catch (pc := 4) (own := RL) (name := w_QX) (E := w_QX) hown [] ⟨0, 9, 12, 13⟩ [] htab (fun z hz => by cases hz) hcov (Nat.succ_ne_zero 12) (hts _ w_w1) (w_bad_use hbad _ w_cast) hce hcv hcl ?_
  refine lv_astore_n (lv' := [(3, .ref q9), (0, .ref (adC 0)), (1, .int p0), (2, .ref qo)]) hx hb dL_row_12 rfl hl (by decide) rfl (fun ls hl => ?_)
  refine lv_iconst (v := 1) hx hb dL_row_13 (by decide) ?_
  refine vx_ret (W.iret (v := 1) hx hb hr (fun t9 ht9 hW => ⟨⟨1, (), rfl, rfl, ?_, ?_⟩, hS1.F ht9⟩) hS1.2.2 dL_row_14)
  · rw [ht9]
    exact hP1
  · rw [ht9, hk qo (Array.getElem?_eq_some_iff.mp hqo).1 (fun z => by
      rcases z with ⟨j, hj, hq⟩ | hq
      · exact hap j hj hq
      · have := (Array.getElem?_eq_some_iff.mp hqo).1
        omega)]
    exact hqo
end
