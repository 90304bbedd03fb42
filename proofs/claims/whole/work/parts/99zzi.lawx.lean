/-! The law: the class's of and row, where they throw. -/
def w_PX (dC : Nat → ClassId) (dI : Nat → Nat → Nat) (dA : Nat → ClassId) (adC : Nat → Nat) (sz : Nat) (σ : z_S) (as : List Value) : Array Value → State → Prop :=
  va_Pc as (fun U => U.heap.size = sz ∧ va_P (dC, dI) vwCl (z_wd dA z_hcC adC z_hdC σ) U.heap ∧ va_K (dC, dI) vwCl (z_tys dA) U ∧ va_D (fun _ => True) (z_wd dA z_hcC adC z_hdC σ) ∧ w_bad U ∧
    vx_Zq Bundle.tN "UNASSIGNED_STACK" Bundle.steD (z_fr adC z_hdC.length sz) U U.heap ∧ vx_Zq Bundle.tN "SUPPRESSED_SENTINEL" Bundle.listD (z_fr adC z_hdC.length sz) U U.heap)
def w_QX : String := "java/util/NoSuchElementException"
section
variable {dC : Nat → ClassId} {dI : Nat → Nat → Nat} {dA : Nat → ClassId} {adC : Nat → Nat} {sz : Nat} {σ X : z_S}
theorem w_PX_blind {as : List Value} : FrameBlind (w_PX dC dI dA adC sz σ as) := by
  intro a U g mk q
  obtain ⟨h1, h2, h3, h4, h5, h6, h7, h8⟩ := q
  exact ⟨h1, h2, h3, va_K.moved (u := U) (U := U.calling g mk a) (Vm.Alike.refl U.vm) h4, h5, w_bad_same (s := U) (U := U.calling g mk a) rfl h6, vx_Zq.moved (u := U) (U := U.calling g mk a) (Vm.Alike.refl U.vm) h7, vx_Zq.moved (u := U) (U := U.calling g mk a) (Vm.Alike.refl U.vm) h8⟩
theorem w_Dself {hd : z_H} {A : Nat → Prop} {hc : z_C} (h : va_D A (z_wd dA hc adC hd σ)) : va_D (z_fr adC hd.length sz) (z_wd dA hc adC hd σ) := ⟨h.1, fun k q hk => by
  have hl : k < hd.length := by rw [← z_wd_len (dA := dA) (hc := hc) (ad := adC) (hd := hd) (σ := σ)]; exact (List.getElem?_eq_some_iff.mp hk).1
  rw [z_wd_get (List.getElem?_eq_getElem hl)] at hk
  cases hk
  exact Or.inl ⟨k, hl, rfl⟩⟩
section
variable {p : Program} {l : Launch} {e : Env} {R : Room} {s : State} {m : MethodId} {args : Array Value} {below : List Frame} {meth : Method} {c : Code} {Q : State → Prop} {H : Heap} {arr : Array Slot} {locs : List Loc} {cells slots : Nat} {rest : List Value} {cc : ByteArray} {pc : Nat}
/-- 'this.land.roads' -/
theorem w_roads (hx : p.tables.exec = Jvm.exec) (hb : c.code = cc) (hown : s.vm.findClass RX11 = some m.cls) (hts : ∀ w ∈ z_tw, w.before args s = true) (hK : va_K (dC, dI) vwCl (z_tys dA) s) (hP : va_P (dC, dI) vwCl (z_wd dA z_hcC adC z_hdC σ) H) {L : Nat} (hL : L = 6 ∨ L = 26) (h7 : σ 1 7 = (L : Int))
    (d0 : decode cc pc = .ok (.getfield 26, 3)) (d1 : decode cc (pc + 3) = .ok (.getfield 48, 3)) (k : W p l e R s m args below meth c H locs cells slots Q (F0 m (pc + 6) arr (.ref (adC L) :: rest))) : W p l e R s m args below meth c H locs cells slots Q (F0 m pc arr (.ref (adC 0) :: rest)) := by
  refine w_get (j := 0) (a := 11) (f := 7) (n := 10) hx hb hown hts hK rfl rfl (by decide) (by decide) w_w5 d0 hP ?_
  rcases hL with rfl | rfl
  · have e7 : z_cv adC (z_fv z_hcC σ ((0 : Nat) + 1) 7 (z_ft 11 7)) = .ref (adC 5) := by
      show z_cv adC (z_R (σ 1 7)) = _
      rw [h7]
      rfl
    rw [e7]
    refine w_get (j := 5) (a := 3) (f := 0) (n := 2) hx hb hown hts hK rfl rfl (by decide) (by decide) w_w6 d1 hP ?_
    exact k
  · have e7 : z_cv adC (z_fv z_hcC σ ((0 : Nat) + 1) 7 (z_ft 11 7)) = .ref (adC 25) := by
      show z_cv adC (z_R (σ 1 7)) = _
      rw [h7]
      rfl
    rw [e7]
    refine w_get (j := 25) (a := 3) (f := 0) (n := 2) hx hb hown hts hK rfl rfl (by decide) (by decide) w_w6 d1 hP ?_
    exact k
end
theorem w_hat {args : Array Value} {s : State} (hts : ∀ w ∈ z_tw, w.before args s = true) (hbad : w_bad s) : ∀ w ∈ vx_at0 RX11 321 "java/util/NoSuchElementException" ["java/lang/RuntimeException", "java/lang/Exception"], w.before args s = true := vx_hat (B := w_B) (fun w h => hts w (w_at0 w h)) (fun w hw => hw) (w_bad_use hbad)
set_option maxHeartbeats 4000000 in
theorem w_Xof {l : Launch} (hfl : l.stackTraces = false) (hc : c_inv σ X) (hso : z_sok z_hcC z_hdC σ) {p0 p1 : Int32} (hn : ¬ ((0 ≤ p0.toInt ∧ p0.toInt < X 0 0) ∧ 0 ≤ p1.toInt ∧ p1.toInt ≤ 5)) :
    vx_Met l (z_my 1137) (z_ws 1137) ({ frames := 10, cells := 1, slots := 6, locals := 300 } : Room) (w_PX dC dI dA adC sz σ [.ref (adC 0), .int p0, .int p1]) (va_Qi (fun _ (_ : Unit) => False) (fun _ _ => True) (z_fr adC z_hdC.length sz))
      (vx_X (fun _ : Unit => True) (fun E _ t => E = w_QX ∧ va_P (dC, dI) vwCl (z_wd dA z_hcC adC z_hdC σ) t.heap) (z_fr adC z_hdC.length sz)) 1 6 (z_fr adC z_hdC.length sz) := by
  have ok := z_allok 1137 (by decide +kernel)
  refine vx_ofW (cc := z_mb 1137) (maxL := z_ml 1137) (ret := z_mr 1137) (z_mchk_of ok).2.1 rfl ?_
  intro p e s m args below meth c s₁ B hml ht hv
  obtain ⟨rfl, hsz, hP, hK, hD0, hbad, hU, hN⟩ := hv
  have hx := B.exec
  have hb : c.code = cX11_of := B.bytes
  have hts : ∀ w ∈ z_tw, w.before _ s = true := fun w hw => atoms_spec (ws := z_ws 1137) B.pre w (List.mem_cons_of_mem _ hw)
  have hown : s.vm.findClass RX11 = some m.cls := findClass_of_methodNamed B.named
  have hlocks := B.notSynchronized
  have hml3 : c.maxLocals = 3 := hml
  subst hsz
  have hD : va_D (z_fr adC z_hdC.length s.heap.size) (z_wd dA z_hcC adC z_hdC σ) := w_Dself hD0
  have hS : va_S (z_fr adC z_hdC.length s.heap.size) s.heap s.heap [] := va_S.rf
  have hl := lv_entry ([.ref (adC 0), .int p0, .int p1]) (n := 3) (Nat.le_of_ble_eq_true rfl)
  show W _ _ _ _ _ _ _ _ _ _ _ _ _ _ _ (entryFrame m ([.ref (adC 0), .int p0, .int p1] : List Value).toArray 3)
  rw [lg_entry_eq]
  generalize (lg_sl ([.ref (adC 0), .int p0, .int p1]) ++ List.replicate (3 - (lg_sl ([.ref (adC 0), .int p0, .int p1])).length) Slot.unset).toArray = ls at hl ⊢
  have hl : lv_has ls 3 [(0, .ref (adC 0)), (1, .int p0), (2, .int p1)] := hl
  obtain ⟨L, A, hv, -⟩ := hc
  have hLL := hv.hL
  obtain ⟨b1, -, -⟩ := hv.2.1
  have hh := hv.has 1 p0.toInt
  obtain ⟨Ln, rfl⟩ : ∃ Ln : Nat, L = (Ln : Int) := ⟨L.toNat, by omega⟩
  have hLn : Ln = 6 ∨ Ln = 26 := by omega
  refine lv_aload_n hx hb dX11_of_0 rfl (lv_at hl 0 rfl) ?_
  refine w_roads hx hb hown hts hK hP hLn b1 dX11_of_1 dX11_of_4 ?_
  refine lv_iload_n hx hb dX11_of_7 rfl (lv_at hl 1 rfl) ?_
  have e0 : ([z_I p0.toInt].map (z_cv adC)).reverse ++ .ref (adC Ln) :: [] = [Value.int p0, .ref (adC Ln)] := by
    show [Value.int (Int32.ofInt p0.toInt), .ref (adC Ln)] = _
    rw [Int32.ofInt_toInt]
  rw [← e0]
  have h0 : z_hdC[Ln]? = some (10 + 6, 12) := by rcases hLn with rfl | rfl <;> rfl
  refine w_callG (rest := []) (hc := z_hcC) (hd := z_hdC) (σ := σ) (σ' := σ) (t := [z_I p0.toInt]) (j0 := Ln) (d := 2) (a := 605) (b := 6) (n := 12) hx hb hml3 hown hts hK (Nat.le_of_ble_eq_true rfl) (Nat.le_of_ble_eq_true rfl) (fun h => by cases h) hh (by decide +kernel) (by decide +kernel) (show 1 = z_np 605 by decide +kernel) (by decide +kernel) (by decide) h0 w_hokC hso (fun v hv => by rw [List.mem_singleton] at hv; subst hv; exact ⟨Int32.le_toInt _, by have := Int32.toInt_lt p0; omega⟩) w_w9 dX11_of_8 (Nat.le_of_ble_eq_true rfl) hP hD hS (fun q h => Or.inr h) hl.1 ⟨Nat.zero_le _, Nat.zero_le _⟩ (fun H1 locs1 P1 D1 S1 hv1 hz1 hk1 hS1 => ?_)
  have thr : W p l e { frames := 10, cells := 1, slots := 6, locals := 300 } s m _ below meth c H1 locs1 0 0 (vx_MQ below (va_Qi (fun _ (_ : Unit) => False) (fun _ _ => True) (z_fr adC z_hdC.length s.heap.size)) (vx_X (fun _ : Unit => True) (fun E _ t => E = w_QX ∧ va_P (dC, dI) vwCl (z_wd dA z_hcC adC z_hdC σ) t.heap) (z_fr adC z_hdC.length s.heap.size)) _ s 1 6 (z_fr adC z_hdC.length s.heap.size)) (F0 m 23 ls []) :=
    vx_throw0 (own := RX11) (cls := "java/util/NoSuchElementException") (names := ["java/lang/RuntimeException", "java/lang/Exception"]) (ik := 319) (ic := 321) (A := z_fr adC z_hdC.length s.heap.size) hx hb hfl hown (by decide) (fun n hn => by simp only [List.mem_cons, List.not_mem_nil, or_false] at hn; rcases hn with rfl | rfl <;> decide) (hts _ w_w2) (hts _ w_w4) (w_hat hts hbad) w_at0o hU hN hS1 (hl.1.trans hml3.symm) dX11_of_23 dX11_of_26 dX11_of_27 dX11_of_30 (fun x hx => (ht x hx).elim) (Nat.le_of_ble_eq_true rfl) (Nat.le_of_ble_eq_true rfl) (Nat.le_of_ble_eq_true rfl) (Nat.le_of_ble_eq_true rfl) hlocks
      (fun t _ hz hk => ⟨(), trivial, ⟨rfl, w_keep P1 (fun j hj => hk _ (w_lt P1 hj))⟩, Nat.le_trans hz1 hz, fun q h1 h2 => by rw [hk q (Nat.lt_of_lt_of_le h1 hz1)]; exact hS1.2.1 q h1 h2⟩) hS1.2.2 (Nat.le_refl _) (Nat.le_refl _)
  by_cases hp : 0 ≤ p0.toInt ∧ p0.toInt < X 0 0
  · rw [if_pos hp]
    refine lv_if_eq (tgt := 23) hx hb dX11_of_11 (by decide) (fun h => absurd h (by decide)) (fun _ => ?_)
    refine lv_iload_n hx hb dX11_of_14 rfl (lv_at hl 2 rfl) ?_
    refine lv_if_lt (tgt := 23) hx hb dX11_of_15 (by decide) (fun _ => thr) (fun h1 => ?_)
    refine lv_iload_n hx hb dX11_of_18 rfl (lv_at hl 2 rfl) ?_
    refine lv_iconst (v := 5) hx hb dX11_of_19 (by decide) ?_
    refine lv_icmp_le (tgt := 31) hx hb dX11_of_20 (by decide) (fun h2 => ?_) (fun _ => thr)
    rw [Int32.lt_iff_toInt_lt] at h1
    rw [Int32.le_iff_toInt_le] at h2
    have e1 : (0 : Int32).toInt = 0 := rfl
    have e5 : (5 : Int32).toInt = 5 := rfl
    exact absurd ⟨hp, by omega, by omega⟩ hn
  · rw [if_neg hp]
    exact lv_if_eq (tgt := 23) hx hb dX11_of_11 (by decide) (fun _ => thr) (fun h => absurd rfl h)
set_option maxHeartbeats 4000000 in
theorem w_Xrow {l : Launch} (hfl : l.stackTraces = false) (hc : c_inv σ X) {p0 : Int32} (hn : ¬ (0 ≤ p0.toInt ∧ p0.toInt < X 0 6)) :
    vx_Met l (z_my 1138) (z_ws 1138) ({ frames := 10, cells := 1, slots := 6, locals := 300 } : Room) (w_PX dC dI dA adC sz σ [.ref (adC 0), .int p0]) (va_Qi (fun _ (_ : Unit) => False) (fun _ _ => True) (z_fr adC z_hdC.length sz))
      (vx_X (fun _ : Unit => True) (fun E _ t => E = w_QX ∧ va_P (dC, dI) vwCl (z_wd dA z_hcC adC z_hdC σ) t.heap) (z_fr adC z_hdC.length sz)) 1 6 (z_fr adC z_hdC.length sz) := by
  have ok := z_allok 1138 (by decide +kernel)
  refine vx_ofW (cc := z_mb 1138) (maxL := z_ml 1138) (ret := z_mr 1138) (z_mchk_of ok).2.1 rfl ?_
  intro p e s m args below meth c s₁ B hml ht hv
  obtain ⟨rfl, hsz, hP, hK, hD0, hbad, hU, hN⟩ := hv
  have hx := B.exec
  have hb : c.code = cX11_row := B.bytes
  have hts : ∀ w ∈ z_tw, w.before _ s = true := fun w hw => atoms_spec (ws := z_ws 1138) B.pre w (List.mem_cons_of_mem _ hw)
  have hown : s.vm.findClass RX11 = some m.cls := findClass_of_methodNamed B.named
  have hlocks := B.notSynchronized
  have hml3 : c.maxLocals = 2 := hml
  subst hsz
  have hS : va_S (z_fr adC z_hdC.length s.heap.size) s.heap s.heap [] := va_S.rf
  have hl := lv_entry ([.ref (adC 0), .int p0]) (n := 2) (Nat.le_of_ble_eq_true rfl)
  show W _ _ _ _ _ _ _ _ _ _ _ _ _ _ _ (entryFrame m ([.ref (adC 0), .int p0] : List Value).toArray 2)
  rw [lg_entry_eq]
  generalize (lg_sl ([.ref (adC 0), .int p0]) ++ List.replicate (2 - (lg_sl ([.ref (adC 0), .int p0])).length) Slot.unset).toArray = ls at hl ⊢
  have hl : lv_has ls 2 [(0, .ref (adC 0)), (1, .int p0)] := hl
  obtain ⟨L, A, hv, hr1, -⟩ := hc
  have hX6 := hv.wf.2.2.2.2.2.2.1
  have thr : W p l e { frames := 10, cells := 1, slots := 6, locals := 300 } s m _ below meth c s.heap [] 0 0 (vx_MQ below (va_Qi (fun _ (_ : Unit) => False) (fun _ _ => True) (z_fr adC z_hdC.length s.heap.size)) (vx_X (fun _ : Unit => True) (fun E _ t => E = w_QX ∧ va_P (dC, dI) vwCl (z_wd dA z_hcC adC z_hdC σ) t.heap) (z_fr adC z_hdC.length s.heap.size)) _ s 1 6 (z_fr adC z_hdC.length s.heap.size)) (F0 m 15 ls []) :=
    vx_throw0 (own := RX11) (cls := "java/util/NoSuchElementException") (names := ["java/lang/RuntimeException", "java/lang/Exception"]) (ik := 319) (ic := 321) (A := z_fr adC z_hdC.length s.heap.size) hx hb hfl hown (by decide) (fun n hn => by simp only [List.mem_cons, List.not_mem_nil, or_false] at hn; rcases hn with rfl | rfl <;> decide) (hts _ w_w2) (hts _ w_w4) (w_hat hts hbad) w_at0o hU hN hS (hl.1.trans hml3.symm) dX11_row_15 dX11_row_18 dX11_row_19 dX11_row_22 (fun x hx => (ht x hx).elim) (Nat.le_of_ble_eq_true rfl) (Nat.le_of_ble_eq_true rfl) (Nat.le_of_ble_eq_true rfl) (Nat.le_of_ble_eq_true rfl) hlocks
      (fun t _ hz hk => ⟨(), trivial, ⟨rfl, w_keep hP (fun j hj => hk _ (w_lt hP hj))⟩, hz, fun q h1 h2 => hk q h1⟩) hS.2.2 (Nat.le_refl _) (Nat.le_refl _)
  refine lv_iload_n hx hb dX11_row_0 rfl (lv_at hl 1 rfl) ?_
  refine lv_if_lt (tgt := 15) hx hb dX11_row_1 (by decide) (fun _ => thr) (fun h1 => ?_)
  refine lv_iload_n hx hb dX11_row_4 rfl (lv_at hl 1 rfl) ?_
  refine lv_aload_n hx hb dX11_row_5 rfl (lv_at hl 0 rfl) ?_
  refine w_get (j := 0) (a := 11) (f := 1) (n := 10) hx hb hown hts hK rfl rfl (by decide) (by decide) w_w7 dX11_row_6 hP ?_
  have e1 : z_cv adC (z_fv z_hcC σ ((0 : Nat) + 1) 1 (z_ft 11 1)) = .ref (adC 3) := rfl
  rw [e1]
  refine w_get (j := 3) (a := 7) (f := 1) (n := 2) hx hb hown hts hK rfl rfl (by decide) (by decide) w_w8 dX11_row_9 hP ?_
  have e2 : z_cv adC (z_fv z_hcC σ ((3 : Nat) + 1) 1 (z_ft 7 1)) = .int (Int32.ofInt (X 0 6)) := by
    show Value.int (Int32.ofInt (σ 4 1)) = _
    rw [hr1]
  rw [e2]
  refine lv_icmp_lt (tgt := 23) hx hb dX11_row_12 (by decide) (fun h2 => ?_) (fun _ => thr)
  rw [Int32.lt_iff_toInt_lt] at h1 h2
  have e0 : (0 : Int32).toInt = 0 := rfl
  rw [z_of32 (show z_in (X 0 6) from ⟨by omega, by omega⟩)] at h2
  exact absurd ⟨by omega, h2⟩ hn
end
