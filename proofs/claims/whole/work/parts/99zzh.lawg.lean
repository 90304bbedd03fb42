/-! The law: calls and fields from any class. -/
section
variable {p : Program} {l : Launch} {e : Env} {R : Room} {s : State} {m : MethodId} {args : Array Value} {below : List Frame} {meth : Method} {c : Code} {dC : Nat → ClassId} {dI : Nat → Nat → Nat} {dA : Nat → ClassId} {hc : z_C} {hd : z_H} {σ σ' : z_S}
theorem w_callG {A0 : Nat → Prop} {Q : State → Prop} {cc : ByteArray} {nL pc d a x b : Nat} {own : String} {j0 : Nat} {n : Int} {t : List z_V} {v : Int} {ad : Nat → Nat} {H : Heap} {arr : Array Slot} {locs : List Loc} {cells slots : Nat} {rest : List Value}
    (hx : p.tables.exec = Jvm.exec) (hb : c.code = cc) (hml : c.maxLocals = nL) (hown : s.vm.findClass own = some m.cls) (hts : ∀ w ∈ z_tw, w.before args s = true) (hK : va_K (dC, dI) vwCl (z_tys dA) s) (hRf : d + 1 ≤ R.frames) (hRl : 60 * d + 60 ≤ R.locals)
    (hdyn : hc 0 0 = none → ∀ o f, hc o f = none) (hev : z_ev hc d a (z_R ((j0 : Int) + 1) :: t) hd σ = some (z_I v, hd, σ')) (hself : (z_mp a).1 = a) (hkd : z_kd a = 0) (hnp : t.length = z_np a) (hcl : z_cl b = (z_my a).cls) (hb13 : b < 13) (h0 : hd[j0]? = some (10 + b, n))
    (hho : z_hok hd) (hso : z_sok hc hd σ) (hvt : ∀ v ∈ t, z_vok hd.length v) (hlink : Jvm.Cond.methodLink own x (z_my a) ∈ z_tw) (hdg : decode cc pc = .ok (.invokevirtual x, 3)) (hcats : (rest.map fun v => v.category).sum ≤ 8)
    (hP : va_P (dC, dI) vwCl (z_wd dA hc ad hd σ) H) (hD : va_D A0 (z_wd dA hc ad hd σ)) (hS : va_S A0 s.heap H locs) (hA : ∀ q, s.heap.size ≤ q → A0 q) (hsize : arr.size = nL) (hfit : cells ≤ R.cells ∧ slots ≤ R.slots)
    (kk : ∀ (H1 : Heap) (locs1 : List Loc), va_P (dC, dI) vwCl (z_wd dA hc ad hd σ') H1 → va_D A0 (z_wd dA hc ad hd σ') → z_sok hc hd σ' → z_in v → H.size ≤ H1.size → (∀ q : Nat, q < H.size → (∀ j, j < hd.length → ad j ≠ q) → H1[q]? = H[q]?) → va_S A0 s.heap H1 locs1 →
      W p l e R s m args below meth c H1 locs1 cells slots Q (F0 m (pc + 3) arr (.int (Int32.ofInt v) :: rest))) :
    W p l e R s m args below meth c H locs cells slots Q (F0 m pc arr ((t.map (z_cv ad)).reverse ++ .ref (ad j0) :: rest)) := by
  have ok := z_allok a hself
  obtain ⟨m1, m2, m3, m4, m5, m6, m7, m8, m9, m10⟩ := z_mchk_of ok
  have h1l : j0 < hd.length := (List.getElem?_eq_some_iff.mp h0).1
  have hvas : ∀ v ∈ (z_R ((j0 : Int) + 1) :: t), z_vok hd.length v := fun v hv => by
    rcases List.mem_cons.mp hv with rfl | hv
    · show (0 : Int) ≤ (j0 : Int) + 1 ∧ (j0 : Int) + 1 ≤ (hd.length : Int)
      omega
    · exact hvt v hv
  obtain ⟨hfin, hMet⟩ := z_run_met (l := l) (dC := dC) (dI := dI) (dA := dA) hdyn hev hself hho hso hvas
  have hB : CallB R s args own x (z_my a) (z_mb a) (z_ml a) (z_mr a) (z_ws a) ({ frames := d, cells := hd.length - hd.length, slots := z_sl hd - z_sl hd, locals := 60 * d } : Room) (hd.length - hd.length) (z_sl hd - z_sl hd) (z_np a) :=
    callB_of (z_np a) hts (z_ws_good ok) rfl rfl rfl (hts _ m4) (hts _ hlink) ⟨m3.1, m3.2, m1⟩ ⟨hRf, by show 8 + (z_ml a + 11) + 60 * d ≤ R.locals; omega⟩
  have hPre : ∀ U : State, U.heap = H → s.WarmedH U.vm → z_Pc dC dI dA hc (z_R ((j0 : Int) + 1) :: t) hd σ ad H.size ((Value.ref (ad j0) :: t.map (z_cv ad)).toArray) U := fun U hU hW => ⟨by rw [List.map_cons, z_cv_R], by rw [hU], by rw [hU]; exact hP, va_K.moved hW.alike hK, hD.weaken (fun _ _ _ _ => trivial)⟩
  have h10 : 10 + b - 10 = b := by omega
  have hrecv : ∃ cellB : Cell, H[ad j0]? = some cellB ∧ cellB.vm.isStatics = false ∧ s.vm.findClass (z_my a).cls = some cellB.cls := by
    have he : (z_wd dA hc ad hd σ)[j0]? = some (ad j0, .inr (b, (List.range n.toNat).map (fun f => z_cv ad (z_fv hc σ (j0 + 1) f (z_ft b f))))) := by
      rw [z_wd_get h0]
      unfold z_cell
      rw [if_neg (by show ¬ 10 + b < 10; omega)]
      show some (ad j0, Sum.inr (10 + b - 10, _)) = _
      rw [h10]
    have h0 := va_recv hK hP (z_vwCl b hb13) he
    rw [show (z_cl b, z_T b, z_nf b).1 = (z_my a).cls from hcl] at h0
    exact h0
  have hr := va_runV (e := e) (below := below) (meth := meth) (C := (z_my a).cls) (b := ad j0) (As := t.map (z_cv ad)) (rest := rest) (H := H) (locs := locs) (cells := cells) (slots := slots) (g := F0 m pc arr ((t.map (z_cv ad)).reverse ++ .ref (ad j0) :: rest)) ⟨hx, hb, hml, hown, hts⟩ (hMet ad H.size) ⟨hB, hts _ (m8 (by rw [hkd]; decide)), hts _ (m9 hkd)⟩ ⟨z_Pc_blind, hrecv, hPre⟩ rfl (by rw [List.length_map]; exact hnp) hsize rfl (lv_room hcats) hdg ⟨by rw [Nat.sub_self]; exact hfit.1, by rw [Nat.sub_self]; exact hfit.2⟩
  intro T hT X
  obtain ⟨v9, st₀, u, T', L, e0, X', hL, e1, e2, ⟨⟨ad', had', hv, hvok, hhok, hsok, hP', hD'⟩, hz, hk⟩, stp⟩ := hr T hT X
  cases hv
  rw [e0] at hz hk hD'
  have hfr : ∀ q, z_fr ad hd.length H.size q → A0 q := fun q hq => by
    rcases hq with ⟨j, hj, rfl⟩ | hq
    · exact hD.2 j _ (z_wd_get (List.getElem?_eq_getElem hj))
    · exact hA q (Nat.le_trans hS.1 hq)
  have ew := w_wd_ad (dA := dA) (σ := σ') had' hsok
  have hP1 : va_P (dC, dI) vwCl (z_wd dA hc ad hd σ') T'.heap := by rw [e1, ← ew]; exact hP'
  have hD1 : va_D A0 (z_wd dA hc ad hd σ') := by rw [← ew]; exact hD'.weaken (fun _ q _ z => hfr _ z)
  have X2 : Stand p l e R s m args below meth c T' (locs ++ L) cells slots := by
    have := X'
    rw [show cells + (hd.length - hd.length) = cells by omega, show slots + (z_sl hd - z_sl hd) = slots by omega] at this
    exact this
  obtain ⟨t2, a1, b1⟩ := kk T'.heap (locs ++ L) hP1 hD1 hsok hvok (by rw [e1]; exact hz) (fun q h1 h2 => by
      rw [e1]
      exact hk q h1 (fun z => by
        rcases z with ⟨j, hj, hq⟩ | hq
        · exact h2 j hj hq
        · omega))
    ⟨Nat.le_trans hS.1 (by rw [e1]; exact hz), fun q h1 h2 => by rw [e1, hk q (Nat.lt_of_lt_of_le h1 hS.1) (fun z => h2 (hfr q z))]; exact hS.2.1 q h1 h2, fun q hq => by
      rcases List.mem_append.mp hq with h | h
      · exact hS.2.2 q h
      · exact hfr _ (hL q h)⟩ T' rfl X2
  exact ⟨t2, stp t2 a1, b1⟩
theorem w_get {Q : State → Prop} {cc : ByteArray} {pc a x j f : Nat} {own : String} {n : Int} {ad : Nat → Nat} {H : Heap} {arr : Array Slot} {locs : List Loc} {cells slots : Nat} {rest : List Value}
    (hx : p.tables.exec = Jvm.exec) (hb : c.code = cc) (hown : s.vm.findClass own = some m.cls) (hts : ∀ w ∈ z_tw, w.before args s = true) (hK : va_K (dC, dI) vwCl (z_tys dA) s) (h0 : hd[j]? = some (10 + a, n)) (hn : n = z_nf a) (ha : a < 13) (hf : f < z_nf a)
    (hw : Jvm.Cond.fieldLink own x (z_T a f).1 (z_T a f).2.1 (z_T a f).2.2.1 ∈ z_tw) (hdg : decode cc pc = .ok (.getfield x, 3)) (hP : va_P (dC, dI) vwCl (z_wd dA hc ad hd σ) H)
    (k : W p l e R s m args below meth c H locs cells slots Q (F0 m (pc + 3) arr (z_cv ad (z_fv hc σ (j + 1) f (z_ft a f)) :: rest))) :
    W p l e R s m args below meth c H locs cells slots Q (F0 m pc arr (.ref (ad j) :: rest)) := by
  have h10 : 10 + a - 10 = a := by omega
  have he : (z_wd dA hc ad hd σ)[j]? = some (ad j, .inr (a, (List.range n.toNat).map (fun f => z_cv ad (z_fv hc σ (j + 1) f (z_ft a f))))) := by
    rw [z_wd_get h0]
    unfold z_cell
    rw [if_neg (by show ¬ 10 + a < 10; omega)]
    show some (ad j, Sum.inr (10 + a - 10, _)) = _
    rw [h10]
  refine va_get (C := z_cl a) (T := z_T a) (N := z_nf a) (ci := a) (Ts := z_tw) hx hb hts (z_uw a ha) hown hK hP j he (z_vwCl a ha) f hf (hts _ hw) (fun x h => h) ?_ hdg k
  simp [hn, hf]
end
/-- the words of 'throw new NoSuchElementException()' in the class -/
def w_B : List Jvm.Cond := (vx_at0 RX11 321 "java/util/NoSuchElementException" ["java/lang/RuntimeException", "java/lang/Exception"]).filter (fun w => !goodWord w)
theorem w_at0b : ∀ w ∈ w_B, w.onTables = true ∧ w.keepsFace = true ∧ w ∈ lw_tbl := by decide +kernel
theorem w_cast : Jvm.Cond.castable "java/util/NoSuchElementException" "java/util/NoSuchElementException" ∈ w_B := by decide +kernel
/-- the words that no call keeps by itself, at a state -/
def w_bad (U : State) : Prop := ∀ w ∈ w_B, va_Nw w U
theorem w_bad_warm {s U : State} (hW : s.WarmedH U.vm) (h : w_bad s) : w_bad U := fun w hw => va_tabs (w_at0b w hw).1 (rfl : (s.setVm U.vm).vm = U.vm) (Cond.before_shiftedFace (State.Shifted.of_warmed hW) _ (w_at0b w hw).2.1 (h w hw))
theorem w_bad_same {s U : State} (e : s.vm = U.vm) (h : w_bad s) : w_bad U := fun w hw => (h w hw).same (w_at0b w hw).1 e
theorem w_bad_use {s : State} {A : Array Value} (h : w_bad s) : ∀ w ∈ w_B, w.before A s = true := fun w hw => (h w hw).use (w_at0b w hw).1
theorem w_at0t : ∀ w ∈ (vx_at0 RX11 321 "java/util/NoSuchElementException" ["java/lang/RuntimeException", "java/lang/Exception"]).filter goodWord, w ∈ lw_tbl := by decide +kernel
theorem w_at0 : ∀ w ∈ (vx_at0 RX11 321 "java/util/NoSuchElementException" ["java/lang/RuntimeException", "java/lang/Exception"]).filter goodWord, w ∈ z_tw := fun w h => List.mem_filter.mpr ⟨w_at0t w h, (List.mem_filter.mp h).2⟩
theorem w_at0o : ∀ w ∈ Jvm.Cond.classLink RX11 319 "java/util/NoSuchElementException" :: Jvm.Cond.initialized "java/util/NoSuchElementException" :: vx_at0 RX11 321 "java/util/NoSuchElementException" ["java/lang/RuntimeException", "java/lang/Exception"], vx_ot w = true := by decide +kernel
theorem w_w1 : Jvm.Cond.classLink RL 13 "java/util/NoSuchElementException" ∈ z_tw := z_has_mem (p := 1243) (by decide +kernel)
theorem w_w2 : Jvm.Cond.classLink RX11 319 "java/util/NoSuchElementException" ∈ z_tw := z_has_mem (p := 1248) (by decide +kernel)
theorem w_w3 : Jvm.Cond.castable "java/util/NoSuchElementException" "java/util/NoSuchElementException" ∈ lw_tbl := List.mem_of_getElem? (i := 1250) (by decide +kernel)
theorem w_w4 : Jvm.Cond.initialized "java/util/NoSuchElementException" ∈ z_tw := z_has_mem (p := 103) (by decide +kernel)
theorem w_w5 : Jvm.Cond.fieldLink RX11 26 (z_T 11 7).1 (z_T 11 7).2.1 (z_T 11 7).2.2.1 ∈ z_tw := z_has_mem (p := 498) (by decide +kernel)
theorem w_w6 : Jvm.Cond.fieldLink RX11 48 (z_T 3 0).1 (z_T 3 0).2.1 (z_T 3 0).2.2.1 ∈ z_tw := z_has_mem (p := 256) (by decide +kernel)
theorem w_w7 : Jvm.Cond.fieldLink RX11 19 (z_T 11 1).1 (z_T 11 1).2.1 (z_T 11 1).2.2.1 ∈ z_tw := z_has_mem (p := 492) (by decide +kernel)
theorem w_w8 : Jvm.Cond.fieldLink RX11 215 (z_T 7 1).1 (z_T 7 1).2.1 (z_T 7 1).2.2.1 ∈ z_tw := z_has_mem (p := 144) (by decide +kernel)
theorem w_w9 : Jvm.Cond.methodLink RX11 155 (z_my 605) ∈ z_tw := z_has_mem (p := 887) (by decide +kernel)
theorem w_wa : Jvm.Cond.methodLink RL 7 (z_my 1137) ∈ z_tw := z_has_mem (p := 1244) (by decide +kernel)
theorem w_wb : Jvm.Cond.methodLink RL 15 (z_my 1138) ∈ z_tw := z_has_mem (p := 1317) (by decide +kernel)
theorem w_wc : Jvm.Cond.methodLink RL 170 yL_of ∈ z_tw := z_has_mem (p := 1240) (by decide +kernel)
theorem w_wd' : Jvm.Cond.methodLink RL 179 yL_row ∈ z_tw := z_has_mem (p := 1314) (by decide +kernel)
theorem w_we : Jvm.Cond.codeWith yL_of cL_of 5 (some .int) [(0, 10, 13, 13)] ∈ z_tw := z_has_mem (p := 1242) (by decide +kernel)
theorem w_wf : Jvm.Cond.codeWith yL_row cL_row 4 (some .int) [(0, 9, 12, 13)] ∈ z_tw := z_has_mem (p := 1316) (by decide +kernel)
theorem w_wg : Jvm.Cond.arrayClass .long ∈ lw_tbl := List.mem_of_getElem? (i := 1928) (by decide +kernel)
