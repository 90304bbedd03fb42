/-! The law: two worlds side by side. -/
/-- method a of class b takes np ints, and the law calls it by entry x -/
def w_ok (a b np x : Nat) : Prop := (z_mp a).1 = a ∧ z_kd a = 0 ∧ z_np a = np ∧ z_cl b = (z_my a).cls ∧ Jvm.Cond.methodLink RL x (z_my a) ∈ z_tw
/-- the class's cells, the reference's, and the row for answers, are apart -/
def w_ap (adC adM : Nat → Nat) (qo : Nat) : Prop := (∀ i j, i < z_hdC.length → j < z_hdM.length → adC i ≠ adM j) ∧ (∀ i, i < z_hdC.length → adC i ≠ qo) ∧ ∀ j, j < z_hdM.length → adM j ≠ qo
def w_J (s : State) (dC : Nat → ClassId) (dI : Nat → Nat → Nat) (dA : Nat → ClassId) (dL : ClassId) (adC adM : Nat → Nat) (qo : Nat) (σ τ : z_S) (f : Nat → Int64) (H : Heap) (locs : List Loc) : Prop :=
  va_P (dC, dI) vwCl (z_wd dA z_hcC adC z_hdC σ) H ∧ va_D (fun q => s.heap.size ≤ q) (z_wd dA z_hcC adC z_hdC σ) ∧ z_sok z_hcC z_hdC σ ∧
  va_P (dC, dI) vwCl (z_wd dA z_hcM adM z_hdM τ) H ∧ va_D (fun q => s.heap.size ≤ q) (z_wd dA z_hcM adM z_hdM τ) ∧ z_sok z_hcM z_hdM τ ∧
  H[qo]? = some (vp_cell dL (1, .inr (.inl f))) ∧ s.heap.size ≤ qo ∧ va_S (fun q => s.heap.size ≤ q) s.heap H locs
theorem w_hokC : z_hok z_hdC := by
  have h : (List.range z_hdC.length).all (fun j => match z_hdC[j]? with | some q => (decide (10 ≤ q.1) || (decide (1 ≤ q.1) && decide (q.1 ≤ 4) && decide (0 ≤ q.2) && decide (q.2 ≤ 65536))) && (decide (q.1 < 10) || (decide (q.1 - 10 < 13) && decide (q.2 = z_nf (q.1 - 10)))) | none => true) = true := by decide +kernel
  intro j q hq
  have h1 := List.all_eq_true.mp h j (List.mem_range.mpr (List.getElem?_eq_some_iff.mp hq).1)
  rw [hq] at h1
  simp only [Bool.and_eq_true, Bool.or_eq_true, decide_eq_true_eq] at h1
  omega
theorem w_hokM : z_hok z_hdM := by
  have h : (List.range z_hdM.length).all (fun j => match z_hdM[j]? with | some q => (decide (10 ≤ q.1) || (decide (1 ≤ q.1) && decide (q.1 ≤ 4) && decide (0 ≤ q.2) && decide (q.2 ≤ 65536))) && (decide (q.1 < 10) || (decide (q.1 - 10 < 13) && decide (q.2 = z_nf (q.1 - 10)))) | none => true) = true := by decide +kernel
  intro j q hq
  have h1 := List.all_eq_true.mp h j (List.mem_range.mpr (List.getElem?_eq_some_iff.mp hq).1)
  rw [hq] at h1
  simp only [Bool.and_eq_true, Bool.or_eq_true, decide_eq_true_eq] at h1
  omega
section
variable {p : Program} {l : Launch} {e : Env} {s : State} {m : MethodId} {below : List Frame} {meth : Method} {c : Code} {dC : Nat → ClassId} {dI : Nat → Nat → Nat} {dA : Nat → ClassId} {dL : ClassId} {adC adM : Nat → Nat} {qo : Nat} {σ τ X : z_S} {f : Nat → Int64} {H : Heap} {locs : List Loc} {b L : Nat} {xs : Nat → Int32}
theorem w_args {ad : Nat → Nat} (ts : List Int32) : (ts.map (fun t => z_I t.toInt)).map (z_cv ad) = ts.map Value.int := by
  rw [List.map_map]
  refine List.map_congr_left fun t _ => ?_
  show Value.int (Int32.ofInt t.toInt) = _
  rw [Int32.ofInt_toInt]
theorem w_argsok {n : Nat} (ts : List Int32) : ∀ v ∈ ts.map (fun t => z_I t.toInt), z_vok n v := fun v hv => by
  obtain ⟨t, -, rfl⟩ := List.mem_map.mp hv
  exact ⟨Int32.le_toInt t, by have := Int32.toInt_lt t; omega⟩
theorem w_lt {D : va_G} {cl : List vw_C} {hc : z_C} {ad : Nat → Nat} {hd : z_H} (hP : va_P D cl (z_wd dA hc ad hd σ) H) {j : Nat} (hj : j < hd.length) : ad j < H.size := by
  exact (hP j _ (z_wd_get (List.getElem?_eq_getElem hj))).lt
theorem w_keep {D : va_G} {cl : List vw_C} {hc : z_C} {ad : Nat → Nat} {hd : z_H} {H1 : Heap} (hP : va_P D cl (z_wd dA hc ad hd σ) H) (h : ∀ j, j < hd.length → H1[ad j]? = H[ad j]?) : va_P D cl (z_wd dA hc ad hd σ) H1 := hP.kept fun k x hx => by
  have hk : k < hd.length := by rw [← z_wd_len (dA := dA) (hc := hc) (ad := ad) (hd := hd) (σ := σ)]; exact (List.getElem?_eq_some_iff.mp hx).1
  rw [z_wd_get (List.getElem?_eq_getElem hk)] at hx
  cases hx
  exact h k hk
theorem w_callC {Q : State → Prop} {pc a x : Nat} {arr : Array Slot} {cells slots : Nat} {rest : List Value} {ts : List Int32} {q : Int × z_S}
    (C0 : lw_At p s m meth c b L xs) (hK : va_K (dC, dI) vwCl (z_tys dA) s) (hap : w_ap adC adM qo) (ok : w_ok a 11 ts.length x) (hev : c_does (z_ev z_hcC 40 a (z_R 1 :: ts.map (fun t => z_I t.toInt)) z_hdC σ) q)
    (J : w_J s dC dI dA dL adC adM qo σ τ f H locs) (hdg : decode code pc = .ok (.invokevirtual x, 3)) (hcats : (rest.map fun v => v.category).sum ≤ 8) (hsize : arr.size = 7) (hfit : cells ≤ room_1.cells ∧ slots ≤ room_1.slots)
    (kk : ∀ (σ' : z_S) (H1 : Heap) (locs1 : List Loc), c_inv σ' q.2 → w_J s dC dI dA dL adC adM qo σ' τ f H1 locs1 → z_in q.1 → W p l e room_1 s m #[.ref b] below meth c H1 locs1 cells slots Q (F0 m (pc + 3) arr (.int (Int32.ofInt q.1) :: rest))) :
    W p l e room_1 s m #[.ref b] below meth c H locs cells slots Q (F0 m pc arr ((ts.map Value.int).reverse ++ .ref (adC 0) :: rest)) := by
  obtain ⟨hx, hb, hr, hml, hown, hts, hX, hbl, hlocks, hgv⟩ := id C0
  obtain ⟨J1, J2, J3, J4, J5, J6, J7, J8, J9⟩ := J
  obtain ⟨o1, o2, o3, o4, o5⟩ := ok
  obtain ⟨σ', hev, hinv⟩ := hev
  rw [← w_args (ad := adC)]
  refine w_call (hc := z_hcC) (hd := z_hdC) (d := 40) (b := 11) (n := 10) hx hb hml hown (fun w hw => hts w (List.mem_filter.mp hw).1) hK (Nat.le_of_ble_eq_true rfl) (Nat.le_of_ble_eq_true rfl) (fun h => by cases h) hev o1 o2 (by rw [List.length_map]; exact o3.symm) o4 (by decide) rfl w_hokC J3 (w_argsok ts) o5 hdg hcats J1 J2 J9 (fun _ h => h) hsize hfit (fun H1 locs1 P1 D1 S1 hv hz hk hS => ?_)
  refine kk σ' H1 locs1 hinv ⟨P1, D1, S1, w_keep J4 (fun j hj => hk _ (w_lt J4 hj) (fun i hi => hap.1 i j hi hj)), J5, J6, ?_, J8, hS⟩ hv
  rw [hk qo (Array.getElem?_eq_some_iff.mp J7).1 (fun i hi => hap.2.1 i hi)]
  exact J7
theorem w_callM {Q : State → Prop} {pc a x : Nat} {arr : Array Slot} {cells slots : Nat} {rest : List Value} {ts : List Int32} {v : Int} {τ' : z_S}
    (C0 : lw_At p s m meth c b L xs) (hK : va_K (dC, dI) vwCl (z_tys dA) s) (hap : w_ap adC adM qo) (ok : w_ok a 12 ts.length x) (hev : z_ev z_hcM 40 a (z_R 1 :: ts.map (fun t => z_I t.toInt)) z_hdM τ = some (z_I v, z_hdM, τ'))
    (J : w_J s dC dI dA dL adC adM qo σ τ f H locs) (hdg : decode code pc = .ok (.invokevirtual x, 3)) (hcats : (rest.map fun v => v.category).sum ≤ 8) (hsize : arr.size = 7) (hfit : cells ≤ room_1.cells ∧ slots ≤ room_1.slots)
    (kk : ∀ (H1 : Heap) (locs1 : List Loc), w_J s dC dI dA dL adC adM qo σ τ' f H1 locs1 → z_in v → W p l e room_1 s m #[.ref b] below meth c H1 locs1 cells slots Q (F0 m (pc + 3) arr (.int (Int32.ofInt v) :: rest))) :
    W p l e room_1 s m #[.ref b] below meth c H locs cells slots Q (F0 m pc arr ((ts.map Value.int).reverse ++ .ref (adM 0) :: rest)) := by
  obtain ⟨hx, hb, hr, hml, hown, hts, hX, hbl, hlocks, hgv⟩ := id C0
  obtain ⟨J1, J2, J3, J4, J5, J6, J7, J8, J9⟩ := J
  obtain ⟨o1, o2, o3, o4, o5⟩ := ok
  rw [← w_args (ad := adM)]
  refine w_call (hc := z_hcM) (hd := z_hdM) (d := 40) (b := 12) (n := 75) hx hb hml hown (fun w hw => hts w (List.mem_filter.mp hw).1) hK (Nat.le_of_ble_eq_true rfl) (Nat.le_of_ble_eq_true rfl) (fun h => by cases h) hev o1 o2 (by rw [List.length_map]; exact o3.symm) o4 (by decide) rfl w_hokM J6 (w_argsok ts) o5 hdg hcats J4 J5 J9 (fun _ h => h) hsize hfit (fun H1 locs1 P1 D1 S1 hv hz hk hS => ?_)
  refine kk H1 locs1 ⟨w_keep J1 (fun i hi => hk _ (w_lt J1 hi) (fun j hj => (hap.1 i j hi hj).symm)), J2, J3, P1, D1, S1, ?_, J8, hS⟩ hv
  rw [hk qo (Array.getElem?_eq_some_iff.mp J7).1 (fun i hi => hap.2.2 i hi)]
  exact J7
end
