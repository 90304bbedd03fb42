/-! The law's start: what its tables and its world give. -/
theorem w_insts (a : Nat) (ha : a < 13) : Jvm.Cond.instantiable (z_cl a) (z_nf a) ∈ lw_tbl := by
  have h : (List.range 13).all (fun a => decide (Jvm.Cond.instantiable (z_cl a) (z_nf a) ∈ lw_tbl)) = true := by decide +kernel
  exact of_decide_eq_true (List.all_eq_true.mp h a (List.mem_range.mpr ha))
theorem w_aw : Jvm.Cond.arrayClass .int ∈ lw_tbl ∧ Jvm.Cond.arrayClass .boolean ∈ lw_tbl ∧ Jvm.Cond.arrayClass .byte ∈ lw_tbl ∧ Jvm.Cond.arrayClass .char ∈ lw_tbl ∧ Jvm.Cond.arrayClass .long ∈ lw_tbl := ⟨List.mem_of_getElem? (i := 135) (by decide +kernel), List.mem_of_getElem? (i := 1557) (by decide +kernel), List.mem_of_getElem? (i := 1558) (by decide +kernel), List.mem_of_getElem? (i := 1559) (by decide +kernel), w_wg⟩
section
variable {s : State} {args : Array Value}
theorem w_arr {ty : FieldType} (h : (Jvm.Cond.arrayClass ty).before args s = true) : ∃ cA : ClassId, ArrOfT s cA ty ∧ s.vm.findClass ("[" ++ ty.toString) = some cA := by
  obtain ⟨cA, kA, comp, h1, h2, h3⟩ := Jvm.Cond.arrayClass_spec h
  exact ⟨cA, fun n z => ⟨(fun k h => (by cases h)), kA, h2, comp, h3⟩, h1⟩
theorem w_known (hts : ∀ w ∈ lw_tbl, w.before args s = true) : ∃ (dC : Nat → ClassId) (dI : Nat → Nat → Nat) (dA : Nat → ClassId) (dL : ClassId), va_K (dC, dI) vwCl (z_tys dA ++ [(dL, .long)]) s := by
  have hk : ∀ a : Nat, ∃ x : ClassId × (Nat → Nat), a < 13 → u_Kn s (z_cl a) (z_T a) (z_nf a) x.1 x.2 := fun a => by
    by_cases h : a < 13
    · obtain ⟨c, i, h1⟩ := u_known (ws := lw_tbl) hts (fun w hw => (List.mem_filter.mp (z_uw a h w hw)).1) (hts _ (w_insts a h))
      exact ⟨(c, i), fun _ => h1⟩
    · exact ⟨(0, fun _ => 0), fun z => absurd z h⟩
  obtain ⟨g, hg⟩ := Classical.skolem.mp hk
  obtain ⟨k1, k2, k3, k4, k5⟩ := w_aw
  obtain ⟨c1, a1, r1⟩ := w_arr (hts _ k1)
  obtain ⟨c2, a2, r2⟩ := w_arr (hts _ k2)
  obtain ⟨c3, a3, r3⟩ := w_arr (hts _ k3)
  obtain ⟨c4, a4, r4⟩ := w_arr (hts _ k4)
  obtain ⟨c5, a5, r5⟩ := w_arr (hts _ k5)
  refine ⟨fun a => (g a).1, fun a => (g a).2, fun k => if k = 1 then c1 else if k = 2 then c2 else if k = 3 then c3 else c4, c5, fun k q hq => ?_, fun k q hq => ?_⟩
  · have hk13 : k < 13 := (List.getElem?_eq_some_iff.mp hq).1
    rw [z_vwCl k hk13] at hq
    cases hq
    exact hg k hk13
  · match k, hq with
    | 0, hq => cases hq; exact ⟨a1, r1⟩
    | 1, hq => cases hq; exact ⟨a2, r2⟩
    | 2, hq => cases hq; exact ⟨a3, r3⟩
    | 3, hq => cases hq; exact ⟨a4, r4⟩
    | 4, hq => cases hq; exact ⟨a5, r5⟩
    | k + 5, hq => simp [z_tys] at hq
theorem w_bad0 (hts : ∀ w ∈ lw_tbl, w.before args s = true) : w_bad s := fun w hw => va_Nw.of (w_at0b w hw).1 (hts w (w_at0b w hw).2.2)
theorem w_l1 : Jvm.Cond.laysStatic Bundle.tN "UNASSIGNED_STACK" Bundle.steD ∈ lw_tbl := by decide +kernel
theorem w_l2 : Jvm.Cond.laysStatic Bundle.tN "SUPPRESSED_SENTINEL" Bundle.listD ∈ lw_tbl := by decide +kernel
theorem w_l3 : Jvm.Cond.initialized Bundle.tN ∈ lw_tbl := by decide +kernel
theorem w_Zq (hts : ∀ w ∈ lw_tbl, w.before args s = true) (hgv : (Jvm.Cond.and given_1 narrow_1).before args s = true) :
    vx_Zq Bundle.tN "UNASSIGNED_STACK" Bundle.steD (fun q => s.heap.size ≤ q) s s.heap ∧ vx_Zq Bundle.tN "SUPPRESSED_SENTINEL" Bundle.listD (fun q => s.heap.size ≤ q) s s.heap :=
  ⟨vx_Zqof (hts _ w_l1) (hts _ w_l3) (flat_of_before _ hgv _ (by decide +kernel)) (fun a h z => by omega), vx_Zqof (hts _ w_l2) (hts _ w_l3) (flat_of_before _ hgv _ (by decide +kernel)) (fun a h z => by omega)⟩
theorem w_traces {l : Launch} (h : l.flags = flags0) : l.stackTraces = false := by
  unfold Launch.stackTraces
  rw [h]
  decide
end
