/-! The law's start: the new objects' fixed fields. -/
def w_fix (hc : z_C) (hd : z_H) (r : Option z_Res) : Bool := match r with
  | some r => (List.range hd.length).all (fun j => match hd[j]? with
    | some q => (decide (q.1 < 10)) || (List.range q.2.toNat).all (fun f => match hc (j + 1) f with
      | some v => decide (r.2.2 (j + 1) f = v)
      | none => true)
    | none => true)
  | none => false
theorem w_fixC : w_fix z_hcC z_hdC z_rC = true := by decide +kernel
theorem w_fixM : w_fix z_hcM z_hdM z_rM = true := by decide +kernel
theorem w_fix_at {hc : z_C} {hd : z_H} {r : z_Res} (h : w_fix hc hd (some r) = true) {j : Nat} {q : Nat × Int} (hq : hd[j]? = some q) (h10 : 10 ≤ q.1) {f : Nat} (hf : f < q.2.toNat) {ty : Nat} : z_fv z_hcN r.2.2 (j + 1) f ty = z_fv hc r.2.2 (j + 1) f ty := by
  have h1 := List.all_eq_true.mp (show (List.range hd.length).all _ = true from h) j (List.mem_range.mpr (List.getElem?_eq_some_iff.mp hq).1)
  rw [hq] at h1
  simp only [Bool.or_eq_true, decide_eq_true_eq] at h1
  rcases h1 with h1 | h1
  · omega
  · have h2 := List.all_eq_true.mp h1 f (List.mem_range.mpr hf)
    unfold z_fv
    split
    · unfold z_gf
      cases hh : hc (j + 1) f with
      | none => rfl
      | some v =>
        rw [hh] at h2
        have h3 : r.2.2 (j + 1) f = v := of_decide_eq_true h2
        show z_R (r.2.2 (j + 1) f) = z_R v
        rw [h3]
    · rfl
    · rfl
theorem w_wd_gen {dA : Nat → ClassId} {ad : Nat → Nat} {hc : z_C} {hd : z_H} {r : z_Res} (hfix : w_fix hc hd (some r) = true) : z_wd dA z_hcN ad hd r.2.2 = z_wd dA hc ad hd r.2.2 ∧ (z_sok z_hcN hd r.2.2 → z_sok hc hd r.2.2) := by
  refine ⟨List.ext_getElem? fun t => ?_, fun hs j q hq => ⟨(hs j q hq).1, fun h10 f hf => ?_⟩⟩
  · cases hq : hd[t]? with
    | none =>
      rw [List.getElem?_eq_none (by rw [z_wd_len]; exact List.getElem?_eq_none_iff.mp hq), List.getElem?_eq_none (by rw [z_wd_len]; exact List.getElem?_eq_none_iff.mp hq)]
    | some q =>
      rw [z_wd_get hq, z_wd_get hq]
      congr 2
      unfold z_cell
      split
      · rfl
      · congr 2
        exact List.map_congr_left fun f hf => by rw [w_fix_at hfix hq (by omega) (List.mem_range.mp hf)]
  · rw [← w_fix_at hfix hq h10 hf]
    exact (hs j q hq).2 h10 f hf
theorem w_wdC {dA : Nat → ClassId} {ad : Nat → Nat} : z_wd dA z_hcN ad z_hdC z_sC = z_wd dA z_hcC ad z_hdC z_sC ∧ (z_sok z_hcN z_hdC z_sC → z_sok z_hcC z_hdC z_sC) := by
  have hfix := w_fixC
  unfold z_sC
  cases hr : z_rC with
  | none => rw [hr] at hfix; cases hfix
  | some r => rw [hr] at hfix; exact w_wd_gen hfix
theorem w_wdM {dA : Nat → ClassId} {ad : Nat → Nat} : z_wd dA z_hcN ad z_hdM z_sM = z_wd dA z_hcM ad z_hdM z_sM ∧ (z_sok z_hcN z_hdM z_sM → z_sok z_hcM z_hdM z_sM) := by
  have hfix := w_fixM
  unfold z_sM
  cases hr : z_rM with
  | none => rw [hr] at hfix; cases hfix
  | some r => rw [hr] at hfix; exact w_wd_gen hfix
