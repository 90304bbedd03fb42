section ZX
variable {p : Program} {l : Launch} {e : Env} {R : Room} {s : State} {m : MethodId} {args : Array Value} {below : List Frame} {meth : Method} {c : Code} {dC : Nat → ClassId} {dI : Nat → Nat → Nat} {dA : Nat → ClassId} {hc : z_C} {mm d : Nat} {ad0 : Nat → Nat} {n0 s0 : Nat} {r : z_Res} {pc pc' : Nat} {ls st st' : List z_V} {hd : z_H} {σ : z_S}
theorem z_sok_updF {j a f : Nat} {n v : Int} (h : hd[j]? = some (10 + a, n)) (hs : z_sok hc hd σ) (hv : z_vok hd.length (z_fv hc (z_upd σ (j + 1) f v) (j + 1) f (z_ft a f))) : z_sok hc hd (z_upd σ (j + 1) f v) := by
  intro t q hq
  by_cases ht : t = j
  · subst ht
    rw [h] at hq; cases hq
    refine ⟨fun z => absurd z (by show ¬ 10 + a < 10; omega), fun _ g hg => ?_⟩
    show z_vok hd.length (z_fv hc (z_upd σ (t + 1) f v) (t + 1) g (z_ft (10 + a - 10) g))
    have h10 : 10 + a - 10 = a := by omega
    rw [h10]
    by_cases hgf : g = f
    · subst hgf; exact hv
    · have h0 := (hs t _ h).2 (by show 10 ≤ 10 + a; omega) g hg
      rw [show (10 + a, n).1 - 10 = a from h10] at h0
      have hne : ¬ ((g : Int) = (f : Int)) := by omega
      unfold z_fv z_gf z_upd at *
      simp only [hne, and_false, if_false]
      exact h0
  · have hne : ¬ ((t : Int) + 1 = (j : Int) + 1) := by omega
    have h0 := hs t q hq
    unfold z_fv z_gf z_upd at *
    simp only [hne, false_and, if_false]
    exact h0
theorem z_sok_updA {j k : Nat} {n i v : Int} (h : hd[j]? = some (k, n)) (hk : k < 10) (hs : z_sok hc hd σ) (hv : z_in v) : z_sok hc hd (z_upd σ (j + 1) i v) := by
  intro t q hq
  by_cases ht : t = j
  · subst ht
    rw [h] at hq; cases hq
    refine ⟨fun _ g => ?_, fun z => absurd z (by show ¬ 10 ≤ k; omega)⟩
    show z_in (if _ then _ else _)
    split
    · exact hv
    · exact (hs t _ h).1 hk g
  · have hne : ¬ ((t : Int) + 1 = (j : Int) + 1) := by omega
    have h0 := hs t q hq
    unfold z_fv z_gf z_upd at *
    simp only [hne, false_and, if_false]
    exact h0
theorem z_W_get (F : z_Fix p s m args meth c R dC dI dA mm d) {o : Int} {a f x : Nat} {q : List z_V} (hk : z_k hd o = 10 + a) (ha : a < 13) (hf : f < z_nf a)
    (hw : Jvm.Cond.fieldLink (z_my mm).cls x (z_T a f).1 (z_T a f).2.1 (z_T a f).2.2.1 ∈ z_tw) (hdg : decode (z_mb mm) pc = .ok (.getfield x, 3))
    (h : z_W p l e R s m args below meth c dC dI dA hc mm ad0 n0 s0 r (pc + 3) ls (z_fv hc σ o f (z_ft a f) :: q) hd σ) :
    z_W p l e R s m args below meth c dC dI dA hc mm ad0 n0 s0 r pc ls (z_R o :: q) hd σ := by
  obtain ⟨hx, hb, hml, hown, hts, -, -, -, hK, -, -⟩ := F
  obtain ⟨j, n, rfl, hj, -, hjl⟩ := z_k_pos hk (by omega)
  have h10 : 10 + a - 10 = a := by omega
  refine z_W_st h (fun _ hho hso hv => ?_) (fun ad H arr locs cells slots Q J hl hvl hvs k => ?_)
  · have hn : n = z_nf a := by have := ((hho j _ hj).2 (by show 10 ≤ 10 + a; omega)).2; rw [show (10 + a, n).1 - 10 = a from h10] at this; exact this
    have h0 := (hso j _ hj).2 (by show 10 ≤ 10 + a; omega) f (by show f < n.toNat; rw [hn]; omega)
    rw [show (10 + a, n).1 - 10 = a from h10] at h0
    exact z_ok_cons h0 (z_ok_tail hv).2
  · have hn : n = z_nf a := by have := ((J.2.2.2.1 j _ hj).2 (by show 10 ≤ 10 + a; omega)).2; rw [show (10 + a, n).1 - 10 = a from h10] at this; exact this
    have he : (z_wd dA hc ad hd σ)[j]? = some (ad j, .inr (a, (List.range n.toNat).map (fun f => z_cv ad (z_fv hc σ (j + 1) f (z_ft a f))))) := by
      rw [z_wd_get hj]
      unfold z_cell
      rw [if_neg (by show ¬ 10 + a < 10; omega)]
      show some (ad j, Sum.inr (10 + a - 10, _)) = _
      rw [h10]
    show W p l e R s m args below meth c H locs cells slots Q (F0 m pc arr (z_cv ad (z_R ((j : Int) + 1)) :: q.map (z_cv ad)))
    rw [z_cv_R]
    refine va_get (C := z_cl a) (T := z_T a) (N := z_nf a) (ci := a) (Ts := z_tw) hx hb hts (z_uw a ha) hown hK J.1 j he (z_vwCl a ha) f hf (hts _ hw) (fun x h => h) ?_ hdg k
    simp [hn, hf]
theorem z_W_put (F : z_Fix p s m args meth c R dC dI dA mm d) {o v : Int} {w : z_V} {a f x : Nat} {q : List z_V} (hk : z_k hd o = 10 + a) (ha : a < 13) (hf : f < z_nf a)
    (hw : Jvm.Cond.fieldLink (z_my mm).cls x (z_T a f).1 (z_T a f).2.1 (z_T a f).2.2.1 ∈ z_tw) (hfin : (z_T a f).2.2.2 = false ∨ ((z_my mm).name = "<init>" ∧ (z_T a f).1 = (z_my mm).cls)) (hdg : decode (z_mb mm) pc = .ok (.putfield x, 3))
    (hwv : w = z_fv hc (z_upd σ o f v) o f (z_ft a f)) (hnar : ∀ ad, narrow (z_ty a f) (z_cv ad w) = z_cv ad w) (hfit : ∀ ad, fits (z_ty a f) (z_cv ad w) = true)
    (h : z_W p l e R s m args below meth c dC dI dA hc mm ad0 n0 s0 r (pc + 3) ls q hd (z_upd σ o f v)) :
    z_W p l e R s m args below meth c dC dI dA hc mm ad0 n0 s0 r pc ls (w :: z_R o :: q) hd σ := by
  obtain ⟨hx, hb, hml, hown, hts, -, -, hnm, hK, -, -⟩ := F
  obtain ⟨j, n, rfl, hj, -, hjl⟩ := z_k_pos hk (by omega)
  have h10 : 10 + a - 10 = a := by omega
  intro hho hso hvl hvs
  have hn : n = z_nf a := by have := ((hho j _ hj).2 (by show 10 ≤ 10 + a; omega)).2; rw [show (10 + a, n).1 - 10 = a from h10] at this; exact this
  have hfn : f < n.toNat := by rw [hn]; omega
  have hvk : z_vok hd.length w := (z_ok_tail hvs).1
  have hso' : z_sok hc hd (z_upd σ (j + 1) f v) := z_sok_updF hj hso (by rw [← hwv]; exact hvk)
  have hh := h hho hso' hvl (z_ok_tail (z_ok_tail hvs).2).2
  refine ⟨hh.1, fun ad H arr locs cells slots J hl => ?_⟩
  obtain ⟨hP, hD, hS, -, -, had, hce, hsl⟩ := J
  have he : (z_wd dA hc ad hd σ)[j]? = some (ad j, .inr (a, (List.range n.toNat).map (fun f => z_cv ad (z_fv hc σ (j + 1) f (z_ft a f))))) := by
    rw [z_wd_get hj]
    unfold z_cell
    rw [if_neg (by show ¬ 10 + a < 10; omega)]
    show some (ad j, Sum.inr (10 + a - 10, _)) = _
    rw [h10]
  have hset := z_wd_setF (dA := dA) (hc := hc) (ad := ad) (σ := σ) hj hfn hwv
  show W p l e R s m args below meth c H locs cells slots _ (F0 m pc arr (z_cv ad w :: z_cv ad (z_R ((j : Int) + 1)) :: q.map (z_cv ad)))
  rw [z_cv_R]
  have kk : ∀ (H1 : Heap) (locs1 : List Loc), va_P (dC, dI) vwCl ((z_wd dA hc ad hd σ).set j (ad j, .inr (a, ((List.range n.toNat).map (fun f => z_cv ad (z_fv hc σ (j + 1) f (z_ft a f)))).set f (z_cv ad w)))) H1 →
      va_D (z_fr ad0 n0 s.heap.size) ((z_wd dA hc ad hd σ).set j (ad j, .inr (a, ((List.range n.toNat).map (fun f => z_cv ad (z_fv hc σ (j + 1) f (z_ft a f)))).set f (z_cv ad w)))) → va_S (z_fr ad0 n0 s.heap.size) s.heap H1 locs1 →
      W p l e R s m args below meth c H1 locs1 cells slots (MQ below (z_Q dC dI dA hc ad0 n0 r) args s (r.2.1.length - n0) (z_sl r.2.1 - s0) (z_fr ad0 n0 s.heap.size)) (F0 m (pc + 3) arr (q.map (z_cv ad))) := by
    intro H1 locs1 hP1 hD1 hS1
    rw [hset] at hP1 hD1
    exact hh.2 ad H1 arr locs1 cells slots ⟨hP1, hD1, hS1, hho, hso', had, hce, hsl⟩ hl
  have hty := z_tyok a ha f hf
  rcases Bool.eq_false_or_eq_true (z_T a f).2.2.2 with hfi | hfi
  · rcases hfin with hfin | ⟨hi, hde⟩
    · rw [hfin] at hfi; cases hfi
    · exact va_putF (C := z_cl a) (T := z_T a) (N := z_nf a) (ci := a) (Ts := z_tw) hx hb hts (z_uw a ha) (z_ty a) (fun k hk => z_tyok a ha k hk) (z_nm a ha) hown hK hP hD hS j he (z_vwCl a ha) f hf (hts _ hw) (fun x h => h) hfi (hnm.trans hi) hde hty (hnar ad) (hfit ad) (by simpa using hfn) hdg kk
  · exact va_put (C := z_cl a) (T := z_T a) (N := z_nf a) (ci := a) (Ts := z_tw) hx hb hts (z_uw a ha) (z_ty a) (fun k hk => z_tyok a ha k hk) (z_nm a ha) hown hK hP hD hS j he (z_vwCl a ha) f hf (hts _ hw) (fun x h => h) hfi hty (hnar ad) (hfit ad) (by simpa using hfn) hdg kk
/-- an array's place is read -/
theorem z_W_ald (F : z_Fix p s m args meth c R dC dI dA mm d) {o i : Int} {t : Nat} {q : List z_V} {ins : Instr} (hk : z_k hd o = t) (h1 : 1 ≤ t) (h4 : t ≤ 4) (hi0 : 0 ≤ i) (hin : i < z_n hd o)
    (hrow : ∀ {H : Heap} {locs : List Loc} {cells slots : Nat} {Q : State → Prop} {arr : Array Slot} {rest : List Value} {ws : va_W} {q0 : Nat} {a n : Nat} {f : Nat → Int32} {i : Int32}, va_P (dC, dI) vwCl ws H → ws[q0]? = some (a, .inl (dA t, n, .inl f)) → vp_in i n →
      W p l e R s m args below meth c H locs cells slots Q (F0 m (pc + 1) arr (.int (f i.toNatClampNeg) :: rest)) → W p l e R s m args below meth c H locs cells slots Q (F0 m pc arr (.int i :: .ref a :: rest)))
    (h : z_W p l e R s m args below meth c dC dI dA hc mm ad0 n0 s0 r (pc + 1) ls (z_I (σ o i) :: q) hd σ) :
    z_W p l e R s m args below meth c dC dI dA hc mm ad0 n0 s0 r pc ls (z_I i :: z_R o :: q) hd σ := by
  obtain ⟨j, n, rfl, hj, hn, hjl⟩ := z_k_pos hk (by omega)
  rw [hn] at hin
  refine z_W_st h (fun _ hho hso hv => ?_) (fun ad H arr locs cells slots Q J hl hvl hvs k => ?_)
  · exact z_ok_cons ((hso j _ hj).1 (by show t < 10; omega) i) (z_ok_tail (z_ok_tail hv).2).2
  · have he : (z_wd dA hc ad hd σ)[j]? = some (ad j, .inl (dA t, n.toNat, .inl (fun i => Int32.ofInt (σ (j + 1) i)))) := by
      rw [z_wd_get hj]
      unfold z_cell
      rw [if_pos (by show t < 10; omega)]
    have hii : z_in i := (z_ok_tail hvs).1
    show W p l e R s m args below meth c H locs cells slots Q (F0 m pc arr (.int (Int32.ofInt i) :: z_cv ad (z_R ((j : Int) + 1)) :: q.map (z_cv ad)))
    rw [z_cv_R]
    refine hrow J.1 he (z_vpin hii hi0 hin) ?_
    rw [z_clamp hii]
    have hti : ((i.toNat : Nat) : Int) = i := Int.toNat_of_nonneg hi0
    rw [hti]
    exact k
/-- an array's place is written -/
theorem z_W_ast (F : z_Fix p s m args meth c R dC dI dA mm d) {o i v v' : Int} {t : Nat} {q : List z_V} (hk : z_k hd o = t) (h1 : 1 ≤ t) (h4 : t ≤ 4) (hi0 : 0 ≤ i) (hin : i < z_n hd o) {g : Int32} (hg : Int32.ofInt v' = g) (hv' : z_in v')
    (hrow : ∀ {H : Heap} {locs : List Loc} {cells slots : Nat} {Q : State → Prop} {arr : Array Slot} {rest : List Value} {ws : va_W} {q0 : Nat} {a n : Nat} {f : Nat → Int32} {i : Int32}, va_P (dC, dI) vwCl ws H → va_D (z_fr ad0 n0 s.heap.size) ws → va_S (z_fr ad0 n0 s.heap.size) s.heap H locs → ws[q0]? = some (a, .inl (dA t, n, .inl f)) → vp_in i n →
      (∀ (H1 : Heap) (locs1 : List Loc), va_P (dC, dI) vwCl (ws.set q0 (a, .inl (dA t, n, .inl (upd f i.toNatClampNeg g)))) H1 → va_D (z_fr ad0 n0 s.heap.size) (ws.set q0 (a, .inl (dA t, n, .inl (upd f i.toNatClampNeg g)))) → va_S (z_fr ad0 n0 s.heap.size) s.heap H1 locs1 →
        W p l e R s m args below meth c H1 locs1 cells slots Q (F0 m (pc + 1) arr rest)) → W p l e R s m args below meth c H locs cells slots Q (F0 m pc arr (.int (Int32.ofInt v) :: .int i :: .ref a :: rest)))
    (h : z_W p l e R s m args below meth c dC dI dA hc mm ad0 n0 s0 r (pc + 1) ls q hd (z_upd σ o i v')) :
    z_W p l e R s m args below meth c dC dI dA hc mm ad0 n0 s0 r pc ls (z_I v :: z_I i :: z_R o :: q) hd σ := by
  obtain ⟨j, n, rfl, hj, hn, hjl⟩ := z_k_pos hk (by omega)
  rw [hn] at hin
  intro hho hso hvl hvs
  have hso' : z_sok hc hd (z_upd σ (j + 1) i v') := z_sok_updA hj (by omega) hso hv'
  have hh := h hho hso' hvl (z_ok_tail (z_ok_tail (z_ok_tail hvs).2).2).2
  refine ⟨hh.1, fun ad H arr locs cells slots J hl => ?_⟩
  obtain ⟨hP, hD, hS, -, -, had, hce, hsl⟩ := J
  have he : (z_wd dA hc ad hd σ)[j]? = some (ad j, .inl (dA t, n.toNat, .inl (fun i => Int32.ofInt (σ (j + 1) i)))) := by
    rw [z_wd_get hj]
    unfold z_cell
    rw [if_pos (by show t < 10; omega)]
  have hii : z_in i := (z_ok_tail (z_ok_tail hvs).2).1
  have hset := z_wd_setA (dA := dA) (hc := hc) (ad := ad) (σ := σ) hj (by omega) (v := v') hi0 hii
  rw [hg] at hset
  show W p l e R s m args below meth c H locs cells slots _ (F0 m pc arr (.int (Int32.ofInt v) :: .int (Int32.ofInt i) :: z_cv ad (z_R ((j : Int) + 1)) :: q.map (z_cv ad)))
  rw [z_cv_R]
  refine hrow hP hD hS he (z_vpin hii hi0 hin) (fun H1 locs1 hP1 hD1 hS1 => ?_)
  rw [hset] at hP1 hD1
  exact hh.2 ad H1 arr locs1 cells slots ⟨hP1, hD1, hS1, hho, hso', had, hce, hsl⟩ hl
theorem z_ll_ad {n : Nat} {ad ad' : Nat → Nat} (h : ∀ j, j < n → ad' j = ad j) {ls : List z_V} (hv : ∀ v ∈ ls, z_vok n v) : ∀ q, q ∈ z_ll ad' ls → q ∈ z_ll ad ls := by
  intro q hq
  obtain ⟨v, h1, h2, h3⟩ := z_ll_mem.mp hq
  exact z_ll_mem.mpr ⟨v, h1, h2, by rw [h3, z_cv_ad h (hv v (List.mem_of_getElem? h1))]⟩
theorem z_loc_ad {n nL : Nat} {ad ad' : Nat → Nat} {arr : Array Slot} (h : ∀ j, j < n → ad' j = ad j) {ls : List z_V} (hv : ∀ v ∈ ls, z_vok n v) (hl : z_loc ad ls arr nL) : z_loc ad' ls arr nL := ⟨z_lv_weak hl.1 (z_ll_ad h hv), hl.2⟩
theorem z_map_ad {n : Nat} {ad ad' : Nat → Nat} (h : ∀ j, j < n → ad' j = ad j) {ls : List z_V} (hv : ∀ v ∈ ls, z_vok n v) : ls.map (z_cv ad') = ls.map (z_cv ad) := List.map_congr_left fun v hm => z_cv_ad h (hv v hm)
theorem z_cell_ad {ad ad' : Nat → Nat} (h : ∀ j, j < hd.length → ad' j = ad j) (hs : z_sok hc hd σ) {j : Nat} {q : Nat × Int} (hj : hd[j]? = some q) : z_cell dA hc ad' σ j q = z_cell dA hc ad σ j q := by
  unfold z_cell
  split
  · rfl
  · next hq =>
    congr 2
    refine List.map_congr_left fun f hf => ?_
    exact z_cv_ad h ((hs j q hj).2 (by omega) f (List.mem_range.mp hf))
theorem z_wd_push {ad : Nat → Nat} {x : Nat} {q : Nat × Int} (hs : z_sok hc hd σ) :
    z_wd dA hc (fun j => if j = hd.length then x else ad j) (hd ++ [q]) (z_new σ (hd.length + 1)) = z_wd dA hc ad hd σ ++ [(x, z_cell dA hc (fun j => if j = hd.length then x else ad j) (fun _ _ => 0) hd.length q)] := by
  unfold z_wd
  rw [List.mapIdx_append]
  congr 1
  · refine List.ext_getElem? fun t => ?_
    rw [List.getElem?_mapIdx, List.getElem?_mapIdx]
    cases hq : hd[t]? with
    | none => rfl
    | some q =>
      have hlt : t < hd.length := (List.getElem?_eq_some_iff.mp hq).1
      have hne0 : ¬ (t = hd.length) := by omega
      show some ((if t = hd.length then x else ad t), z_cell dA hc (fun j => if j = hd.length then x else ad j) (z_new σ (hd.length + 1)) t q) = some (ad t, z_cell dA hc ad σ t q)
      rw [if_neg hne0]
      congr 2
      rw [← z_cell_ad (dA := dA) (ad := ad) (ad' := fun j => if j = hd.length then x else ad j) (fun j hj => if_neg (by omega)) hs hq]
      have hne : ¬ ((t : Int) + 1 = (hd.length : Int) + 1) := by omega
      unfold z_cell z_fv z_gf z_new
      simp only [hne, if_false]
  · simp only [List.mapIdx_cons, List.mapIdx_nil, Nat.zero_add, if_true]
    congr 2
    unfold z_cell z_fv z_gf z_new
    simp
end ZX
section ZY
variable {p : Program} {l : Launch} {e : Env} {R : Room} {s : State} {m : MethodId} {args : Array Value} {below : List Frame} {meth : Method} {c : Code} {dC : Nat → ClassId} {dI : Nat → Nat → Nat} {dA : Nat → ClassId} {hc : z_C} {mm d : Nat} {ad0 : Nat → Nat} {n0 s0 : Nat} {r : z_Res} {pc pc' : Nat} {ls st st' : List z_V} {hd : z_H} {σ : z_S}
theorem z_sl_app (hd x : z_H) : z_sl (hd ++ x) = z_sl hd + z_sl x := by
  unfold z_sl
  rw [List.map_append, List.sum_append]
theorem z_hok_push {q : Nat × Int} (h : z_hok hd) (hq : (q.1 < 10 → 1 ≤ q.1 ∧ q.1 ≤ 4 ∧ 0 ≤ q.2 ∧ q.2 ≤ 65536) ∧ (10 ≤ q.1 → q.1 - 10 < 13 ∧ q.2 = z_nf (q.1 - 10))) : z_hok (hd ++ [q]) := by
  intro j q' hj
  by_cases hl : j < hd.length
  · rw [List.getElem?_append_left hl] at hj
    exact h j q' hj
  · rw [List.getElem?_append_right (by omega)] at hj
    have hz : j - hd.length < 1 := (List.getElem?_eq_some_iff.mp hj).1
    rw [show j - hd.length = 0 by omega] at hj
    cases hj
    exact hq
theorem z_fv0 (hn : ∀ o f, hc o f = none) {n : Nat} {o : Int} (f ty : Nat) : z_vok n (z_fv hc (z_new σ o) o f ty) := by
  unfold z_fv z_gf z_new
  rw [hn]
  split <;> simp [z_vok, z_in, z_inl]
theorem z_sok_push {q : Nat × Int} (hs : z_sok hc hd σ) (hq : q.1 < 10 ∨ ∀ o f, hc o f = none) : z_sok hc (hd ++ [q]) (z_new σ (hd.length + 1)) := by
  intro j q' hj
  by_cases hl : j < hd.length
  · rw [List.getElem?_append_left hl] at hj
    have hne : ¬ ((j : Int) + 1 = (hd.length : Int) + 1) := by omega
    have h0 := hs j q' hj
    refine ⟨fun h1 i => ?_, fun h1 f hf => ?_⟩
    · show z_in (if _ then _ else _)
      rw [if_neg hne]
      exact h0.1 h1 i
    · have h2 := h0.2 h1 f hf
      have h3 : z_fv hc (z_new σ (hd.length + 1)) (j + 1) f (z_ft (q'.1 - 10) f) = z_fv hc σ (j + 1) f (z_ft (q'.1 - 10) f) := by
        unfold z_fv z_gf z_new
        simp only [hne, if_false]
      rw [h3]
      exact z_vok_le (by rw [List.length_append]; omega) h2
  · rw [List.getElem?_append_right (by omega)] at hj
    have hz : j - hd.length < 1 := (List.getElem?_eq_some_iff.mp hj).1
    have hjl : j = hd.length := by omega
    rw [show j - hd.length = 0 by omega] at hj
    cases hj
    subst hjl
    refine ⟨fun h1 i => ?_, fun h1 f hf => ?_⟩
    · show z_in (if _ then _ else _)
      rw [if_pos rfl]
      exact z_in0
    · rcases hq with hq | hq
      · exact absurd hq (by show ¬ q.1 < 10; omega)
      · exact z_fv0 hq f _
theorem z_W_newa (F : z_Fix p s m args meth c R dC dI dA mm d) (hRc : R.cells = r.2.1.length - n0) (hRs : R.slots = z_sl r.2.1 - s0) {n : Int} {t : ArrayType} {q : List z_V}
    (hn0 : 0 ≤ n) (hn1 : n ≤ 65536) (ht : 0 < z_akind t) (hw : Jvm.Cond.arrayClass (newarray.typeOf t) ∈ z_tw) (hdg : decode (z_mb mm) pc = .ok (.newarray t, 2))
    (h : z_W p l e R s m args below meth c dC dI dA hc mm ad0 n0 s0 r (pc + 2) ls (z_R (hd.length + 1) :: q) (hd ++ [(z_akind t, n)]) (z_new σ (hd.length + 1))) :
    z_W p l e R s m args below meth c dC dI dA hc mm ad0 n0 s0 r pc ls (z_I n :: q) hd σ := by
  obtain ⟨hx, hb, hml, hown, hts, -, -, hnm, hK, -, -⟩ := F
  intro hho hso hvl hvs
  have hk4 : z_akind t < 10 ∧ z_akind t ≤ 4 := by cases t <;> decide
  have hni : z_in n := ⟨by omega, by omega⟩
  have hho' : z_hok (hd ++ [(z_akind t, n)]) := z_hok_push hho ⟨fun _ => ⟨ht, hk4.2, hn0, hn1⟩, fun z => absurd z (by show ¬ 10 ≤ z_akind t; omega)⟩
  have hso' : z_sok hc (hd ++ [(z_akind t, n)]) (z_new σ (hd.length + 1)) := z_sok_push hso (Or.inl hk4.1)
  have hh := h hho' hso' (fun v hv => z_vok_le (by rw [List.length_append]; omega) (hvl v hv)) (z_ok_cons ⟨by omega, by rw [List.length_append]; simp⟩ (fun v hv => z_vok_le (by rw [List.length_append]; omega) ((z_ok_tail hvs).2 v hv)))
  obtain ⟨⟨x, hpre⟩, hfin⟩ := hh.1
  refine ⟨⟨⟨(z_akind t, n) :: x, by rw [hpre]; simp⟩, hfin⟩, fun ad H arr locs cells slots J hl => ?_⟩
  obtain ⟨hP, hD, hS, -, -, had, hce, hsl⟩ := J
  have hlen : r.2.1.length = hd.length + 1 + x.length := by rw [hpre]; simp; omega
  have hslot : z_sl r.2.1 = z_sl hd + n.toNat + z_sl x := by rw [hpre, z_sl_app, z_sl_app]; unfold z_sl; simp
  have hsz : ∀ q, s.heap.size ≤ q → z_fr ad0 n0 s.heap.size q := fun q h => Or.inr h
  refine va_newa (atype := t) (ty := newarray.typeOf t) (a0 := (n.toNat, .inl (fun _ => 0))) (N' := n.toNat) hx hb (hts _ hw) rfl hK hP hD hS hsz (fun cA => ?_) (fun z => ?_) (z_clamp hni) ?_ (by rw [hRc]; omega) (by rw [hRs]; omega) hdg (fun q0 cA H1 hK1 hP1 hD1 hS1 => ?_)
  · cases t <;> first | rfl | (exact absurd ht (by decide))
  · rw [show (0 : Int32) = Int32.ofInt 0 from rfl, z_lt32 hni z_in0] at z; omega
  · have : componentBytes (newarray.typeOf t) ≤ 8 := by cases t <;> decide
    calc n.toNat * componentBytes (newarray.typeOf t) ≤ 65536 * 8 := Nat.mul_le_mul (by omega) this
      _ ≤ _ := by decide
  · have hcA : cA = dA (z_akind t) := by
      have h1 := (hK1.2 4 (cA, newarray.typeOf t) rfl).2
      have h2 : va_RA s (dA (z_akind t)) (newarray.typeOf t) := by
        cases t with
        | int => exact (hK.2 0 _ rfl).2
        | boolean => exact (hK.2 1 _ rfl).2
        | byte => exact (hK.2 2 _ rfl).2
        | char => exact (hK.2 3 _ rfl).2
        | float => exact absurd ht (by decide)
        | double => exact absurd ht (by decide)
        | short => exact absurd ht (by decide)
        | long => exact absurd ht (by decide)
      cases t <;> first | exact Option.some.inj (h1.symm.trans h2) | exact absurd ht (by decide)
    subst hcA
    have hpush := z_wd_push (dA := dA) (ad := ad) (x := q0) (q := (z_akind t, n)) hso
    have hcell : z_cell dA hc (fun j => if j = hd.length then q0 else ad j) (fun _ _ => 0) hd.length (z_akind t, n) = .inl (dA (z_akind t), n.toNat, .inl (fun _ => 0)) := by
      unfold z_cell
      rw [if_pos hk4.1]
      rfl
    rw [hcell] at hpush
    rw [← hpush] at hP1 hD1
    have hadn : ∀ j, j < hd.length → (fun j => if j = hd.length then q0 else ad j) j = ad j := fun j hj => if_neg (by omega)
    have k := hh.2 (fun j => if j = hd.length then q0 else ad j) H1 arr locs (cells + 1) (slots + n.toNat)
      ⟨hP1, hD1, hS1, hho', hso', fun j hj => by rw [hadn j (by omega)]; exact had j hj, by rw [List.length_append]; show cells + 1 + n0 = hd.length + 1; omega, by rw [z_sl_app]; unfold z_sl at *; simp; omega⟩
      (z_loc_ad hadn hvl hl)
    rw [List.map_cons, z_map_ad hadn (z_ok_tail hvs).2] at k
    have hr : z_cv (fun j => if j = hd.length then q0 else ad j) (z_R (hd.length + 1)) = .ref q0 := by
      rw [z_cv_R]; show Value.ref (if hd.length = hd.length then q0 else ad hd.length) = _; rw [if_pos rfl]
    rw [hr] at k
    exact k
theorem z_W_new (F : z_Fix p s m args meth c R dC dI dA mm d) (hRc : R.cells = r.2.1.length - n0) (hRs : R.slots = z_sl r.2.1 - s0) (hn : ∀ o f, hc o f = none) {a x : Nat} (ha : a < 13)
    (hw : Jvm.Cond.classLink (z_my mm).cls x (z_cl a) ∈ z_tw) (hw1 : Jvm.Cond.instantiable (z_cl a) (z_nf a) ∈ z_tw) (hw2 : Jvm.Cond.initialized (z_cl a) ∈ z_tw) (hdg : decode (z_mb mm) pc = .ok (.new x, 3))
    (h : z_W p l e R s m args below meth c dC dI dA hc mm ad0 n0 s0 r (pc + 3) ls (z_R (hd.length + 1) :: st) (hd ++ [(10 + a, (z_nf a : Int))]) (z_new σ (hd.length + 1))) :
    z_W p l e R s m args below meth c dC dI dA hc mm ad0 n0 s0 r pc ls st hd σ := by
  obtain ⟨hx, hb, hml, hown, hts, -, -, hnm, hK, -, -⟩ := F
  intro hho hso hvl hvs
  have h10 : 10 + a - 10 = a := by omega
  have hho' : z_hok (hd ++ [(10 + a, (z_nf a : Int))]) := z_hok_push hho ⟨fun z => absurd z (by show ¬ 10 + a < 10; omega), fun _ => by rw [show (10 + a, (z_nf a : Int)).1 - 10 = a from h10]; exact ⟨ha, rfl⟩⟩
  have hso' : z_sok hc (hd ++ [(10 + a, (z_nf a : Int))]) (z_new σ (hd.length + 1)) := z_sok_push hso (Or.inr hn)
  have hh := h hho' hso' (fun v hv => z_vok_le (by rw [List.length_append]; omega) (hvl v hv)) (z_ok_cons ⟨by omega, by rw [List.length_append]; simp⟩ (fun v hv => z_vok_le (by rw [List.length_append]; omega) (hvs v hv)))
  obtain ⟨⟨y, hpre⟩, hfin⟩ := hh.1
  refine ⟨⟨⟨(10 + a, (z_nf a : Int)) :: y, by rw [hpre]; simp⟩, hfin⟩, fun ad H arr locs cells slots J hl => ?_⟩
  obtain ⟨hP, hD, hS, -, -, had, hce, hsl⟩ := J
  have hlen : r.2.1.length = hd.length + 1 + y.length := by rw [hpre]; simp; omega
  have hslot : z_sl r.2.1 = z_sl hd + z_nf a + z_sl y := by rw [hpre, z_sl_app, z_sl_app]; unfold z_sl; simp
  have hsz : ∀ q, s.heap.size ≤ q → z_fr ad0 n0 s.heap.size q := fun q h => Or.inr h
  refine va_new (C := z_cl a) (T := z_T a) (N := z_nf a) (ci := a) (Ts := z_tw) (fs := (List.range (z_nf a)).map (fun f => z_cv ad (z_fv hc (fun _ _ => 0) (hd.length + 1) f (z_ft a f)))) hx hb hts (z_uw a ha) (z_ty a) (fun k hk => z_tyok a ha k hk) hown (hts _ hw) (hts _ hw1) (hts _ hw2) hK hP hD hS hsz (z_vwCl a ha) (fun j hj => ?_) (by rw [hRc]; omega) (by rw [hRs]; omega) hdg (fun q0 H1 hP1 hD1 hS1 => ?_)
  · rw [z_dfc a ha j hj]
    unfold vp_V
    rw [List.getD_eq_getElem?_getD, List.getElem?_map, List.getElem?_range hj]
    show _ = z_cv ad (z_fv hc (fun _ _ => 0) (hd.length + 1) j (z_ft a j))
    generalize z_ft a j = w
    unfold z_fv z_gf
    rw [hn]
    match w with
    | 0 => rfl
    | 1 => rfl
    | 2 => rfl
    | w + 3 => rfl
  · have hpush := z_wd_push (dA := dA) (ad := ad) (x := q0) (q := (10 + a, (z_nf a : Int))) hso
    have hcell : z_cell dA hc (fun j => if j = hd.length then q0 else ad j) (fun _ _ => 0) hd.length (10 + a, (z_nf a : Int)) = .inr (a, (List.range (z_nf a)).map (fun f => z_cv ad (z_fv hc (fun _ _ => 0) (hd.length + 1) f (z_ft a f)))) := by
      unfold z_cell
      rw [if_neg (by show ¬ 10 + a < 10; omega)]
      show Sum.inr (10 + a - 10, _) = _
      rw [h10]
      congr 2
      refine List.map_congr_left fun f hf => ?_
      unfold z_fv z_gf
      rw [hn]
      split <;> rfl
    rw [hcell] at hpush
    rw [← hpush] at hP1 hD1
    have hadn : ∀ j, j < hd.length → (fun j => if j = hd.length then q0 else ad j) j = ad j := fun j hj => if_neg (by omega)
    have k := hh.2 (fun j => if j = hd.length then q0 else ad j) H1 arr locs (cells + 1) (slots + z_nf a)
      ⟨hP1, hD1, hS1, hho', hso', fun j hj => by rw [hadn j (by omega)]; exact had j hj, by rw [List.length_append]; show cells + 1 + n0 = hd.length + 1; omega, by rw [z_sl_app]; unfold z_sl at *; simp; omega⟩
      (z_loc_ad hadn hvl hl)
    rw [List.map_cons, z_map_ad hadn hvs] at k
    have hr : z_cv (fun j => if j = hd.length then q0 else ad j) (z_R (hd.length + 1)) = .ref q0 := by
      rw [z_cv_R]; show Value.ref (if hd.length = hd.length then q0 else ad hd.length) = _; rw [if_pos rfl]
    rw [hr] at k
    exact k
end ZY
section ZZ
variable {p : Program} {l : Launch} {e : Env} {R : Room} {s : State} {m : MethodId} {args : Array Value} {below : List Frame} {meth : Method} {c : Code} {dC : Nat → ClassId} {dI : Nat → Nat → Nat} {dA : Nat → ClassId} {hc : z_C} {mm d : Nat} {ad0 : Nat → Nat} {n0 s0 : Nat} {r : z_Res} {pc pc' : Nat} {ls st st' : List z_V} {hd : z_H} {σ : z_S}
def z_rl (v : z_V) : List z_V := match v with
  | .inr (.inr (.inr _)) => []
  | v => [v]
theorem z_rl_cv (ad : Nat → Nat) (v : z_V) : (z_rv ad v).toList = (z_rl v).map (z_cv ad) := by
  unfold z_rv z_rl
  split <;> simp_all
theorem z_rl_ok {n : Nat} {v : z_V} {qs : List z_V} (h : z_vok n v) (hq : ∀ v ∈ qs, z_vok n v) : ∀ w ∈ z_rl v ++ qs, z_vok n w := fun w hw => by
  rcases List.mem_append.mp hw with h1 | h1
  · have : w = v := by
      revert h1; unfold z_rl; split <;> simp
    rw [this]; exact h
  · exact hq w h1
theorem z_fr_in {ad : Nat → Nat} {H : Heap} {locs : List Loc} {cells slots : Nat} (J : z_J s dC dI dA hc ad0 n0 s0 hd σ ad H locs cells slots) : ∀ q, z_fr ad hd.length H.size q → z_fr ad0 n0 s.heap.size q := by
  obtain ⟨hP, hD, hS, -⟩ := J
  intro q hq
  rcases hq with ⟨j, hj, rfl⟩ | hq
  · have hq0 : hd[j]? = some hd[j] := List.getElem?_eq_getElem hj
    exact hD.2 j _ (z_wd_get hq0)
  · exact Or.inr (Nat.le_trans hS.1 hq)
/-- behind a call -/
theorem z_W_ran {H : Heap} {arr : Array Slot} {locs : List Loc} {cells slots mc' ms' : Nat} {ad : Nat → Nat} {st0 : List Value} {qs : List z_V} {a : Array Value} {r' : z_Res}
    (hr : va_Run p l e R s m args below meth c H locs cells slots mc' ms' (F0 m pc arr st0) (qs.map (z_cv ad)) (z_Q dC dI dA hc ad hd.length r' a) (z_fr ad hd.length H.size))
    (hmc : mc' = r'.2.1.length - hd.length) (hms : ms' = z_sl r'.2.1 - z_sl hd) (hx : ∃ x, r'.2.1 = hd ++ x)
    (J : z_J s dC dI dA hc ad0 n0 s0 hd σ ad H locs cells slots) (hl : z_loc ad ls arr (z_ml mm)) (hvl : ∀ v ∈ ls, z_vok hd.length v) (hvq : ∀ v ∈ qs, z_vok hd.length v)
    (h : z_W p l e R s m args below meth c dC dI dA hc mm ad0 n0 s0 r (pc + 3) ls (z_rl r'.1 ++ qs) r'.2.1 r'.2.2) :
    W p l e R s m args below meth c H locs cells slots (MQ below (z_Q dC dI dA hc ad0 n0 r) args s (r.2.1.length - n0) (z_sl r.2.1 - s0) (z_fr ad0 n0 s.heap.size)) (F0 m pc arr st0) := by
  intro T hT X
  have hfr := z_fr_in J
  obtain ⟨hP, hD, hS, hho, hso, had, hce, hsl⟩ := J
  obtain ⟨v, st₀, t, T', L, h0, X', hL, e1, e2, ⟨⟨ad', had', hv, hvok, hhok, hsok, hP', hD'⟩, hz, hk⟩, stp⟩ := hr T hT X
  cases hv
  rw [h0] at hz hk hD'
  obtain ⟨x, hx⟩ := hx
  have hle : hd.length ≤ r'.2.1.length := by rw [hx, List.length_append]; omega
  have hsle : z_sl hd ≤ z_sl r'.2.1 := by rw [hx, z_sl_app]; omega
  have hS' : va_S (z_fr ad0 n0 s.heap.size) s.heap T'.heap (locs ++ L) :=
    ⟨Nat.le_trans hS.1 (by rw [e1]; exact hz), fun q h1 h2 => by rw [e1, hk q (Nat.lt_of_lt_of_le h1 hS.1) (fun z => h2 (hfr q z))]; exact hS.2.1 q h1 h2, fun q hq => by
      rcases List.mem_append.mp hq with h | h
      · exact hS.2.2 q h
      · exact hfr _ (hL q h)⟩
  have hn0 : n0 ≤ hd.length := by omega
  have hvo : ∀ v ∈ z_rl r'.1 ++ qs, z_vok r'.2.1.length v := z_rl_ok hvok (fun v hv => z_vok_le hle (hvq v hv))
  obtain ⟨t2, a1, b1⟩ := (h hhok hsok (fun v hv => z_vok_le hle (hvl v hv)) hvo).2 ad' T'.heap arr (locs ++ L) (cells + mc') (slots + ms')
    ⟨by rw [e1]; exact hP', hD'.weaken (fun _ q _ z => hfr _ z), hS', hhok, hsok, fun j hj => by rw [had' j (by omega)]; exact had j hj, by omega, by omega⟩
    (z_loc_ad had' hvl hl) T' rfl X'
  have hst : (z_rl r'.1 ++ qs).map (z_cv ad') = (z_rv ad' r'.1).toList ++ qs.map (z_cv ad) := by
    rw [List.map_append, z_map_ad had' hvq, z_rl_cv]
  rw [hst] at a1
  exact ⟨t2, stp t2 a1, b1⟩
def z_Pc (dC : Nat → ClassId) (dI : Nat → Nat → Nat) (dA : Nat → ClassId) (hc : z_C) (as : List z_V) (hd : z_H) (σ : z_S) (ad : Nat → Nat) (sz : Nat) : Array Value → State → Prop :=
  va_Pc (as.map (z_cv ad)) (fun U => U.heap.size = sz ∧ va_P (dC, dI) vwCl (z_wd dA hc ad hd σ) U.heap ∧ va_K (dC, dI) vwCl (z_tys dA) U ∧ va_D (fun _ => True) (z_wd dA hc ad hd σ))
def z_ws (mm : Nat) : List Jvm.Cond := .code (z_my mm) (z_mb mm) (z_ml mm) (z_mr mm) :: z_tw
def z_Met (l : Launch) (dC : Nat → ClassId) (dI : Nat → Nat → Nat) (dA : Nat → ClassId) (hc : z_C) (d mm : Nat) (as : List z_V) (hd : z_H) (σ : z_S) (r : z_Res) (ad : Nat → Nat) (sz : Nat) : Prop :=
  Met l (z_my mm) (z_ws mm) ({ frames := d, cells := r.2.1.length - hd.length, slots := z_sl r.2.1 - z_sl hd, locals := 60 * d } : Room) (z_Pc dC dI dA hc as hd σ ad sz) (z_Q dC dI dA hc ad hd.length r) (r.2.1.length - hd.length) (z_sl r.2.1 - z_sl hd) (z_fr ad hd.length sz)
theorem z_Pc_blind {as : List z_V} {ad : Nat → Nat} {sz : Nat} : FrameBlind (z_Pc dC dI dA hc as hd σ ad sz) := by
  intro a U g mk q
  obtain ⟨h1, h2, h3, h4, h5⟩ := q
  exact ⟨h1, h2, h3, va_K.moved (u := U) (U := U.calling g mk a) (Vm.Alike.refl U.vm) h4, h5⟩
/-- what is known of a method of the tables -/
def z_okm (mm : Nat) : Prop := (z_code mm).all (z_chk mm) = true ∧ Jvm.Cond.code (z_my mm) (z_mb mm) (z_ml mm) (z_mr mm) ∈ z_tw ∧ z_mchk (z_mp mm) = true ∧ (z_mp mm).1 = mm
/-- the calls, one level less deep -/
def z_IH (l : Launch) (dC : Nat → ClassId) (dI : Nat → Nat → Nat) (dA : Nat → ClassId) (hc : z_C) (d : Nat) : Prop :=
  ∀ (a : Nat) (as : List z_V) (hd : z_H) (σ : z_S) (r : z_Res), z_ev hc d a as hd σ = some r → (z_mp a).1 = a → z_hok hd → z_sok hc hd σ → (∀ v ∈ as, z_vok hd.length v) → z_fin hc hd r ∧ ∀ (ad : Nat → Nat) (sz : Nat), z_Met l dC dI dA hc d a as hd σ r ad sz
theorem z_tw_good : ∀ {w : Jvm.Cond}, w ∈ z_tw → (w.onTables && w.keeps) = true ∨ ∃ ty, w = .arrayClass ty := fun h => good_of_word (List.mem_filter.mp h).2
theorem z_goodIn (ws : List Jvm.Cond) (h : ∀ w ∈ ws, w ∈ z_tw) : GoodIn z_tw ws := fun w hw => ⟨h w hw, z_tw_good (h w hw)⟩
theorem z_ws_good {a : Nat} (ok : z_okm a) : GoodIn z_tw (z_ws a) := z_goodIn _ (fun w hw => by
  rcases List.mem_cons.mp hw with rfl | hw
  · exact ok.2.1
  · exact hw)
/-- the answer of a call goes onto the stack -/
theorem z_res_some {β : Type} {x : β} {d : Nat} {q : Option z_Res} {rest : List z_V} {k : List z_V → z_H → z_S → Option β} (h : z_res d q rest k = some x) : ∃ r', q = some r' ∧ k (z_rl r'.1 ++ rest) r'.2.1 r'.2.2 = some x := by
  unfold z_res at h
  split at h
  · obtain ⟨hd, σ, h1, h2⟩ := z_cV_some h
    exact ⟨_, h1, h2⟩
  · obtain ⟨v, hd, σ, h1, h2⟩ := z_cI_some h
    exact ⟨_, h1, h2⟩
theorem z_recv_some {β : Type} {x : β} {hd : z_H} {as : List z_V} {cls : Nat} {k : Option β} (h : z_recv hd as cls k = some x) : ∃ o t, as = z_R o :: t ∧ z_k hd o = 10 + cls ∧ k = some x := by
  unfold z_recv at h
  split at h
  · obtain ⟨h1, h2⟩ := z_ite_some h
    exact ⟨_, _, rfl, h1, h2⟩
  · cases h
theorem z_mchk_of {a : Nat} (ok : z_okm a) : (parseMethodDescriptor (z_my a).desc).map (fun d => d.parameters.length) = some (z_np a) ∧ plainName (z_my a).cls = true ∧ ((z_my a).cls ≠ "java/lang/invoke/MethodHandle" ∧ (z_my a).cls ≠ "java/lang/invoke/VarHandle") ∧ Jvm.Cond.initialized (z_my a).cls ∈ z_tw ∧ z_ml a ≤ 40 ∧ z_np a + (if z_kd a = 1 then 0 else 1) ≤ z_ml a ∧
    (z_kd a = 1 → Jvm.Cond.static (z_my a) ∈ z_tw) ∧ (z_kd a ≠ 1 → Jvm.Cond.instanceMethod (z_my a) ∈ z_tw) ∧ (z_kd a = 0 → Jvm.Cond.selects (z_my a).cls (z_my a) (z_my a) ∈ z_tw) ∧ (z_kd a = 2 → (z_my a).name = "<init>") := by
  have h := ok.2.2.1
  have h1 := ok.2.2.2
  unfold z_kd z_np
  generalize z_mp a = q at h h1 ⊢
  obtain ⟨m, kd, np, w, p1, p2, p3⟩ := q
  dsimp only at h1
  subst h1
  simp only [z_mchk, z_plain, Bool.and_eq_true, decide_eq_true_eq] at h
  obtain ⟨⟨⟨⟨⟨⟨⟨⟨⟨h1, h2⟩, h3⟩, ⟨h4, h5⟩, h6⟩, h7⟩, h8⟩, h9⟩, h10⟩, h11⟩, h12⟩ := h
  refine ⟨by rw [h3], h4, ⟨h5, h6⟩, z_has_mem h7, h8, h9, fun z => ?_, fun z => ?_, fun z => ?_, fun z => ?_⟩
  · rw [if_pos z] at h10; exact z_has_mem h10
  · rw [if_neg z] at h10; exact z_has_mem h10
  · rw [if_pos z] at h11; exact z_has_mem h11
  · rw [if_pos z] at h12; exact of_decide_eq_true h12
theorem z_callB (F : z_Fix p s m args meth c R dC dI dA mm d) {a x : Nat} {r' : z_Res} (ok : z_okm a) (hd1 : d = d) (hlink : Jvm.Cond.methodLink (z_my mm).cls x (z_my a) ∈ z_tw) :
    CallB R s args (z_my mm).cls x (z_my a) (z_mb a) (z_ml a) (z_mr a) (z_ws a) ({ frames := d, cells := r'.2.1.length - hd.length, slots := z_sl r'.2.1 - z_sl hd, locals := 60 * d } : Room) (r'.2.1.length - hd.length) (z_sl r'.2.1 - z_sl hd) (z_np a) := by
  obtain ⟨hx, hb, hml, hown, hts, -, -, hnm, hK, hRf, hRl⟩ := F
  obtain ⟨m1, m2, m3, m4, m5, m6, m7, m8, m9, m10⟩ := z_mchk_of ok
  exact callB_of (z_np a) hts (z_ws_good ok) rfl rfl rfl (hts _ m4) (hts _ hlink) ⟨m3.1, m3.2, m1⟩ ⟨by rw [hRf]; exact Nat.le_refl _, by rw [hRl]; show 8 + (z_ml a + 11) + 60 * d ≤ 60 * (d + 1); omega⟩
end ZZ
theorem z_mem_of {p : Nat} {w : Jvm.Cond} (h : lw_tbl[p]? = some w) (hg : goodWord w = true) : w ∈ z_tw := List.mem_filter.mpr ⟨List.mem_of_getElem? h, hg⟩
theorem z_oi2m : Jvm.Cond.code Lib.objectInit ⟨#[0xb1]⟩ 1 none ∈ z_tw := z_mem_of z_oi2 rfl
theorem z_free_some {β : Type} {r : β} {x : Option Int} {k : Option β} (h : z_free x k = some r) : x = none ∧ k = some r := by
  unfold z_free at h; split at h
  · exact ⟨rfl, h⟩
  · cases h
def z_cpok (hd : z_H) (s sp d dp n : Int) : Prop := z_k hd s = 1 ∧ z_k hd d = 1 ∧ 0 ≤ sp ∧ 0 ≤ dp ∧ 0 ≤ n ∧ sp + n ≤ z_n hd s ∧ dp + n ≤ z_n hd d
theorem z_copy_some {β : Type} {r : β} {hd : z_H} {σ : z_S} {st : List z_V} {k : z_S → List z_V → Option β} (h : z_copy hd σ st k = some r) :
    ∃ n dp d sp s q, st = z_I n :: z_I dp :: z_R d :: z_I sp :: z_R s :: q ∧ z_cats q ≤ 8 ∧ z_cpok hd s sp d dp n ∧ k (z_cpy σ s sp d dp n) q = some r := by
  unfold z_copy at h; split at h
  · obtain ⟨h1, h⟩ := z_ite_some h
    obtain ⟨h2, h⟩ := z_ite_some h
    exact ⟨_, _, _, _, _, _, rfl, h1, h2, h⟩
  · cases h
theorem z_sw_some {β : Type} {v0 : β} {x : Int} {l : List Nat} {dd : Nat} {k : Nat → Option β} : ∀ {v : Int}, z_sw x v l dd k = some v0 → (∃ (i : Nat) (t : Nat), l[i]? = some t ∧ x = v + i ∧ k t = some v0) ∨ ((x < v ∨ v + (l.length : Int) ≤ x) ∧ k dd = some v0) := by
  induction l with
  | nil => intro v h; right; exact ⟨by simp only [List.length_nil]; omega, h⟩
  | cons t l ih =>
    intro v h
    unfold z_sw at h
    split at h
    · next hx => left; exact ⟨0, t, rfl, by simp [hx], h⟩
    · next hx =>
      rcases ih h with ⟨i, t', h1, h2, h3⟩ | ⟨h1, h2⟩
      · left; exact ⟨i + 1, t', h1, by rw [h2]; push_cast; omega, h3⟩
      · right; refine ⟨?_, h2⟩; simp only [List.length_cons]; push_cast; omega
theorem z_find_some {l : List z_E} {pc : Nat} {e : z_E} (h : z_find l pc = some e) : e ∈ l ∧ e.1 = pc := by
  induction l with
  | nil => cases h
  | cons a l ih =>
    unfold z_find at h
    split at h
    · next hb => cases h; exact ⟨List.mem_cons_self, Nat.eq_of_beq_eq_true hb⟩
    · obtain ⟨h1, h2⟩ := ih h; exact ⟨List.mem_cons_of_mem _ h1, h2⟩
theorem z_bool01 {v : Int} (h : v = 0 ∨ v = 1) : narrow .boolean (.int (Int32.ofInt v)) = .int (Int32.ofInt v) := by
  rcases h with rfl | rfl <;> rfl
theorem z_u16 (x : UInt32) : x.toUInt16.toUInt32 = x % 65536 := by
  rw [← UInt32.toNat_inj]
  simp
section ZCP
variable {p : Program} {l : Launch} {e : Env} {R : Room} {s : State} {m : MethodId} {args : Array Value} {below : List Frame} {meth : Method} {c : Code} {dC : Nat → ClassId} {dI : Nat → Nat → Nat} {dA : Nat → ClassId} {hc : z_C} {mm d : Nat} {ad0 : Nat → Nat} {n0 s0 : Nat} {r : z_Res} {pc pc' : Nat} {ls st st' : List z_V} {hd : z_H} {σ : z_S}
theorem z_sok_cpy {j j' : Nat} {n n' sp dp k : Int} (h : hd[j]? = some (1, n)) (h' : hd[j']? = some (1, n')) (hs : z_sok hc hd σ) : z_sok hc hd (z_cpy σ (j + 1) sp (j' + 1) dp k) := by
  intro t q hq
  by_cases ht : t = j'
  · subst ht
    rw [h'] at hq; cases hq
    refine ⟨fun _ g => ?_, fun z => absurd z (by show ¬ 10 ≤ 1; omega)⟩
    show z_in (if _ then _ else _)
    split
    · exact (hs j _ h).1 (by show 1 < 10; omega) _
    · exact (hs t _ h').1 (by show 1 < 10; omega) g
  · have hne : ¬ ((t : Int) + 1 = (j' : Int) + 1) := by omega
    have h0 := hs t q hq
    unfold z_fv z_gf z_cpy at *
    simp only [hne, false_and, if_false]
    exact h0
theorem z_wd_setC {ad : Nat → Nat} {j j' : Nat} {n' sp dp k : Int} (h' : hd[j']? = some (1, n')) (hsp : 0 ≤ sp) (hdp : 0 ≤ dp) (hk : 0 ≤ k) :
    (z_wd dA hc ad hd σ).set j' (ad j', .inl (dA 1, n'.toNat, .inl (va_cpy (fun i => Int32.ofInt (σ (j + 1) i)) (fun i => Int32.ofInt (σ (j' + 1) i)) sp.toNat dp.toNat k.toNat))) = z_wd dA hc ad hd (z_cpy σ (j + 1) sp (j' + 1) dp k) := by
  refine List.ext_getElem? fun t => ?_
  rw [List.getElem?_set]
  split
  · next ht =>
    subst ht
    rw [z_wd_get h']
    rw [if_pos (by rw [z_wd_len]; exact (List.getElem?_eq_some_iff.mp h').1)]
    congr 2
    unfold z_cell
    rw [if_pos (by show 1 < 10; omega)]
    congr 4
    funext x
    unfold va_cpy z_cpy
    by_cases hx : dp.toNat ≤ x ∧ x < dp.toNat + k.toNat
    · have hx2 : ((j' : Int) + 1 = (j' : Int) + 1 ∧ dp ≤ (x : Int) ∧ (x : Int) < dp + k) := ⟨rfl, by omega, by omega⟩
      rw [if_pos hx, if_pos hx2]
      have hix : ((sp.toNat + (x - dp.toNat) : Nat) : Int) = sp + ((x : Int) - dp) := by have h1 := hx.1; omega
      show Int32.ofInt (σ (j + 1) ((sp.toNat + (x - dp.toNat) : Nat) : Int)) = _
      rw [hix]
    · rw [if_neg hx, if_neg (fun z => hx ⟨by omega, by omega⟩)]
  · next ht =>
    cases hq : hd[t]? with
    | none =>
      have h1 : (z_wd dA hc ad hd σ)[t]? = none := by
        rw [List.getElem?_eq_none_iff, z_wd_len]; exact List.getElem?_eq_none_iff.mp hq
      have h2 : (z_wd dA hc ad hd (z_cpy σ (j + 1) sp (j' + 1) dp k))[t]? = none := by
        rw [List.getElem?_eq_none_iff, z_wd_len]; exact List.getElem?_eq_none_iff.mp hq
      rw [h1, h2]
    | some q =>
      rw [z_wd_get hq, z_wd_get hq]
      congr 2
      have hne : ¬ ((t : Int) + 1 = (j' : Int) + 1) := by omega
      unfold z_cell z_fv z_gf z_cpy
      simp [hne]
theorem z_W_copy (F : z_Fix p s m args meth c R dC dI dA mm d) {n dp dd sp ss : Int} {x : Nat} {q : List z_V} (hcc : z_cpok hd ss sp dd dp n) (hcq : z_cats q ≤ 8) (hw : Jvm.Cond.methodLink (z_my mm).cls x arraycopyName ∈ z_tw) (hdg : decode (z_mb mm) pc = .ok (.invokestatic x, 3))
    (h : z_W p l e R s m args below meth c dC dI dA hc mm ad0 n0 s0 r (pc + 3) ls q hd (z_cpy σ ss sp dd dp n)) :
    z_W p l e R s m args below meth c dC dI dA hc mm ad0 n0 s0 r pc ls (z_I n :: z_I dp :: z_R dd :: z_I sp :: z_R ss :: q) hd σ := by
  obtain ⟨hx, hb, hml, hown, hts, -, -, hnm, hK, hRf, hRl⟩ := F
  obtain ⟨hk1, hk2, c1, c2, c3, c4, c5⟩ := hcc
  obtain ⟨j, w, rfl, hj, hn, hjl⟩ := z_k_pos hk1 (by omega)
  obtain ⟨j', w', rfl, hj', hn', hjl'⟩ := z_k_pos hk2 (by omega)
  rw [hn] at c4
  rw [hn'] at c5
  intro hho hso hvl hvs
  have hso' := z_sok_cpy (sp := sp) (dp := dp) (k := n) hj hj' hso
  have hh := h hho hso' hvl (z_ok_tail (z_ok_tail (z_ok_tail (z_ok_tail (z_ok_tail hvs).2).2).2).2).2
  refine ⟨hh.1, fun ad H arr locs cells slots J hl => ?_⟩
  obtain ⟨hP, hD, hS, -, -, had, hce, hsl⟩ := J
  have he : ∀ {j : Nat} {n : Int}, hd[j]? = some (1, n) → (z_wd dA hc ad hd σ)[j]? = some (ad j, .inl (dA 1, n.toNat, .inl (fun i => Int32.ofInt (σ (j + 1) i)))) := fun hj => by
    rw [z_wd_get hj]
    unfold z_cell
    rw [if_pos (by show 1 < 10; omega)]
  have hni : z_in n := (z_ok_tail hvs).1
  have hdi : z_in dp := (z_ok_tail (z_ok_tail hvs).2).1
  have hsi : z_in sp := (z_ok_tail (z_ok_tail (z_ok_tail (z_ok_tail hvs).2).2).2).1
  have hneg : ∀ {z : Int}, z_in z → 0 ≤ z → ¬ Int32.ofInt z < 0 := fun hz h0 hlt => by
    rw [show (0 : Int32) = Int32.ofInt 0 from rfl, z_lt32 hz z_in0] at hlt; omega
  have hset := z_wd_setC (dA := dA) (hc := hc) (ad := ad) (σ := σ) (j := j) hj' c1 c2 c3
  have hw9 : nativeFrameWords "java/lang/System" "arraycopy" 5 ≤ 20 := by decide
  show W p l e R s m args below meth c H locs cells slots _ (F0 m pc arr (.int (Int32.ofInt n) :: .int (Int32.ofInt dp) :: z_cv ad (z_R ((j' : Int) + 1)) :: .int (Int32.ofInt sp) :: z_cv ad (z_R ((j : Int) + 1)) :: q.map (z_cv ad)))
  rw [z_cv_R, z_cv_R]
  refine va_copyi (ty := .int) hx hb (hml.trans hl.1.1.symm) hown (hts _ hw) (hts _ (z_has_mem z_ac1)) (hts _ (z_has_mem z_ac2)) (hts _ (z_has_mem z_iniSystem)) hK hP hD hS j j' 0 0 (he hj) (he hj') rfl rfl rfl (hneg hsi c1) (hneg hdi c2) (hneg hni c3) (by rw [z_clamp hsi, z_clamp hni]; omega) (by rw [z_clamp hdi, z_clamp hni]; omega) (fun i _ => rfl) (by rw [hRf]; omega) (by rw [z_cats_cv, hRl]; omega) hdg (fun H1 locs1 hP1 hD1 hS1 => ?_)
  rw [z_clamp hsi, z_clamp hdi, z_clamp hni] at hP1 hD1
  rw [hset] at hP1 hD1
  exact hh.2 ad H1 arr locs1 cells slots ⟨hP1, hD1, hS1, hho, hso', had, hce, hsl⟩ hl
theorem z_W_math {v : Int} {q : List z_V} (h : z_W p l e R s m args below meth c dC dI dA hc mm ad0 n0 s0 r pc' ls (z_I v :: q) hd σ) (hv : (∀ v ∈ st, z_vok hd.length v) → z_in v) (hq : (∀ v ∈ st, z_vok hd.length v) → ∀ v ∈ q, z_vok hd.length v)
    (hRc : R.cells = r.2.1.length - n0) (hRs : R.slots = z_sl r.2.1 - s0)
    (row : ∀ (ad : Nat → Nat) (H : Heap) (arr : Array Slot) (locs : List Loc) (cells slots : Nat) (Q : State → Prop), z_loc ad ls arr (z_ml mm) → (∀ v ∈ st, z_vok hd.length v) → cells ≤ R.cells → slots ≤ R.slots →
      W p l e R s m args below meth c H locs cells slots Q (F0 m pc' arr (.int (Int32.ofInt v) :: q.map (z_cv ad))) → W p l e R s m args below meth c H locs cells slots Q (F0 m pc arr (st.map (z_cv ad)))) :
    z_W p l e R s m args below meth c dC dI dA hc mm ad0 n0 s0 r pc ls st hd σ := by
  intro hho hso hvl hvs
  have hh := h hho hso hvl (z_ok_cons (hv hvs) (hq hvs))
  refine ⟨hh.1, fun ad H arr locs cells slots J hl => ?_⟩
  obtain ⟨⟨x, hx⟩, -⟩ := hh.1
  have h1 := J.2.2.2.2.2.2.1
  have h2 := J.2.2.2.2.2.2.2
  have h3 : r.2.1.length = hd.length + x.length := by rw [hx, List.length_append]
  have h4 : z_sl r.2.1 = z_sl hd + z_sl x := by rw [hx, z_sl_app]
  exact row ad H arr locs cells slots _ hl hvs (by rw [hRc]; omega) (by rw [hRs]; omega) (hh.2 ad H arr locs cells slots J hl)
end ZCP
