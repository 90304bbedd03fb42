/-! The simulation: what the small machine does, the JVM does. -/
def z_in (x : Int) : Prop := -2147483648 ≤ x ∧ x ≤ 2147483647
def z_inl (x : Int) : Prop := -9223372036854775808 ≤ x ∧ x ≤ 9223372036854775807
theorem z_in32 (y : Int32) : z_in y.toInt := by
  have h1 := Int32.le_toInt y
  have h2 := Int32.toInt_lt y
  constructor <;> omega
theorem z_in64 (y : Int64) : z_inl y.toInt := by
  have h1 := Int64.le_toInt y
  have h2 := Int64.toInt_lt y
  constructor <;> omega
theorem z_of32 {x : Int} (h : z_in x) : (Int32.ofInt x).toInt = x := Int32.toInt_ofInt_of_le (by have := h.1; omega) (by have := h.2; omega)
theorem z_of64 {x : Int} (h : z_inl x) : (Int64.ofInt x).toInt = x := Int64.toInt_ofInt_of_le (by have := h.1; omega) (by have := h.2; omega)
theorem z_w_of {x : Int} (h : z_in x) : z_w x = x := z_of32 h
theorem z_ofw (x : Int) : Int32.ofInt (z_w x) = Int32.ofInt x := Int32.ofInt_toInt _
theorem z_ofwl (x : Int) : Int64.ofInt (z_wl x) = Int64.ofInt x := Int64.ofInt_toInt _
theorem z_lt32 {x y : Int} (hx : z_in x) (hy : z_in y) : Int32.ofInt x < Int32.ofInt y ↔ x < y := by
  rw [Int32.lt_iff_toInt_lt, z_of32 hx, z_of32 hy]
theorem z_le32 {x y : Int} (hx : z_in x) (hy : z_in y) : Int32.ofInt x ≤ Int32.ofInt y ↔ x ≤ y := by
  rw [Int32.le_iff_toInt_le, z_of32 hx, z_of32 hy]
theorem z_eq32 {x y : Int} (hx : z_in x) (hy : z_in y) : Int32.ofInt x = Int32.ofInt y ↔ x = y := by
  rw [← Int32.toInt_inj, z_of32 hx, z_of32 hy]
theorem z_eq64 {x y : Int} (hx : z_inl x) (hy : z_inl y) : Int64.ofInt x = Int64.ofInt y ↔ x = y := by
  rw [← Int64.toInt_inj, z_of64 hx, z_of64 hy]
theorem z_lt64 {x y : Int} (hx : z_inl x) (hy : z_inl y) : Int64.ofInt x < Int64.ofInt y ↔ x < y := by
  rw [Int64.lt_iff_toInt_lt, z_of64 hx, z_of64 hy]
theorem z_in0 : z_in 0 := by constructor <;> omega
theorem z_0_32 : Int32.ofInt 0 = 0 := rfl
theorem z_clamp {x : Int} (h : z_in x) : (Int32.ofInt x).toNatClampNeg = x.toNat := by
  show (Int32.ofInt x).toInt.toNat = _
  rw [z_of32 h]
theorem z_vpin {x n : Int} (h : z_in x) (h0 : 0 ≤ x) (h1 : x < n) : vp_in (Int32.ofInt x) n.toNat := by
  intro q
  rcases q with q | q
  · rw [show (0 : Int32) = Int32.ofInt 0 from rfl, z_lt32 h z_in0] at q
    omega
  · rw [z_clamp h] at q
    omega
/-- a value as the JVM has it -/
def z_cv (ad : Nat → Nat) (v : z_V) : Value := match v with
  | .inl x => .int (Int32.ofInt x)
  | .inr (.inl a) => if a = 0 then .null else .ref (ad (a.toNat - 1))
  | .inr (.inr (.inl x)) => .long (Int64.ofInt x)
  | .inr (.inr (.inr _)) => .null
/-- an answer as the JVM has it -/
def z_rv (ad : Nat → Nat) (v : z_V) : Option Value := match v with
  | .inr (.inr (.inr _)) => none
  | v => some (z_cv ad v)
def z_vok (n : Nat) (v : z_V) : Prop := match v with
  | .inl x => z_in x
  | .inr (.inl a) => 0 ≤ a ∧ a ≤ (n : Int)
  | .inr (.inr (.inl x)) => z_inl x
  | .inr (.inr (.inr _)) => True
def z_junk (v : z_V) : Bool := match v with
  | .inr (.inr (.inr _)) => true
  | _ => false
theorem z_vok_le {n n' : Nat} (h : n ≤ n') {v : z_V} (hv : z_vok n v) : z_vok n' v := by
  unfold z_vok at *
  split
  · exact hv
  · exact ⟨hv.1, by have := hv.2; omega⟩
  · exact hv
  · trivial
theorem z_cv_ad {n : Nat} {ad ad' : Nat → Nat} (h : ∀ j, j < n → ad' j = ad j) {v : z_V} (hv : z_vok n v) : z_cv ad' v = z_cv ad v := by
  unfold z_cv
  split
  · rfl
  · next a =>
    split
    · rfl
    · have h1 : 0 ≤ a := hv.1
      have h2 : a ≤ (n : Int) := hv.2
      rw [h _ (by omega)]
  · rfl
  · rfl
theorem z_cat_cv (ad : Nat → Nat) (v : z_V) : (z_cv ad v).category = z_cat v := by
  unfold z_cv z_cat
  split
  · rfl
  · split <;> rfl
  · rfl
  · rfl
theorem z_cats_cv (ad : Nat → Nat) : ∀ st : List z_V, ((st.map (z_cv ad)).map fun v => v.category).sum = z_cats st
  | [] => rfl
  | v :: st => by
    show (z_cv ad v).category + _ = z_cat v + z_cats st
    rw [z_cat_cv, ← z_cats_cv ad st]
    rfl
def z_cell (dA : Nat → ClassId) (hc : z_C) (ad : Nat → Nat) (σ : z_S) (j : Nat) (q : Nat × Int) : va_E :=
  if q.1 < 10 then .inl (dA q.1, q.2.toNat, .inl (fun i => Int32.ofInt (σ (j + 1) i)))
  else .inr (q.1 - 10, (List.range q.2.toNat).map (fun f => z_cv ad (z_fv hc σ (j + 1) f (z_ft (q.1 - 10) f))))
def z_wd (dA : Nat → ClassId) (hc : z_C) (ad : Nat → Nat) (hd : z_H) (σ : z_S) : va_W := hd.mapIdx (fun j q => (ad j, z_cell dA hc ad σ j q))
def z_hok (hd : z_H) : Prop := ∀ (j : Nat) (q : Nat × Int), hd[j]? = some q → (q.1 < 10 → 1 ≤ q.1 ∧ q.1 ≤ 4 ∧ 0 ≤ q.2 ∧ q.2 ≤ 65536) ∧ (10 ≤ q.1 → q.1 - 10 < 13 ∧ q.2 = z_nf (q.1 - 10))
def z_sok (hc : z_C) (hd : z_H) (σ : z_S) : Prop := ∀ (j : Nat) (q : Nat × Int), hd[j]? = some q → (q.1 < 10 → ∀ i : Int, z_in (σ (j + 1) i)) ∧ (10 ≤ q.1 → ∀ f : Nat, f < q.2.toNat → z_vok hd.length (z_fv hc σ (j + 1) f (z_ft (q.1 - 10) f)))
theorem z_wd_get {dA : Nat → ClassId} {hc : z_C} {ad : Nat → Nat} {hd : z_H} {σ : z_S} {j : Nat} {q : Nat × Int} (h : hd[j]? = some q) : (z_wd dA hc ad hd σ)[j]? = some (ad j, z_cell dA hc ad σ j q) := by
  unfold z_wd
  rw [List.getElem?_mapIdx, h]
  rfl
theorem z_wd_len {dA : Nat → ClassId} {hc : z_C} {ad : Nat → Nat} {hd : z_H} {σ : z_S} : (z_wd dA hc ad hd σ).length = hd.length := by
  unfold z_wd
  exact List.length_mapIdx
theorem z_k_pos {hd : z_H} {a : Int} {k : Nat} (h : z_k hd a = k) (hk : k ≠ 0) : ∃ (j : Nat) (n : Int), a = (j : Int) + 1 ∧ hd[j]? = some (k, n) ∧ z_n hd a = n ∧ j < hd.length := by
  unfold z_k at h
  unfold z_n
  split at h
  · exact absurd h.symm hk
  · next j hj =>
    split at h
    · next q hq =>
      obtain ⟨q1, q2⟩ := q
      subst h
      exact ⟨j, q2, by omega, hq, by simp, (List.getElem?_eq_some_iff.mp hq).1⟩
    · exact absurd h.symm hk
theorem z_cv_R {ad : Nat → Nat} (j : Nat) : z_cv ad (z_R ((j : Int) + 1)) = .ref (ad j) := by
  have h1 : ¬ ((j : Int) + 1 = 0) := by omega
  have h2 : ((j : Int) + 1).toNat - 1 = j := by omega
  unfold z_cv
  simp only [h1, h2, if_false]
/-- one place of an array becomes v -/
theorem z_wd_setA {dA : Nat → ClassId} {hc : z_C} {ad : Nat → Nat} {hd : z_H} {σ : z_S} {j k : Nat} {n : Int} (h : hd[j]? = some (k, n)) (hk : k < 10) {i v : Int} (hi : 0 ≤ i) (hin : z_in i) :
    (z_wd dA hc ad hd σ).set j (ad j, .inl (dA k, n.toNat, .inl (upd (fun i => Int32.ofInt (σ (j + 1) i)) (Int32.ofInt i).toNatClampNeg (Int32.ofInt v)))) = z_wd dA hc ad hd (z_upd σ (j + 1) i v) := by
  refine List.ext_getElem? fun t => ?_
  rw [List.getElem?_set]
  split
  · next ht =>
    subst ht
    rw [z_wd_get h]
    rw [if_pos (by rw [z_wd_len]; exact (List.getElem?_eq_some_iff.mp h).1)]
    congr 2
    unfold z_cell
    rw [if_pos hk]
    congr 4
    funext x
    rw [z_clamp hin]
    unfold upd z_upd
    by_cases hx : x = i.toNat
    · rw [if_pos hx, if_pos ⟨rfl, by omega⟩]
    · rw [if_neg hx, if_neg (fun z => hx (by omega))]
  · next ht =>
    cases hq : hd[t]? with
    | none =>
      have h1 : (z_wd dA hc ad hd σ)[t]? = none := by
        rw [List.getElem?_eq_none_iff, z_wd_len]; exact List.getElem?_eq_none_iff.mp hq
      have h2 : (z_wd dA hc ad hd (z_upd σ (j + 1) i v))[t]? = none := by
        rw [List.getElem?_eq_none_iff, z_wd_len]; exact List.getElem?_eq_none_iff.mp hq
      rw [h1, h2]
    | some q =>
      rw [z_wd_get hq, z_wd_get hq]
      congr 2
      have hne : ¬ ((t : Int) + 1 = (j : Int) + 1) := by omega
      unfold z_cell z_fv z_gf z_upd
      simp [hne]
/-- one field becomes v -/
theorem z_wd_setF {dA : Nat → ClassId} {hc : z_C} {ad : Nat → Nat} {hd : z_H} {σ : z_S} {j k : Nat} {n : Int} (h : hd[j]? = some (10 + k, n)) {f : Nat} {v : Int} {w : z_V} (hf : f < n.toNat)
    (hw : w = z_fv hc (z_upd σ (j + 1) f v) (j + 1) f (z_ft k f)) :
    (z_wd dA hc ad hd σ).set j (ad j, .inr (k, ((List.range n.toNat).map (fun f => z_cv ad (z_fv hc σ (j + 1) f (z_ft k f)))).set f (z_cv ad w))) = z_wd dA hc ad hd (z_upd σ (j + 1) f v) := by
  refine List.ext_getElem? fun t => ?_
  rw [List.getElem?_set]
  split
  · next ht =>
    subst ht
    rw [z_wd_get h]
    rw [if_pos (by rw [z_wd_len]; exact (List.getElem?_eq_some_iff.mp h).1)]
    congr 2
    unfold z_cell
    rw [if_neg (by show ¬ 10 + k < 10; omega)]
    have h10 : 10 + k - 10 = k := by omega
    show Sum.inr (k, _) = Sum.inr (10 + k - 10, _)
    rw [h10]
    congr 2
    refine List.ext_getElem? fun g => ?_
    rw [List.getElem?_set]
    split
    · next hg =>
      subst hg
      rw [if_pos (by simpa using hf)]
      simp [hf, hw]
    · next hg =>
      by_cases hgn : g < n.toNat
      · simp only [List.getElem?_map, List.getElem?_range hgn, Option.map_some]
        have hne : ¬ ((g : Int) = (f : Int)) := by omega
        unfold z_fv z_gf z_upd
        simp [hne]
      · simp [List.getElem?_eq_none_iff.mpr, Nat.le_of_not_lt hgn]
  · next ht =>
    cases hq : hd[t]? with
    | none =>
      have h1 : (z_wd dA hc ad hd σ)[t]? = none := by
        rw [List.getElem?_eq_none_iff, z_wd_len]; exact List.getElem?_eq_none_iff.mp hq
      have h2 : (z_wd dA hc ad hd (z_upd σ (j + 1) f v))[t]? = none := by
        rw [List.getElem?_eq_none_iff, z_wd_len]; exact List.getElem?_eq_none_iff.mp hq
      rw [h1, h2]
    | some q =>
      rw [z_wd_get hq, z_wd_get hq]
      congr 2
      have hne : ¬ ((t : Int) + 1 = (j : Int) + 1) := by omega
      unfold z_cell z_fv z_gf z_upd
      simp [hne]
def z_ll (ad : Nat → Nat) (ls : List z_V) : List (Nat × Value) := ls.zipIdx.filterMap (fun q => match z_junk q.1 with
  | true => none
  | false => some (q.2, z_cv ad q.1))
theorem z_ll_mem {ad : Nat → Nat} {ls : List z_V} {q : Nat × Value} : q ∈ z_ll ad ls ↔ ∃ v, ls[q.1]? = some v ∧ z_junk v = false ∧ q.2 = z_cv ad v := by
  unfold z_ll
  rw [List.mem_filterMap]
  constructor
  · rintro ⟨⟨v, i⟩, h1, h2⟩
    have h3 : ls[i]? = some v := List.mk_mem_zipIdx_iff_getElem?.mp h1
    dsimp only at h2
    split at h2
    · cases h2
    · next hj => cases h2; exact ⟨v, h3, hj, rfl⟩
  · rintro ⟨v, h1, h2, h3⟩
    refine ⟨(v, q.1), List.mk_mem_zipIdx_iff_getElem?.mpr h1, ?_⟩
    dsimp only
    rw [h2]
    dsimp only
    rw [← h3]
theorem z_lv_weak {arr : Array Slot} {nL : Nat} {l l' : List (Nat × Value)} (h : lv_has arr nL l) (hs : ∀ q ∈ l', q ∈ l) : lv_has arr nL l' := ⟨h.1, h.2.1, fun q hq => h.2.2 q (hs q hq)⟩
def z_loc (ad : Nat → Nat) (ls : List z_V) (arr : Array Slot) (nL : Nat) : Prop := lv_has arr nL (z_ll ad ls) ∧ ls.length = nL
theorem z_get_some {v : z_V} (hv : z_junk v = false) : ∀ {ls : List z_V} {j : Nat}, z_get ls j = v → ls[j]? = some v
  | [], j, h => by unfold z_get at h; subst h; cases hv
  | a :: l, 0, h => by show some a = some v; rw [show a = v from h]
  | a :: l, j + 1, h => z_get_some hv (ls := l) (j := j) h
theorem z_loc_at {ad : Nat → Nat} {ls : List z_V} {arr : Array Slot} {nL j : Nat} {v : z_V} (h : z_loc ad ls arr nL) (hv : z_junk v = false) (hj : z_get ls j = v) : arr[j]? = some (.val (z_cv ad v)) :=
  h.1.2.2 (j, z_cv ad v) (z_ll_mem.mpr ⟨v, z_get_some hv hj, hv, rfl⟩)
theorem z_get_vok {n : Nat} {ls : List z_V} {j : Nat} {v : z_V} (hv : z_junk v = false) (hj : z_get ls j = v) (h : ∀ v ∈ ls, z_vok n v) : z_vok n v := h v (List.mem_of_getElem? (z_get_some hv hj))
theorem z_set_len (v : z_V) : ∀ (ls : List z_V) (j : Nat), (z_set ls j v).length = ls.length
  | [], _ => rfl
  | a :: l, 0 => rfl
  | a :: l, 1 => congrArg (· + 1) (z_set_len v l 0)
  | a :: l, j + 2 => congrArg (· + 1) (z_set_len v l (j + 1))
theorem z_kill_eq {a w : z_V} (h : z_kill a = w) (hw : z_junk w = false) : a = w ∧ z_cat w = 1 := by
  match a, h with
  | .inl x, h => subst h; exact ⟨rfl, rfl⟩
  | .inr (.inl x), h => subst h; exact ⟨rfl, rfl⟩
  | .inr (.inr (.inl x)), h => subst h; cases hw
  | .inr (.inr (.inr x)), h => subst h; cases hw
theorem z_set_get {v w : z_V} (hw : z_junk w = false) : ∀ {ls : List z_V} {j i : Nat}, (z_set ls j v)[i]? = some w → (i = j ∧ w = v) ∨ (i ≠ j ∧ ls[i]? = some w ∧ (i + 1 = j → z_cat w = 1))
  | [], j, i, h => by unfold z_set at h; simp at h
  | a :: l, 0, 0, h => by
    left
    refine ⟨rfl, ?_⟩
    have h' : some v = some w := h
    exact (Option.some.inj h').symm
  | a :: l, 0, i + 1, h => by
    right
    exact ⟨by omega, h, fun z => by omega⟩
  | a :: l, 1, 0, h => by
    right
    have h' : some (z_kill a) = some w := h
    obtain ⟨h1, h2⟩ := z_kill_eq (Option.some.inj h') hw
    exact ⟨by omega, congrArg some h1, fun _ => h2⟩
  | a :: l, 1, i + 1, h => by
    have h' : (z_set l 0 v)[i]? = some w := h
    rcases z_set_get hw h' with ⟨h1, h2⟩ | ⟨h1, h2, h3⟩
    · exact Or.inl ⟨by omega, h2⟩
    · exact Or.inr ⟨by omega, h2, fun z => by omega⟩
  | a :: l, j + 2, 0, h => by
    right
    exact ⟨by omega, h, fun z => by omega⟩
  | a :: l, j + 2, i + 1, h => by
    have h' : (z_set l (j + 1) v)[i]? = some w := h
    rcases z_set_get hw h' with ⟨h1, h2⟩ | ⟨h1, h2, h3⟩
    · exact Or.inl ⟨by omega, h2⟩
    · exact Or.inr ⟨by omega, h2, fun z => h3 (by omega)⟩
theorem z_set_vok {n : Nat} {v : z_V} (hv : z_vok n v) : ∀ {ls : List z_V} {j : Nat}, (∀ w ∈ ls, z_vok n w) → ∀ w ∈ z_set ls j v, z_vok n w
  | [], j, h, w, hw => by unfold z_set at hw; cases hw
  | a :: l, 0, h, w, hw => by
    have hw' : w ∈ v :: l := hw
    rcases List.mem_cons.mp hw' with rfl | hw'
    · exact hv
    · exact h w (List.mem_cons_of_mem _ hw')
  | a :: l, 1, h, w, hw => by
    have hw' : w ∈ z_kill a :: z_set l 0 v := hw
    rcases List.mem_cons.mp hw' with rfl | hw'
    · have ha := h a List.mem_cons_self
      unfold z_kill
      split
      · trivial
      · exact ha
    · exact z_set_vok hv (fun w hw => h w (List.mem_cons_of_mem _ hw)) w hw'
  | a :: l, j + 2, h, w, hw => by
    have hw' : w ∈ a :: z_set l (j + 1) v := hw
    rcases List.mem_cons.mp hw' with rfl | hw'
    · exact h _ List.mem_cons_self
    · exact z_set_vok hv (fun w hw => h w (List.mem_cons_of_mem _ hw)) w hw'
/-- behind a store of one word -/
theorem z_loc_set {ad : Nat → Nat} {ls : List z_V} {arr arr' : Array Slot} {nL j : Nat} {v : z_V} (h : z_loc ad ls arr nL)
    (h' : lv_has arr' nL ((j, z_cv ad v) :: (z_ll ad ls).filter (fun q => !(q.1 == j) && !(q.1 + 1 == j && q.2.category == 2)))) : z_loc ad (z_set ls j v) arr' nL := by
  refine ⟨z_lv_weak h' fun q hq => ?_, by rw [z_set_len]; exact h.2⟩
  obtain ⟨w, h1, h2, h3⟩ := z_ll_mem.mp hq
  rcases z_set_get h2 h1 with ⟨e1, e2⟩ | ⟨e1, e2, e3⟩
  · subst e2
    obtain ⟨q1, q2⟩ := q
    dsimp only at e1 h3
    subst e1 h3
    exact List.mem_cons_self
  · refine List.mem_cons_of_mem _ (List.mem_filter.mpr ⟨z_ll_mem.mpr ⟨w, e2, h2, h3⟩, ?_⟩)
    rw [h3, z_cat_cv]
    simp only [Bool.and_eq_true, Bool.not_eq_true', beq_eq_false_iff_ne, ne_eq, Bool.and_eq_false_iff]
    refine ⟨e1, ?_⟩
    by_cases hz : q.1 + 1 = j
    · right; rw [e3 hz]; decide
    · left; exact hz
/-- behind a store of a long -/
theorem z_loc_setL {ad : Nat → Nat} {ls : List z_V} {arr arr' : Array Slot} {nL j : Nat} {v : z_V} (h : z_loc ad ls arr nL)
    (h' : lv_has arr' nL ((j, z_cv ad v) :: (z_ll ad ls).filter (fun q => !(q.1 == j) && (!(q.1 == j + 1) && !(q.1 + 1 == j && q.2.category == 2))))) : z_loc ad (z_set (z_set ls (j + 1) z_U) j v) arr' nL := by
  refine ⟨z_lv_weak h' fun q hq => ?_, by rw [z_set_len, z_set_len]; exact h.2⟩
  obtain ⟨w, h1, h2, h3⟩ := z_ll_mem.mp hq
  rcases z_set_get h2 h1 with ⟨e1, e2⟩ | ⟨e1, e2, e3⟩
  · subst e2
    obtain ⟨q1, q2⟩ := q
    dsimp only at e1 h3
    subst e1 h3
    exact List.mem_cons_self
  · rcases z_set_get h2 e2 with ⟨f1, f2⟩ | ⟨f1, f2, f3⟩
    · subst f2; cases h2
    · refine List.mem_cons_of_mem _ (List.mem_filter.mpr ⟨z_ll_mem.mpr ⟨w, f2, h2, h3⟩, ?_⟩)
      rw [h3, z_cat_cv]
      simp only [Bool.and_eq_true, Bool.not_eq_true', beq_eq_false_iff_ne, ne_eq, Bool.and_eq_false_iff]
      refine ⟨e1, f1, ?_⟩
      by_cases hz : q.1 + 1 = j
      · right; rw [e3 hz]; decide
      · left; exact hz
-- what a step's parts say when it goes on
section ZI
variable {β : Type} {r : β}
theorem z_num_some {st : List z_V} {k : Int → List z_V → Option β} (h : z_num st k = some r) : ∃ x q, st = z_I x :: q ∧ k x q = some r := by
  unfold z_num at h; split at h
  · exact ⟨_, _, rfl, h⟩
  · cases h
theorem z_num2_some {st : List z_V} {k : Int → Int → List z_V → Option β} (h : z_num2 st k = some r) : ∃ x y q, st = z_I y :: z_I x :: q ∧ k x y q = some r := by
  unfold z_num2 at h; split at h
  · exact ⟨_, _, _, rfl, h⟩
  · cases h
theorem z_lon_some {st : List z_V} {k : Int → List z_V → Option β} (h : z_lon st k = some r) : ∃ x q, st = z_L x :: q ∧ k x q = some r := by
  unfold z_lon at h; split at h
  · exact ⟨_, _, rfl, h⟩
  · cases h
theorem z_lon2_some {st : List z_V} {k : Int → Int → List z_V → Option β} (h : z_lon2 st k = some r) : ∃ x y q, st = z_L y :: z_L x :: q ∧ k x y q = some r := by
  unfold z_lon2 at h; split at h
  · exact ⟨_, _, _, rfl, h⟩
  · cases h
theorem z_ref_some {st : List z_V} {k : Int → List z_V → Option β} (h : z_ref st k = some r) : ∃ x q, st = z_R x :: q ∧ k x q = some r := by
  unfold z_ref at h; split at h
  · exact ⟨_, _, rfl, h⟩
  · cases h
theorem z_any_some {st : List z_V} {k : z_V → List z_V → Option β} (h : z_any st k = some r) : ∃ x q, st = x :: q ∧ z_cat x = 1 ∧ k x q = some r := by
  unfold z_any at h; split at h
  · split at h
    · next hc => exact ⟨_, _, rfl, hc, h⟩
    · cases h
  · cases h
theorem z_iload_some {ls : List z_V} {i : Nat} {k : z_V → Option β} (h : z_iload ls i k = some r) : ∃ x, z_get ls i = z_I x ∧ k (z_I x) = some r := by
  unfold z_iload at h; split at h
  · next x hx => exact ⟨x, hx, h⟩
  · cases h
theorem z_aload_some {ls : List z_V} {i : Nat} {k : z_V → Option β} (h : z_aload ls i k = some r) : ∃ x, z_get ls i = z_R x ∧ k (z_R x) = some r := by
  unfold z_aload at h; split at h
  · next x hx => exact ⟨x, hx, h⟩
  · cases h
theorem z_lload_some {ls : List z_V} {i : Nat} {k : z_V → Option β} (h : z_lload ls i k = some r) : ∃ x, z_get ls i = z_L x ∧ k (z_L x) = some r := by
  unfold z_lload at h; split at h
  · next x hx => exact ⟨x, hx, h⟩
  · cases h
theorem z_ite_some {c : Prop} [Decidable c] {a : Option β} (h : (if c then a else none) = some r) : c ∧ a = some r := by
  split at h
  · next hc => exact ⟨hc, h⟩
  · cases h
theorem z_iten_some {c : Prop} [Decidable c] {a : Option β} (h : (if c then none else a) = some r) : ¬ c ∧ a = some r := by
  split at h
  · cases h
  · next hc => exact ⟨hc, h⟩
theorem z_cI_some {q : Option z_Res} {k : Int → z_H → z_S → Option β} (h : z_cI q k = some r) : ∃ x hd σ, q = some (z_I x, hd, σ) ∧ k x hd σ = some r := by
  unfold z_cI at h; split at h
  · exact ⟨_, _, _, rfl, h⟩
  · cases h
theorem z_cV_some {q : Option z_Res} {k : z_H → z_S → Option β} (h : z_cV q k = some r) : ∃ hd σ, q = some (z_U, hd, σ) ∧ k hd σ = some r := by
  unfold z_cV at h; split at h
  · exact ⟨_, _, rfl, h⟩
  · cases h
theorem z_pop_some {k : List z_V → List z_V → Option β} : ∀ {n : Nat} {as st : List z_V}, z_pop n as st k = some r → ∃ q qs, st = q.reverse ++ qs ∧ q.length = n ∧ z_cats qs ≤ 8 ∧ k (q ++ as) qs = some r
  | 0, as, st, h => by
    unfold z_pop at h
    obtain ⟨h1, h2⟩ := z_ite_some h
    exact ⟨[], st, rfl, rfl, h1, h2⟩
  | n + 1, as, [], h => by cases h
  | n + 1, as, a :: st, h => by
    unfold z_pop at h
    obtain ⟨q, qs, h1, h2, h3, h4⟩ := z_pop_some h
    refine ⟨q ++ [a], qs, by simp [h1], by simp [h2], h3, ?_⟩
    simpa using h4
end ZI
def z_tys (dA : Nat → ClassId) : List (ClassId × FieldType) := [(dA 1, .int), (dA 2, .boolean), (dA 3, .byte), (dA 4, .char)]
def z_sl (hd : z_H) : Nat := (hd.map (fun q => q.2.toNat)).sum
/-- the cells that a method may change: those of its world, and new ones -/
def z_fr (ad : Nat → Nat) (n sz : Nat) : Nat → Prop := fun q => (∃ j, j < n ∧ ad j = q) ∨ sz ≤ q
def z_Q (dC : Nat → ClassId) (dI : Nat → Nat → Nat) (dA : Nat → ClassId) (hc : z_C) (ad0 : Nat → Nat) (n0 : Nat) (r : z_Res) : Array Value → State → Outcome → State → Prop := fun _ st oc t =>
  (∃ ad' : Nat → Nat, (∀ j, j < n0 → ad' j = ad0 j) ∧ oc = .returned (z_rv ad' r.1) ∧ z_vok r.2.1.length r.1 ∧ z_hok r.2.1 ∧ z_sok hc r.2.1 r.2.2 ∧
    va_P (dC, dI) vwCl (z_wd dA hc ad' r.2.1 r.2.2) t.heap ∧ va_D (z_fr ad0 n0 st.heap.size) (z_wd dA hc ad' r.2.1 r.2.2)) ∧ va_F (z_fr ad0 n0 st.heap.size) st t
/-- what a walk of method mm rests on, d + 1 levels deep -/
def z_Fix (p : Program) (s : State) (m : MethodId) (args : Array Value) (meth : Method) (c : Code) (R : Room) (dC : Nat → ClassId) (dI : Nat → Nat → Nat) (dA : Nat → ClassId) (mm d : Nat) : Prop :=
  p.tables.exec = Jvm.exec ∧ c.code = z_mb mm ∧ c.maxLocals = z_ml mm ∧ s.vm.findClass (z_my mm).cls = some m.cls ∧ (∀ w ∈ z_tw, w.before args s = true) ∧ meth.sig.returnType = z_mr mm ∧ meth.locks = false ∧ meth.name = (z_my mm).name ∧
  va_K (dC, dI) vwCl (z_tys dA) s ∧ R.frames = d + 1 ∧ R.locals = 60 * (d + 1)
def z_J (s : State) (dC : Nat → ClassId) (dI : Nat → Nat → Nat) (dA : Nat → ClassId) (hc : z_C) (ad0 : Nat → Nat) (n0 s0 : Nat) (hd : z_H) (σ : z_S) (ad : Nat → Nat) (H : Heap) (locs : List Loc) (cells slots : Nat) : Prop :=
  va_P (dC, dI) vwCl (z_wd dA hc ad hd σ) H ∧ va_D (z_fr ad0 n0 s.heap.size) (z_wd dA hc ad hd σ) ∧ va_S (z_fr ad0 n0 s.heap.size) s.heap H locs ∧ z_hok hd ∧ z_sok hc hd σ ∧ (∀ j, j < n0 → ad j = ad0 j) ∧ cells + n0 = hd.length ∧ slots + s0 = z_sl hd
/-- what a run's end is, whatever the JVM's heap -/
def z_fin (hc : z_C) (hd : z_H) (r : z_Res) : Prop := (∃ x, r.2.1 = hd ++ x) ∧ z_hok r.2.1 ∧ z_sok hc r.2.1 r.2.2 ∧ z_vok r.2.1.length r.1
def z_W (p : Program) (l : Launch) (e : Env) (R : Room) (s : State) (m : MethodId) (args : Array Value) (below : List Frame) (meth : Method) (c : Code) (dC : Nat → ClassId) (dI : Nat → Nat → Nat) (dA : Nat → ClassId) (hc : z_C) (mm : Nat) (ad0 : Nat → Nat) (n0 s0 : Nat) (r : z_Res) (pc : Nat) (ls st : List z_V) (hd : z_H) (σ : z_S) : Prop :=
  z_hok hd → z_sok hc hd σ → (∀ v ∈ ls, z_vok hd.length v) → (∀ v ∈ st, z_vok hd.length v) → z_fin hc hd r ∧ ∀ (ad : Nat → Nat) (H : Heap) (arr : Array Slot) (locs : List Loc) (cells slots : Nat), z_J s dC dI dA hc ad0 n0 s0 hd σ ad H locs cells slots → z_loc ad ls arr (z_ml mm) →
    W p l e R s m args below meth c H locs cells slots (MQ below (z_Q dC dI dA hc ad0 n0 r) args s (r.2.1.length - n0) (z_sl r.2.1 - s0) (z_fr ad0 n0 s.heap.size)) (F0 m pc arr (st.map (z_cv ad)))
section ZW
variable {p : Program} {l : Launch} {e : Env} {R : Room} {s : State} {m : MethodId} {args : Array Value} {below : List Frame} {meth : Method} {c : Code} {dC : Nat → ClassId} {dI : Nat → Nat → Nat} {dA : Nat → ClassId} {hc : z_C} {mm d : Nat} {ad0 : Nat → Nat} {n0 s0 : Nat} {r : z_Res} {pc pc' : Nat} {ls st st' : List z_V} {hd : z_H} {σ : z_S}
/-- a step that moves the stack alone -/
theorem z_W_st (h : z_W p l e R s m args below meth c dC dI dA hc mm ad0 n0 s0 r pc' ls st' hd σ) (ok : (∀ v ∈ ls, z_vok hd.length v) → z_hok hd → z_sok hc hd σ → (∀ v ∈ st, z_vok hd.length v) → ∀ v ∈ st', z_vok hd.length v)
    (row : ∀ (ad : Nat → Nat) (H : Heap) (arr : Array Slot) (locs : List Loc) (cells slots : Nat) (Q : State → Prop), z_J s dC dI dA hc ad0 n0 s0 hd σ ad H locs cells slots → z_loc ad ls arr (z_ml mm) → (∀ v ∈ ls, z_vok hd.length v) → (∀ v ∈ st, z_vok hd.length v) →
      W p l e R s m args below meth c H locs cells slots Q (F0 m pc' arr (st'.map (z_cv ad))) → W p l e R s m args below meth c H locs cells slots Q (F0 m pc arr (st.map (z_cv ad)))) :
    z_W p l e R s m args below meth c dC dI dA hc mm ad0 n0 s0 r pc ls st hd σ :=
  fun hho hso hvl hvs => ⟨(h hho hso hvl (ok hvl hho hso hvs)).1, fun ad H arr locs cells slots J hl => row ad H arr locs cells slots _ J hl hvl hvs ((h hho hso hvl (ok hvl hho hso hvs)).2 ad H arr locs cells slots J hl)⟩
theorem z_ok_tail {n : Nat} {a : z_V} {q : List z_V} (h : ∀ v ∈ a :: q, z_vok n v) : z_vok n a ∧ ∀ v ∈ q, z_vok n v := ⟨h a List.mem_cons_self, fun v hv => h v (List.mem_cons_of_mem _ hv)⟩
theorem z_ok_cons {n : Nat} {a : z_V} {q : List z_V} (ha : z_vok n a) (h : ∀ v ∈ q, z_vok n v) : ∀ v ∈ a :: q, z_vok n v := fun v hv => by
  rcases List.mem_cons.mp hv with rfl | hv
  · exact ha
  · exact h v hv
/-- an int out of two -/
theorem z_W_bin {x y : Int} {q : List z_V} {z : Int} {w : Int32} (hz : z = w.toInt)
    (h : z_W p l e R s m args below meth c dC dI dA hc mm ad0 n0 s0 r pc' ls (z_I z :: q) hd σ)
    (row : z_in x → z_in y → ∀ (H : Heap) (arr : Array Slot) (locs : List Loc) (cells slots : Nat) (Q : State → Prop) (rest : List Value), W p l e R s m args below meth c H locs cells slots Q (F0 m pc' arr (.int w :: rest)) → W p l e R s m args below meth c H locs cells slots Q (F0 m pc arr (.int (Int32.ofInt y) :: .int (Int32.ofInt x) :: rest))) :
    z_W p l e R s m args below meth c dC dI dA hc mm ad0 n0 s0 r pc ls (z_I y :: z_I x :: q) hd σ := by
  refine z_W_st h (fun _ _ _ hv => ?_) (fun ad H arr locs cells slots Q J hl hvl hvs k => ?_)
  · exact z_ok_cons (by subst hz; exact z_in32 _) (z_ok_tail (z_ok_tail hv).2).2
  · refine row (z_ok_tail (z_ok_tail hvs).2).1 (z_ok_tail hvs).1 H arr locs cells slots Q _ ?_
    have k' : W p l e R s m args below meth c H locs cells slots Q (F0 m pc' arr (.int (Int32.ofInt z) :: q.map (z_cv ad))) := k
    rw [hz, Int32.ofInt_toInt] at k'
    exact k'
theorem z_W_un {x : Int} {q : List z_V} {z : Int} {w : Int32} (hz : z = w.toInt)
    (h : z_W p l e R s m args below meth c dC dI dA hc mm ad0 n0 s0 r pc' ls (z_I z :: q) hd σ)
    (row : z_in x → ∀ (H : Heap) (arr : Array Slot) (locs : List Loc) (cells slots : Nat) (Q : State → Prop) (rest : List Value), W p l e R s m args below meth c H locs cells slots Q (F0 m pc' arr (.int w :: rest)) → W p l e R s m args below meth c H locs cells slots Q (F0 m pc arr (.int (Int32.ofInt x) :: rest))) :
    z_W p l e R s m args below meth c dC dI dA hc mm ad0 n0 s0 r pc ls (z_I x :: q) hd σ := by
  refine z_W_st h (fun _ _ _ hv => ?_) (fun ad H arr locs cells slots Q J hl hvl hvs k => ?_)
  · exact z_ok_cons (by subst hz; exact z_in32 _) (z_ok_tail hv).2
  · refine row (z_ok_tail hvs).1 H arr locs cells slots Q _ ?_
    have k' : W p l e R s m args below meth c H locs cells slots Q (F0 m pc' arr (.int (Int32.ofInt z) :: q.map (z_cv ad))) := k
    rw [hz, Int32.ofInt_toInt] at k'
    exact k'
theorem z_W_binL {x y : Int} {q : List z_V} {z : Int} {w : Int64} (hz : z = w.toInt)
    (h : z_W p l e R s m args below meth c dC dI dA hc mm ad0 n0 s0 r pc' ls (z_L z :: q) hd σ)
    (row : z_inl x → z_inl y → ∀ (H : Heap) (arr : Array Slot) (locs : List Loc) (cells slots : Nat) (Q : State → Prop) (rest : List Value), W p l e R s m args below meth c H locs cells slots Q (F0 m pc' arr (.long w :: rest)) → W p l e R s m args below meth c H locs cells slots Q (F0 m pc arr (.long (Int64.ofInt y) :: .long (Int64.ofInt x) :: rest))) :
    z_W p l e R s m args below meth c dC dI dA hc mm ad0 n0 s0 r pc ls (z_L y :: z_L x :: q) hd σ := by
  refine z_W_st h (fun _ _ _ hv => ?_) (fun ad H arr locs cells slots Q J hl hvl hvs k => ?_)
  · exact z_ok_cons (by subst hz; exact z_in64 _) (z_ok_tail (z_ok_tail hv).2).2
  · refine row (z_ok_tail (z_ok_tail hvs).2).1 (z_ok_tail hvs).1 H arr locs cells slots Q _ ?_
    have k' : W p l e R s m args below meth c H locs cells slots Q (F0 m pc' arr (.long (Int64.ofInt z) :: q.map (z_cv ad))) := k
    rw [hz, Int64.ofInt_toInt] at k'
    exact k'
/-- a value is pushed -/
theorem z_W_push {v : z_V} (h : z_W p l e R s m args below meth c dC dI dA hc mm ad0 n0 s0 r pc' ls (v :: st) hd σ) (hv : (∀ v ∈ ls, z_vok hd.length v) → z_vok hd.length v)
    (row : ∀ (ad : Nat → Nat) (H : Heap) (arr : Array Slot) (locs : List Loc) (cells slots : Nat) (Q : State → Prop) (rest : List Value), z_loc ad ls arr (z_ml mm) → W p l e R s m args below meth c H locs cells slots Q (F0 m pc' arr (z_cv ad v :: rest)) → W p l e R s m args below meth c H locs cells slots Q (F0 m pc arr rest)) :
    z_W p l e R s m args below meth c dC dI dA hc mm ad0 n0 s0 r pc ls st hd σ :=
  z_W_st h (fun hl _ _ hvs => z_ok_cons (hv hl) hvs) (fun ad H arr locs cells slots Q _ hl _ _ k => row ad H arr locs cells slots Q _ hl k)
/-- a value is stored in a local -/
theorem z_W_store {v : z_V} {ls' : List z_V} (h : z_W p l e R s m args below meth c dC dI dA hc mm ad0 n0 s0 r pc' ls' st hd σ) (hok : z_vok hd.length v → (∀ w ∈ ls, z_vok hd.length w) → ∀ w ∈ ls', z_vok hd.length w)
    (row : ∀ (ad : Nat → Nat) (H : Heap) (arr : Array Slot) (locs : List Loc) (cells slots : Nat) (Q : State → Prop) (rest : List Value), z_loc ad ls arr (z_ml mm) → (∀ arr', z_loc ad ls' arr' (z_ml mm) → W p l e R s m args below meth c H locs cells slots Q (F0 m pc' arr' rest)) → W p l e R s m args below meth c H locs cells slots Q (F0 m pc arr (z_cv ad v :: rest))) :
    z_W p l e R s m args below meth c dC dI dA hc mm ad0 n0 s0 r pc ls (v :: st) hd σ :=
  fun hho hso hvl hvs => ⟨(h hho hso (hok (z_ok_tail hvs).1 hvl) (z_ok_tail hvs).2).1, fun ad H arr locs cells slots J hl => row ad H arr locs cells slots _ _ hl (fun arr' hl' => (h hho hso (hok (z_ok_tail hvs).1 hvl) (z_ok_tail hvs).2).2 ad H arr' locs cells slots J hl')⟩
end ZW
