/-! A text's items, and what they make of a land. -/
def z_txt (X : z_S) (p : Int) : Int := if p < X 0 5 ∧ p < 60 then X 18 p else -1
abbrev z_P : Type := Int ⊕ (Int × Int)
abbrev z_PI : Type := Int ⊕ (List Int × Int)
def z_isd (c : Int) : Bool := decide (48 ≤ c) && decide (c ≤ 57)
/-- digits at p (three at most), their number -/
def z_nct (T : Int → Int) (p : Int) : Int := if z_isd (T p) then (if z_isd (T (p + 1)) then (if z_isd (T (p + 2)) then 3 else 2) else 1) else 0
def z_nvl (T : Int → Int) (p : Int) : Int := if z_isd (T p) then (if z_isd (T (p + 1)) then (if z_isd (T (p + 2)) then ((T p - 48) * 10 + (T (p + 1) - 48)) * 10 + (T (p + 2) - 48) else (T p - 48) * 10 + (T (p + 1) - 48)) else T p - 48) else 0
def z_cor (T : Int → Int) (p but : Int) : z_P := if 0 ≤ T p - 97 ∧ T p - 97 ≤ 7 ∧ T p - 97 ≠ but then .inr (T p - 97, p + 1) else .inl p
def z_dgt (T : Int → Int) (p lo hi : Int) : z_P := if lo ≤ T p - 48 ∧ T p - 48 ≤ hi then .inr (T p - 48, p + 1) else .inl p
def z_nmb (T : Int → Int) (p lo hi : Int) : z_P := if z_nct T p = 0 then .inl p else if lo ≤ z_nvl T p ∧ z_nvl T p ≤ hi then .inr (z_nvl T p, p + z_nct T p) else .inl (p + z_nct T p - 1)
def z_bd {α : Type} (r : z_P) (k : Int → Int → Int ⊕ α) : Int ⊕ α := match r with
  | .inl e => .inl e
  | .inr (v, q) => k v q
def z_opn (T : Int → Int) (p ch hi df : Int) : z_P := if T p = ch then z_nmb T (p + 1) 0 hi else .inr (df, p)
def z_opg (T : Int → Int) (p ch hi : Int) : z_P := if T p = ch then z_dgt T (p + 1) 0 hi else .inr (0, p)
def z_pRoad (T : Int → Int) (owner p : Int) : z_PI := z_bd (z_cor T p (-1)) fun a p1 => z_bd (z_cor T p1 a) fun b p2 => z_bd (z_nmb T p2 0 99) fun n p3 => z_bd (z_opg T p3 43 9) fun h p4 => .inr ([1, owner, a, b, n, h], p4)
/-- worths: the least, the greatest, a crowd -/
def z_pWor (T : Int → Int) (p : Int) : Int ⊕ ((Int × Int × Int) × Int) := if T p = 119 then z_bd (z_dgt T (p + 1) 0 9) fun d q => .inr ((d, d, 0), q)
  else if T p = 99 then z_bd (z_dgt T (p + 1) 0 9) fun lo q => if T q = 45 then z_bd (z_dgt T (q + 1) lo (if lo + 5 < 9 then lo + 5 else 9)) fun hi q2 => .inr ((lo, hi, 1), q2) else .inl q
  else .inr ((0, 0, 0), p)
def z_pTail (T : Int → Int) (a b n : Int) (r : Int ⊕ ((Int × Int × Int) × Int)) : z_PI := match r with
  | .inl e => .inl e
  | .inr ((lo, hi, cr), p4) => z_bd (z_opn T p4 115 999 1000) fun sl p5 => z_bd (z_opn T p5 47 999 (-1)) fun ho p6 => z_bd (z_opg T p6 64 3) fun ti p7 => .inr ([2, a, b, n, lo, hi, cr, sl, ho, ti], p7)
def z_pJour (T : Int → Int) (p : Int) : z_PI := z_bd (z_cor T p (-1)) fun a p1 => z_bd (z_cor T p1 a) fun b p2 => if T p2 = 42 then (z_bd (z_nmb T (p2 + 1) 1 99) fun n p3 => z_pTail T a b n (z_pWor T p3)) else .inl p2
def z_pItem (T : Int → Int) (p : Int) : z_PI := if T p = 114 then z_pRoad T (-1) (p + 1) else if T p = 116 then z_pRoad T 0 (p + 1) else if T p = 117 then z_pRoad T 1 (p + 1) else if T p = 106 then z_pJour T (p + 1) else if T p = 109 then (z_bd (z_nmb T (p + 1) 0 20) fun v q => .inr ([0, v], q)) else .inl p
def z_cons (it : List Int) (r : Int ⊕ List (List Int)) : Int ⊕ List (List Int) := match r with
  | .inl e => .inl e
  | .inr l => .inr (it :: l)
def z_pText (T : Int → Int) (len : Int) : Nat → Int → Int ⊕ List (List Int)
  | 0, p => .inl p
  | n + 1, p => match z_pItem T p with
    | .inl e => .inl e
    | .inr (it, q) => if T q = 59 then z_cons it (z_pText T len n (q + 1)) else if q < len then .inl q else .inr [it]
/-- an item is in its ranges -/
def z_iok (it : List Int) : Prop := (∃ v, it = [0, v] ∧ 0 ≤ v ∧ v ≤ 20) ∨
  (∃ o a b n h, it = [1, o, a, b, n, h] ∧ (o = -1 ∨ o = 0 ∨ o = 1) ∧ (0 ≤ a ∧ a ≤ 7) ∧ (0 ≤ b ∧ b ≤ 7) ∧ a ≠ b ∧ (0 ≤ n ∧ n ≤ 99) ∧ (0 ≤ h ∧ h ≤ 9)) ∨
  (∃ a b n lo hi cr sl ho ti, it = [2, a, b, n, lo, hi, cr, sl, ho, ti] ∧ (0 ≤ a ∧ a ≤ 7) ∧ (0 ≤ b ∧ b ≤ 7) ∧ a ≠ b ∧ (1 ≤ n ∧ n ≤ 99) ∧ (0 ≤ lo ∧ lo ≤ hi ∧ hi ≤ 9 ∧ hi ≤ lo + 5) ∧ (cr = 0 ∧ lo = hi ∨ cr = 1) ∧ (0 ≤ sl ∧ sl ≤ 1000) ∧ (-1 ≤ ho ∧ ho ≤ 999) ∧ (0 ≤ ti ∧ ti ≤ 3))
section
variable {T : Int → Int}
theorem z_cor_ok {p but v q : Int} (h : z_cor T p but = .inr (v, q)) : (0 ≤ v ∧ v ≤ 7 ∧ v ≠ but) ∧ q = p + 1 ∧ v = T p - 97 := by
  unfold z_cor at h
  split at h
  · cases h; exact ⟨by omega, rfl, rfl⟩
  · cases h
theorem z_dgt_ok {p lo hi v q : Int} (h : z_dgt T p lo hi = .inr (v, q)) : (lo ≤ v ∧ v ≤ hi) ∧ q = p + 1 ∧ v = T p - 48 := by
  unfold z_dgt at h
  split at h
  · cases h; exact ⟨by omega, rfl, rfl⟩
  · cases h
theorem z_nct_rng (p : Int) : 0 ≤ z_nct T p ∧ z_nct T p ≤ 3 := by
  unfold z_nct
  (repeat' split) <;> omega
theorem z_nmb_ok {p lo hi v q : Int} (h : z_nmb T p lo hi = .inr (v, q)) : (lo ≤ v ∧ v ≤ hi) ∧ p < q ∧ q = p + z_nct T p ∧ v = z_nvl T p := by
  have := z_nct_rng (T := T) p
  unfold z_nmb at h
  split at h
  · cases h
  · split at h
    · cases h; exact ⟨by omega, by omega, rfl, rfl⟩
    · cases h
theorem z_opn_ok {p ch hi df v q : Int} (h : z_opn T p ch hi df = .inr (v, q)) : (v = df ∨ (0 ≤ v ∧ v ≤ hi)) ∧ p ≤ q := by
  unfold z_opn at h
  split at h
  · have := z_nmb_ok h; exact ⟨Or.inr this.1, by omega⟩
  · cases h; exact ⟨Or.inl rfl, Int.le_refl _⟩
theorem z_opg_ok {p ch hi v q : Int} (h : z_opg T p ch hi = .inr (v, q)) (hh : 0 ≤ hi) : (0 ≤ v ∧ v ≤ hi) ∧ p ≤ q := by
  unfold z_opg at h
  split at h
  · have := z_dgt_ok h; exact ⟨this.1, by omega⟩
  · cases h; exact ⟨by omega, Int.le_refl _⟩
theorem z_bd_ok {α : Type} {r : z_P} {k : Int → Int → Int ⊕ α} {x : α} (h : z_bd r k = .inr x) : ∃ v q, r = .inr (v, q) ∧ k v q = .inr x := by
  unfold z_bd at h
  split at h
  · cases h
  · next v q => exact ⟨v, q, rfl, h⟩
theorem z_pRoad_ok {owner p q : Int} {it : List Int} (ho : owner = -1 ∨ owner = 0 ∨ owner = 1) (h : z_pRoad T owner p = .inr (it, q)) : z_iok it ∧ p < q := by
  obtain ⟨a, p1, h1, h⟩ := z_bd_ok h
  obtain ⟨b, p2, h2, h⟩ := z_bd_ok h
  obtain ⟨n, p3, h3, h⟩ := z_bd_ok h
  obtain ⟨t, p4, h4, h⟩ := z_bd_ok h
  have g1 := z_cor_ok h1
  have g2 := z_cor_ok h2
  have g3 := z_nmb_ok h3
  have g4 := z_opg_ok h4 (by omega)
  cases h
  exact ⟨Or.inr (Or.inl ⟨owner, a, b, n, t, rfl, ho, by omega, by omega, by omega, g3.1, g4.1⟩), by omega⟩
theorem z_pWor_ok {p q lo hi cr : Int} (h : z_pWor T p = .inr ((lo, hi, cr), q)) : (0 ≤ lo ∧ lo ≤ hi ∧ hi ≤ 9 ∧ hi ≤ lo + 5) ∧ (cr = 0 ∧ lo = hi ∨ cr = 1) ∧ p ≤ q := by
  unfold z_pWor at h
  split at h
  · obtain ⟨d, p1, h1, h⟩ := z_bd_ok h
    have g1 := z_dgt_ok h1
    cases h
    exact ⟨by omega, Or.inl ⟨rfl, rfl⟩, by omega⟩
  · split at h
    · obtain ⟨d, p1, h1, h⟩ := z_bd_ok h
      have g1 := z_dgt_ok h1
      split at h
      · obtain ⟨e, p2, h2, h⟩ := z_bd_ok h
        have g2 := z_dgt_ok h2
        cases h
        refine ⟨?_, Or.inr rfl, by omega⟩
        have := g2.1
        split at this <;> omega
      · cases h
    · cases h
      exact ⟨by omega, Or.inl ⟨rfl, rfl⟩, Int.le_refl _⟩
theorem z_pJour_ok {p q : Int} {it : List Int} (h : z_pJour T p = .inr (it, q)) : z_iok it ∧ p < q := by
  obtain ⟨a, p1, h1, h⟩ := z_bd_ok h
  obtain ⟨b, p2, h2, h⟩ := z_bd_ok h
  split at h
  · obtain ⟨n, p3, h3, h⟩ := z_bd_ok h
    have g1 := z_cor_ok h1
    have g2 := z_cor_ok h2
    have g3 := z_nmb_ok h3
    cases hw : z_pWor T p3 with
    | inl e => rw [hw] at h; cases h
    | inr x =>
      obtain ⟨⟨lo, hi, cr⟩, p4⟩ := x
      rw [hw] at h
      have gw := z_pWor_ok hw
      obtain ⟨sl, p5, h5, h⟩ := z_bd_ok h
      obtain ⟨ho, p6, h6, h⟩ := z_bd_ok h
      obtain ⟨ti, p7, h7, h⟩ := z_bd_ok h
      have g5 := z_opn_ok h5
      have g6 := z_opn_ok h6
      have g7 := z_opg_ok h7 (by omega)
      cases h
      exact ⟨Or.inr (Or.inr ⟨a, b, n, lo, hi, cr, sl, ho, ti, rfl, by omega, by omega, by omega, g3.1, gw.1, gw.2.1, by omega, by omega, g7.1⟩), by omega⟩
  · cases h
theorem z_pItem_ok {p q : Int} {it : List Int} (h : z_pItem T p = .inr (it, q)) : z_iok it ∧ p + 1 < q := by
  unfold z_pItem at h
  split at h
  · exact z_pRoad_ok (by omega) h
  · split at h
    · exact z_pRoad_ok (by omega) h
    · split at h
      · exact z_pRoad_ok (by omega) h
      · split at h
        · exact z_pJour_ok h
        · split at h
          · obtain ⟨v, p1, h1, h⟩ := z_bd_ok h
            have g1 := z_nmb_ok h1
            cases h
            exact ⟨Or.inl ⟨v, rfl, g1.1⟩, by omega⟩
          · cases h
theorem z_pText_ok {len : Int} : ∀ {n : Nat} {p : Int} {l : List (List Int)}, z_pText T len n p = .inr l → ∀ it ∈ l, z_iok it
  | 0, p, l, h => by cases h
  | n + 1, p, l, h => by
    unfold z_pText at h
    split at h
    · cases h
    · next it q hq =>
      have g := (z_pItem_ok hq).1
      split at h
      · cases hr : z_pText T len n (q + 1) with
        | inl e => rw [hr] at h; cases h
        | inr l' =>
          rw [hr] at h
          cases h
          intro x hx
          rcases List.mem_cons.mp hx with rfl | hx
          · exact g
          · exact z_pText_ok hr x hx
      · split at h
        · cases h
        · cases h
          intro x hx
          rw [List.mem_singleton] at hx
          subst hx; exact g
end
/-- a land with one more road, one more journey, another cap -/
def z_addR (X : z_S) (o a b n h : Int) : z_S :=
  z_upd (if o = -1 then z_upd (z_upd (z_upd (z_upd (z_upd X 1 (X 0 0) a) 2 (X 0 0) b) 3 (X 0 0) n) 4 (X 0 0) h) 5 (X 0 0) o else
    z_upd (z_upd (z_upd (z_upd (z_upd (z_upd (z_upd (z_upd X 1 (X 0 0) a) 2 (X 0 0) b) 3 (X 0 0) n) 4 (X 0 0) h) 5 (X 0 0) o) 6 (X 0 1) (X 0 0)) 7 (X 0 1) 0) 0 1 (X 0 1 + 1)) 0 0 (X 0 0 + 1)
def z_addJ (X : z_S) (a b n lo hi cr sl ho ti : Int) : z_S :=
  z_upd (z_upd (z_upd (z_upd (z_upd (z_upd (z_upd (z_upd (z_upd (z_upd X 8 (X 0 2) a) 9 (X 0 2) b) 10 (X 0 2) n) 11 (X 0 2) lo) 12 (X 0 2) hi) 13 (X 0 2) cr) 14 (X 0 2) (if 14 < sl then 14 else sl)) 15 (X 0 2) ho) 16 (X 0 2) ti) 0 2 (X 0 2 + 1)
def z_addC (X : z_S) (v : Int) : z_S := fun a i => if a = 0 ∧ i = 3 then v else if a = 7 then (if v < X 7 i then v else X 7 i) else X a i
def z_app (X : z_S) (it : List Int) : z_S := match it with
  | [_, v] => z_addC X v
  | [_, o, a, b, n, h] => z_addR X o a b n h
  | [_, a, b, n, lo, hi, cr, sl, ho, ti] => z_addJ X a b n lo hi cr sl ho ti
  | _ => X
def z_appl (X : z_S) (l : List (List Int)) : z_S := l.foldl z_app X
