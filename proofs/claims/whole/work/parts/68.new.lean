/-! The class: a new object. -/
/-- a new world -/
def z_X0 : z_S := fun a i => if a = 0 then (if i = 3 then 6 else 0) else if a = 17 then 1 else 0
def z_clk (l : List (Int × Int × Int)) (r : Option z_Res) : Bool := match r with
  | some r => l.all (fun q => decide (r.2.2 q.1 q.2.1 = q.2.2))
  | none => false
def z_cC : List (Int × Int × Int) := [(7, 0, 0), (7, 1, 0), (7, 2, 6), (7, 3, 0), (16, 0, 0), (9, 0, 0), (9, 1, 0), (9, 2, 0), (9, 3, 0), (9, 4, 0), (46, 0, 0), (46, 1, 16), (1, 7, 6), (1, 8, 26), (1, 9, 0), (2, 1, 0), (4, 1, 0), (61, 0, 0), (62, 0, 0), (76, 0, 1), (76, 1, 1), (76, 2, 1), (76, 3, 1), (76, 4, 1), (76, 5, 1), (76, 6, 1), (76, 7, 1), (76, 8, 1), (76, 9, 1)]
theorem z_cC_ok : z_clk z_cC z_rC = true := by decide +kernel
theorem z_sC_at {a i v : Int} (h : (a, i, v) ∈ z_cC) : z_sC a i = v := by
  have ok := z_cC_ok
  unfold z_sC
  cases hr : z_rC with
  | none => rw [hr] at ok; cases ok
  | some r => rw [hr] at ok; exact of_decide_eq_true (List.all_eq_true.mp ok (a, i, v) h)
theorem z_wf_X0 : z_wf z_X0 := by
  unfold z_wf
  have e0 : ∀ i, z_X0 0 i = if i = 3 then 6 else 0 := fun i => rfl
  have e7 : ∀ i, z_X0 7 i = 0 := fun i => rfl
  have e17 : ∀ i, z_X0 17 i = 1 := fun i => rfl
  simp only [e0, e7, e17, Int.reduceEq, if_true, if_false]
  refine ⟨by omega, by omega, by omega, by omega, by simp, by omega, by omega, fun r a b => by omega, fun r a b => by omega, fun k k' a b c => by omega, fun r a b => by omega, fun k a b => by decide, fun k a b => trivial, fun k a b => by omega, fun w a b => by omega, fun i a b => by omega⟩
theorem z_five {P : Int → Prop} (h0 : P 0) (h1 : P 1) (h2 : P 2) (h3 : P 3) (h4 : P 4) : ∀ k, 0 ≤ k → k < 5 → P k := fun k a b => by
  rcases (show k = 0 ∨ k = 1 ∨ k = 2 ∨ k = 3 ∨ k = 4 by omega) with rfl | rfl | rfl | rfl | rfl <;> assumption
theorem c_new : c_inv z_sC z_X0 := by
  have m : ∀ a i v, (a, i, v) ∈ z_cC → z_sC a i = v := fun a i v => z_sC_at
  refine ⟨6, 26, ⟨Or.inl ⟨rfl, rfl⟩, ⟨m _ _ _ (by decide), m _ _ _ (by decide), m _ _ _ (by decide)⟩, fun w a b => ?_, m _ _ _ (by decide), fun i a b => ?_, rfl, ⟨Or.inl rfl, z_wf_X0, ⟨m _ _ _ (by decide), m _ _ _ (by decide), m _ _ _ (by decide), m _ _ _ (by decide), fun r a b => ?_, fun r a b => ?_, ?_, fun j a b => ?_⟩, Or.inl ⟨rfl, m _ _ _ (by decide)⟩, ⟨m _ _ _ (by decide), ⟨Int.le_refl _, by decide⟩, ⟨by decide, by decide⟩, ⟨by decide, by decide⟩, fun g a b => ?_⟩, ?_⟩, fun j hj => ?_, m _ _ _ (by decide), m _ _ _ (by decide)⟩, m _ _ _ (by decide), fun i a b => ?_⟩
  · show z_sC 76 w = 1
    rcases (show w = 0 ∨ w = 1 ∨ w = 2 ∨ w = 3 ∨ w = 4 ∨ w = 5 ∨ w = 6 ∨ w = 7 ∨ w = 8 ∨ w = 9 by omega) with rfl | rfl | rfl | rfl | rfl | rfl | rfl | rfl | rfl | rfl <;> exact m _ _ _ (by decide)
  · have h : z_X0 0 5 = 0 := rfl
    omega
  · have h : z_X0 0 0 = 0 := rfl
    omega
  · have h : z_X0 0 1 = 0 := rfl
    omega
  · exact z_five (m _ _ _ (by decide)) (m _ _ _ (by decide)) (m _ _ _ (by decide)) (m _ _ _ (by decide)) (m _ _ _ (by decide))
  · have h : z_X0 0 2 = 0 := rfl
    omega
  · have h : (z_Dm z_X0 (-1)).gN = 0 := rfl
    omega
  · exact ⟨m _ _ _ (by decide), fun g a b => by
      have h : (z_Dm z_X0 (-1)).gN = 0 := rfl
      omega⟩
  · have h : z_X0 0 2 = 0 := rfl
    omega
  · have h : z_X0 0 6 = 0 := rfl
    omega
