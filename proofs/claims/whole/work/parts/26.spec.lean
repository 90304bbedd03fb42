/-! What a goer takes: out of options by masks (pains but for tolls, rank) the one that is ahead. -/
abbrev z_Opt : Type := Int → Option (Int × Int)
/-- (b, r) at mask m is strictly ahead of (b', r') at m' -/
def z_ah (t : Int → Int) (lean : Int) (m : Int) (q : Int × Int) (m' : Int) (q' : Int × Int) : Prop :=
  q.1 + z_pay t m < q'.1 + z_pay t m' ∨ (q.1 + z_pay t m = q'.1 + z_pay t m' ∧ ((if lean = 0 then z_pay t m' < z_pay t m else z_pay t m < z_pay t m') ∨ (z_pay t m = z_pay t m' ∧ q.2 < q'.2)))
theorem z_ah_irr {t : Int → Int} {lean m : Int} {q : Int × Int} : ¬ z_ah t lean m q m q := by
  unfold z_ah
  split <;> omega
theorem z_ah_trans {t : Int → Int} {lean m m' m'' : Int} {q q' q'' : Int × Int} (h : z_ah t lean m q m' q') (h' : z_ah t lean m' q' m'' q'') : z_ah t lean m q m'' q'' := by
  unfold z_ah at *
  by_cases hl : lean = 0
  · simp only [hl, if_true] at *; omega
  · simp only [hl, if_false] at *; omega
theorem z_ah_tot {t : Int → Int} {lean m m' : Int} {q q' : Int × Int} (h : ¬ z_ah t lean m q m' q') (h' : ¬ z_ah t lean m' q' m q) : q.1 + z_pay t m = q'.1 + z_pay t m' ∧ z_pay t m = z_pay t m' ∧ q.2 = q'.2 := by
  unfold z_ah at *
  by_cases hl : lean = 0
  · simp only [hl, if_true] at *; omega
  · simp only [hl, if_false] at *; omega
/-- a mask that is taken: an option, and none is ahead of it -/
def z_tk (op : z_Opt) (t : Int → Int) (lean m : Int) : Prop := ∃ q, op m = some q ∧ 0 ≤ m ∧ m < 32 ∧ ∀ m' q', 0 ≤ m' → m' < 32 → op m' = some q' → ¬ z_ah t lean m' q' m q
/-- options: none below 0, ranks part masks, there is one -/
def z_opok (op : z_Opt) : Prop := (∀ m q, 0 ≤ m → m < 32 → op m = some q → 0 ≤ q.1 ∧ q.1 ≤ 2000 ∧ 0 ≤ q.2 ∧ q.2 < 2147483648) ∧ (∀ m m' q q', 0 ≤ m → m < 32 → 0 ≤ m' → m' < 32 → op m = some q → op m' = some q' → q.2 = q'.2 → m = m') ∧ ∃ m q, 0 ≤ m ∧ m < 32 ∧ op m = some q
theorem z_tk_uniq {op : z_Opt} {t : Int → Int} {lean m m' : Int} (ho : z_opok op) (h : z_tk op t lean m) (h' : z_tk op t lean m') : m = m' := by
  obtain ⟨q, h1, h2, h3, h4⟩ := h
  obtain ⟨q', g1, g2, g3, g4⟩ := h'
  have := (z_ah_tot (h4 m' q' g2 g3 g1) (g4 m q h2 h3 h1)).2.2
  exact (ho.2.1 m' m q' q g2 g3 h2 h3 g1 h1 this).symm
theorem z_best_ex {op : z_Opt} {t : Int → Int} {lean : Int} : ∀ n : Nat, (∀ m : Int, 0 ≤ m → m < n → op m = none) ∨ ∃ (m : Int) (q : Int × Int), 0 ≤ m ∧ m < n ∧ op m = some q ∧ ∀ (m' : Int) (q' : Int × Int), 0 ≤ m' → m' < n → op m' = some q' → ¬ z_ah t lean m' q' m q
  | 0 => Or.inl fun m h0 h1 => absurd h1 (by omega)
  | n + 1 => by
    cases ho : op (n : Int) with
    | none =>
      rcases z_best_ex (op := op) (t := t) (lean := lean) n with ih | ⟨m, q, i1, i2, i3, i4⟩
      · left
        intro m h0 h1
        by_cases hm : m = (n : Int)
        · rw [hm]; exact ho
        · exact ih m h0 (by omega)
      · right
        refine ⟨m, q, i1, by omega, i3, fun m' q' h0 h1 hq => ?_⟩
        by_cases hm : m' = (n : Int)
        · rw [hm, ho] at hq; cases hq
        · exact i4 m' q' h0 (by omega) hq
    | some q =>
      right
      rcases z_best_ex (op := op) (t := t) (lean := lean) n with ih | ⟨m, q0, i1, i2, i3, i4⟩
      · refine ⟨n, q, by omega, by omega, ho, fun m' q' h0 h1 hq => ?_⟩
        by_cases hm : m' = (n : Int)
        · rw [hm, ho] at hq; cases hq; rw [hm]; exact z_ah_irr
        · rw [ih m' h0 (by omega)] at hq; cases hq
      · rcases Classical.em (z_ah t lean n q m q0) with ha | ha
        · refine ⟨n, q, by omega, by omega, ho, fun m' q' h0 h1 hq hx => ?_⟩
          by_cases hm : m' = (n : Int)
          · rw [hm, ho] at hq; cases hq; rw [hm] at hx; exact z_ah_irr hx
          · exact i4 m' q' h0 (by omega) hq (z_ah_trans hx ha)
        · refine ⟨m, q0, i1, by omega, i3, fun m' q' h0 h1 hq => ?_⟩
          by_cases hm : m' = (n : Int)
          · rw [hm, ho] at hq; cases hq; rw [hm]; exact ha
          · exact i4 m' q' h0 (by omega) hq
theorem z_tk_ex {op : z_Opt} {t : Int → Int} {lean : Int} (ho : z_opok op) : ∃ m, z_tk op t lean m := by
  obtain ⟨-, -, m, q, h0, h1, h2⟩ := ho
  rcases z_best_ex (op := op) (t := t) (lean := lean) 32 with h | ⟨m', q', i1, i2, i3, i4⟩
  · rw [h m h0 (by omega)] at h2; cases h2
  · exact ⟨m', q', i3, i1, by omega, fun m q h0 h1 hq => i4 m q h0 (by omega) hq⟩
/-- the mask that is taken -/
noncomputable def z_ch (op : z_Opt) (t : Int → Int) (lean : Int) : Int := @dite _ (∃ m, z_tk op t lean m) (Classical.propDecidable _) (fun h => Classical.choose h) (fun _ => 0)
theorem z_ch_tk {op : z_Opt} {t : Int → Int} {lean : Int} (ho : z_opok op) : z_tk op t lean (z_ch op t lean) := by
  have h := z_tk_ex (t := t) (lean := lean) ho
  unfold z_ch
  rw [dif_pos h]
  exact Classical.choose_spec h
theorem z_ch_eq {op : z_Opt} {t : Int → Int} {lean m : Int} (ho : z_opok op) (h : z_tk op t lean m) : z_ch op t lean = m := z_tk_uniq ho (z_ch_tk ho) h
theorem z_ah_congr {t t' : Int → Int} {lean m m' : Int} {q q' : Int × Int} (h : ∀ k : Int, 0 ≤ k → k < 5 → t k = t' k) : z_ah t lean m q m' q' ↔ z_ah t' lean m q m' q' := by
  unfold z_ah
  rw [z_pay_congr h, z_pay_congr (m := m') h]
theorem z_ch_congr {op : z_Opt} {t t' : Int → Int} {lean : Int} (ho : z_opok op) (h : ∀ k : Int, 0 ≤ k → k < 5 → t k = t' k) : z_ch op t lean = z_ch op t' lean := by
  refine z_ch_eq ho ?_
  obtain ⟨q, h1, h2, h3, h4⟩ := z_ch_tk (t := t') (lean := lean) ho
  exact ⟨q, h1, h2, h3, fun m' q' a b c d => h4 m' q' a b c ((z_ah_congr h).mp d)⟩
