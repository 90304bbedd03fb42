/-! A question's state of the class, and loops. -/
theorem z_for {S R : Type} (F : Nat → S → R) (out : S → R) (I : Nat → S → Prop) (n : Nat) {s : S} (h0 : I 0 s) (step : ∀ i s, i < n → I i s → ∃ s', F i s = F (i + 1) s' ∧ I (i + 1) s') (stop : ∀ s, I n s → F n s = out s) : ∃ s', F 0 s = out s' ∧ I n s' := by
  have go : ∀ (j k : Nat) (s : S), k + j = n → I k s → ∃ s', F k s = out s' ∧ I n s' := by
    intro j
    induction j with
    | zero =>
      intro k s hk hI
      have : k = n := by omega
      subst this
      exact ⟨s, stop s hI, hI⟩
    | succ j ih =>
      intro k s hk hI
      obtain ⟨s', e, hI'⟩ := step k s (by omega) hI
      obtain ⟨s2, e2, h2⟩ := ih (k + 1) s' (by omega) hI'
      exact ⟨s2, e.trans e2, h2⟩
  exact go n 0 s (by omega) h0
/-- a loop with no state but what it counts -/
theorem z_forv {S R : Type} (F : Nat → S → R) (r : R) (n : Nat) (s : S) (step : ∀ i s, i < n → ∃ s', F i s = F (i + 1) s') (stop : ∀ s, F n s = r) : F 0 s = r := by
  obtain ⟨s', e, -⟩ := z_for F (fun _ => r) (fun _ _ => True) n (s := s) trivial (fun i s hi _ => by obtain ⟨s', e⟩ := step i s hi; exact ⟨s', e, trivial⟩) (fun s _ => stop s)
  exact e
theorem z_foru {S R U : Type} (F : Nat → U → S → R) (out : U → S → R) (I : Nat → S → Prop) (n : Nat) {u : U} {s : S} (h0 : I 0 s) (step : ∀ i u s, i < n → I i s → ∃ u' s', F i u s = F (i + 1) u' s' ∧ I (i + 1) s') (stop : ∀ u s, I n s → F n u s = out u s) : ∃ u' s', F 0 u s = out u' s' ∧ I n s' := by
  obtain ⟨⟨u', s'⟩, e, hI⟩ := z_for (S := U × S) (fun i q => F i q.1 q.2) (fun q => out q.1 q.2) (fun i q => I i q.2) n (s := (u, s)) h0 (fun i q hi hq => by
    obtain ⟨u', s', e, h'⟩ := step i q.1 q.2 hi hq
    exact ⟨(u', s'), e, h'⟩) (fun q hq => stop q.1 q.2 hq)
  exact ⟨u', s', e, hI⟩
theorem z_oat {lo hi a i : Int} {σ σ' : z_S} (h : z_off lo hi σ σ') (ha : a < lo ∨ hi < a) : σ' a i = σ a i := h a i ha
theorem z_ns (k : Nat) : ((k + 1 : Nat) : Int) = (k : Int) + 1 := by omega
theorem c_LC {L : Int} (hL : L = 6 ∨ L = 26) : (∀ {β : Type} {k : Option β}, z_fld z_hdC (L + 1) 6 k = k) ∧
  (∀ {β : Type} {k : Option β}, z_fld z_hdC (L + 10) 2 k = k) ∧
  (∀ {β : Type} {k : Option β}, z_fld z_hdC L 3 k = k) ∧
  (∀ {β : Type} {σ : z_S} {v : Int} {k : z_S → Option β}, z_pf z_hdC σ 6 (L + 1) 0 v k = k (z_upd σ (L + 1) 0 v)) ∧
  (∀ {β : Type} {σ : z_S} {v : Int} {k : z_S → Option β}, z_pf z_hdC σ 6 (L + 1) 1 v k = k (z_upd σ (L + 1) 1 v)) ∧
  (∀ {β : Type} {σ : z_S} {v : Int} {k : z_S → Option β}, z_pf z_hdC σ 6 (L + 1) 2 v k = k (z_upd σ (L + 1) 2 v)) ∧
  (∀ {β : Type} {σ : z_S} {v : Int} {k : z_S → Option β}, z_pf z_hdC σ 6 (L + 1) 3 v k = k (z_upd σ (L + 1) 3 v)) ∧
  (∀ {β : Type} {σ : z_S} {v : Int} {k : z_S → Option β}, z_pf z_hdC σ 2 (L + 10) 0 v k = k (z_upd σ (L + 10) 0 v)) ∧
  (∀ {σ : z_S}, z_gf z_hcC σ L 0 = L + 1) ∧
  (∀ {σ : z_S}, z_gf z_hcC σ L 1 = L + 10) ∧
  (∀ {σ : z_S}, z_gf z_hcC σ (L + 1) 4 = L + 2) ∧
  (∀ {σ : z_S}, z_gf z_hcC σ (L + 1) 5 = L + 3) ∧
  (∀ {σ : z_S}, z_gf z_hcC σ (L + 1) 6 = L + 4) ∧
  (∀ {σ : z_S}, z_gf z_hcC σ (L + 1) 7 = L + 5) ∧
  (∀ {σ : z_S}, z_gf z_hcC σ (L + 1) 8 = L + 6) ∧
  (∀ {σ : z_S}, z_gf z_hcC σ (L + 1) 9 = L + 7) ∧
  (∀ {σ : z_S}, z_gf z_hcC σ (L + 1) 10 = L + 8) ∧
  (∀ {σ : z_S}, z_gf z_hcC σ (L + 1) 11 = L + 9) ∧
  (∀ {σ : z_S}, z_gf z_hcC σ (L + 10) 1 = L + 11) ∧
  (∀ {σ : z_S}, z_gf z_hcC σ (L + 10) 2 = L + 12) ∧
  (∀ {σ : z_S}, z_gf z_hcC σ (L + 10) 3 = L + 13) ∧
  (∀ {σ : z_S}, z_gf z_hcC σ (L + 10) 4 = L + 14) ∧
  (∀ {σ : z_S}, z_gf z_hcC σ (L + 10) 5 = L + 15) ∧
  (∀ {σ : z_S}, z_gf z_hcC σ (L + 10) 6 = L + 16) ∧
  (∀ {σ : z_S}, z_gf z_hcC σ (L + 10) 7 = L + 17) ∧
  (∀ {σ : z_S}, z_gf z_hcC σ (L + 10) 8 = L + 18) ∧
  (∀ {σ : z_S}, z_gf z_hcC σ (L + 10) 9 = L + 19) := by
  rcases hL with rfl | rfl <;> exact ⟨fun {_ _} => rfl, fun {_ _} => rfl, fun {_ _} => rfl, fun {_ _ _ _} => rfl, fun {_ _ _ _} => rfl, fun {_ _ _ _} => rfl, fun {_ _ _ _} => rfl, fun {_ _ _ _} => rfl, fun {_} => rfl, fun {_} => rfl, fun {_} => rfl, fun {_} => rfl, fun {_} => rfl, fun {_} => rfl, fun {_} => rfl, fun {_} => rfl, fun {_} => rfl, fun {_} => rfl, fun {_} => rfl, fun {_} => rfl, fun {_} => rfl, fun {_} => rfl, fun {_} => rfl, fun {_} => rfl, fun {_} => rfl, fun {_} => rfl, fun {_} => rfl⟩
theorem c_LA {L : Int} (hL : L = 6 ∨ L = 26) : (∀ {β : Type} {σ : z_S} {i : Int} {k : Int → Option β}, 0 ≤ i → i < 14 → z_ld z_hdC σ 1 1 (L + 2) i k = k (σ (L + 2) i)) ∧
  (∀ {β : Type} {σ : z_S} {i : Int} {k : Int → Option β}, 0 ≤ i → i < 5 → z_ld z_hdC σ 1 1 (L + 3) i k = k (σ (L + 3) i)) ∧
  (∀ {β : Type} {σ : z_S} {i : Int} {k : Int → Option β}, 0 ≤ i → i < 14 → z_ld z_hdC σ 1 1 (L + 4) i k = k (σ (L + 4) i)) ∧
  (∀ {β : Type} {σ : z_S} {i : Int} {k : Int → Option β}, 0 ≤ i → i < 14 → z_ld z_hdC σ 1 1 (L + 5) i k = k (σ (L + 5) i)) ∧
  (∀ {β : Type} {σ : z_S} {i : Int} {k : Int → Option β}, 0 ≤ i → i < 14 → z_ld z_hdC σ 1 1 (L + 6) i k = k (σ (L + 6) i)) ∧
  (∀ {β : Type} {σ : z_S} {i : Int} {k : Int → Option β}, 0 ≤ i → i < 14 → z_ld z_hdC σ 1 1 (L + 7) i k = k (σ (L + 7) i)) ∧
  (∀ {β : Type} {σ : z_S} {i : Int} {k : Int → Option β}, 0 ≤ i → i < 14 → z_ld z_hdC σ 1 1 (L + 8) i k = k (σ (L + 8) i)) ∧
  (∀ {β : Type} {σ : z_S} {i : Int} {k : Int → Option β}, 0 ≤ i → i < 5 → z_ld z_hdC σ 1 1 (L + 9) i k = k (σ (L + 9) i)) ∧
  (∀ {β : Type} {σ : z_S} {i : Int} {k : Int → Option β}, 0 ≤ i → i < 8 → z_ld z_hdC σ 1 1 (L + 11) i k = k (σ (L + 11) i)) ∧
  (∀ {β : Type} {σ : z_S} {i : Int} {k : Int → Option β}, 0 ≤ i → i < 8 → z_ld z_hdC σ 1 1 (L + 12) i k = k (σ (L + 12) i)) ∧
  (∀ {β : Type} {σ : z_S} {i : Int} {k : Int → Option β}, 0 ≤ i → i < 8 → z_ld z_hdC σ 1 1 (L + 13) i k = k (σ (L + 13) i)) ∧
  (∀ {β : Type} {σ : z_S} {i : Int} {k : Int → Option β}, 0 ≤ i → i < 8 → z_ld z_hdC σ 1 1 (L + 14) i k = k (σ (L + 14) i)) ∧
  (∀ {β : Type} {σ : z_S} {i : Int} {k : Int → Option β}, 0 ≤ i → i < 8 → z_ld z_hdC σ 1 1 (L + 15) i k = k (σ (L + 15) i)) ∧
  (∀ {β : Type} {σ : z_S} {i : Int} {k : Int → Option β}, 0 ≤ i → i < 8 → z_ld z_hdC σ 1 1 (L + 16) i k = k (σ (L + 16) i)) ∧
  (∀ {β : Type} {σ : z_S} {i : Int} {k : Int → Option β}, 0 ≤ i → i < 8 → z_ld z_hdC σ 1 1 (L + 17) i k = k (σ (L + 17) i)) ∧
  (∀ {β : Type} {σ : z_S} {i : Int} {k : Int → Option β}, 0 ≤ i → i < 8 → z_ld z_hdC σ 1 1 (L + 18) i k = k (σ (L + 18) i)) ∧
  (∀ {β : Type} {σ : z_S} {i : Int} {k : Int → Option β}, 0 ≤ i → i < 8 → z_ld z_hdC σ 1 1 (L + 19) i k = k (σ (L + 19) i)) ∧
  (∀ {β : Type} {σ : z_S} {i v : Int} {k : z_S → Option β}, 0 ≤ i → i < 14 → z_st z_hdC σ 1 (L + 2) i v k = k (z_upd σ (L + 2) i v)) ∧
  (∀ {β : Type} {σ : z_S} {i v : Int} {k : z_S → Option β}, 0 ≤ i → i < 5 → z_st z_hdC σ 1 (L + 3) i v k = k (z_upd σ (L + 3) i v)) ∧
  (∀ {β : Type} {σ : z_S} {i v : Int} {k : z_S → Option β}, 0 ≤ i → i < 14 → z_st z_hdC σ 1 (L + 4) i v k = k (z_upd σ (L + 4) i v)) ∧
  (∀ {β : Type} {σ : z_S} {i v : Int} {k : z_S → Option β}, 0 ≤ i → i < 14 → z_st z_hdC σ 1 (L + 5) i v k = k (z_upd σ (L + 5) i v)) ∧
  (∀ {β : Type} {σ : z_S} {i v : Int} {k : z_S → Option β}, 0 ≤ i → i < 14 → z_st z_hdC σ 1 (L + 6) i v k = k (z_upd σ (L + 6) i v)) ∧
  (∀ {β : Type} {σ : z_S} {i v : Int} {k : z_S → Option β}, 0 ≤ i → i < 14 → z_st z_hdC σ 1 (L + 7) i v k = k (z_upd σ (L + 7) i v)) ∧
  (∀ {β : Type} {σ : z_S} {i v : Int} {k : z_S → Option β}, 0 ≤ i → i < 14 → z_st z_hdC σ 1 (L + 8) i v k = k (z_upd σ (L + 8) i v)) ∧
  (∀ {β : Type} {σ : z_S} {i v : Int} {k : z_S → Option β}, 0 ≤ i → i < 5 → z_st z_hdC σ 1 (L + 9) i v k = k (z_upd σ (L + 9) i v)) ∧
  (∀ {β : Type} {σ : z_S} {i v : Int} {k : z_S → Option β}, 0 ≤ i → i < 8 → z_st z_hdC σ 1 (L + 11) i v k = k (z_upd σ (L + 11) i v)) ∧
  (∀ {β : Type} {σ : z_S} {i v : Int} {k : z_S → Option β}, 0 ≤ i → i < 8 → z_st z_hdC σ 1 (L + 12) i v k = k (z_upd σ (L + 12) i v)) ∧
  (∀ {β : Type} {σ : z_S} {i v : Int} {k : z_S → Option β}, 0 ≤ i → i < 8 → z_st z_hdC σ 1 (L + 13) i v k = k (z_upd σ (L + 13) i v)) ∧
  (∀ {β : Type} {σ : z_S} {i v : Int} {k : z_S → Option β}, 0 ≤ i → i < 8 → z_st z_hdC σ 1 (L + 14) i v k = k (z_upd σ (L + 14) i v)) ∧
  (∀ {β : Type} {σ : z_S} {i v : Int} {k : z_S → Option β}, 0 ≤ i → i < 8 → z_st z_hdC σ 1 (L + 15) i v k = k (z_upd σ (L + 15) i v)) ∧
  (∀ {β : Type} {σ : z_S} {i v : Int} {k : z_S → Option β}, 0 ≤ i → i < 8 → z_st z_hdC σ 1 (L + 16) i v k = k (z_upd σ (L + 16) i v)) ∧
  (∀ {β : Type} {σ : z_S} {i v : Int} {k : z_S → Option β}, 0 ≤ i → i < 8 → z_st z_hdC σ 1 (L + 17) i v k = k (z_upd σ (L + 17) i v)) ∧
  (∀ {β : Type} {σ : z_S} {i v : Int} {k : z_S → Option β}, 0 ≤ i → i < 8 → z_st z_hdC σ 1 (L + 18) i v k = k (z_upd σ (L + 18) i v)) ∧
  (∀ {β : Type} {σ : z_S} {i v : Int} {k : z_S → Option β}, 0 ≤ i → i < 8 → z_st z_hdC σ 1 (L + 19) i v k = k (z_upd σ (L + 19) i v)) ∧
  (∀ {β : Type} {k : Option β}, (if 1 ≤ z_k z_hdC (L + 2) ∧ z_k z_hdC (L + 2) < 5 then k else none) = k) ∧
  (∀ {β : Type} {k : Option β}, (if 1 ≤ z_k z_hdC (L + 3) ∧ z_k z_hdC (L + 3) < 5 then k else none) = k) ∧
  (∀ {β : Type} {k : Option β}, (if 1 ≤ z_k z_hdC (L + 4) ∧ z_k z_hdC (L + 4) < 5 then k else none) = k) ∧
  (∀ {β : Type} {k : Option β}, (if 1 ≤ z_k z_hdC (L + 5) ∧ z_k z_hdC (L + 5) < 5 then k else none) = k) ∧
  (∀ {β : Type} {k : Option β}, (if 1 ≤ z_k z_hdC (L + 6) ∧ z_k z_hdC (L + 6) < 5 then k else none) = k) ∧
  (∀ {β : Type} {k : Option β}, (if 1 ≤ z_k z_hdC (L + 7) ∧ z_k z_hdC (L + 7) < 5 then k else none) = k) ∧
  (∀ {β : Type} {k : Option β}, (if 1 ≤ z_k z_hdC (L + 8) ∧ z_k z_hdC (L + 8) < 5 then k else none) = k) ∧
  (∀ {β : Type} {k : Option β}, (if 1 ≤ z_k z_hdC (L + 9) ∧ z_k z_hdC (L + 9) < 5 then k else none) = k) ∧
  (∀ {β : Type} {k : Option β}, (if 1 ≤ z_k z_hdC (L + 11) ∧ z_k z_hdC (L + 11) < 5 then k else none) = k) ∧
  (∀ {β : Type} {k : Option β}, (if 1 ≤ z_k z_hdC (L + 12) ∧ z_k z_hdC (L + 12) < 5 then k else none) = k) ∧
  (∀ {β : Type} {k : Option β}, (if 1 ≤ z_k z_hdC (L + 13) ∧ z_k z_hdC (L + 13) < 5 then k else none) = k) ∧
  (∀ {β : Type} {k : Option β}, (if 1 ≤ z_k z_hdC (L + 14) ∧ z_k z_hdC (L + 14) < 5 then k else none) = k) ∧
  (∀ {β : Type} {k : Option β}, (if 1 ≤ z_k z_hdC (L + 15) ∧ z_k z_hdC (L + 15) < 5 then k else none) = k) ∧
  (∀ {β : Type} {k : Option β}, (if 1 ≤ z_k z_hdC (L + 16) ∧ z_k z_hdC (L + 16) < 5 then k else none) = k) ∧
  (∀ {β : Type} {k : Option β}, (if 1 ≤ z_k z_hdC (L + 17) ∧ z_k z_hdC (L + 17) < 5 then k else none) = k) ∧
  (∀ {β : Type} {k : Option β}, (if 1 ≤ z_k z_hdC (L + 18) ∧ z_k z_hdC (L + 18) < 5 then k else none) = k) ∧
  (∀ {β : Type} {k : Option β}, (if 1 ≤ z_k z_hdC (L + 19) ∧ z_k z_hdC (L + 19) < 5 then k else none) = k) ∧
  (z_n z_hdC (L + 2) = 14) ∧
  (z_n z_hdC (L + 3) = 5) ∧
  (z_n z_hdC (L + 4) = 14) ∧
  (z_n z_hdC (L + 5) = 14) ∧
  (z_n z_hdC (L + 6) = 14) ∧
  (z_n z_hdC (L + 7) = 14) ∧
  (z_n z_hdC (L + 8) = 14) ∧
  (z_n z_hdC (L + 9) = 5) ∧
  (z_n z_hdC (L + 11) = 8) ∧
  (z_n z_hdC (L + 12) = 8) ∧
  (z_n z_hdC (L + 13) = 8) ∧
  (z_n z_hdC (L + 14) = 8) ∧
  (z_n z_hdC (L + 15) = 8) ∧
  (z_n z_hdC (L + 16) = 8) ∧
  (z_n z_hdC (L + 17) = 8) ∧
  (z_n z_hdC (L + 18) = 8) ∧
  (z_n z_hdC (L + 19) = 8) := by
  rcases hL with rfl | rfl <;> exact ⟨fun {_ _ _ _} h0 h1 => if_pos ⟨Or.inl rfl, h0, h1⟩, fun {_ _ _ _} h0 h1 => if_pos ⟨Or.inl rfl, h0, h1⟩, fun {_ _ _ _} h0 h1 => if_pos ⟨Or.inl rfl, h0, h1⟩, fun {_ _ _ _} h0 h1 => if_pos ⟨Or.inl rfl, h0, h1⟩, fun {_ _ _ _} h0 h1 => if_pos ⟨Or.inl rfl, h0, h1⟩, fun {_ _ _ _} h0 h1 => if_pos ⟨Or.inl rfl, h0, h1⟩, fun {_ _ _ _} h0 h1 => if_pos ⟨Or.inl rfl, h0, h1⟩, fun {_ _ _ _} h0 h1 => if_pos ⟨Or.inl rfl, h0, h1⟩, fun {_ _ _ _} h0 h1 => if_pos ⟨Or.inl rfl, h0, h1⟩, fun {_ _ _ _} h0 h1 => if_pos ⟨Or.inl rfl, h0, h1⟩, fun {_ _ _ _} h0 h1 => if_pos ⟨Or.inl rfl, h0, h1⟩, fun {_ _ _ _} h0 h1 => if_pos ⟨Or.inl rfl, h0, h1⟩, fun {_ _ _ _} h0 h1 => if_pos ⟨Or.inl rfl, h0, h1⟩, fun {_ _ _ _} h0 h1 => if_pos ⟨Or.inl rfl, h0, h1⟩, fun {_ _ _ _} h0 h1 => if_pos ⟨Or.inl rfl, h0, h1⟩, fun {_ _ _ _} h0 h1 => if_pos ⟨Or.inl rfl, h0, h1⟩, fun {_ _ _ _} h0 h1 => if_pos ⟨Or.inl rfl, h0, h1⟩, fun {_ _ _ _ _} h0 h1 => if_pos ⟨rfl, h0, h1⟩, fun {_ _ _ _ _} h0 h1 => if_pos ⟨rfl, h0, h1⟩, fun {_ _ _ _ _} h0 h1 => if_pos ⟨rfl, h0, h1⟩, fun {_ _ _ _ _} h0 h1 => if_pos ⟨rfl, h0, h1⟩, fun {_ _ _ _ _} h0 h1 => if_pos ⟨rfl, h0, h1⟩, fun {_ _ _ _ _} h0 h1 => if_pos ⟨rfl, h0, h1⟩, fun {_ _ _ _ _} h0 h1 => if_pos ⟨rfl, h0, h1⟩, fun {_ _ _ _ _} h0 h1 => if_pos ⟨rfl, h0, h1⟩, fun {_ _ _ _ _} h0 h1 => if_pos ⟨rfl, h0, h1⟩, fun {_ _ _ _ _} h0 h1 => if_pos ⟨rfl, h0, h1⟩, fun {_ _ _ _ _} h0 h1 => if_pos ⟨rfl, h0, h1⟩, fun {_ _ _ _ _} h0 h1 => if_pos ⟨rfl, h0, h1⟩, fun {_ _ _ _ _} h0 h1 => if_pos ⟨rfl, h0, h1⟩, fun {_ _ _ _ _} h0 h1 => if_pos ⟨rfl, h0, h1⟩, fun {_ _ _ _ _} h0 h1 => if_pos ⟨rfl, h0, h1⟩, fun {_ _ _ _ _} h0 h1 => if_pos ⟨rfl, h0, h1⟩, fun {_ _ _ _ _} h0 h1 => if_pos ⟨rfl, h0, h1⟩, fun {_ _} => rfl, fun {_ _} => rfl, fun {_ _} => rfl, fun {_ _} => rfl, fun {_ _} => rfl, fun {_ _} => rfl, fun {_ _} => rfl, fun {_ _} => rfl, fun {_ _} => rfl, fun {_ _} => rfl, fun {_ _} => rfl, fun {_ _} => rfl, fun {_ _} => rfl, fun {_ _} => rfl, fun {_ _} => rfl, fun {_ _} => rfl, fun {_ _} => rfl, rfl, rfl, rfl, rfl, rfl, rfl, rfl, rfl, rfl, rfl, rfl, rfl, rfl, rfl, rfl, rfl, rfl⟩
abbrev z_D : Type := (Int → z_Opt) × (Int → Int) × Int × (Int → Int) × (Int → Int)
abbrev z_D.op (D : z_D) : Int → z_Opt := D.1
abbrev z_D.mn (D : z_D) : Int → Int := D.2.1
abbrev z_D.gN (D : z_D) : Int := D.2.2.1
abbrev z_D.gj (D : z_D) : Int → Int := D.2.2.2.1
abbrev z_D.gw (D : z_D) : Int → Int := D.2.2.2.2
/-- the land at L with road s shut, and its goers -/
def c_Q (σ X : z_S) (L s : Int) (D : z_D) : Prop := (L = 6 ∨ L = 26) ∧ z_wf X ∧ c_land σ L X ∧ c_shut σ (L + 1) s ∧ c_tab σ D.op D.mn D.gN (X 0 3) (X 0 1) ∧ c_who σ X L D.gN D.gj D.gw
/-- ready to be asked -/
def c_rd (σ X : z_S) (L s : Int) (D : z_D) (lean : Int) (share : Int → Int) : Prop := c_Q σ X L s D ∧ c_mk σ (L + 1) lean share D.gN ∧ σ 59 3 = X 0 1 ∧ σ 61 0 = 0 ∧ σ 62 0 = 0
/-- asked by the tolls t -/
def c_at (σ X : z_S) (L s : Int) (D : z_D) (lean : Int) (share t : Int → Int) (mv cp : Int) : Prop := c_rd σ X L s D lean share ∧ c_sets σ t (X 0 1) mv cp (z_lf lean) ∧ z_tcap (X 0 3) t
section
variable {σ X : z_S} {L s lean : Int} {D : z_D} {share : Int → Int}
theorem c_Q.hL (h : c_Q σ X L s D) : L = 6 ∨ L = 26 := h.1
theorem c_Q.wf (h : c_Q σ X L s D) : z_wf X := h.2.1
theorem c_Q.land (h : c_Q σ X L s D) : c_land σ L X := h.2.2.1
theorem c_Q.shut (h : c_Q σ X L s D) : c_shut σ (L + 1) s := h.2.2.2.1
theorem c_Q.tab (h : c_Q σ X L s D) : c_tab σ D.op D.mn D.gN (X 0 3) (X 0 1) := h.2.2.2.2.1
theorem c_Q.who (h : c_Q σ X L s D) : c_who σ X L D.gN D.gj D.gw := h.2.2.2.2.2
theorem c_rd.Q (h : c_rd σ X L s D lean share) : c_Q σ X L s D := h.1
theorem c_rd.hL (h : c_rd σ X L s D lean share) : L = 6 ∨ L = 26 := h.1.1
theorem c_rd.wf (h : c_rd σ X L s D lean share) : z_wf X := h.1.2.1
theorem c_rd.land (h : c_rd σ X L s D lean share) : c_land σ L X := h.1.2.2.1
theorem c_rd.shut (h : c_rd σ X L s D lean share) : c_shut σ (L + 1) s := h.1.2.2.2.1
theorem c_rd.tab (h : c_rd σ X L s D lean share) : c_tab σ D.op D.mn D.gN (X 0 3) (X 0 1) := h.1.2.2.2.2.1
theorem c_rd.who (h : c_rd σ X L s D lean share) : c_who σ X L D.gN D.gj D.gw := h.1.2.2.2.2.2
theorem c_rd.mk (h : c_rd σ X L s D lean share) : c_mk σ (L + 1) lean share D.gN := h.2.1
theorem c_rd.n3 (h : c_rd σ X L s D lean share) : σ 59 3 = X 0 1 := h.2.2.1
theorem c_rd.z61 (h : c_rd σ X L s D lean share) : σ 61 0 = 0 := h.2.2.2.1
theorem c_rd.z62 (h : c_rd σ X L s D lean share) : σ 62 0 = 0 := h.2.2.2.2
theorem c_at.rd {t : Int → Int} {mv cp : Int} (h : c_at σ X L s D lean share t mv cp) : c_rd σ X L s D lean share := h.1
theorem c_at.sets {t : Int → Int} {mv cp : Int} (h : c_at σ X L s D lean share t mv cp) : c_sets σ t (X 0 1) mv cp (z_lf lean) := h.2.1
theorem c_at.cap {t : Int → Int} {mv cp : Int} (h : c_at σ X L s D lean share t mv cp) : z_tcap (X 0 3) t := h.2.2
end
theorem c_shut_off {σ σ' : z_S} {L s lo hi : Int} (hL : L = 6 ∨ L = 26) (ho : z_off lo hi σ σ') (hlo : 46 ≤ lo ∨ hi ≤ 5) (h : c_shut σ (L + 1) s) : c_shut σ' (L + 1) s := by
  unfold c_shut
  rw [z_oat ho (by omega)]
  exact h
theorem c_Q_off {σ σ' X : z_S} {L s lo hi : Int} {D : z_D} (ho : z_off lo hi σ σ') (h1 : 58 ≤ lo) (h : c_Q σ X L s D) : c_Q σ' X L s D :=
  ⟨h.hL, h.wf, c_land_off h.hL ho (by omega) h.land, c_shut_off h.hL ho (by omega) h.shut, c_tab_off ho h1 h.tab, c_who_off ho h1 h.who⟩
theorem c_rd_off {σ σ' X : z_S} {L s lo hi lean : Int} {D : z_D} {share : Int → Int} (ho : z_off lo hi σ σ') (h1 : 65 ≤ lo ∨ (lo = 63 ∧ hi = 63)) (h : c_rd σ X L s D lean share) : c_rd σ' X L s D lean share :=
  ⟨c_Q_off ho (by omega) h.Q, c_mk_off ho (by omega) h.mk, by rw [z_oat ho (by omega)]; exact h.n3, by rw [z_oat ho (by omega)]; exact h.z61, by rw [z_oat ho (by omega)]; exact h.z62⟩
theorem c_at_off {σ σ' X : z_S} {L s lo hi lean mv cp : Int} {D : z_D} {share t : Int → Int} (ho : z_off lo hi σ σ') (h1 : 65 ≤ lo ∨ (lo = 63 ∧ hi = 63)) (h : c_at σ X L s D lean share t mv cp) : c_at σ' X L s D lean share t mv cp :=
  ⟨c_rd_off ho h1 h.rd, c_sets_off ho (by omega) h.sets, h.cap⟩
theorem c_rd_at {σ σ' X : z_S} {L s lean mv cp : Int} {D : z_D} {share t : Int → Int} (ho : z_off 59 63 σ σ') (h : c_rd σ X L s D lean share) (hs : c_sets σ' t (X 0 1) mv cp (z_lf lean)) (ht : z_tcap (X 0 3) t) : c_at σ' X L s D lean share t mv cp :=
  ⟨⟨c_Q_off ho (by omega) h.Q, c_mk_off ho (by omega) h.mk, hs.1, (c_sets_0 hs).1, (c_sets_0 hs).2⟩, hs, ht⟩
section
variable {σ X : z_S} {L s lean : Int} {D : z_D} {share : Int → Int}
theorem c_rd.ln (h : c_rd σ X L s D lean share) : lean = 0 ∨ lean = 1 := h.mk.2.2.2.1
theorem c_rd.roads (h : c_rd σ X L s D lean share) : σ 58 2 = L + 1 := h.mk.1
theorem c_rd.gn (h : c_rd σ X L s D lean share) : 0 ≤ D.gN ∧ D.gN ≤ 48 := h.tab.2.1
theorem c_rd.gz (h : c_rd σ X L s D lean share) : σ 46 0 = D.gN := h.tab.1
theorem c_rd.nt (h : c_rd σ X L s D lean share) : 0 ≤ X 0 1 ∧ X 0 1 ≤ 5 := h.wf.2.1
theorem c_rd.cp (h : c_rd σ X L s D lean share) : 0 ≤ X 0 3 ∧ X 0 3 ≤ 20 := h.wf.2.2.2.1
theorem c_rd.capv (h : c_rd σ X L s D lean share) : σ (L + 1) 2 = X 0 3 := h.land.2.2.1
theorem c_rd.tolls (h : c_rd σ X L s D lean share) {k : Int} (h0 : 0 ≤ k) (h1 : k < 5) : σ (L + 3) k = X 7 k := h.land.2.2.2.2.2.2.1 k h0 h1
theorem c_rd.tc (h : c_rd σ X L s D lean share) : z_tcap (X 0 3) (X 7) := h.wf.2.2.2.2.2.2.2.2.2.2.2.1
theorem c_rd.a5 (h : c_rd σ X L s D lean share) : z_arr5 (L + 3) := by have := h.hL; unfold z_arr5; omega
theorem c_rd.side (h : c_rd σ X L s D lean share) (d : Nat) (k : Int) : z_ev z_hcC (d + 3) 613 [z_R (L + 1), z_I k] z_hdC σ = some (z_I (z_side X k s), z_hdC, σ) := c_sideOf d h.hL h.wf h.land h.shut k
theorem c_rd.sr (h : c_rd σ X L s D lean share) (k : Int) : 0 ≤ z_side X k s ∧ z_side X k s < 32 := ⟨(z_side_rng h.wf k s).1, (z_side_rng h.wf k s).2.1⟩
/-- what the i-th set brings -/
noncomputable def z_Bi (D : z_D) (lean : Int) (share : Int → Int) (side mv cp : Int) (t : Int → Int) (i : Nat) : Int := z_brt D.op share D.gN lean side (z_ti mv cp t i)
def z_tot (mv cp : Int) : Nat := ((cp + 1) ^ (z_pc mv).toNat).toNat
theorem z_tot_i {mv cp : Int} (h : 0 ≤ cp) : (cp + 1) ^ (z_pc mv).toNat = (z_tot mv cp : Int) := by
  have : 0 < (cp + 1) ^ (z_pc mv).toNat := Int.pow_pos (by omega)
  unfold z_tot; omega
theorem z_tot_pos {mv cp : Int} (h : 0 ≤ cp) : 0 < z_tot mv cp := by
  have : 0 < (cp + 1) ^ (z_pc mv).toNat := Int.pow_pos (by omega)
  unfold z_tot; omega
/-- the best set's tolls, and what they bring -/
noncomputable def z_ht (D : z_D) (lean : Int) (share : Int → Int) (side mv cp : Int) (t : Int → Int) : Int → Int := z_ti mv cp t (z_am (z_Bi D lean share side mv cp t) (z_tot mv cp))
noncomputable def z_hv (D : z_D) (lean : Int) (share : Int → Int) (side mv cp : Int) (t : Int → Int) : Int := z_brt D.op share D.gN lean side (z_ht D lean share side mv cp t)
theorem c_rd.brt (h : c_rd σ X L s D lean share) {t : Int → Int} (ht : z_tcap (X 0 3) t) (side : Int) : 0 ≤ z_brt D.op share D.gN lean side t ∧ z_brt D.op share D.gN lean side t ≤ 480000000 :=
  z_brt_rng h.gn (fun g a b => (h.mk.2.2.2.2 g a b).2) (z_tcap_20 h.cp.2 ht) (k := D.gN.toNat) (by have := h.gn; omega)
theorem c_rd.htc (h : c_rd σ X L s D lean share) {t : Int → Int} (ht : z_tcap (X 0 3) t) {side mv cp : Int} (hc : cp ≤ X 0 3) : z_tcap (X 0 3) (z_ht D lean share side mv cp t) := z_ti_cap hc h.cp.1 ht _
theorem c_rd.hunt (h : c_rd σ X L s D lean share) (d : Nat) {a1 side mv cp : Int} {t : Int → Int} (ha : z_arr5 a1) (ht : z_tcap (X 0 3) t) (hs : 0 ≤ side ∧ side < 32) (hmv : 0 ≤ mv ∧ mv < 32) (hcp : 0 ≤ cp ∧ cp ≤ X 0 3) (htot : z_tot mv cp ≤ 20000) (hA : ∀ i : Int, 0 ≤ i → i < 5 → σ a1 i = t i) :
    ∃ σ', z_ev z_hcC (d + 4) 412 [z_R 58, z_R a1, z_I side, z_I mv, z_I cp] z_hdC σ = some (z_I (z_hv D lean share side mv cp t), z_hdC, σ') ∧ z_off 59 63 σ σ' ∧ (∀ k : Int, 0 ≤ k → k < 5 → σ' 63 k = z_ht D lean share side mv cp t k) ∧ c_at σ' X L s D lean share (z_ti mv cp t (z_tot mv cp)) mv cp := by
  have hti := z_tot_i (mv := mv) hcp.1
  obtain ⟨σ', g1, g2, g3, g4⟩ := c_hunt (side := side) d ha h.tab h.mk ht hs hmv hcp (by omega) h.n3 h.z61 h.z62 hA
  exact ⟨σ', g1, g2, g3, c_rd_at g2 h g4 (z_ti_cap hcp.2 h.cp.1 ht _)⟩
/-- Market.bestOf -/
theorem c_rd.best (h : c_rd σ X L s D lean share) (d : Nat) {w : Int} (hf : z_tot (z_side X w s) (X 0 3) ≤ 20000) :
    ∃ σ', z_ev z_hcC (d + 5) 411 [z_R 58, z_I w] z_hdC σ = some (z_I (z_hv D lean share (z_side X w s) (z_side X w s) (X 0 3) (X 7)), z_hdC, σ') ∧ z_off 59 63 σ σ' ∧ (∀ k : Int, 0 ≤ k → k < 5 → σ' 63 k = z_ht D lean share (z_side X w s) (z_side X w s) (X 0 3) (X 7) k) ∧ c_at σ' X L s D lean share (z_ti (z_side X w s) (X 0 3) (X 7) (z_tot (z_side X w s) (X 0 3))) (z_side X w s) (X 0 3) := by
  obtain ⟨σ', g1, g2⟩ := h.hunt (side := z_side X w s) (mv := z_side X w s) (cp := X 0 3) d h.a5 h.tc (h.sr w) (h.sr w) ⟨h.cp.1, Int.le_refl _⟩ hf (fun i => h.tolls)
  have hs := h.side (d + 1) w
  refine ⟨σ', ?_, g2⟩
  simp (disch := omega) only [z_E411, h.roads, h.capv, c_LC h.hL, hs, g1, z_fdC, z_pdC, z_adC, z_sdC, z_lkC, z_ndC, z_gdC, z_mdC, z_cI_some', z_cV_some', z_w_ok, Int.reduceAdd, Int.reduceSub, Int.reduceMul, Int.reduceNeg, Int.reduceEq, Int.reduceLT, Int.reduceLE, Int.reduceNe, reduceIte, true_and, and_true, false_and, and_false, if_true, if_false, ne_eq, not_true_eq_false, not_false_eq_true]
theorem c_rd.begin (h : c_rd σ X L s D lean share) (d : Nat) {a1 mv cp : Int} {t : Int → Int} (ha : z_arr5 a1) (ht : z_tcap (X 0 3) t) (hmv : 0 ≤ mv ∧ mv < 32) (hcp : 0 ≤ cp ∧ cp ≤ X 0 3) (hA : ∀ i : Int, 0 ≤ i → i < 5 → σ a1 i = t i) :
    ∃ σ', z_ev z_hcC (d + 3) 405 [z_R 58, z_R a1, z_I mv, z_I cp] z_hdC σ = some (z_I (z_tot mv cp), z_hdC, σ') ∧ z_off 59 62 σ σ' ∧ c_at σ' X L s D lean share (z_ti mv cp t 0) mv cp := by
  have hp := h.cp
  obtain ⟨σ', g1, g2, g3⟩ := c_mbegin (mv := mv) (cp := cp) d ha (z_tcap_20 hp.2 ht) h.ln h.nt hmv (by omega) h.n3 h.z61 h.z62 hA h.mk.2.2.1
  rw [z_tot_i hcp.1] at g1
  exact ⟨σ', g1, g2, c_rd_at (z_off_le g2 (by omega) (by omega)) h g3 (z_ti_cap hcp.2 hp.1 ht 0)⟩
theorem c_rd.fix (h : c_rd σ X L s D lean share) (d : Nat) {a1 : Int} {t : Int → Int} (ha : z_arr5 a1) (ht : z_tcap (X 0 3) t) (hA : ∀ i : Int, 0 ≤ i → i < 5 → σ a1 i = t i) :
    ∃ σ', z_ev z_hcC (d + 3) 404 [z_R 58, z_R a1] z_hdC σ = some (z_U, z_hdC, σ') ∧ z_off 59 62 σ σ' ∧ c_at σ' X L s D lean share t 0 (X 0 3) := by
  obtain ⟨σ', g1, g2, g3⟩ := c_fix d h.mk.2.1 ha (z_tcap_20 h.cp.2 ht) h.ln h.nt h.cp h.n3 h.z61 h.z62 hA h.mk.2.2.1 h.roads h.capv
  exact ⟨σ', g1, g2, c_rd_at (z_off_le g2 (by omega) (by omega)) h g3 ht⟩
variable {t : Int → Int} {mv cp : Int}
theorem c_at.next {i : Nat} (h : c_at σ X L s D lean share (z_ti mv cp t i) mv cp) (hcp : cp ≤ X 0 3) (d : Nat) :
    ∃ σ', z_ev z_hcC (d + 2) 802 [z_R 59] z_hdC σ = some (z_U, z_hdC, σ') ∧ z_off 60 62 σ σ' ∧ c_at σ' X L s D lean share (z_ti mv cp t (i + 1)) mv cp := by
  obtain ⟨σ', g1, g2, g3⟩ := c_next d h.sets
  exact ⟨σ', g1, g2, c_rd_at (z_off_le g2 (by omega) (by omega)) h.rd g3 (z_inc_cap hcp h.cap h.rd.cp.1)⟩
theorem c_at.brought (h : c_at σ X L s D lean share t mv cp) (d : Nat) {side : Int} (hs : 0 ≤ side ∧ side < 32) : z_ev z_hcC (d + 3) 409 [z_R 58, z_I side] z_hdC σ = some (z_I (z_brt D.op share D.gN lean side t), z_hdC, σ) := c_brought d h.rd.tab h.rd.mk h.sets h.cap hs
theorem c_at.goer (h : c_at σ X L s D lean share t mv cp) {g : Int} (h0 : 0 ≤ g) (h1 : g < D.gN) : z_opok (D.op g) ∧ (0 ≤ z_ch (D.op g) t lean ∧ z_ch (D.op g) t lean < 32 ∧ z_ch (D.op g) t lean < ((2 ^ (X 0 1).toNat : Nat) : Int)) ∧ (1 ≤ D.mn g ∧ D.mn g ≤ 99) ∧ σ 50 g = D.mn g := by
  obtain ⟨ho, hL, hm2, h50, hmn, -⟩ := h.rd.tab.2.2.2.2 g h0 h1
  have hr := z_ch_rng (t := t) (lean := lean) ho hm2
  exact ⟨ho, ⟨hr.1, hr.2.1, hr.2.2.1⟩, hmn, h50⟩
theorem c_at.choice (h : c_at σ X L s D lean share t mv cp) (d : Nat) {g : Int} (h0 : 0 ≤ g) (h1 : g < D.gN) : z_ev z_hcC (d + 3) 406 [z_R 58, z_I g] z_hdC σ = some (z_I (z_ch (D.op g) t lean), z_hdC, σ) := by
  obtain ⟨ho, hL, hm2, h50, hmn, -⟩ := h.rd.tab.2.2.2.2 g h0 h1
  have := h.rd.gn
  exact c_mchoice d ho h0 (by rw [h.rd.gz]; exact h1) (by omega) hL h.sets h.cap hm2
theorem c_at.sumOf (h : c_at σ X L s D lean share t mv cp) (d : Nat) {m : Int} (h0 : 0 ≤ m) (h1 : m < ((2 ^ (X 0 1).toNat : Nat) : Int)) : z_ev z_hcC (d + 1) 804 [z_R 59, z_I m] z_hdC σ = some (z_I (z_pay t m), z_hdC, σ) := by
  have h5 : 2 ^ (X 0 1).toNat ≤ 2 ^ 5 := Nat.pow_le_pow_right (by omega) (by have := h.rd.nt; omega)
  have := c_sumOf (σ := σ) d h0 (by omega)
  rwa [(h.sets.2.2.2.2.2.1 m h0 h1).1] at this
theorem c_at.paySide (h : c_at σ X L s D lean share t mv cp) (d : Nat) {g side : Int} (h0 : 0 ≤ g) (h1 : g < D.gN) (hs : 0 ≤ side ∧ side < 32) : z_ev z_hcC (d + 1) 804 [z_R 59, z_I (z_and (z_ch (D.op g) t lean) side)] z_hdC σ = some (z_I (z_pay t (z_and (z_ch (D.op g) t lean) side)), z_hdC, σ) := by
  obtain ⟨-, hr, -⟩ := h.goer h0 h1
  have ha := z_and_le (x := z_ch (D.op g) t lean) (y := side) hr.1 (by omega) hs.1 (by omega)
  exact h.sumOf d ha.1 (by omega)
theorem c_at.payr (h : c_at σ X L s D lean share t mv cp) (m : Int) : 0 ≤ z_pay t m ∧ z_pay t m ≤ 100 := c_t20_pay (z_tcap_20 h.rd.cp.2 h.cap) m
theorem c_at.manyOf (h : c_at σ X L s D lean share t mv cp) (d : Nat) {g : Int} (h0 : 0 ≤ g) (h1 : g < D.gN) : z_ev z_hcC (d + 2) 112 [z_R 46, z_I g] z_hdC σ = some (z_I (D.mn g), z_hdC, σ) := by
  have := h.rd.gn
  have hh := c_gmanyOf (σ := σ) d h0 (by rw [h.rd.gz]; exact h1) (by omega)
  rwa [(h.goer h0 h1).2.2.2] at hh
end
