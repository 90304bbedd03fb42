theorem z_at_lt {α : Type} {d : α} : ∀ {l : List α} {i : Nat}, i < l.length → z_at l i d ∈ l
  | a :: l, 0, _ => List.mem_cons_self
  | a :: l, i + 1, h => List.mem_cons_of_mem _ (z_at_lt (Nat.lt_of_succ_lt_succ h))
theorem z_at_ge {α : Type} {d : α} : ∀ {l : List α} {i : Nat}, l.length ≤ i → z_at l i d = d
  | [], _, _ => rfl
  | a :: l, 0, h => absurd h (by simp)
  | a :: l, i + 1, h => z_at_ge (l := l) (Nat.le_of_succ_le_succ h)
theorem z_okm_of {a c : Nat} {pp : List (Nat × Nat × Nat × Nat × Nat × Nat × Nat)} (hc : a / 100 = c) (hpp : z_at z_pps c [] = pp) (hpos : 0 < pp.length) (hm : pp.all z_mchk = true) (hq : ∀ i, i < pp.length → z_okq (100 * c + i)) (h : (z_mp a).1 = a) : z_okm a := by
  have hlt : a % 100 < pp.length := by
    rcases Nat.lt_or_ge (a % 100) pp.length with g | g
    · exact g
    · unfold z_mp at h
      rw [hc, hpp, z_at_ge g] at h
      have h0 : a = 0 := h.symm
      subst h0
      omega
  have ha : 100 * c + a % 100 = a := by rw [← hc]; exact Nat.div_add_mod a 100
  have hqa := hq _ hlt
  rw [ha] at hqa
  obtain ⟨h1, p, h2⟩ := hqa
  refine ⟨h1, z_mem_of h2 rfl, ?_, h⟩
  have h3 : z_mp a ∈ pp := by unfold z_mp; rw [hc, hpp]; exact z_at_lt hlt
  exact List.all_eq_true.mp hm _ h3

theorem z_allok (a : Nat) (h : (z_mp a).1 = a) : z_okm a := by
  rcases Nat.lt_or_ge (a / 100) 14 with g | g
  · have hcs : a / 100 = 0 ∨ a / 100 = 1 ∨ a / 100 = 2 ∨ a / 100 = 3 ∨ a / 100 = 4 ∨ a / 100 = 5 ∨ a / 100 = 6 ∨ a / 100 = 7 ∨ a / 100 = 8 ∨ a / 100 = 9 ∨ a / 100 = 10 ∨ a / 100 = 11 ∨ a / 100 = 12 ∨ a / 100 = 13 := by omega
    rcases hcs with hc | hc | hc | hc | hc | hc | hc | hc | hc | hc | hc | hc | hc | hc
    · exact z_okm_of (pp := z_pp0) hc rfl (by decide) z_m0 (fun i hi => z_oka0 i hi) h
    · exact z_okm_of (pp := z_pp1) hc rfl (by decide) z_m1 (fun i hi => z_oka1 i hi) h
    · exact z_okm_of (pp := z_pp2) hc rfl (by decide) z_m2 (fun i hi => z_oka2 i hi) h
    · exact z_okm_of (pp := z_pp3) hc rfl (by decide) z_m3 (fun i hi => z_oka3 i hi) h
    · exact z_okm_of (pp := z_pp4) hc rfl (by decide) z_m4 (fun i hi => z_oka4 i hi) h
    · exact z_okm_of (pp := z_pp5) hc rfl (by decide) z_m5 (fun i hi => z_oka5 i hi) h
    · exact z_okm_of (pp := z_pp6) hc rfl (by decide) z_m6 (fun i hi => z_oka6 i hi) h
    · exact z_okm_of (pp := z_pp7) hc rfl (by decide) z_m7 (fun i hi => z_oka7 i hi) h
    · exact z_okm_of (pp := z_pp8) hc rfl (by decide) z_m8 (fun i hi => z_oka8 i hi) h
    · exact z_okm_of (pp := z_pp9) hc rfl (by decide) z_m9 (fun i hi => z_oka9 i hi) h
    · exact z_okm_of (pp := z_pp10) hc rfl (by decide) z_m10 (fun i hi => z_oka10 i hi) h
    · exact z_okm_of (pp := z_pp11) hc rfl (by decide) z_m11 (fun i hi => z_oka11 i hi) h
    · exact z_okm_of (pp := z_pp12) hc rfl (by decide) z_m12 (fun i hi => z_oka12 i hi) h
    · exact z_okm_of (pp := z_pp13) hc rfl (by decide) z_m13 (fun i hi => z_oka13 i hi) h
  · have h0 : a = 0 := by
      unfold z_mp at h
      rw [show z_at z_pps (a / 100) [] = [] from z_at_ge g] at h
      exact h.symm
    subst h0
    exact absurd g (by decide)
/-- a run of the small machine, as a contract of the JVM's -/
theorem z_run_met {l : Launch} {dC : Nat → ClassId} {dI : Nat → Nat → Nat} {dA : Nat → ClassId} {hc : z_C} (hdyn : hc 0 0 = none → ∀ o f, hc o f = none) {d a : Nat} {as : List z_V} {hd : z_H} {σ : z_S} {r : z_Res} (h : z_ev hc d a as hd σ = some r) (hself : (z_mp a).1 = a)
    (hho : z_hok hd) (hso : z_sok hc hd σ) (hvas : ∀ v ∈ as, z_vok hd.length v) : z_fin hc hd r ∧ ∀ (ad : Nat → Nat) (sz : Nat), z_Met l dC dI dA hc d a as hd σ r ad sz :=
  z_met hdyn z_allok d a as hd σ r h hself hho hso hvas
