/-! The reference: ways sought. -/
/-- all stands but the table of journey j and the path from n on -/
def m_gf (j n : Int) (σ σ' : z_S) : Prop := ∀ a i : Int, ((a < 32 ∨ 35 < a) ∨ (a = 32 ∧ (i < 1400 * j ∨ 1400 * j + 1400 ≤ i)) ∨ (a = 33 ∧ (i < 200 * j ∨ 200 * j + 200 ≤ i)) ∨ (a = 34 ∧ i ≠ j) ∨ (a = 35 ∧ i < n)) → σ' a i = σ a i
section
variable {σ0 σ σ' σ'' X : z_S} {j n n' : Int}
theorem m_gf_refl : m_gf j n σ σ := fun _ _ _ => rfl
theorem m_gf_trans (h : m_gf j n σ σ') (h' : m_gf j n σ' σ'') : m_gf j n σ σ'' := fun a i hh => (h' a i hh).trans (h a i hh)
theorem m_gf_le (h : m_gf j n' σ σ') (hn : n ≤ n') : m_gf j n σ σ' := fun a i hh => h a i (by omega)
theorem m_gf_off (h : m_gf j n σ σ') : m_off 99 32 35 σ σ' := fun a i _ h2 _ => h a i (Or.inl (by omega))
/-- a way put behind the others -/
theorem m_wj_add {V : List (List Int)} {l : List Int} (hj : 0 ≤ j ∧ j < 8) (h7 : l.length ≤ 7) (hV : m_wj σ j V) (hV7 : ∀ l ∈ V, l.length ≤ 7) (hl : V.length < 200) (h : m_gf j n (z_upd σ 34 j ((V.length : Int) + 1)) σ') (h34 : σ' 34 j = (V.length : Int) + 1) (h33 : ∀ i : Int, i ≠ 200 * j + V.length → σ' 33 i = σ 33 i) (h33' : σ' 33 (200 * j + V.length) = (l.length : Int)) (h32 : ∀ i : Int, (i < 7 * (200 * j + V.length) ∨ 7 * (200 * j + V.length) + 7 ≤ i) → σ' 32 i = σ 32 i) (h32' : ∀ p : Nat, p < l.length → σ' 32 (7 * (200 * j + V.length) + p) = l.getD p 0) : m_wj σ' j (V ++ [l]) := by
  obtain ⟨v1, v2, v3⟩ := hV
  refine ⟨by rw [h34, List.length_append, List.length_singleton]; omega, by rw [List.length_append, List.length_singleton]; omega, fun i hi => ?_⟩
  rw [List.length_append, List.length_singleton] at hi
  by_cases c : i = V.length
  · have e : (V ++ [l]).getD i [] = l := by
      rw [c, List.getD_eq_getElem?_getD, List.getElem?_append_right (Nat.le_refl _), Nat.sub_self]; rfl
    rw [e, c]
    exact ⟨h33', h32'⟩
  · have e : (V ++ [l]).getD i [] = V.getD i [] := by
      rw [List.getD_eq_getElem?_getD, List.getD_eq_getElem?_getD, List.getElem?_append_left (by omega)]
    obtain ⟨w1, w2⟩ := v3 i (by omega)
    rw [e]
    refine ⟨by rw [h33 _ (by omega)]; exact w1, fun p hp => ?_⟩
    have := hV7 _ (z_getDl (show i < V.length by omega))
    rw [h32 _ (by omega)]
    exact w2 p hp
/-- seen corners -/
theorem z_seen_sn {seen c : Int} (h : 0 ≤ seen ∧ seen < 256) (hc : 0 ≤ c ∧ c < 8) : 0 ≤ z_sn seen c ∧ z_sn seen c < 256 := by
  have : ∀ s : Nat, s < 256 → ∀ c : Nat, c < 8 → 0 ≤ z_sn s c ∧ z_sn s c < 256 := by decide +kernel
  have h2 := this seen.toNat (by omega) c.toNat (by omega)
  rw [Int.toNat_of_nonneg h.1, Int.toNat_of_nonneg hc.1] at h2
  exact h2
/-- the last step of a way: it is put behind the others -/
theorem m_goEnd (d : Nat) (hw : z_wf X) (hl : m_land σ X) {seen : Int} {p : List Int} {V : List (List Int)} (hj : 0 ≤ j ∧ j < X 0 2) (h7 : p.length ≤ 7) (hV : m_wj σ j V) (hV7 : ∀ l ∈ V, l.length ≤ 7) (hp : ∀ i : Nat, i < p.length → σ 35 i = p.getD i 0) :
    (V.length < 200 → ∃ σ', z_ev z_hcM (d + 1) 1223 [z_R 1, z_I j, z_I (X 9 j), z_I seen, z_I p.length, z_I p.length] z_hdM σ = some (z_I 1, z_hdM, σ') ∧ m_gf j p.length σ σ' ∧ m_wj σ' j (V ++ [p])) ∧
    (V.length = 200 → z_ev z_hcM (d + 1) 1223 [z_R 1, z_I j, z_I (X 9 j), z_I seen, z_I p.length, z_I p.length] z_hdM σ = some (z_I 0, z_hdM, σ)) := by
  have hnJ := hw.2.2.1
  have e10 := (hl.2.2.2 j hj.1 hj.2).2.1
  obtain ⟨v1, v2, v3⟩ := id hV
  refine ⟨fun hlt => ?_, fun heq => ?_⟩
  · obtain ⟨σ', e, o1, o2, o3⟩ := z_for (fun (k : Nat) (x : z_S) => z_go (z_ev z_hcM d) z_hcM 1223 69 [z_R 1, z_I j, z_I (X 9 j), z_I seen, z_I p.length, z_I p.length, z_I (200 * j + V.length), z_I k] [] z_hdM x) (fun x => some (z_I 1, z_hdM, x)) (fun k x => (∀ a i, a ≠ 32 → x a i = z_upd (z_upd σ 34 j ((V.length : Int) + 1)) 33 (200 * j + V.length) p.length a i) ∧ (∀ i : Int, (i < 7 * (200 * j + V.length) ∨ 7 * (200 * j + V.length) + k ≤ i) → x 32 i = σ 32 i) ∧ ∀ q : Nat, q < k → x 32 (7 * (200 * j + V.length) + q) = p.getD q 0) p.length (s := z_upd (z_upd σ 34 j ((V.length : Int) + 1)) 33 (200 * j + V.length) p.length) ⟨fun _ _ _ => rfl, fun i hi => by rw [z_upd_ne (by omega), z_upd_ne (by omega)], fun q hq => absurd hq (Nat.not_lt_zero q)⟩
      (fun k x hk ⟨xo, x1, x2⟩ => by
        have e35 : x 35 k = p.getD k 0 := by rw [xo _ _ (by omega), z_upd_ne (by omega), z_upd_ne (by omega)]; exact hp k hk
        refine ⟨z_upd x 32 (7 * (200 * j + V.length) + k) (p.getD k 0), ?_, fun a i ha => by rw [z_upd_ne (by omega)]; exact xo a i ha, fun i hi => by rw [z_upd_ne (by omega)]; exact x1 i (by omega), fun q hq => ?_⟩
        · rw [z_B1223_69]
          simp (disch := omega) only [if_neg, e35, z_ns, z_fdM, z_pdM, z_adM, z_sdM, z_lkM, z_ndM, z_gdM, z_cI_some', z_cV_some', z_w_ok, Int.reduceAdd, Int.reduceSub, Int.reduceMul, Int.reduceNeg, Int.reduceEq, Int.reduceLT, Int.reduceLE, Int.reduceNe, reduceIte, true_and, and_true, false_and, and_false, if_true, if_false, ne_eq, not_true_eq_false, not_false_eq_true]
        · by_cases cq : q = k
          · rw [cq, z_upd_same]
          · rw [z_upd_ne (by omega)]; exact x2 q (by omega)) (fun x _ => by
        rw [z_B1223_69]
        simp (disch := omega) only [if_pos, z_fdM, z_pdM, z_adM, z_sdM, z_lkM, z_ndM, z_gdM, z_cI_some', z_cV_some', z_w_ok, Int.reduceAdd, Int.reduceSub, Int.reduceMul, Int.reduceNeg, Int.reduceEq, Int.reduceLT, Int.reduceLE, Int.reduceNe, reduceIte, true_and, and_true, false_and, and_false, if_true, if_false, ne_eq, not_true_eq_false, not_false_eq_true])
    refine ⟨σ', ?_, fun a i hh => ?_, m_wj_add (n := 0) (l := p) ⟨by omega, by omega⟩ h7 hV hV7 hlt (fun a i hh => ?_) (by rw [o1 _ _ (by omega), z_upd_ne (by omega), z_upd_same]) (fun i hi => by rw [o1 _ _ (by omega), z_upd_ne (by omega), z_upd_ne (by omega)]) (by rw [o1 _ _ (by omega), z_upd_same]) (fun i hi => o2 i (by omega)) (fun q hq => o3 q hq)⟩
    · have e' : z_go (z_ev z_hcM d) z_hcM 1223 69 [z_R 1, z_I j, z_I (X 9 j), z_I seen, z_I p.length, z_I p.length, z_I (200 * j + V.length), z_I 0] [] z_hdM (z_upd (z_upd σ 34 j ((V.length : Int) + 1)) 33 (200 * j + V.length) p.length) = _ := e
      have h200 : (V.length : Int) ≠ 200 := by omega
      simp (disch := omega) only [z_E1223, e10, if_neg, if_pos, v1, z_fdM, z_pdM, z_adM, z_sdM, z_lkM, z_ndM, z_gdM, z_cI_some', z_cV_some', z_w_ok, Int.reduceAdd, Int.reduceSub, Int.reduceMul, Int.reduceNeg, Int.reduceEq, Int.reduceLT, Int.reduceLE, Int.reduceNe, reduceIte, true_and, and_true, false_and, and_false, if_true, if_false, ne_eq, not_true_eq_false, not_false_eq_true]
      exact e'
    · by_cases c : a = 32
      · rw [c]; exact o2 i (by omega)
      · rw [o1 a i c, z_upd_ne (by omega), z_upd_ne (by omega)]
    · by_cases c : a = 32
      · rw [c, z_upd_ne (by omega)]; exact o2 i (by omega)
      · rw [o1 a i c, z_upd_ne (by omega)]
  · have h200 : (V.length : Int) = 200 := by omega
    simp (disch := omega) only [z_E1223, e10, if_neg, if_pos, v1, h200, z_fdM, z_pdM, z_adM, z_sdM, z_lkM, z_ndM, z_gdM, z_cI_some', z_cV_some', z_w_ok, Int.reduceAdd, Int.reduceSub, Int.reduceMul, Int.reduceNeg, Int.reduceEq, Int.reduceLT, Int.reduceLE, Int.reduceNe, reduceIte, true_and, and_true, false_and, and_false, if_true, if_false, ne_eq, not_true_eq_false, not_false_eq_true]
end
