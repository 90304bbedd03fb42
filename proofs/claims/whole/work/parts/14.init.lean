section ZEX
variable {β : Type} {x : β}
theorem z_pop_mono {k k' : List z_V → List z_V → Option β} (hk : ∀ as r, k as r = some x → k' as r = some x) : ∀ {n : Nat} {as st : List z_V}, z_pop n as st k = some x → z_pop n as st k' = some x
  | 0, as, st, h => by
    unfold z_pop at h ⊢
    obtain ⟨h1, h2⟩ := z_ite_some h
    rw [if_pos h1]; exact hk _ _ h2
  | n + 1, as, [], h => by cases h
  | n + 1, as, a :: st, h => by
    unfold z_pop at h ⊢
    exact z_pop_mono hk h
theorem z_res_mono {d : Nat} {q q' : Option z_Res} (hq : ∀ r, q = some r → q' = some r) {rest : List z_V} {k : List z_V → z_H → z_S → Option β} (h : z_res d q rest k = some x) : z_res d q' rest k = some x := by
  cases hqq : q with
  | none => rw [hqq] at h; unfold z_res at h; split at h <;> cases h
  | some r => rw [hq r hqq]; rw [hqq] at h; exact h
theorem z_recv_mono {hd : z_H} {as : List z_V} {cls : Nat} {k k' : Option β} (hk : k = some x → k' = some x) (h : z_recv hd as cls k = some x) : z_recv hd as cls k' = some x := by
  obtain ⟨o, t, rfl, h1, h2⟩ := z_recv_some h
  show (if _ then _ else _) = _
  rw [if_pos h1]; exact hk h2
theorem z_cond_mono {c : Bool} {a a' b b' : Option β} (ha : a = some x → a' = some x) (hb : b = some x → b' = some x) (h : cond c a b = some x) : cond c a' b' = some x := by
  cases c
  · exact hb h
  · exact ha h
end ZEX
theorem z_step_mono {β : Type} {x : β} {c c' : z_Call} (hc0 : ∀ m as hd σ r, c m as hd σ = some r → c' m as hd σ = some r) {hc : z_C} {e : z_E} {ls st : List z_V} {hd : z_H} {σ : z_S} {k : Nat → List z_V → List z_V → z_H → z_S → Option β} {ret : z_Res → Option β}
    (h : z_step c hc e ls st hd σ k ret = some x) : z_step c' hc e ls st hd σ k ret = some x := by
  obtain ⟨pc, i, len, a, f, d, b, p⟩ := e
  cases i <;> dsimp only [z_step] at h ⊢ <;> first
    | exact h
    | exact z_pop_mono (fun as r h => z_recv_mono (fun h => z_res_mono (fun r h => hc0 _ _ _ _ _ h) h) h) h
    | exact z_cond_mono (fun h => h) (fun h => z_pop_mono (fun as r h => z_recv_mono (fun h => z_res_mono (fun r h => hc0 _ _ _ _ _ h) h) h) h) h
    | exact z_cond_mono (fun h => h) (fun h => z_pop_mono (fun as r h => z_res_mono (fun r h => hc0 _ _ _ _ _ h) h) h) h
theorem z_ex_call {c c' : z_Call} (hc0 : ∀ m as hd σ r, c m as hd σ = some r → c' m as hd σ = some r) {hc : z_C} {m : Nat} {r : z_Res} : ∀ {n pc : Nat} {ls st : List z_V} {hd : z_H} {σ : z_S}, z_ex c hc n m pc ls st hd σ = some r → z_ex c' hc n m pc ls st hd σ = some r
  | 0, _, _, _, _, _, h => by cases h
  | n + 1, pc, ls, st, hd, σ, h => by
    rw [z_ex_succ] at h ⊢
    have hs : ∀ q, z_s1 c hc m pc ls st hd σ = some q → z_s1 c' hc m pc ls st hd σ = some q := by
      intro q hq
      unfold z_s1 at hq ⊢
      split at hq
      · cases hq
      · exact z_step_mono hc0 hq
    cases hq : z_s1 c hc m pc ls st hd σ with
    | none => rw [hq] at h; cases h
    | some q =>
      rw [hs q hq]
      rw [hq] at h
      cases q with
      | inl q => obtain ⟨pc, ls, st, hd, σ⟩ := q; exact z_ex_call hc0 (n := n) h
      | inr q => exact h
/-- the same, to be reckoned -/
def z_evx (hc : z_C) (F : Nat) : Nat → z_Call
  | 0 => fun _ _ _ _ => none
  | d + 1 => fun m as hd σ => cond (z_aok m as) (z_ex (z_evx hc F d) hc F m 0 (as ++ List.replicate (z_ml m - as.length) z_U) [] hd σ) none
theorem z_evx_ev {hc : z_C} {F : Nat} : ∀ {d m : Nat} {as : List z_V} {hd : z_H} {σ : z_S} {r : z_Res}, z_evx hc F d m as hd σ = some r → z_ev hc d m as hd σ = some r
  | 0, _, _, _, _, _, h => by cases h
  | d + 1, m, as, hd, σ, r, h => by
    have h' : cond (z_aok m as) (z_ex (z_evx hc F d) hc F m 0 (as ++ List.replicate (z_ml m - as.length) z_U) [] hd σ) none = some r := h
    show cond (z_aok m as) (z_go (z_ev hc d) hc m 0 (as ++ List.replicate (z_ml m - as.length) z_U) [] hd σ) none = some r
    cases ha : z_aok m as with
    | false => rw [ha] at h'; cases h'
    | true =>
      rw [ha] at h'
      exact z_go_iff.mpr ⟨F, z_ex_call (fun m as hd σ r h => z_evx_ev h) h'⟩
def z_look : List (Nat × Nat × Int) → Nat → Nat → Option Int
  | [], _, _ => none
  | q :: l, o, f => match Nat.beq q.1 o && Nat.beq q.2.1 f with
    | true => some q.2.2
    | false => z_look l o f
def z_hcN : z_C := fun _ _ => none

def z_hdC : z_H := [(21, 10), (15, 5), (1, 100), (17, 2), (1, 24), (13, 2), (16, 12), (1, 14), (1, 5), (1, 14), (1, 14), (1, 14), (1, 14), (1, 14), (1, 5), (12, 10), (1, 8), (1, 8), (1, 8), (1, 8), (1, 8), (1, 8), (1, 8), (1, 8), (1, 8), (13, 2), (16, 12), (1, 14), (1, 5), (1, 14), (1, 14), (1, 14), (1, 14), (1, 14), (1, 5), (12, 10), (1, 8), (1, 8), (1, 8), (1, 8), (1, 8), (1, 8), (1, 8), (1, 8), (1, 8), (11, 13), (20, 11), (1, 48), (1, 48), (1, 48), (1, 8), (1, 8), (1, 1536), (1, 1536), (1, 1536), (1, 48), (1, 48), (14, 6), (18, 7), (1, 5), (1, 32), (1, 32), (1, 5), (1, 48), (19, 11), (1, 5), (1, 5), (1, 21), (1, 48), (1, 32), (1, 10), (10, 4), (1, 5), (1, 60), (1, 2001), (1, 10)]
def z_tbC : List (Nat × Nat × Int) := [(0, 0, 0), (1, 0, 2), (1, 1, 4), (1, 2, 46), (1, 3, 58), (1, 4, 65), (1, 5, 72), (1, 6, 76), (2, 0, 3), (4, 0, 5), (6, 0, 7), (6, 1, 16), (7, 4, 8), (7, 5, 9), (7, 6, 10), (7, 7, 11), (7, 8, 12), (7, 9, 13), (7, 10, 14), (7, 11, 15), (16, 1, 17), (16, 2, 18), (16, 3, 19), (16, 4, 20), (16, 5, 21), (16, 6, 22), (16, 7, 23), (16, 8, 24), (16, 9, 25), (26, 0, 27), (26, 1, 36), (27, 4, 28), (27, 5, 29), (27, 6, 30), (27, 7, 31), (27, 8, 32), (27, 9, 33), (27, 10, 34), (27, 11, 35), (36, 1, 37), (36, 2, 38), (36, 3, 39), (36, 4, 40), (36, 5, 41), (36, 6, 42), (36, 7, 43), (36, 8, 44), (36, 9, 45), (46, 2, 47), (46, 3, 48), (46, 4, 49), (46, 5, 50), (46, 6, 51), (46, 7, 52), (46, 8, 53), (46, 9, 54), (46, 10, 55), (46, 11, 56), (46, 12, 57), (58, 0, 59), (58, 1, 63), (58, 3, 46), (58, 4, 64), (59, 0, 60), (59, 1, 61), (59, 2, 62), (65, 3, 66), (65, 4, 58), (65, 5, 46), (65, 6, 67), (65, 7, 68), (65, 8, 69), (65, 9, 70), (65, 10, 71), (72, 0, 73), (72, 1, 58), (72, 2, 74), (72, 3, 75)]
/-- the fixed cells of fields -/
def z_hcC : z_C := fun o f => match o, f with
  | .ofNat o, .ofNat f => z_look z_tbC o f
  | _, _ => none
def z_rC : Option z_Res := z_evx z_hcN 800 8 1100 [z_R 1] [(21, 10)] (fun _ _ => 0)
def z_sC : z_S := match z_rC with
  | some r => r.2.2
  | none => fun _ _ => 0
theorem z_rC_eq : (match z_rC with
  | some r => decide (r.1 = z_U) && decide (r.2.1 = z_hdC)
  | none => false) = true := by decide +kernel
theorem z_initC : z_ev z_hcN 8 1100 [z_R 1] [(21, 10)] (fun _ _ => 0) = some (z_U, z_hdC, z_sC) := by
  refine z_evx_ev (F := 800) ?_
  show z_rC = _
  have h := z_rC_eq
  unfold z_sC
  cases hr : z_rC with
  | none => rw [hr] at h; cases h
  | some r =>
    rw [hr] at h
    simp only [Bool.and_eq_true, decide_eq_true_eq] at h
    obtain ⟨a, b, c⟩ := r
    obtain ⟨h1, h2⟩ := h
    dsimp only at h1 h2
    rw [h1, h2]
def z_hdM : z_H := [(22, 75), (1, 15), (1, 15), (1, 15), (1, 15), (1, 15), (1, 5), (1, 5), (1, 8), (1, 8), (1, 8), (1, 8), (1, 8), (2, 8), (1, 8), (1, 8), (1, 8), (1, 10), (3, 100), (1, 32), (4, 60), (1, 60), (1, 60), (1, 60), (1, 60), (1, 60), (1, 60), (2, 60), (1, 60), (1, 60), (1, 60), (1, 11200), (1, 1600), (1, 8), (1, 7), (1, 48), (1, 48), (1, 1536), (1, 1536), (1, 32), (1, 2), (1, 2), (1, 5), (1, 5), (1, 5), (1, 48), (1, 48), (1, 21), (1, 5), (1, 300), (1, 2000), (1, 2000), (1, 2000), (1, 2000), (1, 20000), (1, 20000), (1, 32)]
def z_tbM : List (Nat × Nat × Int) := [(0, 0, 0), (1, 0, 2), (1, 1, 3), (1, 2, 4), (1, 3, 5), (1, 4, 6), (1, 6, 7), (1, 7, 8), (1, 11, 9), (1, 12, 10), (1, 13, 11), (1, 14, 12), (1, 15, 13), (1, 16, 14), (1, 17, 15), (1, 18, 16), (1, 19, 17), (1, 21, 18), (1, 22, 19), (1, 24, 20), (1, 30, 21), (1, 31, 22), (1, 32, 23), (1, 33, 24), (1, 34, 25), (1, 35, 26), (1, 36, 27), (1, 37, 28), (1, 38, 29), (1, 39, 30), (1, 40, 31), (1, 42, 32), (1, 43, 33), (1, 44, 34), (1, 45, 35), (1, 46, 36), (1, 47, 37), (1, 49, 38), (1, 50, 39), (1, 51, 40), (1, 52, 41), (1, 53, 42), (1, 55, 43), (1, 57, 44), (1, 58, 45), (1, 60, 46), (1, 61, 47), (1, 62, 48), (1, 64, 49), (1, 65, 50), (1, 66, 51), (1, 67, 52), (1, 68, 53), (1, 69, 54), (1, 70, 55), (1, 71, 56), (1, 72, 57)]
/-- the fixed cells of fields -/
def z_hcM : z_C := fun o f => match o, f with
  | .ofNat o, .ofNat f => z_look z_tbM o f
  | _, _ => none
def z_rM : Option z_Res := z_evx z_hcN 800 8 1200 [z_R 1] [(22, 75)] (fun _ _ => 0)
def z_sM : z_S := match z_rM with
  | some r => r.2.2
  | none => fun _ _ => 0
theorem z_rM_eq : (match z_rM with
  | some r => decide (r.1 = z_U) && decide (r.2.1 = z_hdM)
  | none => false) = true := by decide +kernel
theorem z_initM : z_ev z_hcN 8 1200 [z_R 1] [(22, 75)] (fun _ _ => 0) = some (z_U, z_hdM, z_sM) := by
  refine z_evx_ev (F := 800) ?_
  show z_rM = _
  have h := z_rM_eq
  unfold z_sM
  cases hr : z_rM with
  | none => rw [hr] at h; cases h
  | some r =>
    rw [hr] at h
    simp only [Bool.and_eq_true, decide_eq_true_eq] at h
    obtain ⟨a, b, c⟩ := r
    obtain ⟨h1, h2⟩ := h
    dsimp only at h1 h2
    rw [h1, h2]
