def z_mem (pc : Nat) : List Nat → Bool
  | [] => false
  | a :: l => match Nat.beq a pc with
    | true => true
    | false => z_mem pc l
section ZG
variable (call : z_Call) (hc : z_C)
def z_ex : Nat → Nat → Nat → List z_V → List z_V → z_H → z_S → Option z_Res
  | 0, _, _, _, _, _, _ => none
  | n + 1, m, pc, ls, st, hd, σ => match z_find (z_code m) pc with
    | none => none
    | some e => z_step call hc e ls st hd σ (fun pc ls st hd σ => z_ex n m pc ls st hd σ) some
noncomputable def z_go (m pc : Nat) (ls st : List z_V) (hd : z_H) (σ : z_S) : Option z_Res :=
  @dite _ (∃ r, ∃ n, z_ex call hc n m pc ls st hd σ = some r) (Classical.propDecidable _) (fun h => some (Classical.choose h)) (fun _ => none)
/-- n steps, but not past a place of the cut -/
noncomputable def z_run (cut : List Nat) (m : Nat) : Nat → Nat → List z_V → List z_V → z_H → z_S → Option z_Res
  | 0, pc, ls, st, hd, σ => z_go call hc m pc ls st hd σ
  | n + 1, pc, ls, st, hd, σ => match z_mem pc cut with
    | true => z_go call hc m pc ls st hd σ
    | false => match z_find (z_code m) pc with
      | none => none
      | some e => z_step call hc e ls st hd σ (z_run cut m n) some
noncomputable def z_run1 (cut : List Nat) (m : Nat) (n pc : Nat) (ls st : List z_V) (hd : z_H) (σ : z_S) : Option z_Res := match z_find (z_code m) pc with
  | none => none
  | some e => z_step call hc e ls st hd σ (z_run call hc cut m n) some
end ZG
def z_argb (v : z_V) : Bool := match v with
  | .inl _ => true
  | .inr (.inl _) => true
  | _ => false
def z_aok (m : Nat) (as : List z_V) : Bool := Nat.ble as.length (z_ml m) && as.all z_argb
/-- a call of method m, d levels deep at most -/
noncomputable def z_ev (hc : z_C) : Nat → z_Call
  | 0 => fun _ _ _ _ => none
  | d + 1 => fun m as hd σ => cond (z_aok m as) (z_go (z_ev hc d) hc m 0 (as ++ List.replicate (z_ml m - as.length) z_U) [] hd σ) none

section ZN
variable {β γ : Type} (g : β → Option γ)
theorem z_cI_nat (r : Option z_Res) (k : Int → z_H → z_S → Option β) : (z_cI r k).bind g = z_cI r (fun x hd σ => (k x hd σ).bind g) := by
  unfold z_cI; split <;> rfl
theorem z_cV_nat (r : Option z_Res) (k : z_H → z_S → Option β) : (z_cV r k).bind g = z_cV r (fun hd σ => (k hd σ).bind g) := by
  unfold z_cV; split <;> rfl
theorem z_ite_nat (c : Prop) [Decidable c] (a b : Option β) : (if c then a else b).bind g = if c then a.bind g else b.bind g := by
  split <;> rfl
theorem z_ld_nat (hd : z_H) (σ : z_S) (t t' : Nat) (a i : Int) (k : Int → Option β) : (z_ld hd σ t t' a i k).bind g = z_ld hd σ t t' a i (fun v => (k v).bind g) := by
  unfold z_ld; split <;> rfl
theorem z_st_nat (hd : z_H) (σ : z_S) (t : Nat) (a i v : Int) (k : z_S → Option β) : (z_st hd σ t a i v k).bind g = z_st hd σ t a i v (fun σ => (k σ).bind g) := by
  unfold z_st; split <;> rfl
theorem z_fld_nat (hd : z_H) (a : Int) (cls : Nat) (k : Option β) : (z_fld hd a cls k).bind g = z_fld hd a cls (k.bind g) := by
  unfold z_fld; split <;> rfl
theorem z_sw_nat (x : Int) (l : List Nat) (d : Nat) (k : Nat → Option β) : ∀ v : Int, (z_sw x v l d k).bind g = z_sw x v l d (fun t => (k t).bind g) := by
  induction l with
  | nil => intro v; rfl
  | cons t l ih => intro v; unfold z_sw; split
                   · rfl
                   · exact ih _
theorem z_num_nat (st : List z_V) (k : Int → List z_V → Option β) : (z_num st k).bind g = z_num st (fun x r => (k x r).bind g) := by
  unfold z_num; split <;> rfl
theorem z_one_nat (st : List z_V) (k : Int → Option β) : (z_one st k).bind g = z_one st (fun x => (k x).bind g) := by
  unfold z_one; split <;> rfl
theorem z_end_nat (st : List z_V) (k : Option β) : (z_end st k).bind g = z_end st (k.bind g) := by
  unfold z_end; split <;> rfl
theorem z_num2_nat (st : List z_V) (k : Int → Int → List z_V → Option β) : (z_num2 st k).bind g = z_num2 st (fun x y r => (k x y r).bind g) := by
  unfold z_num2; split <;> rfl
theorem z_lon_nat (st : List z_V) (k : Int → List z_V → Option β) : (z_lon st k).bind g = z_lon st (fun x r => (k x r).bind g) := by
  unfold z_lon; split <;> rfl
theorem z_lon2_nat (st : List z_V) (k : Int → Int → List z_V → Option β) : (z_lon2 st k).bind g = z_lon2 st (fun x y r => (k x y r).bind g) := by
  unfold z_lon2; split <;> rfl
theorem z_ref_nat (st : List z_V) (k : Int → List z_V → Option β) : (z_ref st k).bind g = z_ref st (fun x r => (k x r).bind g) := by
  unfold z_ref; split <;> rfl
theorem z_any_nat (st : List z_V) (k : z_V → List z_V → Option β) : (z_any st k).bind g = z_any st (fun x r => (k x r).bind g) := by
  unfold z_any; split
  · split <;> rfl
  · rfl
theorem z_iload_nat (ls : List z_V) (i : Nat) (k : z_V → Option β) : (z_iload ls i k).bind g = z_iload ls i (fun x => (k x).bind g) := by
  unfold z_iload; split <;> rfl
theorem z_aload_nat (ls : List z_V) (i : Nat) (k : z_V → Option β) : (z_aload ls i k).bind g = z_aload ls i (fun x => (k x).bind g) := by
  unfold z_aload; split <;> rfl
theorem z_lload_nat (ls : List z_V) (i : Nat) (k : z_V → Option β) : (z_lload ls i k).bind g = z_lload ls i (fun x => (k x).bind g) := by
  unfold z_lload; split <;> rfl
theorem z_if_nat (c : Jvm.ClassFile.Cond) (x y : Int) (a b : Option β) : (z_if c x y a b).bind g = z_if c x y (a.bind g) (b.bind g) := by
  unfold z_if; split <;> exact z_ite_nat g _ _ _
theorem z_free_nat (x : Option Int) (k : Option β) : (z_free x k).bind g = z_free x (k.bind g) := by
  unfold z_free; split <;> rfl
theorem z_pf_nat (hd : z_H) (σ : z_S) (cls : Nat) (o f v : Int) (k : z_S → Option β) : (z_pf hd σ cls o f v k).bind g = z_pf hd σ cls o f v (fun σ => (k σ).bind g) := by
  unfold z_pf; exact z_ite_nat g _ _ _
theorem z_cp_nat (hd : z_H) (σ : z_S) (s sp d dp n : Int) (k : z_S → Option β) : (z_cp hd σ s sp d dp n k).bind g = z_cp hd σ s sp d dp n (fun σ => (k σ).bind g) := by
  unfold z_cp; exact z_ite_nat g _ _ _
theorem z_put_nat (hc : z_C) (hd : z_H) (σ : z_S) (cls f ty : Nat) (st : List z_V) (k : z_S → List z_V → Option β) : (z_put hc hd σ cls f ty st k).bind g = z_put hc hd σ cls f ty st (fun σ r => (k σ r).bind g) := by
  unfold z_put; split <;> split <;> simp only [z_free_nat, z_pf_nat, z_ite_nat, Option.bind_none]
theorem z_pop_nat (k : List z_V → List z_V → Option β) : ∀ (n : Nat) (as st : List z_V), (z_pop n as st k).bind g = z_pop n as st (fun as r => (k as r).bind g)
  | 0, as, st => by unfold z_pop; exact z_ite_nat g _ _ _
  | n + 1, as, [] => rfl
  | n + 1, as, a :: st => by unfold z_pop; exact z_pop_nat k n (a :: as) st
theorem z_res_nat (d : Nat) (r : Option z_Res) (rest : List z_V) (k : List z_V → z_H → z_S → Option β) : (z_res d r rest k).bind g = z_res d r rest (fun st hd σ => (k st hd σ).bind g) := by
  unfold z_res; split
  · exact z_cV_nat g _ _
  · exact z_cI_nat g _ _
theorem z_recv_nat (hd : z_H) (as : List z_V) (cls : Nat) (k : Option β) : (z_recv hd as cls k).bind g = z_recv hd as cls (k.bind g) := by
  unfold z_recv; split
  · exact z_fld_nat g _ _ _ _
  · rfl
theorem z_copy_nat (hd : z_H) (σ : z_S) (st : List z_V) (k : z_S → List z_V → Option β) : (z_copy hd σ st k).bind g = z_copy hd σ st (fun σ r => (k σ r).bind g) := by
  unfold z_copy; split
  · rw [z_ite_nat, z_cp_nat]; rfl
  · rfl
theorem z_cond_nat (c : Bool) (a b : Option β) : (cond c a b).bind g = cond c (a.bind g) (b.bind g) := by
  cases c <;> rfl
theorem z_math_nat (a : Nat) (st : List z_V) (k : Int → List z_V → Option β) : (z_math a st k).bind g = z_math a st (fun x r => (k x r).bind g) := by
  unfold z_math
  split
  · rw [z_num_nat]; congr 1; funext x r; exact z_ite_nat g _ _ _
  · split <;> (rw [z_num2_nat]; congr 1; funext x y r; exact z_ite_nat g _ _ _)
theorem z_none_nat : (none : Option β).bind g = none := rfl
set_option maxHeartbeats 4000000 in
theorem z_step_nat (call : z_Call) (hc : z_C) (e : z_E) (ls st : List z_V) (hd : z_H) (σ : z_S) (k : Nat → List z_V → List z_V → z_H → z_S → Option β) (ret : z_Res → Option β) :
    (z_step call hc e ls st hd σ k ret).bind g = z_step call hc e ls st hd σ (fun pc ls st hd σ => (k pc ls st hd σ).bind g) (fun r => (ret r).bind g) := by
  obtain ⟨pc, i, len, a, c, d, b, p⟩ := e
  cases i <;> dsimp only [z_step] <;>
    first
    | rfl
    | (split <;> rfl)
    | simp only [z_cI_nat, z_cV_nat, z_ite_nat, z_ld_nat, z_st_nat, z_fld_nat, z_sw_nat, z_num_nat, z_one_nat, z_end_nat, z_num2_nat, z_lon_nat, z_lon2_nat, z_ref_nat, z_any_nat, z_iload_nat, z_aload_nat, z_lload_nat, z_if_nat, z_put_nat, z_pop_nat, z_res_nat, z_recv_nat, z_copy_nat, z_math_nat, z_free_nat, z_cond_nat, z_none_nat]
end ZN
section ZL
variable {call : z_Call} {hc : z_C}
/-- where a step leads: on, or out -/
def z_s1 (call : z_Call) (hc : z_C) (m pc : Nat) (ls st : List z_V) (hd : z_H) (σ : z_S) : Option ((Nat × List z_V × List z_V × z_H × z_S) ⊕ z_Res) := match z_find (z_code m) pc with
  | none => none
  | some e => z_step call hc e ls st hd σ (fun pc ls st hd σ => some (.inl (pc, ls, st, hd, σ))) (fun r => some (.inr r))
def z_to (f : Nat → List z_V → List z_V → z_H → z_S → Option z_Res) (c : (Nat × List z_V × List z_V × z_H × z_S) ⊕ z_Res) : Option z_Res := match c with
  | .inl (pc, ls, st, hd, σ) => f pc ls st hd σ
  | .inr r => some r
theorem z_s1_to (m pc : Nat) (ls st : List z_V) (hd : z_H) (σ : z_S) (f : Nat → List z_V → List z_V → z_H → z_S → Option z_Res) :
    (match z_find (z_code m) pc with
    | none => none
    | some e => z_step call hc e ls st hd σ f some) = (z_s1 call hc m pc ls st hd σ).bind (z_to f) := by
  unfold z_s1
  split
  · rfl
  · rw [z_step_nat]; rfl
theorem z_ex_succ (n m pc : Nat) (ls st : List z_V) (hd : z_H) (σ : z_S) : z_ex call hc (n + 1) m pc ls st hd σ = (z_s1 call hc m pc ls st hd σ).bind (z_to (z_ex call hc n m)) := by
  rw [← z_s1_to]; rfl
theorem z_ex_mono {n m : Nat} : ∀ {pc : Nat} {ls st : List z_V} {hd : z_H} {σ : z_S} {r : z_Res}, z_ex call hc n m pc ls st hd σ = some r → z_ex call hc (n + 1) m pc ls st hd σ = some r := by
  induction n with
  | zero => intro pc ls st hd σ r h; cases h
  | succ n ih =>
    intro pc ls st hd σ r h
    rw [z_ex_succ] at h
    rw [z_ex_succ]
    cases hs : z_s1 call hc m pc ls st hd σ with
    | none => rw [hs] at h; cases h
    | some c =>
      rw [hs] at h
      cases c with
      | inl c => obtain ⟨pc, ls, st, hd, σ⟩ := c; exact ih h
      | inr r => exact h
theorem z_ex_le {m : Nat} {pc : Nat} {ls st : List z_V} {hd : z_H} {σ : z_S} {r : z_Res} {n : Nat} (h : z_ex call hc n m pc ls st hd σ = some r) (k : Nat) : z_ex call hc (n + k) m pc ls st hd σ = some r := by
  induction k with
  | zero => exact h
  | succ k ih => exact z_ex_mono ih
theorem z_ex_det {m : Nat} {pc : Nat} {ls st : List z_V} {hd : z_H} {σ : z_S} {r r' : z_Res} {n n' : Nat} (h : z_ex call hc n m pc ls st hd σ = some r) (h' : z_ex call hc n' m pc ls st hd σ = some r') : r = r' := by
  have h1 := z_ex_le h n'
  have h2 := z_ex_le h' n
  rw [Nat.add_comm] at h2
  rw [h1] at h2
  exact Option.some.inj h2
theorem z_go_iff {m : Nat} {pc : Nat} {ls st : List z_V} {hd : z_H} {σ : z_S} {r : z_Res} : z_go call hc m pc ls st hd σ = some r ↔ ∃ n, z_ex call hc n m pc ls st hd σ = some r := by
  unfold z_go
  constructor
  · intro h
    split at h
    next hx => cases h; exact Classical.choose_spec hx
    next => cases h
  · rintro ⟨n, h⟩
    have hx : ∃ r, ∃ n, z_ex call hc n m pc ls st hd σ = some r := ⟨r, n, h⟩
    rw [dif_pos hx]
    obtain ⟨n', h'⟩ := Classical.choose_spec hx
    exact congrArg some (z_ex_det h' h)
theorem z_go_eq (m pc : Nat) (ls st : List z_V) (hd : z_H) (σ : z_S) : z_go call hc m pc ls st hd σ = (match z_find (z_code m) pc with
    | none => none
    | some e => z_step call hc e ls st hd σ (z_go call hc m) some) := by
  rw [z_s1_to]
  refine Option.ext fun r => ?_
  show z_go call hc m pc ls st hd σ = some r ↔ _ = some r
  rw [z_go_iff]
  cases hs : z_s1 call hc m pc ls st hd σ with
  | none =>
    constructor
    · rintro ⟨n, h⟩
      cases n with
      | zero => cases h
      | succ n => rw [z_ex_succ, hs] at h; cases h
    · intro h; cases h
  | some c =>
    cases c with
    | inl c =>
      obtain ⟨pc', ls', st', hd', σ'⟩ := c
      show _ ↔ z_go call hc m pc' ls' st' hd' σ' = some r
      rw [z_go_iff]
      constructor
      · rintro ⟨n, h⟩
        cases n with
        | zero => cases h
        | succ n => rw [z_ex_succ, hs] at h; exact ⟨n, h⟩
      · rintro ⟨n, h⟩
        exact ⟨n + 1, by rw [z_ex_succ, hs]; exact h⟩
    | inr r' =>
      show _ ↔ some r' = some r
      constructor
      · rintro ⟨n, h⟩
        cases n with
        | zero => cases h
        | succ n => rw [z_ex_succ, hs] at h; exact h
      · intro h
        exact ⟨1, by rw [z_ex_succ, hs]; exact h⟩
theorem z_run_eq (cut : List Nat) (m : Nat) : ∀ n : Nat, z_run call hc cut m n = z_go call hc m := by
  intro n
  induction n with
  | zero => rfl
  | succ n ih =>
    funext pc ls st hd σ
    unfold z_run
    rw [ih]
    split
    · rfl
    · exact (z_go_eq m pc ls st hd σ).symm
theorem z_go_run (cut : List Nat) (n m pc : Nat) (ls st : List z_V) (hd : z_H) (σ : z_S) : z_go call hc m pc ls st hd σ = z_run1 call hc cut m n pc ls st hd σ := by
  rw [z_go_eq]
  unfold z_run1
  rw [z_run_eq]
end ZL
theorem z_ev_run {hc : z_C} (cut : List Nat) (n d m : Nat) (as : List z_V) (hd : z_H) (σ : z_S) (h : z_aok m as = true) : z_ev hc (d + 1) m as hd σ = z_run1 (z_ev hc d) hc cut m n 0 (as ++ List.replicate (z_ml m - as.length) z_U) [] hd σ := by
  show cond (z_aok m as) (z_go (z_ev hc d) hc m 0 (as ++ List.replicate (z_ml m - as.length) z_U) [] hd σ) none = _
  rw [h]
  exact z_go_run cut n m 0 _ _ hd σ
