/-! Ways: rows of roads; the options that rows of ways give. -/
/-- the corner that road r leads to from c, -1: it doesn't touch it -/
def z_nx (X : z_S) (r c : Int) : Int := if X 1 r = c then X 2 r else if X 2 r = c then X 1 r else -1
/-- can road r be gone from c, s being shut -/
def z_can (X : z_S) (s seen c r : Int) : Bool := decide (r ≠ s) && (decide (0 ≤ z_nx X r c) && !z_bt seen (z_nx X r c))
def z_sn (seen c : Int) : Int := z_or seen (z_shl 1 c)
/-- ways from c to a corner in at most n roads below K -/
def z_dfs (X : z_S) (s to : Int) (K : Nat) : Nat → Int → Int → List (List Int)
  | 0, c, _ => if c = to then [[]] else []
  | n + 1, c, seen => if c = to then [[]] else (List.range K).flatMap (fun (r : Nat) => if z_can X s seen c (r : Int) then (z_dfs X s to K n (z_nx X (r : Int) c) (z_sn seen (z_nx X (r : Int) c))).map (fun l => (r : Int) :: l) else [])
/-- ways of just n roads -/
def z_dfl (X : z_S) (s to : Int) (K : Nat) : Nat → Int → Int → List (List Int)
  | 0, c, _ => if c = to then [[]] else []
  | n + 1, c, seen => if c = to then [] else (List.range K).flatMap (fun (r : Nat) => if z_can X s seen c (r : Int) then (z_dfl X s to K n (z_nx X (r : Int) c) (z_sn seen (z_nx X (r : Int) c))).map (fun l => (r : Int) :: l) else [])
theorem z_dfs_mem {X : z_S} {s to : Int} {K : Nat} : ∀ {n : Nat} {c seen : Int} {l : List Int}, l ∈ z_dfs X s to K n c seen → l.length ≤ n ∧ (∀ r ∈ l, 0 ≤ r ∧ r < K ∧ r ≠ s) ∧ (l = [] → c = to)
  | 0, c, seen, l, h => by
    unfold z_dfs at h
    split at h
    · next e => rw [List.mem_singleton] at h; subst h; exact ⟨Nat.le_refl 0, fun r hr => (by cases hr), fun _ => e⟩
    · cases h
  | n + 1, c, seen, l, h => by
    unfold z_dfs at h
    split at h
    · next e => rw [List.mem_singleton] at h; subst h; exact ⟨Nat.zero_le _, fun r hr => (by cases hr), fun _ => e⟩
    · rw [List.mem_flatMap] at h
      obtain ⟨r, hr, h⟩ := h
      rw [List.mem_range] at hr
      split at h
      · next hc =>
        rw [List.mem_map] at h
        obtain ⟨l', h', rfl⟩ := h
        obtain ⟨i1, i2, i3⟩ := z_dfs_mem h'
        unfold z_can at hc
        rw [Bool.and_eq_true, decide_eq_true_eq] at hc
        refine ⟨by rw [List.length_cons]; omega, fun x hx => ?_, fun e => by cases e⟩
        rcases List.mem_cons.mp hx with rfl | hx
        · exact ⟨by omega, by omega, hc.1⟩
        · exact i2 x hx
      · cases h
theorem z_dfl_eq {X : z_S} {s to : Int} {K : Nat} : ∀ {n m : Nat} {c seen : Int}, m ≤ n → z_dfl X s to K m c seen = (z_dfs X s to K n c seen).filter (fun l => decide (l.length = m))
  | 0, m, c, seen, h => by
    have : m = 0 := by omega
    subst this
    unfold z_dfl z_dfs
    split <;> rfl
  | n + 1, 0, c, seen, h => by
    unfold z_dfl z_dfs
    split
    · rfl
    · symm
      rw [List.filter_eq_nil_iff]
      intro l hl
      rw [List.mem_flatMap] at hl
      obtain ⟨r, -, hl⟩ := hl
      split at hl
      · rw [List.mem_map] at hl
        obtain ⟨l', -, rfl⟩ := hl
        simp
      · cases hl
  | n + 1, m + 1, c, seen, h => by
    unfold z_dfl z_dfs
    split
    · rfl
    · rw [List.filter_flatMap]
      congr 1
      funext r
      split
      · rw [z_dfl_eq (n := n) (m := m) (by omega), List.filter_map]
        congr 1
        refine List.filter_congr (fun l _ => ?_)
        simp
      · rfl
theorem z_dfs_shut {X : z_S} {s to : Int} {K : Nat} : ∀ {n : Nat} {c seen : Int}, z_dfs X s to K n c seen = (z_dfs X (-1) to K n c seen).filter (fun l => !decide (s ∈ l))
  | 0, c, seen => by
    unfold z_dfs
    split
    · simp
    · rfl
  | n + 1, c, seen => by
    unfold z_dfs
    split
    · simp
    · rw [List.filter_flatMap]
      congr 1
      funext r
      by_cases hs : (r : Int) = s
      · have h1 : z_can X s seen c r = false := by unfold z_can; simp [hs]
        rw [h1, if_neg (by simp)]
        split
        · symm
          rw [List.filter_eq_nil_iff]
          intro l hl
          rw [List.mem_map] at hl
          obtain ⟨l', -, rfl⟩ := hl
          simp [hs]
        · rfl
      · have h1 : z_can X s seen c r = z_can X (-1) seen c r := by
          unfold z_can
          have e1 : decide ((r : Int) ≠ s) = true := by simpa using hs
          have e2 : decide ((r : Int) ≠ -1) = true := by simp
          rw [e1, e2]
        rw [h1]
        split
        · rw [z_dfs_shut, List.filter_map]
          congr 1
          refine List.filter_congr (fun l _ => ?_)
          have : ¬ s = (r : Int) := fun e => hs e.symm
          simp [this]
        · rfl
theorem z_getD {l : List Int} {i : Nat} (h : i < l.length) : l.getD i 0 = l[i] := by
  rw [List.getD_eq_getElem?_getD, List.getElem?_eq_getElem h]
  rfl
/-- roads in one number, four bits each -/
def z_pkd : List Int → Int
  | [] => 0
  | r :: l => r * ((16 ^ l.length : Nat) : Int) + z_pkd l
def z_rnk (l : List Int) : Int := l.length * 268435456 + z_pkd l
def z_dgs (l : List Int) : Prop := ∀ r ∈ l, 0 ≤ r ∧ r < 16
theorem z_pkd_rng : ∀ {l : List Int}, z_dgs l → 0 ≤ z_pkd l ∧ z_pkd l < ((16 ^ l.length : Nat) : Int)
  | [], _ => by unfold z_pkd; simp
  | r :: l, h => by
    have ih := z_pkd_rng (l := l) (fun x hx => h x (List.mem_cons_of_mem _ hx))
    have hr := h r List.mem_cons_self
    unfold z_pkd
    rw [List.length_cons, Nat.pow_succ]
    have hp : 0 ≤ r * ((16 ^ l.length : Nat) : Int) := Int.mul_nonneg hr.1 (by omega)
    have h1 : (r + 1) * ((16 ^ l.length : Nat) : Int) ≤ 16 * ((16 ^ l.length : Nat) : Int) := Int.mul_le_mul_of_nonneg_right (by omega) (by omega)
    rw [Int.add_mul, Int.one_mul] at h1
    push_cast at *
    omega
theorem z_pkd_app {r : Int} : ∀ {l : List Int}, z_pkd (l ++ [r]) = z_pkd l * 16 + r
  | [] => by simp [z_pkd]
  | x :: l => by
    show x * ((16 ^ (l ++ [r]).length : Nat) : Int) + z_pkd (l ++ [r]) = (x * ((16 ^ l.length : Nat) : Int) + z_pkd l) * 16 + r
    rw [z_pkd_app, List.length_append, List.length_singleton, Nat.pow_succ, Int.add_mul, Int.mul_assoc]
    push_cast
    omega
theorem z_dgl : ∀ {l : List Int} {N : Int} {i : Nat}, 0 ≤ N → z_dgs l → i < l.length → z_dg (N * ((16 ^ l.length : Nat) : Int) + z_pkd l) i = l.getD (l.length - 1 - i) 0
  | [], N, i, _, _, h => absurd h (Nat.not_lt_zero _)
  | r :: l, N, i, hN, h, hi => by
    have hl : z_dgs l := fun x hx => h x (List.mem_cons_of_mem _ hx)
    have hr := h r List.mem_cons_self
    have hp := z_pkd_rng hl
    have e : N * ((16 ^ (r :: l).length : Nat) : Int) + z_pkd (r :: l) = (N * 16 + r) * ((16 ^ l.length : Nat) : Int) + z_pkd l := by
      have ez : z_pkd (r :: l) = r * ((16 ^ l.length : Nat) : Int) + z_pkd l := rfl
      rw [ez, List.length_cons, Nat.pow_succ, Int.add_mul, Int.mul_assoc N 16]
      push_cast
      rw [Int.mul_comm (16 ^ l.length : Int) 16]
      omega
    rw [e]
    by_cases hi2 : i < l.length
    · rw [z_dgl (by omega) hl hi2, List.length_cons, show l.length + 1 - 1 - i = (l.length - 1 - i) + 1 by omega]
      rfl
    · have : i = l.length := by rw [List.length_cons] at hi; omega
      subst this
      rw [List.length_cons, show l.length + 1 - 1 - l.length = 0 by omega]
      have hq : (0 : Int) < ((16 ^ l.length : Nat) : Int) := by have : 0 < 16 ^ l.length := Nat.pow_pos (by omega); omega
      show ((N * 16 + r) * ((16 ^ l.length : Nat) : Int) + z_pkd l) / ((16 ^ l.length : Nat) : Int) % 16 = r
      rw [Int.add_comm, Int.add_mul_ediv_right _ _ (by omega), Int.ediv_eq_zero_of_lt hp.1 hp.2]
      omega
theorem z_rnk_rng {l : List Int} (h : z_dgs l) (h7 : l.length ≤ 7) : 0 ≤ z_rnk l ∧ z_rnk l < 2147483648 ∧ 0 ≤ z_pkd l ∧ z_pkd l < 268435456 := by
  have hp := z_pkd_rng h
  have : 16 ^ l.length ≤ 16 ^ 7 := Nat.pow_le_pow_right (by omega) h7
  unfold z_rnk
  omega
theorem z_rnk_steps {l : List Int} (h : z_dgs l) (h7 : l.length ≤ 7) : z_steps (z_rnk l) = l.length := by
  have := z_rnk_rng h h7
  unfold z_steps z_rnk
  omega
theorem z_rnk_dg {l : List Int} (h : z_dgs l) (h7 : l.length ≤ 7) {i : Nat} (hi : i < l.length) : z_dg (z_rnk l) i = l.getD (l.length - 1 - i) 0 := by
  have e : (l.length : Int) * 268435456 = ((l.length * 16 ^ (7 - l.length) : Nat) : Int) * ((16 ^ l.length : Nat) : Int) := by
    have : 16 ^ 7 = 16 ^ (7 - l.length) * 16 ^ l.length := by rw [← Nat.pow_add]; congr 1; omega
    have h2 : l.length * 16 ^ 7 = l.length * 16 ^ (7 - l.length) * 16 ^ l.length := by rw [this, Nat.mul_assoc]
    have h3 : (16 : Nat) ^ 7 = 268435456 := by decide
    rw [h3] at h2
    generalize 16 ^ l.length = a at *
    generalize 16 ^ (7 - l.length) = b at *
    rw [← Int.natCast_mul, ← h2]
    omega
  unfold z_rnk
  rw [e]
  exact z_dgl (by omega) h hi
theorem z_rnk_inj {l l' : List Int} (h : z_dgs l) (h' : z_dgs l') (h7 : l.length ≤ 7) (h7' : l'.length ≤ 7) (e : z_rnk l = z_rnk l') : l = l' := by
  have hl : l.length = l'.length := by rw [← z_rnk_steps h h7, ← z_rnk_steps h' h7', e]
  refine List.ext_getElem hl (fun i h1 h2 => ?_)
  have a := z_rnk_dg h h7 (i := l.length - 1 - i) (by omega)
  have b := z_rnk_dg h' h7' (i := l.length - 1 - i) (by omega)
  rw [e, b, show l.length - 1 - (l.length - 1 - i) = i by omega, show l'.length - 1 - (l.length - 1 - i) = i by omega, z_getD h1, z_getD h2] at a
  exact a.symm
theorem z_ps_iff {rk r : Int} : ∀ {n : Nat}, z_ps rk r n = true ↔ ∃ i : Nat, i < n ∧ z_dg rk i = r
  | 0 => by unfold z_ps; simp
  | n + 1 => by
    have ih := z_ps_iff (rk := rk) (r := r) (n := n)
    unfold z_ps
    rw [Bool.or_eq_true, ih, decide_eq_true_eq]
    constructor
    · rintro (h | ⟨i, h1, h2⟩)
      · exact ⟨n, by omega, h⟩
      · exact ⟨i, by omega, h2⟩
    · rintro ⟨i, h1, h2⟩
      by_cases hi : i = n
      · subst hi; exact Or.inl h2
      · exact Or.inr ⟨i, by omega, h2⟩
theorem z_rnk_ps {l : List Int} {r : Int} (h : z_dgs l) (h7 : l.length ≤ 7) : z_ps (z_rnk l) r (z_steps (z_rnk l)) = decide (r ∈ l) := by
  rw [z_rnk_steps h h7, Bool.eq_iff_iff, z_ps_iff, decide_eq_true_eq]
  constructor
  · rintro ⟨i, h1, h2⟩
    rw [z_rnk_dg h h7 h1, z_getD (by omega)] at h2
    rw [← h2]
    exact List.getElem_mem _
  · intro hr
    obtain ⟨i, h1, h2⟩ := List.getElem_of_mem hr
    refine ⟨l.length - 1 - i, by omega, ?_⟩
    rw [z_rnk_dg h h7 (by omega), show l.length - 1 - (l.length - 1 - i) = i by omega, z_getD h1, h2]
/-- what ways cost, their hours, their tolled slots -/
def z_sml (f : Int → Int) : List Int → Int
  | [] => 0
  | r :: l => f r + z_sml f l
theorem z_sml_app {f : Int → Int} {r : Int} : ∀ {l : List Int}, z_sml f (l ++ [r]) = z_sml f l + f r
  | [] => by simp [z_sml]
  | x :: l => by show f x + z_sml f (l ++ [r]) = f x + z_sml f l + f r; rw [z_sml_app]; omega
theorem z_sml_rng {f : Int → Int} {b : Int} : ∀ {l : List Int}, (∀ r ∈ l, 0 ≤ f r ∧ f r ≤ b) → 0 ≤ z_sml f l ∧ z_sml f l ≤ l.length * b
  | [], _ => by simp [z_sml]
  | r :: l, h => by
    have ih := z_sml_rng (l := l) (fun x hx => h x (List.mem_cons_of_mem _ hx))
    have hr := h r List.mem_cons_self
    unfold z_sml
    rw [List.length_cons]
    push_cast
    rw [Int.add_mul, Int.one_mul]
    omega
theorem z_sml_add {f g : Int → Int} {w : Int} : ∀ {l : List Int}, z_sml (fun r => f r + w * g r) l = z_sml f l + w * z_sml g l
  | [] => by simp [z_sml]
  | r :: l => by
    show f r + w * g r + z_sml (fun r => f r + w * g r) l = f r + z_sml f l + w * (g r + z_sml g l)
    rw [z_sml_add, Int.mul_add]
    omega
def z_msk (X : z_S) (l : List Int) : Int := z_bs (fun k => decide (X 6 k ∈ l)) (X 0 1).toNat
/-- the option that a mask has after one more way -/
def z_ins (op : z_Opt) (m : Int) (q : Int × Int) : z_Opt := fun m' => if m' = m then (match op m with
  | none => some q
  | some q' => if q.1 < q'.1 ∨ (q.1 = q'.1 ∧ q.2 < q'.2) then some q else some q') else op m'
section
variable {msk pn : List Int → Int}
/-- of each mask the ways' least pains, and the least rank of those -/
def z_chr (msk pn : List Int → Int) (V : List (List Int)) (op : z_Opt) : Prop := ∀ m, (op m = none ∧ ∀ l ∈ V, msk l ≠ m) ∨ ∃ l ∈ V, msk l = m ∧ op m = some (pn l, z_rnk l) ∧ ∀ l' ∈ V, msk l' = m → pn l < pn l' ∨ (pn l = pn l' ∧ z_rnk l ≤ z_rnk l')
theorem z_chr_nil : z_chr msk pn [] (fun _ => none) := fun m => Or.inl ⟨rfl, fun l h => by cases h⟩
theorem z_chr_add {V : List (List Int)} {op : z_Opt} {l : List Int} (h : z_chr msk pn V op) : z_chr msk pn (V ++ [l]) (z_ins op (msk l) (pn l, z_rnk l)) := fun m => by
  unfold z_ins
  have hmem : ∀ l', l' ∈ V ++ [l] ↔ l' ∈ V ∨ l' = l := fun l' => by rw [List.mem_append, List.mem_singleton]
  by_cases hm : m = msk l
  · subst hm
    rw [if_pos rfl]
    right
    rcases h (msk l) with ⟨h1, h2⟩ | ⟨l0, h1, h2, h3, h4⟩
    · rw [h1]
      refine ⟨l, (hmem l).mpr (Or.inr rfl), rfl, rfl, fun l' hl' he => ?_⟩
      rcases (hmem l').mp hl' with h | h
      · exact absurd he (h2 l' h)
      · subst h; right; exact ⟨rfl, Int.le_refl _⟩
    · rw [h3]
      dsimp only
      by_cases hc : pn l < pn l0 ∨ (pn l = pn l0 ∧ z_rnk l < z_rnk l0)
      · rw [if_pos hc]
        refine ⟨l, (hmem l).mpr (Or.inr rfl), rfl, rfl, fun l' hl' he => ?_⟩
        rcases (hmem l').mp hl' with h | h
        · have := h4 l' h he; omega
        · subst h; right; exact ⟨rfl, Int.le_refl _⟩
      · rw [if_neg hc]
        refine ⟨l0, (hmem l0).mpr (Or.inl h1), h2, rfl, fun l' hl' he => ?_⟩
        rcases (hmem l').mp hl' with h | h
        · exact h4 l' h he
        · subst h; omega
  · rw [if_neg hm]
    rcases h m with ⟨h1, h2⟩ | ⟨l0, h1, h2, h3, h4⟩
    · left
      refine ⟨h1, fun l' hl' he => ?_⟩
      rcases (hmem l').mp hl' with h | h
      · exact h2 l' h he
      · subst h; exact hm he.symm
    · right
      refine ⟨l0, (hmem l0).mpr (Or.inl h1), h2, h3, fun l' hl' he => ?_⟩
      rcases (hmem l').mp hl' with h | h
      · exact h4 l' h he
      · subst h; exact absurd he.symm hm
theorem z_chr_congr {V V' : List (List Int)} {op : z_Opt} (hV : ∀ l, l ∈ V ↔ l ∈ V') (h : z_chr msk pn V op) : z_chr msk pn V' op := fun m => by
  rcases h m with ⟨h1, h2⟩ | ⟨l0, h1, h2, h3, h4⟩
  · exact Or.inl ⟨h1, fun l hl => h2 l ((hV l).mpr hl)⟩
  · exact Or.inr ⟨l0, (hV l0).mp h1, h2, h3, fun l hl => h4 l ((hV l).mpr hl)⟩
theorem z_chr_uniq {V : List (List Int)} {op op' : z_Opt} (h : z_chr msk pn V op) (h' : z_chr msk pn V op') (m : Int) : op m = op' m := by
  rcases h m with ⟨h1, h2⟩ | ⟨l0, h1, h2, h3, h4⟩
  · rcases h' m with ⟨g1, g2⟩ | ⟨l1, g1, g2, g3, g4⟩
    · rw [h1, g1]
    · exact absurd g2 (h2 l1 g1)
  · rcases h' m with ⟨g1, g2⟩ | ⟨l1, g1, g2, g3, g4⟩
    · exact absurd h2 (g2 l0 h1)
    · have a := h4 l1 g1 g2
      have b := g4 l0 h1 h2
      rw [h3, g3]
      have e1 : pn l0 = pn l1 := by omega
      have e2 : z_rnk l0 = z_rnk l1 := by omega
      rw [e1, e2]
/-- the options of a list of ways -/
def z_opl (msk pn : List Int → Int) : List (List Int) → z_Opt → z_Opt
  | [], op => op
  | l :: V, op => z_opl msk pn V (z_ins op (msk l) (pn l, z_rnk l))
theorem z_opl_chr : ∀ {V V0 : List (List Int)} {op : z_Opt}, z_chr msk pn V0 op → z_chr msk pn (V0 ++ V) (z_opl msk pn V op)
  | [], V0, op, h => by rw [List.append_nil]; exact h
  | l :: V, V0, op, h => by
    have := z_opl_chr (V := V) (z_chr_add (l := l) h)
    rw [List.append_assoc] at this
    exact this
theorem z_opl_chr0 (V : List (List Int)) : z_chr msk pn V (z_opl msk pn V (fun _ => none)) := z_opl_chr (V0 := []) z_chr_nil
/-- with least pains and ranks told apart, options are fit to be chosen from -/
theorem z_chr_ok {V : List (List Int)} {op : z_Opt} (h : z_chr msk pn V op) (hne : V ≠ []) (hV : ∀ l ∈ V, z_dgs l ∧ l.length ≤ 7 ∧ (0 ≤ msk l ∧ msk l < 32) ∧ 0 ≤ pn l ∧ pn l ≤ 2000) : z_opok op := by
  have key : ∀ m q, op m = some q → ∃ l ∈ V, msk l = m ∧ q = (pn l, z_rnk l) := fun m q hq => by
    rcases h m with ⟨h1, -⟩ | ⟨l0, h1, h2, h3, -⟩
    · rw [h1] at hq; cases hq
    · rw [h3] at hq; exact ⟨l0, h1, h2, (Option.some.inj hq).symm⟩
  refine ⟨fun m q _ _ hq => ?_, fun m m' q q' _ _ _ _ hq hq' he => ?_, ?_⟩
  · obtain ⟨l, hl, -, rfl⟩ := key m q hq
    obtain ⟨a, b, -, c, d⟩ := hV l hl
    have := z_rnk_rng a b
    exact ⟨c, d, this.1, this.2.1⟩
  · obtain ⟨l, hl, e1, rfl⟩ := key m q hq
    obtain ⟨l', hl', e2, rfl⟩ := key m' q' hq'
    have := z_rnk_inj (hV l hl).1 (hV l' hl').1 (hV l hl).2.1 (hV l' hl').2.1 he
    rw [← e1, ← e2, this]
  · obtain ⟨l, hl⟩ := List.exists_mem_of_ne_nil V hne
    rcases h (msk l) with ⟨-, h2⟩ | ⟨l0, h1, h2, h3, -⟩
    · exact absurd rfl (h2 l hl)
    · exact ⟨msk l, _, (hV l hl).2.2.1.1, (hV l hl).2.2.1.2, h3⟩
end
