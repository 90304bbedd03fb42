/-! A small machine of our own: ints and longs are integers, cells have numbers 1, 2 .. (0 is null); z_go says what a run from a place comes to. The simulation (part 04) ties it to the JVM. -/
abbrev z_V : Type := Int ⊕ (Int ⊕ (Int ⊕ Unit))
abbrev z_I (x : Int) : z_V := Sum.inl x
abbrev z_R (a : Int) : z_V := Sum.inr (Sum.inl a)
abbrev z_L (x : Int) : z_V := Sum.inr (Sum.inr (Sum.inl x))
abbrev z_U : z_V := Sum.inr (Sum.inr (Sum.inr ()))
abbrev z_H : Type := List (Nat × Int)
abbrev z_S : Type := Int → Int → Int
abbrev z_C : Type := Int → Int → Option Int
abbrev z_Res : Type := z_V × z_H × z_S
abbrev z_Call : Type := Nat → List z_V → z_H → z_S → Option z_Res
def z_w (x : Int) : Int := (Int32.ofInt x).toInt
def z_wl (x : Int) : Int := (Int64.ofInt x).toInt
def z_and (x y : Int) : Int := (Int32.ofInt x &&& Int32.ofInt y).toInt
def z_or (x y : Int) : Int := (Int32.ofInt x ||| Int32.ofInt y).toInt
def z_xor (x y : Int) : Int := (Int32.ofInt x ^^^ Int32.ofInt y).toInt
def z_shl (x y : Int) : Int := (Int32.ofInt x <<< (Int32.ofInt y &&& 31)).toInt
def z_shr (x y : Int) : Int := (Int32.ofInt x >>> (Int32.ofInt y &&& 31)).toInt
def z_ushr (x y : Int) : Int := ((Int32.ofInt x).toUInt32 >>> ((Int32.ofInt y).toUInt32 &&& 31)).toInt32.toInt
def z_div (x y : Int) : Int := (Int32.ofInt x / Int32.ofInt y).toInt
def z_rem (x y : Int) : Int := (Int32.ofInt x - Int32.ofInt x / Int32.ofInt y * Int32.ofInt y).toInt
def z_ldiv (x y : Int) : Int := (Int64.ofInt x / Int64.ofInt y).toInt
def z_lrem (x y : Int) : Int := (Int64.ofInt x - Int64.ofInt x / Int64.ofInt y * Int64.ofInt y).toInt
def z_b8 (x : Int) : Int := (Int32.ofInt x).toInt8.toInt32.toInt
def z_c16 (x : Int) : Int := ((Int32.ofInt x).toUInt32 % 65536).toInt32.toInt
def z_lcmp (x y : Int) : Int := if y < x then 1 else if x < y then -1 else 0
def z_k (hd : z_H) (a : Int) : Nat := match a.toNat with
  | 0 => 0
  | j + 1 => match hd[j]? with
    | some q => q.1
    | none => 0
def z_n (hd : z_H) (a : Int) : Int := match a.toNat with
  | 0 => 0
  | j + 1 => match hd[j]? with
    | some q => q.2
    | none => 0
def z_upd (σ : z_S) (a i v : Int) : z_S := fun b j => if b = a ∧ j = i then v else σ b j
def z_new (σ : z_S) (a : Int) : z_S := fun b j => if b = a then 0 else σ b j
def z_cpy (σ : z_S) (s sp d dp n : Int) : z_S := fun b j => if b = d ∧ dp ≤ j ∧ j < dp + n then σ s (sp + (j - dp)) else σ b j
/-- a field that holds a cell: fixed, or as the store has it -/
def z_gf (hc : z_C) (σ : z_S) (o f : Int) : Int := match hc o f with
  | some v => v
  | none => σ o f
def z_get : List z_V → Nat → z_V
  | [], _ => z_U
  | a :: _, 0 => a
  | _ :: l, n + 1 => z_get l n
def z_kill (a : z_V) : z_V := match a with
  | .inr (.inr (.inl _)) => z_U
  | b => b
def z_set : List z_V → Nat → z_V → List z_V
  | [], _, _ => []
  | _ :: l, 0, v => v :: l
  | a :: l, n + 1, v => match n with
    | 0 => z_kill a :: z_set l 0 v
    | n + 1 => a :: z_set l (n + 1) v
def z_cat (v : z_V) : Nat := match v with
  | .inr (.inr (.inl _)) => 2
  | _ => 1
def z_cats : List z_V → Nat
  | [] => 0
  | a :: l => z_cat a + z_cats l
def z_find : List z_E → Nat → Option z_E
  | [], _ => none
  | e :: l, pc => match Nat.beq e.1 pc with
    | true => some e
    | false => z_find l pc
section ZS
variable {β : Type}
def z_cI (r : Option z_Res) (k : Int → z_H → z_S → Option β) : Option β := match r with
  | some (.inl x, hd, σ) => k x hd σ
  | _ => none
def z_cV (r : Option z_Res) (k : z_H → z_S → Option β) : Option β := match r with
  | some (.inr (.inr (.inr _)), hd, σ) => k hd σ
  | _ => none
/-- an array is read: its kind is among the two, the index is in it -/
def z_ld (hd : z_H) (σ : z_S) (t t' : Nat) (a i : Int) (k : Int → Option β) : Option β := if (z_k hd a = t ∨ z_k hd a = t') ∧ 0 ≤ i ∧ i < z_n hd a then k (σ a i) else none
def z_st (hd : z_H) (σ : z_S) (t : Nat) (a i v : Int) (k : z_S → Option β) : Option β := if z_k hd a = t ∧ 0 ≤ i ∧ i < z_n hd a then k (z_upd σ a i v) else none
def z_fld (hd : z_H) (a : Int) (cls : Nat) (k : Option β) : Option β := if z_k hd a = 10 + cls then k else none
def z_sw (x : Int) (v : Int) (l : List Nat) (d : Nat) (k : Nat → Option β) : Option β := match l with
  | [] => k d
  | t :: l => if x = v then k t else z_sw x (v + 1) l d k
def z_num (st : List z_V) (k : Int → List z_V → Option β) : Option β := match st with
  | .inl x :: r => k x r
  | _ => none
def z_one (st : List z_V) (k : Int → Option β) : Option β := match st with
  | [.inl x] => k x
  | _ => none
def z_end (st : List z_V) (k : Option β) : Option β := match st with
  | [] => k
  | _ => none
def z_num2 (st : List z_V) (k : Int → Int → List z_V → Option β) : Option β := match st with
  | .inl y :: .inl x :: r => k x y r
  | _ => none
def z_lon (st : List z_V) (k : Int → List z_V → Option β) : Option β := match st with
  | .inr (.inr (.inl x)) :: r => k x r
  | _ => none
def z_lon2 (st : List z_V) (k : Int → Int → List z_V → Option β) : Option β := match st with
  | .inr (.inr (.inl y)) :: .inr (.inr (.inl x)) :: r => k x y r
  | _ => none
def z_ref (st : List z_V) (k : Int → List z_V → Option β) : Option β := match st with
  | .inr (.inl a) :: r => k a r
  | _ => none
def z_any (st : List z_V) (k : z_V → List z_V → Option β) : Option β := match st with
  | a :: r => if z_cat a = 1 then k a r else none
  | _ => none
def z_iload (ls : List z_V) (i : Nat) (k : z_V → Option β) : Option β := match z_get ls i with
  | .inl x => k (z_I x)
  | _ => none
def z_aload (ls : List z_V) (i : Nat) (k : z_V → Option β) : Option β := match z_get ls i with
  | .inr (.inl x) => k (z_R x)
  | _ => none
def z_lload (ls : List z_V) (i : Nat) (k : z_V → Option β) : Option β := match z_get ls i with
  | .inr (.inr (.inl x)) => k (z_L x)
  | _ => none
def z_if (c : Jvm.ClassFile.Cond) (x y : Int) (a b : Option β) : Option β := match c with
  | .eq => if x = y then a else b
  | .ne => if x ≠ y then a else b
  | .lt => if x < y then a else b
  | .ge => if y ≤ x then a else b
  | .gt => if y < x then a else b
  | .le => if x ≤ y then a else b
/-- a field's value by its type: 1 a cell, 2 a long, else an int -/
def z_fv (hc : z_C) (σ : z_S) (o : Int) (f ty : Nat) : z_V := match ty with
  | 1 => z_R (z_gf hc σ o f)
  | 2 => z_L (σ o f)
  | _ => z_I (σ o f)
def z_free (x : Option Int) (k : Option β) : Option β := match x with
  | none => k
  | some _ => none
/-- a field is written -/
def z_pf (hd : z_H) (σ : z_S) (cls : Nat) (o f v : Int) (k : z_S → Option β) : Option β := if z_k hd o = 10 + cls then k (z_upd σ o f v) else none
def z_cp (hd : z_H) (σ : z_S) (s sp d dp n : Int) (k : z_S → Option β) : Option β := if z_k hd s = 1 ∧ z_k hd d = 1 ∧ 0 ≤ sp ∧ 0 ≤ dp ∧ 0 ≤ n ∧ sp + n ≤ z_n hd s ∧ dp + n ≤ z_n hd d then k (z_cpy σ s sp d dp n) else none
def z_put (hc : z_C) (hd : z_H) (σ : z_S) (cls f ty : Nat) (st : List z_V) (k : z_S → List z_V → Option β) : Option β := match ty with
  | 1 => (match st with
    | .inr (.inl v) :: .inr (.inl o) :: r => z_free (hc o f) (z_pf hd σ cls o f v (fun σ => k σ r))
    | _ => none)
  | 2 => (match st with
    | .inr (.inr (.inl v)) :: .inr (.inl o) :: r => z_pf hd σ cls o f v (fun σ => k σ r)
    | _ => none)
  | 3 => (match st with
    | .inl v :: .inr (.inl o) :: r => if v = 0 ∨ v = 1 then z_pf hd σ cls o f v (fun σ => k σ r) else none
    | _ => none)
  | _ => (match st with
    | .inl v :: .inr (.inl o) :: r => z_pf hd σ cls o f v (fun σ => k σ r)
    | _ => none)
def z_pop : Nat → List z_V → List z_V → (List z_V → List z_V → Option β) → Option β
  | 0, as, st, k => if z_cats st ≤ 8 then k as st else none
  | _ + 1, _, [], _ => none
  | n + 1, as, a :: st, k => z_pop n (a :: as) st k
def z_res (d : Nat) (r : Option z_Res) (rest : List z_V) (k : List z_V → z_H → z_S → Option β) : Option β := match d with
  | 0 => z_cV r (fun hd σ => k rest hd σ)
  | _ => z_cI r (fun x hd σ => k (z_I x :: rest) hd σ)
def z_recv (hd : z_H) (as : List z_V) (cls : Nat) (k : Option β) : Option β := match as with
  | .inr (.inl o) :: _ => z_fld hd o cls k
  | _ => none
def z_copy (hd : z_H) (σ : z_S) (st : List z_V) (k : z_S → List z_V → Option β) : Option β := match st with
  | .inl n :: .inl dp :: .inr (.inl d) :: .inl sp :: .inr (.inl s) :: r => if z_cats r ≤ 8 then z_cp hd σ s sp d dp n (fun σ => k σ r) else none
  | _ => none
/-- Math.max, min, abs -/
def z_math (a : Nat) (st : List z_V) (k : Int → List z_V → Option β) : Option β := match Nat.beq a 9997 with
  | true => z_num st (fun x r => if z_cats r ≤ 8 then k (if 0 ≤ x then x else z_w (0 - x)) r else none)
  | false => match Nat.beq a 9996 with
    | true => z_num2 st (fun x y r => if z_cats r ≤ 8 then k (if y < x then y else x) r else none)
    | false => z_num2 st (fun x y r => if z_cats r ≤ 8 then k (if x < y then y else x) r else none)
def z_step (call : z_Call) (hc : z_C) (e : z_E) (ls st : List z_V) (hd : z_H) (σ : z_S) (k : Nat → List z_V → List z_V → z_H → z_S → Option β) (ret : z_Res → Option β) : Option β :=
  match e with
  | (pc, i, len, a, c, d, b, _) =>
  match i with
  | .aload j => z_aload ls j (fun v => k (pc + len) ls (v :: st) hd σ)
  | .aload_n j => z_aload ls j.val (fun v => k (pc + len) ls (v :: st) hd σ)
  | .iload j => z_iload ls j (fun v => k (pc + len) ls (v :: st) hd σ)
  | .iload_n j => z_iload ls j.val (fun v => k (pc + len) ls (v :: st) hd σ)
  | .lload j => z_lload ls j (fun v => k (pc + len) ls (v :: st) hd σ)
  | .lload_n j => z_lload ls j.val (fun v => k (pc + len) ls (v :: st) hd σ)
  | .istore j => z_num st (fun x r => k (pc + len) (z_set ls j (z_I x)) r hd σ)
  | .istore_n j => z_num st (fun x r => k (pc + len) (z_set ls j.val (z_I x)) r hd σ)
  | .astore j => z_ref st (fun x r => k (pc + len) (z_set ls j (z_R x)) r hd σ)
  | .astore_n j => z_ref st (fun x r => k (pc + len) (z_set ls j.val (z_R x)) r hd σ)
  | .lstore j => z_lon st (fun x r => k (pc + len) (z_set (z_set ls (j + 1) z_U) j (z_L x)) r hd σ)
  | .lstore_n j => z_lon st (fun x r => k (pc + len) (z_set (z_set ls (j.val + 1) z_U) j.val (z_L x)) r hd σ)
  | .iinc j n => z_num [z_get ls j] (fun x _ => k (pc + len) (z_set ls j (z_I (z_w (x + n)))) st hd σ)
  | .iconst _ => k (pc + len) ls (z_I b :: st) hd σ
  | .bipush _ => k (pc + len) ls (z_I b :: st) hd σ
  | .sipush _ => k (pc + len) ls (z_I b :: st) hd σ
  | .ldc _ => k (pc + len) ls (z_I b :: st) hd σ
  | .ldc_w _ => k (pc + len) ls (z_I b :: st) hd σ
  | .lconst _ => k (pc + len) ls (z_L b :: st) hd σ
  | .ldc2_w _ => k (pc + len) ls (z_L b :: st) hd σ
  | .iadd => z_num2 st (fun x y r => k (pc + len) ls (z_I (z_w (x + y)) :: r) hd σ)
  | .isub => z_num2 st (fun x y r => k (pc + len) ls (z_I (z_w (x - y)) :: r) hd σ)
  | .imul => z_num2 st (fun x y r => k (pc + len) ls (z_I (z_w (x * y)) :: r) hd σ)
  | .iand => z_num2 st (fun x y r => k (pc + len) ls (z_I (z_and x y) :: r) hd σ)
  | .ior => z_num2 st (fun x y r => k (pc + len) ls (z_I (z_or x y) :: r) hd σ)
  | .ixor => z_num2 st (fun x y r => k (pc + len) ls (z_I (z_xor x y) :: r) hd σ)
  | .ishl => z_num2 st (fun x y r => k (pc + len) ls (z_I (z_shl x y) :: r) hd σ)
  | .ishr => z_num2 st (fun x y r => k (pc + len) ls (z_I (z_shr x y) :: r) hd σ)
  | .iushr => z_num2 st (fun x y r => k (pc + len) ls (z_I (z_ushr x y) :: r) hd σ)
  | .idiv => z_num2 st (fun x y r => if y = 0 then none else k (pc + len) ls (z_I (z_div x y) :: r) hd σ)
  | .irem => z_num2 st (fun x y r => if y = 0 then none else k (pc + len) ls (z_I (z_rem x y) :: r) hd σ)
  | .ineg => z_num st (fun x r => k (pc + len) ls (z_I (z_w (-x)) :: r) hd σ)
  | .ladd => z_lon2 st (fun x y r => k (pc + len) ls (z_L (z_wl (x + y)) :: r) hd σ)
  | .lmul => z_lon2 st (fun x y r => k (pc + len) ls (z_L (z_wl (x * y)) :: r) hd σ)
  | .ldiv => z_lon2 st (fun x y r => if y = 0 then none else k (pc + len) ls (z_L (z_ldiv x y) :: r) hd σ)
  | .lrem => z_lon2 st (fun x y r => if y = 0 then none else k (pc + len) ls (z_L (z_lrem x y) :: r) hd σ)
  | .lcmp => z_lon2 st (fun x y r => k (pc + len) ls (z_I (z_lcmp x y) :: r) hd σ)
  | .i2l => z_num st (fun x r => k (pc + len) ls (z_L x :: r) hd σ)
  | .l2i => z_lon st (fun x r => k (pc + len) ls (z_I (z_w x) :: r) hd σ)
  | .i2b => z_num st (fun x r => k (pc + len) ls (z_I (z_b8 x) :: r) hd σ)
  | .i2c => z_num st (fun x r => k (pc + len) ls (z_I (z_c16 x) :: r) hd σ)
  | .pop => z_any st (fun _ r => k (pc + len) ls r hd σ)
  | .dup => z_any st (fun v r => k (pc + len) ls (v :: v :: r) hd σ)
  | .dup_x1 => z_any st (fun v r => z_any r (fun w r => k (pc + len) ls (v :: w :: v :: r) hd σ))
  | .dup2 => z_any st (fun v r => z_any r (fun w r => k (pc + len) ls (v :: w :: v :: w :: r) hd σ))
  | .ifCond q _ => z_num st (fun x r => z_if q x 0 (k a ls r hd σ) (k (pc + len) ls r hd σ))
  | .if_icmp q _ => z_num2 st (fun x y r => z_if q x y (k a ls r hd σ) (k (pc + len) ls r hd σ))
  | .ifnull _ => z_ref st (fun x r => if x = 0 then k a ls r hd σ else k (pc + len) ls r hd σ)
  | .ifnonnull _ => z_ref st (fun x r => if x = 0 then k (pc + len) ls r hd σ else k a ls r hd σ)
  | .goto _ => k a ls st hd σ
  | .tableswitch dflt lo hi offs => z_num st (fun x r => z_sw x lo (offs.toList.map (fun o => ((pc : Int) + o).toNat)) ((pc : Int) + dflt).toNat (fun t => k t ls r hd σ))
  | .getfield _ => z_ref st (fun o r => z_fld hd o a (k (pc + len) ls (z_fv hc σ o c d :: r) hd σ))
  | .putfield _ => z_put hc hd σ a c d st (fun σ r => k (pc + len) ls r hd σ)
  | .iaload => z_num st (fun i r => z_ref r (fun o r => z_ld hd σ 1 1 o i (fun v => k (pc + len) ls (z_I v :: r) hd σ)))
  | .baload => z_num st (fun i r => z_ref r (fun o r => z_ld hd σ 2 3 o i (fun v => k (pc + len) ls (z_I v :: r) hd σ)))
  | .caload => z_num st (fun i r => z_ref r (fun o r => z_ld hd σ 4 4 o i (fun v => k (pc + len) ls (z_I v :: r) hd σ)))
  | .iastore => z_num2 st (fun i v r => z_ref r (fun o r => z_st hd σ 1 o i v (fun σ => k (pc + len) ls r hd σ)))
  | .castore => z_num2 st (fun i v r => z_ref r (fun o r => z_st hd σ 4 o i (z_c16 v) (fun σ => k (pc + len) ls r hd σ)))
  | .bastore => z_num2 st (fun i v r => z_ref r (fun o r => cond (Nat.beq a 2) (if v = 0 ∨ v = 1 then z_st hd σ 2 o i v (fun σ => k (pc + len) ls r hd σ) else none) (z_st hd σ 3 o i (z_b8 v) (fun σ => k (pc + len) ls r hd σ))))
  | .arraylength => z_ref st (fun o r => if 1 ≤ z_k hd o ∧ z_k hd o < 5 then k (pc + len) ls (z_I (z_n hd o) :: r) hd σ else none)
  | .newarray _ => z_num st (fun n r => if 0 ≤ n ∧ n ≤ 65536 then k (pc + len) ls (z_R (hd.length + 1) :: r) (hd ++ [(a, n)]) (z_new σ (hd.length + 1)) else none)
  | .new _ => z_free (hc 0 0) (k (pc + len) ls (z_R (hd.length + 1) :: st) (hd ++ [(10 + a, b)]) (z_new σ (hd.length + 1)))
  | .ireturn => z_one st (fun x => cond (Nat.beq a 2) (if x = 0 ∨ x = 1 then ret (z_I x, hd, σ) else none) (ret (z_I x, hd, σ)))
  | .return_ => z_end st (ret (z_U, hd, σ))
  | .invokestatic _ => cond (Nat.ble 9990 a) (cond (Nat.beq a 9999) (z_copy hd σ st (fun σ r => k (pc + len) ls r hd σ))
      (z_math a st (fun x r => k (pc + len) ls (z_I x :: r) hd σ)))
    (z_pop c [] st (fun as r => z_res d (call a as hd σ) r (fun st hd σ => k (pc + len) ls st hd σ)))
  | .invokespecial _ => cond (Nat.beq a 9998) (z_ref st (fun o r => if 10 ≤ z_k hd o ∧ z_cats r ≤ 8 then k (pc + len) ls r hd σ else none))
    (z_pop c [] st (fun as r => z_recv hd as b.toNat (z_res d (call a as hd σ) r (fun st hd σ => k (pc + len) ls st hd σ))))
  | .invokevirtual _ => z_pop c [] st (fun as r => z_recv hd as b.toNat (z_res d (call a as hd σ) r (fun st hd σ => k (pc + len) ls st hd σ)))
  | _ => none
end ZS
