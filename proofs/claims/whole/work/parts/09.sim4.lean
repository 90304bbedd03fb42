section ZT
variable {p : Program} {l : Launch} {e : Env} {R : Room} {s : State} {m : MethodId} {args : Array Value} {below : List Frame} {meth : Method} {c : Code} {dC : Nat → ClassId} {dI : Nat → Nat → Nat} {dA : Nat → ClassId} {hc : z_C} {mm d : Nat} {ad0 : Nat → Nat} {n0 s0 : Nat} {r : z_Res} {pc pc' : Nat} {ls st st' : List z_V} {hd : z_H} {σ : z_S}
theorem z_W_br {P : Prop} {pA pB : Nat} {q : List z_V} (hA : P → z_W p l e R s m args below meth c dC dI dA hc mm ad0 n0 s0 r pA ls q hd σ) (hB : ¬ P → z_W p l e R s m args below meth c dC dI dA hc mm ad0 n0 s0 r pB ls q hd σ) (ok : (∀ v ∈ st, z_vok hd.length v) → ∀ v ∈ q, z_vok hd.length v)
    (row : ∀ (ad : Nat → Nat) (H : Heap) (arr : Array Slot) (locs : List Loc) (cells slots : Nat) (Q : State → Prop), (∀ v ∈ st, z_vok hd.length v) → (P → W p l e R s m args below meth c H locs cells slots Q (F0 m pA arr (q.map (z_cv ad)))) → (¬ P → W p l e R s m args below meth c H locs cells slots Q (F0 m pB arr (q.map (z_cv ad)))) →
      W p l e R s m args below meth c H locs cells slots Q (F0 m pc arr (st.map (z_cv ad)))) : z_W p l e R s m args below meth c dC dI dA hc mm ad0 n0 s0 r pc ls st hd σ := by
  rcases Classical.em P with hP | hP
  · exact z_W_st (hA hP) (fun _ _ _ h => ok h) (fun ad H arr locs cells slots Q _ _ _ hvs k => row ad H arr locs cells slots Q hvs (fun _ => k) (fun z => absurd hP z))
  · exact z_W_st (hB hP) (fun _ _ _ h => ok h) (fun ad H arr locs cells slots Q _ _ _ hvs k => row ad H arr locs cells slots Q hvs (fun z => absurd z hP) (fun _ => k))
set_option maxHeartbeats 8000000 in
theorem z_step_sim (F : z_Fix p s m args meth c R dC dI dA mm d) (hRc : R.cells = r.2.1.length - n0) (hRs : R.slots = z_sl r.2.1 - s0) (hdyn : hc 0 0 = none → ∀ o f, hc o f = none) (okm : z_okm mm) (allok : ∀ a, (z_mp a).1 = a → z_okm a) (IH : z_IH l dC dI dA hc d)
    {k : Nat → List z_V → List z_V → z_H → z_S → Option z_Res} (hk : ∀ pc ls st hd σ, k pc ls st hd σ = some r → z_W p l e R s m args below meth c dC dI dA hc mm ad0 n0 s0 r pc ls st hd σ)
    {e' : z_E} (hch : z_chk mm e' = true) (h : z_step (z_ev hc d) hc e' ls st hd σ k some = some r) : z_W p l e R s m args below meth c dC dI dA hc mm ad0 n0 s0 r e'.1 ls st hd σ := by
  obtain ⟨pc, i, len, a, f, ty, b, pl⟩ := e'
  have F' := F
  obtain ⟨hx, hb, hml, hown, hts, hret, hlk, hnm, hK, hRf, hRl⟩ := F'
  have z32 : ∀ {y : Int}, z_in y → (Int32.ofInt y = 0 ↔ y = 0) := fun hy => z_eq32 hy z_in0
  have hK0 : (z_tys dA)[0]? = some (dA 1, FieldType.int) := rfl
  have hK1 : (z_tys dA)[1]? = some (dA 2, FieldType.boolean) := rfl
  have hK2 : (z_tys dA)[2]? = some (dA 3, FieldType.byte) := rfl
  have hK3 : (z_tys dA)[3]? = some (dA 4, FieldType.char) := rfl
  dsimp only at ⊢
  cases i <;> dsimp only [z_step] at h <;> first | (exact absurd h (by simp)) | skip

  case aload j =>
    simp only [z_chk, Bool.and_eq_true, decide_eq_true_eq] at hch
    obtain ⟨hdg, rfl⟩ := hch
    obtain ⟨x, hg, h⟩ := z_aload_some h
    refine z_W_push (hk _ _ _ _ _ h) (fun hl => z_get_vok rfl hg hl) (fun ad H arr locs cells slots Q rest hl k => ?_)
    have hat := z_loc_at hl rfl hg
    by_cases hx0 : x = 0
    · subst hx0
      exact lv_aloadN hx hb hdg hat k
    · have hcv : z_cv ad (z_R x) = .ref (ad (x.toNat - 1)) := if_neg hx0
      rw [hcv] at hat k
      exact lv_aload hx hb hdg hat k
  case aload_n j =>
    simp only [z_chk, Bool.and_eq_true, decide_eq_true_eq] at hch
    obtain ⟨hdg, rfl⟩ := hch
    obtain ⟨x, hg, h⟩ := z_aload_some h
    refine z_W_push (hk _ _ _ _ _ h) (fun hl => z_get_vok rfl hg hl) (fun ad H arr locs cells slots Q rest hl k => ?_)
    have hat := z_loc_at hl rfl hg
    by_cases hx0 : x = 0
    · subst hx0
      exact lv_aload_nN hx hb hdg rfl hat k
    · have hcv : z_cv ad (z_R x) = .ref (ad (x.toNat - 1)) := if_neg hx0
      rw [hcv] at hat k
      exact lv_aload_n hx hb hdg rfl hat k
  case iload j =>
    simp only [z_chk, Bool.and_eq_true, decide_eq_true_eq] at hch
    obtain ⟨hdg, rfl⟩ := hch
    obtain ⟨x, hg, h⟩ := z_iload_some h
    exact z_W_push (hk _ _ _ _ _ h) (fun hl => z_get_vok rfl hg hl) (fun ad H arr locs cells slots Q rest hl k => lv_iload hx hb hdg (z_loc_at hl rfl hg) k)
  case iload_n j =>
    simp only [z_chk, Bool.and_eq_true, decide_eq_true_eq] at hch
    obtain ⟨hdg, rfl⟩ := hch
    obtain ⟨x, hg, h⟩ := z_iload_some h
    exact z_W_push (hk _ _ _ _ _ h) (fun hl => z_get_vok rfl hg hl) (fun ad H arr locs cells slots Q rest hl k => lv_iload_n hx hb hdg rfl (z_loc_at hl rfl hg) k)
  case lload j =>
    simp only [z_chk, Bool.and_eq_true, decide_eq_true_eq] at hch
    obtain ⟨hdg, rfl⟩ := hch
    obtain ⟨x, hg, h⟩ := z_lload_some h
    exact z_W_push (hk _ _ _ _ _ h) (fun hl => z_get_vok rfl hg hl) (fun ad H arr locs cells slots Q rest hl k => lv_lload hx hb hdg (z_loc_at hl rfl hg) k)
  case lload_n j =>
    simp only [z_chk, Bool.and_eq_true, decide_eq_true_eq] at hch
    obtain ⟨hdg, rfl⟩ := hch
    obtain ⟨x, hg, h⟩ := z_lload_some h
    exact z_W_push (hk _ _ _ _ _ h) (fun hl => z_get_vok rfl hg hl) (fun ad H arr locs cells slots Q rest hl k => lv_lload_n hx hb hdg rfl (z_loc_at hl rfl hg) k)
  case istore j =>
    simp only [z_chk, Bool.and_eq_true, decide_eq_true_eq] at hch
    obtain ⟨hdg, rfl, hj⟩ := hch
    obtain ⟨x, q, rfl, h⟩ := z_num_some h
    refine z_W_store (hk _ _ _ _ _ h) (fun hv hl => z_set_vok hv hl) (fun ad H arr locs cells slots Q rest hl kk => ?_)
    exact lv_istore hx hb hdg hl.1 hj rfl (fun arr' ha => kk arr' (z_loc_set hl ha))
  case istore_n j =>
    simp only [z_chk, Bool.and_eq_true, decide_eq_true_eq] at hch
    obtain ⟨hdg, rfl, hj⟩ := hch
    obtain ⟨x, q, rfl, h⟩ := z_num_some h
    refine z_W_store (hk _ _ _ _ _ h) (fun hv hl => z_set_vok hv hl) (fun ad H arr locs cells slots Q rest hl kk => ?_)
    exact lv_istore_n hx hb hdg rfl hl.1 hj rfl (fun arr' ha => kk arr' (z_loc_set hl ha))
  case astore j =>
    simp only [z_chk, Bool.and_eq_true, decide_eq_true_eq] at hch
    obtain ⟨hdg, rfl, hj⟩ := hch
    obtain ⟨x, q, rfl, h⟩ := z_ref_some h
    refine z_W_store (hk _ _ _ _ _ h) (fun hv hl => z_set_vok hv hl) (fun ad H arr locs cells slots Q rest hl kk => ?_)
    by_cases hx0 : x = 0
    · subst hx0
      exact lv_astoreN hx hb hdg hl.1 hj rfl (fun arr' ha => kk arr' (z_loc_set hl ha))
    · have hcv : z_cv ad (z_R x) = .ref (ad (x.toNat - 1)) := if_neg hx0
      rw [hcv]
      exact lv_astore hx hb hdg hl.1 hj rfl (fun arr' ha => kk arr' (z_loc_set hl (by rw [hcv]; exact ha)))
  case astore_n j =>
    simp only [z_chk, Bool.and_eq_true, decide_eq_true_eq] at hch
    obtain ⟨hdg, rfl, hj⟩ := hch
    obtain ⟨x, q, rfl, h⟩ := z_ref_some h
    refine z_W_store (hk _ _ _ _ _ h) (fun hv hl => z_set_vok hv hl) (fun ad H arr locs cells slots Q rest hl kk => ?_)
    by_cases hx0 : x = 0
    · subst hx0
      exact lv_astore_nN hx hb hdg rfl hl.1 hj rfl (fun arr' ha => kk arr' (z_loc_set hl ha))
    · have hcv : z_cv ad (z_R x) = .ref (ad (x.toNat - 1)) := if_neg hx0
      rw [hcv]
      exact lv_astore_n hx hb hdg rfl hl.1 hj rfl (fun arr' ha => kk arr' (z_loc_set hl (by rw [hcv]; exact ha)))
  case lstore j =>
    simp only [z_chk, Bool.and_eq_true, decide_eq_true_eq] at hch
    obtain ⟨hdg, rfl, hj⟩ := hch
    obtain ⟨x, q, rfl, h⟩ := z_lon_some h
    refine z_W_store (hk _ _ _ _ _ h) (fun hv hl => z_set_vok hv (z_set_vok (v := z_U) trivial hl)) (fun ad H arr locs cells slots Q rest hl kk => ?_)
    exact lv_lstore hx hb hdg hl.1 hj rfl (fun arr' ha => kk arr' (z_loc_setL hl ha))
  case lstore_n j =>
    simp only [z_chk, Bool.and_eq_true, decide_eq_true_eq] at hch
    obtain ⟨hdg, rfl, hj⟩ := hch
    obtain ⟨x, q, rfl, h⟩ := z_lon_some h
    refine z_W_store (hk _ _ _ _ _ h) (fun hv hl => z_set_vok hv (z_set_vok (v := z_U) trivial hl)) (fun ad H arr locs cells slots Q rest hl kk => ?_)
    exact lv_lstore_n hx hb hdg rfl hl.1 hj rfl (fun arr' ha => kk arr' (z_loc_setL hl ha))
  case iinc j n =>
    simp only [z_chk, Bool.and_eq_true, decide_eq_true_eq] at hch
    obtain ⟨hdg, rfl, hj⟩ := hch
    obtain ⟨x, q, hg, h⟩ := z_num_some h
    have hg' : z_get ls j = z_I x := (List.cons.inj hg).1
    refine fun hho hso hvl hvs => ⟨(hk _ _ _ _ _ h hho hso (z_set_vok (v := z_I (z_w (x + n))) (z_in32 _) hvl) hvs).1, fun ad H arr locs cells slots J hl => ?_⟩
    have hmem : (j, Value.int (Int32.ofInt x)) ∈ z_ll ad ls := z_ll_mem.mpr ⟨z_I x, z_get_some rfl hg', rfl, rfl⟩
    obtain ⟨k0, hk0⟩ := List.getElem?_of_mem hmem
    refine lv_iinc (v := Int32.ofInt (z_w (x + n))) hx hb hdg hl.1 hk0 (by rw [z_ofw, Int32.ofInt_add]) hj rfl (fun arr' ha => ?_)
    exact (hk _ _ _ _ _ h hho hso (z_set_vok (v := z_I (z_w (x + n))) (z_in32 _) hvl) hvs).2 ad H arr' locs cells slots J (z_loc_set hl ha)
  case iconst n =>
    simp only [z_chk, Bool.and_eq_true, decide_eq_true_eq] at hch
    obtain ⟨hdg, ⟨rfl, hbn⟩, hb32⟩ := hch
    exact z_W_push (hk _ _ _ _ _ h) (fun _ => (by simp only [z_i32, Bool.and_eq_true, decide_eq_true_eq] at hb32; exact hb32)) (fun ad H arr locs cells slots Q rest hl k => lv_iconst hx hb hdg (by rw [hbn]) k)
  case bipush n =>
    simp only [z_chk, Bool.and_eq_true, decide_eq_true_eq] at hch
    obtain ⟨hdg, ⟨rfl, hbn⟩, hb32⟩ := hch
    exact z_W_push (hk _ _ _ _ _ h) (fun _ => (by simp only [z_i32, Bool.and_eq_true, decide_eq_true_eq] at hb32; exact hb32)) (fun ad H arr locs cells slots Q rest hl k => lv_bipush hx hb hdg hbn k)
  case sipush n =>
    simp only [z_chk, Bool.and_eq_true, decide_eq_true_eq] at hch
    obtain ⟨hdg, ⟨rfl, hbn⟩, hb32⟩ := hch
    exact z_W_push (hk _ _ _ _ _ h) (fun _ => (by simp only [z_i32, Bool.and_eq_true, decide_eq_true_eq] at hb32; exact hb32)) (fun ad H arr locs cells slots Q rest hl k => lv_sipush hx hb hdg hbn k)
  case ldc x =>
    simp only [z_chk, Bool.and_eq_true, decide_eq_true_eq] at hch
    obtain ⟨hdg, ⟨rfl, hb32⟩, hw⟩ := hch
    exact z_W_push (hk _ _ _ _ _ h) (fun _ => (by simp only [z_i32, Bool.and_eq_true, decide_eq_true_eq] at hb32; exact hb32)) (fun ad H arr locs cells slots Q rest hl k => lv_ldc hx hb hown (hts _ (z_has_mem hw)) hdg k)
  case ldc_w x =>
    simp only [z_chk, Bool.and_eq_true, decide_eq_true_eq] at hch
    obtain ⟨hdg, ⟨rfl, hb32⟩, hw⟩ := hch
    exact z_W_push (hk _ _ _ _ _ h) (fun _ => (by simp only [z_i32, Bool.and_eq_true, decide_eq_true_eq] at hb32; exact hb32)) (fun ad H arr locs cells slots Q rest hl k => lv_ldcw hx hb hown (hts _ (z_has_mem hw)) hdg k)
  case ldc2_w x =>
    simp only [z_chk, Bool.and_eq_true, decide_eq_true_eq] at hch
    obtain ⟨hdg, ⟨rfl, hb64⟩, hw⟩ := hch
    exact z_W_push (hk _ _ _ _ _ h) (fun _ => (by simp only [z_i64, Bool.and_eq_true, decide_eq_true_eq] at hb64; exact hb64)) (fun ad H arr locs cells slots Q rest hl k => lv_ldc2 hx hb hown (hts _ (z_has_mem hw)) hdg k)
  case lconst n =>
    simp only [z_chk, Bool.and_eq_true, decide_eq_true_eq] at hch
    obtain ⟨hdg, ⟨rfl, hbn⟩, hb64⟩ := hch
    exact z_W_push (hk _ _ _ _ _ h) (fun _ => (by simp only [z_i64, Bool.and_eq_true, decide_eq_true_eq] at hb64; exact hb64)) (fun ad H arr locs cells slots Q rest hl k => lv_lconst hx hb hdg hbn k)
  case iadd =>
    simp only [z_chk, Bool.and_eq_true, decide_eq_true_eq] at hch
    obtain ⟨hdg, rfl⟩ := hch
    obtain ⟨x, y, q, rfl, h⟩ := z_num2_some h
    exact z_W_bin (w := Int32.ofInt x + Int32.ofInt y) (by rw [← Int32.ofInt_add]; rfl) (hk _ _ _ _ _ h) (fun _ _ H arr locs cells slots Q rest k => lv_iadd hx hb hdg k)
  case isub =>
    simp only [z_chk, Bool.and_eq_true, decide_eq_true_eq] at hch
    obtain ⟨hdg, rfl⟩ := hch
    obtain ⟨x, y, q, rfl, h⟩ := z_num2_some h
    exact z_W_bin (w := Int32.ofInt x - Int32.ofInt y) (by rw [← Int32.ofInt_sub]; rfl) (hk _ _ _ _ _ h) (fun _ _ H arr locs cells slots Q rest k => lv_isub hx hb hdg k)
  case imul =>
    simp only [z_chk, Bool.and_eq_true, decide_eq_true_eq] at hch
    obtain ⟨hdg, rfl⟩ := hch
    obtain ⟨x, y, q, rfl, h⟩ := z_num2_some h
    exact z_W_bin (w := Int32.ofInt x * Int32.ofInt y) (by rw [← Int32.ofInt_mul]; rfl) (hk _ _ _ _ _ h) (fun _ _ H arr locs cells slots Q rest k => lv_imul hx hb hdg k)
  case iand =>
    simp only [z_chk, Bool.and_eq_true, decide_eq_true_eq] at hch
    obtain ⟨hdg, rfl⟩ := hch
    obtain ⟨x, y, q, rfl, h⟩ := z_num2_some h
    exact z_W_bin rfl (hk _ _ _ _ _ h) (fun _ _ H arr locs cells slots Q rest k => lv_iand hx hb hdg k)
  case ior =>
    simp only [z_chk, Bool.and_eq_true, decide_eq_true_eq] at hch
    obtain ⟨hdg, rfl⟩ := hch
    obtain ⟨x, y, q, rfl, h⟩ := z_num2_some h
    exact z_W_bin rfl (hk _ _ _ _ _ h) (fun _ _ H arr locs cells slots Q rest k => lv_ior hx hb hdg k)
  case ixor =>
    simp only [z_chk, Bool.and_eq_true, decide_eq_true_eq] at hch
    obtain ⟨hdg, rfl⟩ := hch
    obtain ⟨x, y, q, rfl, h⟩ := z_num2_some h
    exact z_W_bin rfl (hk _ _ _ _ _ h) (fun _ _ H arr locs cells slots Q rest k => lv_ixor hx hb hdg k)
  case ishl =>
    simp only [z_chk, Bool.and_eq_true, decide_eq_true_eq] at hch
    obtain ⟨hdg, rfl⟩ := hch
    obtain ⟨x, y, q, rfl, h⟩ := z_num2_some h
    exact z_W_bin rfl (hk _ _ _ _ _ h) (fun _ _ H arr locs cells slots Q rest k => lv_ishl hx hb hdg k)
  case ishr =>
    simp only [z_chk, Bool.and_eq_true, decide_eq_true_eq] at hch
    obtain ⟨hdg, rfl⟩ := hch
    obtain ⟨x, y, q, rfl, h⟩ := z_num2_some h
    exact z_W_bin rfl (hk _ _ _ _ _ h) (fun _ _ H arr locs cells slots Q rest k => lv_ishr hx hb hdg k)
  case iushr =>
    simp only [z_chk, Bool.and_eq_true, decide_eq_true_eq] at hch
    obtain ⟨hdg, rfl⟩ := hch
    obtain ⟨x, y, q, rfl, h⟩ := z_num2_some h
    exact z_W_bin rfl (hk _ _ _ _ _ h) (fun _ _ H arr locs cells slots Q rest k => lv_iushr hx hb hdg rfl k)
  case idiv =>
    simp only [z_chk, Bool.and_eq_true, decide_eq_true_eq] at hch
    obtain ⟨hdg, rfl⟩ := hch
    obtain ⟨x, y, q, rfl, h⟩ := z_num2_some h
    obtain ⟨hne, h⟩ := z_iten_some h
    exact z_W_bin rfl (hk _ _ _ _ _ h) (fun _ hy H arr locs cells slots Q rest k => lv_idiv hx hb hdg (fun z => hne ((z32 hy).mp z)) k)
  case irem =>
    simp only [z_chk, Bool.and_eq_true, decide_eq_true_eq] at hch
    obtain ⟨hdg, rfl⟩ := hch
    obtain ⟨x, y, q, rfl, h⟩ := z_num2_some h
    obtain ⟨hne, h⟩ := z_iten_some h
    exact z_W_bin rfl (hk _ _ _ _ _ h) (fun _ hy H arr locs cells slots Q rest k => lv_irem hx hb hdg (fun z => hne ((z32 hy).mp z)) k)
  case ineg =>
    simp only [z_chk, Bool.and_eq_true, decide_eq_true_eq] at hch
    obtain ⟨hdg, rfl⟩ := hch
    obtain ⟨x, q, rfl, h⟩ := z_num_some h
    exact z_W_un (w := -Int32.ofInt x) (by rw [← Int32.ofInt_neg]; rfl) (hk _ _ _ _ _ h) (fun _ H arr locs cells slots Q rest k => lv_ineg hx hb hdg k)
  case ladd =>
    simp only [z_chk, Bool.and_eq_true, decide_eq_true_eq] at hch
    obtain ⟨hdg, rfl⟩ := hch
    obtain ⟨x, y, q, rfl, h⟩ := z_lon2_some h
    exact z_W_binL (w := Int64.ofInt x + Int64.ofInt y) (by rw [← Int64.ofInt_add]; rfl) (hk _ _ _ _ _ h) (fun _ _ H arr locs cells slots Q rest k => lv_ladd hx hb hdg k)
  case lmul =>
    simp only [z_chk, Bool.and_eq_true, decide_eq_true_eq] at hch
    obtain ⟨hdg, rfl⟩ := hch
    obtain ⟨x, y, q, rfl, h⟩ := z_lon2_some h
    exact z_W_binL (w := Int64.ofInt x * Int64.ofInt y) (by rw [← Int64.ofInt_mul]; rfl) (hk _ _ _ _ _ h) (fun _ _ H arr locs cells slots Q rest k => lv_lmul hx hb hdg k)
  case ldiv =>
    simp only [z_chk, Bool.and_eq_true, decide_eq_true_eq] at hch
    obtain ⟨hdg, rfl⟩ := hch
    obtain ⟨x, y, q, rfl, h⟩ := z_lon2_some h
    obtain ⟨hne, h⟩ := z_iten_some h
    exact z_W_binL rfl (hk _ _ _ _ _ h) (fun _ hy H arr locs cells slots Q rest k => lv_ldiv hx hb hdg (fun z => hne ((z_eq64 hy (by constructor <;> omega)).mp z)) k)
  case lrem =>
    simp only [z_chk, Bool.and_eq_true, decide_eq_true_eq] at hch
    obtain ⟨hdg, rfl⟩ := hch
    obtain ⟨x, y, q, rfl, h⟩ := z_lon2_some h
    obtain ⟨hne, h⟩ := z_iten_some h
    exact z_W_binL rfl (hk _ _ _ _ _ h) (fun _ hy H arr locs cells slots Q rest k => lv_lrem hx hb hdg (fun z => hne ((z_eq64 hy (by constructor <;> omega)).mp z)) k)
  case lcmp =>
    simp only [z_chk, Bool.and_eq_true, decide_eq_true_eq] at hch
    obtain ⟨hdg, rfl⟩ := hch
    obtain ⟨x, y, q, rfl, h⟩ := z_lon2_some h
    refine z_W_st (hk _ _ _ _ _ h) (fun _ _ _ hv => z_ok_cons (by unfold z_lcmp; repeat' split <;> (constructor <;> omega)) (z_ok_tail (z_ok_tail hv).2).2) (fun ad H arr locs cells slots Q J hl hvl hvs k => ?_)
    have hx1 : z_inl x := (z_ok_tail (z_ok_tail hvs).2).1
    have hy1 : z_inl y := (z_ok_tail hvs).1
    refine W.lcmp hx hb hdg ?_
    have hcm : lg_cmp (Int64.ofInt x) (Int64.ofInt y) = Int32.ofInt (z_lcmp x y) := by
      unfold lg_cmp z_lcmp
      simp only [gt_iff_lt, z_lt64 hy1 hx1, z_eq64 hx1 hy1]
      by_cases h1 : y < x
      · simp [h1] <;> rfl
      · by_cases h2 : x = y
        · have h3 : ¬ x < y := by omega
          simp [h2] <;> rfl
        · have h3 : x < y := by omega
          simp [h1, h2, h3] <;> rfl
    rw [hcm]
    exact k
  case i2l =>
    simp only [z_chk, Bool.and_eq_true, decide_eq_true_eq] at hch
    obtain ⟨hdg, rfl⟩ := hch
    obtain ⟨x, q, rfl, h⟩ := z_num_some h
    refine z_W_st (hk _ _ _ _ _ h) (fun _ _ _ hv => z_ok_cons (by have h0 : z_in x := (z_ok_tail hv).1; have h1 := h0.1; have h2 := h0.2; constructor <;> omega) (z_ok_tail hv).2) (fun ad H arr locs cells slots Q J hl hvl hvs k => ?_)
    have h0 : z_in x := (z_ok_tail hvs).1
    refine lv_i2l (v := Int64.ofInt x) hx hb hdg ?_ k
    rw [← Int64.toInt_inj, Int32.toInt_toInt64, z_of32 h0, z_of64 (by have h1 := h0.1; have h2 := h0.2; constructor <;> omega)]
  case l2i =>
    simp only [z_chk, Bool.and_eq_true, decide_eq_true_eq] at hch
    obtain ⟨hdg, rfl⟩ := hch
    obtain ⟨x, q, rfl, h⟩ := z_lon_some h
    refine z_W_st (hk _ _ _ _ _ h) (fun _ _ _ hv => z_ok_cons (z_in32 _) (z_ok_tail hv).2) (fun ad H arr locs cells slots Q J hl hvl hvs k => ?_)
    refine lv_l2i (v := Int32.ofInt (z_w x)) hx hb hdg ?_ k
    rw [z_ofw]; exact Int64.toInt32_ofInt
  case i2b =>
    simp only [z_chk, Bool.and_eq_true, decide_eq_true_eq] at hch
    obtain ⟨hdg, rfl⟩ := hch
    obtain ⟨x, q, rfl, h⟩ := z_num_some h
    exact z_W_un rfl (hk _ _ _ _ _ h) (fun _ H arr locs cells slots Q rest k => lv_i2b hx hb hdg rfl k)
  case i2c =>
    simp only [z_chk, Bool.and_eq_true, decide_eq_true_eq] at hch
    obtain ⟨hdg, rfl⟩ := hch
    obtain ⟨x, q, rfl, h⟩ := z_num_some h
    exact z_W_un rfl (hk _ _ _ _ _ h) (fun _ H arr locs cells slots Q rest k => lv_i2c hx hb hdg rfl k)
  case pop =>
    simp only [z_chk, Bool.and_eq_true, decide_eq_true_eq] at hch
    obtain ⟨hdg, rfl⟩ := hch
    obtain ⟨v, q, rfl, hv, h⟩ := z_any_some h
    exact z_W_st (hk _ _ _ _ _ h) (fun _ _ _ hvs => (z_ok_tail hvs).2) (fun ad H arr locs cells slots Q J hl hvl hvs k => lv_pop hx hb hdg ((z_cat_cv ad v).trans hv) k)
  case dup =>
    simp only [z_chk, Bool.and_eq_true, decide_eq_true_eq] at hch
    obtain ⟨hdg, rfl⟩ := hch
    obtain ⟨v, q, rfl, hv, h⟩ := z_any_some h
    exact z_W_st (hk _ _ _ _ _ h) (fun _ _ _ hvs => z_ok_cons (z_ok_tail hvs).1 hvs) (fun ad H arr locs cells slots Q J hl hvl hvs k => lv_dup hx hb hdg ((z_cat_cv ad v).trans hv) k)
  case dup_x1 =>
    simp only [z_chk, Bool.and_eq_true, decide_eq_true_eq] at hch
    obtain ⟨hdg, rfl⟩ := hch
    obtain ⟨v, q, rfl, hv, h⟩ := z_any_some h
    obtain ⟨w, q, rfl, hw, h⟩ := z_any_some h
    exact z_W_st (hk _ _ _ _ _ h) (fun _ _ _ hvs => z_ok_cons (z_ok_tail hvs).1 (z_ok_cons (z_ok_tail (z_ok_tail hvs).2).1 (z_ok_cons (z_ok_tail hvs).1 (z_ok_tail (z_ok_tail hvs).2).2))) (fun ad H arr locs cells slots Q J hl hvl hvs k => lv_dup_x1 hx hb hdg ((z_cat_cv ad v).trans hv) ((z_cat_cv ad w).trans hw) k)
  case dup2 =>
    simp only [z_chk, Bool.and_eq_true, decide_eq_true_eq] at hch
    obtain ⟨hdg, rfl⟩ := hch
    obtain ⟨v, q, rfl, hv, h⟩ := z_any_some h
    obtain ⟨w, q, rfl, hw, h⟩ := z_any_some h
    exact z_W_st (hk _ _ _ _ _ h) (fun _ _ _ hvs => z_ok_cons (z_ok_tail hvs).1 (z_ok_cons (z_ok_tail (z_ok_tail hvs).2).1 hvs)) (fun ad H arr locs cells slots Q J hl hvl hvs k => lv_dup2_11 hx hb hdg ((z_cat_cv ad v).trans hv) ((z_cat_cv ad w).trans hw) k)
  case ifCond cnd off =>
    simp only [z_chk, Bool.and_eq_true, decide_eq_true_eq] at hch
    obtain ⟨hdg, rfl, hoff⟩ := hch
    obtain ⟨x, q, rfl, h2⟩ := z_num_some h
    clear h
    unfold z_if at h2
    cases cnd <;> dsimp only at h2
    case eq =>
      refine z_W_br (P := x = 0) (fun hP => hk _ _ _ _ _ (by rw [if_pos hP] at h2; exact h2)) (fun hP => hk _ _ _ _ _ (by rw [if_neg hP] at h2; exact h2)) (fun hv => (z_ok_tail hv).2) (fun ad H arr locs cells slots Q hvs kt kf => ?_)
      have hx1 : z_in x := (z_ok_tail hvs).1
      exact lv_if_eq hx hb hdg hoff (fun z => kt ((z_eq32 hx1 z_in0).mp z)) (fun z => kf (fun z2 => z ((z_eq32 hx1 z_in0).mpr z2)))
    case ne =>
      refine z_W_br (P := x ≠ 0) (fun hP => hk _ _ _ _ _ (by rw [if_pos hP] at h2; exact h2)) (fun hP => hk _ _ _ _ _ (by rw [if_neg hP] at h2; exact h2)) (fun hv => (z_ok_tail hv).2) (fun ad H arr locs cells slots Q hvs kt kf => ?_)
      have hx1 : z_in x := (z_ok_tail hvs).1
      exact lv_if_ne hx hb hdg hoff (fun z => kt ((not_congr (z_eq32 hx1 z_in0)).mp z)) (fun z => kf (fun z2 => z2 ((z_eq32 hx1 z_in0).mp z)))
    case lt =>
      refine z_W_br (P := x < 0) (fun hP => hk _ _ _ _ _ (by rw [if_pos hP] at h2; exact h2)) (fun hP => hk _ _ _ _ _ (by rw [if_neg hP] at h2; exact h2)) (fun hv => (z_ok_tail hv).2) (fun ad H arr locs cells slots Q hvs kt kf => ?_)
      have hx1 : z_in x := (z_ok_tail hvs).1
      exact lv_if_lt hx hb hdg hoff (fun z => kt ((z_lt32 hx1 z_in0).mp z)) (fun z => kf (fun z2 => z ((z_lt32 hx1 z_in0).mpr z2)))
    case ge =>
      refine z_W_br (P := 0 ≤ x) (fun hP => hk _ _ _ _ _ (by rw [if_pos hP] at h2; exact h2)) (fun hP => hk _ _ _ _ _ (by rw [if_neg hP] at h2; exact h2)) (fun hv => (z_ok_tail hv).2) (fun ad H arr locs cells slots Q hvs kt kf => ?_)
      have hx1 : z_in x := (z_ok_tail hvs).1
      exact lv_if_ge hx hb hdg hoff (fun z => kt ((z_le32 z_in0 hx1).mp z)) (fun z => kf (fun z2 => z ((z_le32 z_in0 hx1).mpr z2)))
    case gt =>
      refine z_W_br (P := 0 < x) (fun hP => hk _ _ _ _ _ (by rw [if_pos hP] at h2; exact h2)) (fun hP => hk _ _ _ _ _ (by rw [if_neg hP] at h2; exact h2)) (fun hv => (z_ok_tail hv).2) (fun ad H arr locs cells slots Q hvs kt kf => ?_)
      have hx1 : z_in x := (z_ok_tail hvs).1
      exact lv_if_gt hx hb hdg hoff (fun z => kt ((z_lt32 z_in0 hx1).mp z)) (fun z => kf (fun z2 => z ((z_lt32 z_in0 hx1).mpr z2)))
    case le =>
      refine z_W_br (P := x ≤ 0) (fun hP => hk _ _ _ _ _ (by rw [if_pos hP] at h2; exact h2)) (fun hP => hk _ _ _ _ _ (by rw [if_neg hP] at h2; exact h2)) (fun hv => (z_ok_tail hv).2) (fun ad H arr locs cells slots Q hvs kt kf => ?_)
      have hx1 : z_in x := (z_ok_tail hvs).1
      exact lv_if_le hx hb hdg hoff (fun z => kt ((z_le32 hx1 z_in0).mp z)) (fun z => kf (fun z2 => z ((z_le32 hx1 z_in0).mpr z2)))
  case if_icmp cnd off =>
    simp only [z_chk, Bool.and_eq_true, decide_eq_true_eq] at hch
    obtain ⟨hdg, rfl, hoff⟩ := hch
    obtain ⟨x, y, q, rfl, h2⟩ := z_num2_some h
    clear h
    unfold z_if at h2
    cases cnd <;> dsimp only at h2
    case eq =>
      refine z_W_br (P := x = y) (fun hP => hk _ _ _ _ _ (by rw [if_pos hP] at h2; exact h2)) (fun hP => hk _ _ _ _ _ (by rw [if_neg hP] at h2; exact h2)) (fun hv => (z_ok_tail (z_ok_tail hv).2).2) (fun ad H arr locs cells slots Q hvs kt kf => ?_)
      have hx1 : z_in x := (z_ok_tail (z_ok_tail hvs).2).1
      have hy : z_in y := (z_ok_tail hvs).1
      exact lv_icmp_eq hx hb hdg hoff (fun z => kt ((z_eq32 hx1 hy).mp z)) (fun z => kf (fun z2 => z ((z_eq32 hx1 hy).mpr z2)))
    case ne =>
      refine z_W_br (P := x ≠ y) (fun hP => hk _ _ _ _ _ (by rw [if_pos hP] at h2; exact h2)) (fun hP => hk _ _ _ _ _ (by rw [if_neg hP] at h2; exact h2)) (fun hv => (z_ok_tail (z_ok_tail hv).2).2) (fun ad H arr locs cells slots Q hvs kt kf => ?_)
      have hx1 : z_in x := (z_ok_tail (z_ok_tail hvs).2).1
      have hy : z_in y := (z_ok_tail hvs).1
      exact lv_icmp_ne hx hb hdg hoff (fun z => kt ((not_congr (z_eq32 hx1 hy)).mp z)) (fun z => kf (fun z2 => z2 ((z_eq32 hx1 hy).mp z)))
    case lt =>
      refine z_W_br (P := x < y) (fun hP => hk _ _ _ _ _ (by rw [if_pos hP] at h2; exact h2)) (fun hP => hk _ _ _ _ _ (by rw [if_neg hP] at h2; exact h2)) (fun hv => (z_ok_tail (z_ok_tail hv).2).2) (fun ad H arr locs cells slots Q hvs kt kf => ?_)
      have hx1 : z_in x := (z_ok_tail (z_ok_tail hvs).2).1
      have hy : z_in y := (z_ok_tail hvs).1
      exact lv_icmp_lt hx hb hdg hoff (fun z => kt ((z_lt32 hx1 hy).mp z)) (fun z => kf (fun z2 => z ((z_lt32 hx1 hy).mpr z2)))
    case ge =>
      refine z_W_br (P := y ≤ x) (fun hP => hk _ _ _ _ _ (by rw [if_pos hP] at h2; exact h2)) (fun hP => hk _ _ _ _ _ (by rw [if_neg hP] at h2; exact h2)) (fun hv => (z_ok_tail (z_ok_tail hv).2).2) (fun ad H arr locs cells slots Q hvs kt kf => ?_)
      have hx1 : z_in x := (z_ok_tail (z_ok_tail hvs).2).1
      have hy : z_in y := (z_ok_tail hvs).1
      exact lv_icmp_ge hx hb hdg hoff (fun z => kt ((z_le32 hy hx1).mp z)) (fun z => kf (fun z2 => z ((z_le32 hy hx1).mpr z2)))
    case gt =>
      refine z_W_br (P := y < x) (fun hP => hk _ _ _ _ _ (by rw [if_pos hP] at h2; exact h2)) (fun hP => hk _ _ _ _ _ (by rw [if_neg hP] at h2; exact h2)) (fun hv => (z_ok_tail (z_ok_tail hv).2).2) (fun ad H arr locs cells slots Q hvs kt kf => ?_)
      have hx1 : z_in x := (z_ok_tail (z_ok_tail hvs).2).1
      have hy : z_in y := (z_ok_tail hvs).1
      exact lv_icmp_gt hx hb hdg hoff (fun z => kt ((z_lt32 hy hx1).mp z)) (fun z => kf (fun z2 => z ((z_lt32 hy hx1).mpr z2)))
    case le =>
      refine z_W_br (P := x ≤ y) (fun hP => hk _ _ _ _ _ (by rw [if_pos hP] at h2; exact h2)) (fun hP => hk _ _ _ _ _ (by rw [if_neg hP] at h2; exact h2)) (fun hv => (z_ok_tail (z_ok_tail hv).2).2) (fun ad H arr locs cells slots Q hvs kt kf => ?_)
      have hx1 : z_in x := (z_ok_tail (z_ok_tail hvs).2).1
      have hy : z_in y := (z_ok_tail hvs).1
      exact lv_icmp_le hx hb hdg hoff (fun z => kt ((z_le32 hx1 hy).mp z)) (fun z => kf (fun z2 => z ((z_le32 hx1 hy).mpr z2)))
  case ifnull off =>
    simp only [z_chk, Bool.and_eq_true, decide_eq_true_eq] at hch
    obtain ⟨hdg, rfl, hoff⟩ := hch
    obtain ⟨x, q, rfl, h2⟩ := z_ref_some h
    clear h
    refine z_W_br (P := x = 0) (fun hP => hk _ _ _ _ _ (by rw [if_pos hP] at h2; exact h2)) (fun hP => hk _ _ _ _ _ (by rw [if_neg hP] at h2; exact h2)) (fun hv => (z_ok_tail hv).2) (fun ad H arr locs cells slots Q hvs kt kf => ?_)
    by_cases hx0 : x = 0
    · subst hx0
      exact lv_ifnullN hx hb hdg hoff (kt rfl)
    · have hcv : z_cv ad (z_R x) = .ref (ad (x.toNat - 1)) := if_neg hx0
      show W p l e R s m args below meth c H locs cells slots Q (F0 m pc arr (z_cv ad (z_R x) :: q.map (z_cv ad)))
      rw [hcv]
      exact lv_ifnull hx hb hdg (kf hx0)
  case ifnonnull off =>
    simp only [z_chk, Bool.and_eq_true, decide_eq_true_eq] at hch
    obtain ⟨hdg, rfl, hoff⟩ := hch
    obtain ⟨x, q, rfl, h2⟩ := z_ref_some h
    clear h
    refine z_W_br (P := x = 0) (fun hP => hk _ _ _ _ _ (by rw [if_pos hP] at h2; exact h2)) (fun hP => hk _ _ _ _ _ (by rw [if_neg hP] at h2; exact h2)) (fun hv => (z_ok_tail hv).2) (fun ad H arr locs cells slots Q hvs kt kf => ?_)
    by_cases hx0 : x = 0
    · subst hx0
      exact lv_ifnonnullN hx hb hdg (kt rfl)
    · have hcv : z_cv ad (z_R x) = .ref (ad (x.toNat - 1)) := if_neg hx0
      show W p l e R s m args below meth c H locs cells slots Q (F0 m pc arr (z_cv ad (z_R x) :: q.map (z_cv ad)))
      rw [hcv]
      exact lv_ifnonnull hx hb hdg hoff (kf hx0)
  case goto off =>
    simp only [z_chk, Bool.and_eq_true, decide_eq_true_eq] at hch
    obtain ⟨hdg, rfl, hoff⟩ := hch
    exact z_W_st (hk _ _ _ _ _ h) (fun _ _ _ hv => hv) (fun ad H arr locs cells slots Q J hl hvl hvs k => lv_goto hx hb hdg hoff k)
  case tableswitch dflt lo hi offs =>
    simp only [z_chk, Bool.and_eq_true, decide_eq_true_eq] at hch
    obtain ⟨hdg, ⟨hall, hdf⟩, hhi⟩ := hch
    obtain ⟨x, q, rfl, h⟩ := z_num_some h
    rcases z_sw_some h with ⟨i, t, h1, h2, h3⟩ | ⟨h1, h2⟩
    · rw [List.getElem?_map] at h1
      cases ho : offs.toList[i]? with
      | none => rw [ho] at h1; cases h1
      | some o =>
        rw [ho] at h1
        have h1' : ((pc : Int) + o).toNat = t := Option.some.inj h1
        have hpos : 0 ≤ (pc : Int) + o := of_decide_eq_true (List.all_eq_true.mp hall o (List.mem_of_getElem? ho))
        have hil : i < offs.toList.length := (List.getElem?_eq_some_iff.mp ho).1
        refine z_W_st (hk _ _ _ _ _ h3) (fun _ _ _ hv => (z_ok_tail hv).2) (fun ad H arr locs cells slots Q J hl hvl hvs k => ?_)
        have hx1 : z_in x := (z_ok_tail hvs).1
        exact lv_tableIn (x := Int32.ofInt x) (off := o) (tgt := t) hx hb hdg (by rw [z_of32 hx1]; omega) (by rw [z_of32 hx1]; omega) (by rw [z_of32 hx1, show (x - lo).toNat = i by omega, ← Array.getElem?_toList]; exact ho) (by omega) k
    · refine z_W_st (hk _ _ _ _ _ h2) (fun _ _ _ hv => (z_ok_tail hv).2) (fun ad H arr locs cells slots Q J hl hvl hvs k => ?_)
      have hx1 : z_in x := (z_ok_tail hvs).1
      rw [List.length_map] at h1
      exact lv_tableOut (x := Int32.ofInt x) hx hb hdg (by rw [z_of32 hx1]; omega) (by omega) k
  case getfield x =>
    simp only [z_chk, Bool.and_eq_true, decide_eq_true_eq] at hch
    obtain ⟨hdg, ⟨⟨⟨rfl, ha⟩, hf⟩, hty⟩, hw⟩ := hch
    obtain ⟨o, q, rfl, h⟩ := z_ref_some h
    obtain ⟨hkk, h⟩ := z_ite_some h
    subst hty
    exact z_W_get F hkk ha hf (z_has_mem hw) hdg (hk _ _ _ _ _ h)
  case putfield x =>
    simp only [z_chk, Bool.and_eq_true, decide_eq_true_eq] at hch
    obtain ⟨hdg, ⟨⟨⟨⟨rfl, ha⟩, hf⟩, hty⟩, hw⟩, hfin⟩ := hch
    have hfo := z_fto a ha f hf
    have hfin' : (z_T a f).2.2.2 = false ∨ ((z_my mm).name = "<init>" ∧ (z_T a f).1 = (z_my mm).cls) := by
      simpa only [Bool.or_eq_true, Bool.and_eq_true, decide_eq_true_eq] using hfin
    unfold z_put at h
    subst hty
    split at h
    · next h1 =>
      rw [h1] at hfo
      split at h
      · next v o q =>
        obtain ⟨hcn, h⟩ := z_free_some h
        obtain ⟨hkk, h⟩ := z_ite_some h
        refine z_W_put F hkk ha hf (z_has_mem hw) hfin' hdg ?_ (fun ad => ?_) (fun ad => ?_) (hk _ _ _ _ _ h)
        · rw [h1]; unfold z_fv z_gf z_upd; rw [hcn]; simp
        · have h' : z_isref (z_ty a f) = true := hfo
          have hcv : z_cv ad (.inr (.inl v)) = .null ∨ ∃ y, z_cv ad (.inr (.inl v)) = .ref y := by
            by_cases hv0 : v = 0
            · left; exact if_pos hv0
            · right; exact ⟨_, if_neg hv0⟩
          revert h'; cases z_ty a f <;> intro h' <;> first | (rcases hcv with hcv | ⟨y, hcv⟩ <;> rw [hcv] <;> rfl) | cases h'
        · have h' : z_isref (z_ty a f) = true := hfo
          have hcv : z_cv ad (.inr (.inl v)) = .null ∨ ∃ y, z_cv ad (.inr (.inl v)) = .ref y := by
            by_cases hv0 : v = 0
            · left; exact if_pos hv0
            · right; exact ⟨_, if_neg hv0⟩
          revert h'; cases z_ty a f <;> intro h' <;> first | (rcases hcv with hcv | ⟨y, hcv⟩ <;> rw [hcv] <;> rfl) | cases h'
      · cases h
    · next h1 =>
      rw [h1] at hfo
      have hte : z_ty a f = .long := of_decide_eq_true hfo
      split at h
      · obtain ⟨hkk, h⟩ := z_ite_some h
        refine z_W_put F hkk ha hf (z_has_mem hw) hfin' hdg ?_ (fun ad => by rw [hte]; rfl) (fun ad => by rw [hte]; rfl) (hk _ _ _ _ _ h)
        rw [h1]; unfold z_fv z_upd; simp
      · cases h
    · next h1 =>
      rw [h1] at hfo
      have hte : z_ty a f = .boolean := of_decide_eq_true hfo
      split at h
      · obtain ⟨h01, h⟩ := z_ite_some h
        obtain ⟨hkk, h⟩ := z_ite_some h
        refine z_W_put F hkk ha hf (z_has_mem hw) hfin' hdg ?_ (fun ad => by rw [hte]; exact z_bool01 h01) (fun ad => by rw [hte]; rcases h01 with rfl | rfl <;> rfl) (hk _ _ _ _ _ h)
        rw [h1]; unfold z_fv z_upd; simp
      · cases h
    · next h1 h2 h3 =>
      have h0 : z_ft a f = 0 := by
        revert hfo h1 h2 h3; generalize z_ft a f = n; intro hfo h1 h2 h3
        match n, hfo with
        | 0, _ => rfl
        | 1, _ => exact absurd rfl h1
        | 2, _ => exact absurd rfl h2
        | 3, _ => exact absurd rfl h3
        | n + 4, hfo => cases hfo
      rw [h0] at hfo
      have hte : z_ty a f = .int := of_decide_eq_true hfo
      split at h
      · obtain ⟨hkk, h⟩ := z_ite_some h
        refine z_W_put F hkk ha hf (z_has_mem hw) hfin' hdg ?_ (fun ad => by rw [hte]; rfl) (fun ad => by rw [hte]; rfl) (hk _ _ _ _ _ h)
        rw [h0]; unfold z_fv z_upd; simp
      · cases h
  case iaload =>
    simp only [z_chk, Bool.and_eq_true, decide_eq_true_eq] at hch
    obtain ⟨hdg, rfl⟩ := hch
    obtain ⟨i, q, rfl, h⟩ := z_num_some h
    obtain ⟨o, q, rfl, h⟩ := z_ref_some h
    obtain ⟨⟨hkk, h0, h1⟩, h⟩ := z_ite_some h
    exact z_W_ald (ins := .iaload) F (t := 1) (by omega) (by omega) (by omega) h0 h1 (fun hP ha hin k => va_iald hx hb hK hP _ 0 ha hK0 hin hdg k) (hk _ _ _ _ _ h)
  case caload =>
    simp only [z_chk, Bool.and_eq_true, decide_eq_true_eq] at hch
    obtain ⟨hdg, rfl⟩ := hch
    obtain ⟨i, q, rfl, h⟩ := z_num_some h
    obtain ⟨o, q, rfl, h⟩ := z_ref_some h
    obtain ⟨⟨hkk, h0, h1⟩, h⟩ := z_ite_some h
    exact z_W_ald (ins := .caload) F (t := 4) (by omega) (by omega) (by omega) h0 h1 (fun hP ha hin k => va_cald hx hb hK hP _ 3 ha hK3 hin hdg k) (hk _ _ _ _ _ h)
  case baload =>
    simp only [z_chk, Bool.and_eq_true, decide_eq_true_eq] at hch
    obtain ⟨hdg, rfl⟩ := hch
    obtain ⟨i, q, rfl, h⟩ := z_num_some h
    obtain ⟨o, q, rfl, h⟩ := z_ref_some h
    obtain ⟨⟨hkk, h0, h1⟩, h⟩ := z_ite_some h
    rcases hkk with hkk | hkk
    · exact z_W_ald (ins := .baload) F (t := 2) hkk (by omega) (by omega) h0 h1 (fun hP ha hin k => va_zald hx hb hK hP _ 1 ha hK1 hin hdg k) (hk _ _ _ _ _ h)
    · exact z_W_ald (ins := .baload) F (t := 3) hkk (by omega) (by omega) h0 h1 (fun hP ha hin k => va_bald hx hb hK hP _ 2 ha hK2 hin hdg k) (hk _ _ _ _ _ h)
  case iastore =>
    simp only [z_chk, Bool.and_eq_true, decide_eq_true_eq] at hch
    obtain ⟨hdg, rfl⟩ := hch
    obtain ⟨i, v, q, rfl, h⟩ := z_num2_some h
    obtain ⟨o, q, rfl, h⟩ := z_ref_some h
    obtain ⟨⟨hkk, h0, h1⟩, h⟩ := z_ite_some h
    intro hho hso hvl hvs
    exact z_W_ast F (t := 1) hkk (by omega) (by omega) h0 h1 rfl (z_ok_tail hvs).1 (fun hP hD hS ha hin kk => va_iast hx hb hK hP hD hS _ 0 ha hK0 hin hdg kk) (hk _ _ _ _ _ h) hho hso hvl hvs
  case castore =>
    simp only [z_chk, Bool.and_eq_true, decide_eq_true_eq] at hch
    obtain ⟨hdg, rfl⟩ := hch
    obtain ⟨i, v, q, rfl, h⟩ := z_num2_some h
    obtain ⟨o, q, rfl, h⟩ := z_ref_some h
    obtain ⟨⟨hkk, h0, h1⟩, h⟩ := z_ite_some h
    refine z_W_ast F (t := 4) hkk (by omega) (by omega) h0 h1 (g := vp_nar .char (Int32.ofInt v)) ?_ (z_in32 _) (fun hP hD hS ha hin kk => va_cast hx hb hK hP hD hS _ 3 ha hK3 hin hdg kk) (hk _ _ _ _ _ h)
    rw [vp_nar_char, z_u16]
    exact Int32.ofInt_toInt _
  case bastore =>
    simp only [z_chk, Bool.and_eq_true, decide_eq_true_eq] at hch
    obtain ⟨hdg, rfl⟩ := hch
    obtain ⟨i, v, q, rfl, h⟩ := z_num2_some h
    obtain ⟨o, q, rfl, h⟩ := z_ref_some h
    cases hab : Nat.beq a 2 with
    | true =>
      rw [hab] at h
      dsimp only [cond_true] at h
      obtain ⟨h01, h⟩ := z_ite_some h
      obtain ⟨⟨hkk, h0, h1⟩, h⟩ := z_ite_some h
      refine z_W_ast F (t := 2) hkk (by omega) (by omega) h0 h1 (g := vp_nar .boolean (Int32.ofInt v)) ?_ (by rcases h01 with rfl | rfl <;> (constructor <;> omega)) (fun hP hD hS ha hin kk => va_zast hx hb hK hP hD hS _ 1 ha hK1 hin hdg kk) (hk _ _ _ _ _ h)
      rcases h01 with rfl | rfl <;> rfl
    | false =>
      rw [hab] at h
      dsimp only [cond_false] at h
      obtain ⟨⟨hkk, h0, h1⟩, h⟩ := z_ite_some h
      refine z_W_ast F (t := 3) hkk (by omega) (by omega) h0 h1 (g := vp_nar .byte (Int32.ofInt v)) ?_ (z_in32 _) (fun hP hD hS ha hin kk => va_bast hx hb hK hP hD hS _ 2 ha hK2 hin hdg kk) (hk _ _ _ _ _ h)
      rw [vp_nar_byte]
      exact Int32.ofInt_toInt _
  case arraylength =>
    simp only [z_chk, Bool.and_eq_true, decide_eq_true_eq] at hch
    obtain ⟨hdg, rfl⟩ := hch
    obtain ⟨o, q, rfl, h⟩ := z_ref_some h
    obtain ⟨⟨h1, h4⟩, h⟩ := z_ite_some h
    obtain ⟨j, n, rfl, hj, hn, hjl⟩ := z_k_pos (k := z_k hd o) rfl (by omega)
    refine z_W_st (hk _ _ _ _ _ h) (fun _ hho _ hv => z_ok_cons ?_ (z_ok_tail hv).2) (fun ad H arr locs cells slots Q J hl hvl hvs k => ?_)
    · have h9 := (hho j _ hj).1 (by dsimp only; omega)
      rw [hn]
      have h91 := h9.2.2.1
      have h92 := h9.2.2.2
      constructor <;> (dsimp only at h91 h92; omega)
    · have h9 := (J.2.2.2.1 j _ hj).1 (by dsimp only; omega)
      have he : (z_wd dA hc ad hd σ)[j]? = some (ad j, .inl (dA (z_k hd ((j : Int) + 1)), n.toNat, .inl (fun i => Int32.ofInt (σ (j + 1) i)))) := by
        rw [z_wd_get hj]
        unfold z_cell
        rw [if_pos (by dsimp only; omega)]
      have hnn : Int32.ofNat n.toNat = Int32.ofInt (z_n hd ((j : Int) + 1)) := by
        rw [hn, ← Int32.ofInt_eq_ofNat]; congr 1; have := h9.2.2.1; dsimp only at this; omega
      show W p l e R s m args below meth c H locs cells slots Q (F0 m pc arr (z_cv ad (z_R ((j : Int) + 1)) :: q.map (z_cv ad)))
      rw [z_cv_R]
      have h5 : z_k hd ((j : Int) + 1) = 1 ∨ z_k hd ((j : Int) + 1) = 2 ∨ z_k hd ((j : Int) + 1) = 3 ∨ z_k hd ((j : Int) + 1) = 4 := by omega
      rcases h5 with h5 | h5 | h5 | h5 <;> rw [h5] at he
      · exact va_alen hx hb hK J.1 j 0 he hK0 hnn hdg k
      · exact va_alen hx hb hK J.1 j 1 he hK1 hnn hdg k
      · exact va_alen hx hb hK J.1 j 2 he hK2 hnn hdg k
      · exact va_alen hx hb hK J.1 j 3 he hK3 hnn hdg k
  case newarray t =>
    simp only [z_chk, Bool.and_eq_true, decide_eq_true_eq] at hch
    obtain ⟨hdg, ⟨⟨rfl, hat⟩, hpos⟩, hw⟩ := hch
    obtain ⟨n, q, rfl, h⟩ := z_num_some h
    obtain ⟨⟨h0, h1⟩, h⟩ := z_ite_some h
    subst hat
    exact z_W_newa F hRc hRs h0 h1 hpos (z_has_mem hw) hdg (hk _ _ _ _ _ h)
  case new x =>
    simp only [z_chk, Bool.and_eq_true, decide_eq_true_eq] at hch
    obtain ⟨hdg, ⟨⟨⟨⟨rfl, ha⟩, hbn⟩, hw⟩, hw1⟩, hw2⟩ := hch
    obtain ⟨hn, h⟩ := z_free_some h
    subst hbn
    exact z_W_new F hRc hRs (hdyn hn) ha (z_has_mem hw) (List.mem_filter.mpr ⟨hw1, rfl⟩) (List.mem_filter.mpr ⟨hw2, rfl⟩) hdg (hk _ _ _ _ _ h)
  case ireturn =>
    simp only [z_chk, Bool.and_eq_true, decide_eq_true_eq] at hch
    simp only [Bool.or_eq_true, Bool.and_eq_true, decide_eq_true_eq] at hch
    obtain ⟨hdg, rfl, hch⟩ := hch
    unfold z_one at h
    split at h
    · next x =>
      have fin : ∀ ty, z_mr mm = some ty → narrow ty (.int (Int32.ofInt x)) = .int (Int32.ofInt x) → r = (z_I x, hd, σ) → z_W p l e R s m args below meth c dC dI dA hc mm ad0 n0 s0 r pc ls [.inl x] hd σ := by
        intro ty hty hnar hr hho hso hvl hvs
        subst hr
        refine ⟨⟨⟨[], by simp⟩, hho, hso, (z_ok_tail hvs).1⟩, fun ad H arr locs cells slots J hl => ?_⟩
        obtain ⟨hP, hD, hS, -, -, had, hce, hsl⟩ := J
        have e1 : hd.length - n0 = cells := by omega
        have e2 : z_sl hd - s0 = slots := by omega
        show W p l e R s m args below meth c H locs cells slots (MQ below _ args s (hd.length - n0) (z_sl hd - s0) _) _
        rw [e1, e2]
        exact W.zret (ty := ty) hx hb (hret.trans hty) hnar (fun t ht hW => ⟨⟨ad, had, rfl, (z_ok_tail hvs).1, hho, hso, by rw [ht]; exact hP, hD⟩, hS.F ht⟩) hS.2.2 hdg hlk
      rcases hch with ⟨ha, hr⟩ | ⟨ha, hr⟩
      · subst ha
        have h' : (if x = 0 ∨ x = 1 then some (z_I x, hd, σ) else none) = some r := h
        obtain ⟨h01, h'⟩ := z_ite_some h'
        cases h'
        exact fin _ hr (z_bool01 h01) rfl
      · subst ha
        have h' : some (z_I x, hd, σ) = some r := h
        cases h'
        exact fin _ hr rfl rfl
    · cases h
  case return_ =>
    simp only [z_chk, Bool.and_eq_true, decide_eq_true_eq] at hch
    obtain ⟨hdg, rfl, hmr⟩ := hch
    unfold z_end at h
    split at h
    · cases h
      intro hho hso hvl hvs
      refine ⟨⟨⟨[], by simp⟩, hho, hso, trivial⟩, fun ad H arr locs cells slots J hl => ?_⟩
      obtain ⟨hP, hD, hS, -, -, had, hce, hsl⟩ := J
      have e1 : hd.length - n0 = cells := by omega
      have e2 : z_sl hd - s0 = slots := by omega
      show W p l e R s m args below meth c H locs cells slots (MQ below _ args s (hd.length - n0) (z_sl hd - s0) _) _
      rw [e1, e2]
      exact W.vret hx hb (hret.trans hmr) (fun t ht hW => ⟨⟨ad, had, rfl, trivial, hho, hso, by rw [ht]; exact hP, hD⟩, hS.F ht⟩) hS.2.2 hdg hlk
    · cases h
  case invokevirtual x =>
    simp only [z_chk, Bool.and_eq_true, decide_eq_true_eq] at hch
    simp only [z_chkI, Bool.and_eq_true, Bool.or_eq_true, decide_eq_true_eq] at hch
    obtain ⟨hdg, ⟨rfl, hlink⟩, ⟨⟨⟨hkd, hnp⟩, hmr⟩, hcb⟩, hself⟩ := hch
    have hnp : f = z_np a + 1 := hnp
    obtain ⟨hcl, hb13⟩ : z_cl b.toNat = (z_my a).cls ∧ b.toNat < 13 := by rcases hcb with h0 | h0; exact absurd h0 (by decide); exact h0
    obtain ⟨as, qs, rfl, hal, hcq, h⟩ := z_pop_some h
    rw [List.append_nil] at h
    have ok := allok a hself
    obtain ⟨o, t, rfl, hko, h⟩ := z_recv_some h
    obtain ⟨j, n, rfl, hj, -, hjl⟩ := z_k_pos hko (by omega)
    obtain ⟨r', hcall, h⟩ := z_res_some h
    intro hho hso hvl hvs
    have hvas : ∀ v ∈ (z_R ((j : Int) + 1) :: t), z_vok hd.length v := fun v hv => hvs v (List.mem_append_left _ (List.mem_reverse.mpr hv))
    have hvq : ∀ v ∈ qs, z_vok hd.length v := fun v hv => hvs v (List.mem_append_right _ hv)
    obtain ⟨⟨⟨x', hx'⟩, hfh, hfs, hfv⟩, hMet⟩ := IH a (z_R ((j : Int) + 1) :: t) hd σ r' hcall hself hho hso hvas
    have hz := hk _ _ _ _ _ h
    have hB := z_callB (hd := hd) (r' := r') F ok rfl (z_has_mem hlink)
    obtain ⟨m1, m2, m3, m4, m5, m6, m7, m8, m9, m10⟩ := z_mchk_of ok
    have hle : hd.length ≤ r'.2.1.length := by rw [hx', List.length_append]; omega
    obtain ⟨⟨⟨y, hy⟩, hfin⟩, -⟩ := hz hfh hfs (fun v hv => z_vok_le hle (hvl v hv)) (z_rl_ok hfv (fun v hv => z_vok_le hle (hvq v hv)))
    refine ⟨⟨⟨x' ++ y, by rw [hy, hx', List.append_assoc]⟩, hfin⟩, fun ad H arr locs cells slots J hl => ?_⟩
    have hcel := J.2.2.2.2.2.2.1
    have hslo := J.2.2.2.2.2.2.2
    have hl1 : r.2.1.length = r'.2.1.length + y.length := by rw [hy, List.length_append]
    have hl2 : z_sl r.2.1 = z_sl r'.2.1 + z_sl y := by rw [hy, z_sl_app]
    have hl3 : z_sl r'.2.1 = z_sl hd + z_sl x' := by rw [hx', z_sl_app]
    have hroom : cells + (r'.2.1.length - hd.length) ≤ R.cells ∧ slots + (z_sl r'.2.1 - z_sl hd) ≤ R.slots := by rw [hRc, hRs]; constructor <;> omega
    have hcats : ((qs.map (z_cv ad)).map fun v => v.category).sum ≤ 8 := by rw [z_cats_cv]; exact hcq
    have hPre : ∀ U : State, U.heap = H → s.WarmedH U.vm → z_Pc dC dI dA hc (z_R ((j : Int) + 1) :: t) hd σ ad H.size (((z_R ((j : Int) + 1) :: t).map (z_cv ad)).toArray) U := fun U hU hW => ⟨rfl, by rw [hU], by rw [hU]; exact J.1, va_K.moved hW.alike hK, J.2.1.weaken (fun _ _ _ _ => trivial)⟩
    have hstk : ((z_R ((j : Int) + 1) :: t).reverse ++ qs).map (z_cv ad) = (t.map (z_cv ad)).reverse ++ .ref (ad j) :: qs.map (z_cv ad) := by
      rw [List.map_append, List.map_reverse, List.map_cons, z_cv_R, List.reverse_cons, List.append_assoc]; rfl
    rw [hstk]
    rw [List.map_cons, z_cv_R] at hPre
    rw [List.length_cons] at hal
    have h10 : 10 + b.toNat - 10 = b.toNat := by omega
    have hrecv : ∃ cellB : Cell, H[ad j]? = some cellB ∧ cellB.vm.isStatics = false ∧ s.vm.findClass (z_my a).cls = some cellB.cls := by
      have he : (z_wd dA hc ad hd σ)[j]? = some (ad j, .inr (b.toNat, (List.range n.toNat).map (fun f => z_cv ad (z_fv hc σ (j + 1) f (z_ft b.toNat f))))) := by
        rw [z_wd_get hj]
        unfold z_cell
        rw [if_neg (by show ¬ 10 + b.toNat < 10; omega)]
        show some (ad j, Sum.inr (10 + b.toNat - 10, _)) = _
        rw [h10]
      have h0 := va_recv hK J.1 (z_vwCl b.toNat hb13) he
      rw [show (z_cl b.toNat, z_T b.toNat, z_nf b.toNat).1 = (z_my a).cls from hcl] at h0
      exact h0
    exact z_W_ran (va_runV (C := (z_my a).cls) (b := ad j) (As := t.map (z_cv ad)) (rest := qs.map (z_cv ad)) ⟨hx, hb, hml, hown, hts⟩ (hMet ad H.size) ⟨hB, hts _ (m8 (by omega)), hts _ (m9 hkd)⟩ ⟨z_Pc_blind, hrecv, hPre⟩ rfl (by rw [List.length_map]; omega) hl.1.1 rfl (lv_room hcats) hdg hroom) rfl rfl ⟨x', hx'⟩ J hl hvl hvq hz
  case invokespecial x =>
    simp only [z_chk, Bool.and_eq_true, decide_eq_true_eq] at hch
    obtain ⟨hdg, rfl, hch⟩ := hch
    by_cases ha : a = 9998
    · subst ha
      rw [if_pos rfl] at hch
      have h' : (z_ref st fun o r => if 10 ≤ z_k hd o ∧ z_cats r ≤ 8 then k (pc + 3) ls r hd σ else none) = some r := h
      obtain ⟨o, q, rfl, h2⟩ := z_ref_some h'
      obtain ⟨⟨hko, hcq⟩, h3⟩ := z_ite_some h2
      clear h h' h2
      obtain ⟨j, n, rfl, hj, -, hjl⟩ := z_k_pos (k := z_k hd o) rfl (by omega)
      refine z_W_st (hk _ _ _ _ _ h3) (fun _ _ _ hv => (z_ok_tail hv).2) (fun ad H arr locs cells slots Q J hl hvl hvs k => ?_)
      show W p l e R s m args below meth c H locs cells slots Q (F0 m pc arr (z_cv ad (z_R ((j : Int) + 1)) :: q.map (z_cv ad)))
      rw [z_cv_R]
      have hcats : ((q.map (z_cv ad)).map fun v => v.category).sum ≤ 8 := by rw [z_cats_cv]; exact hcq
      exact W.objInit hx hb hown (hts _ (z_has_mem hch)) (hts _ (z_has_mem z_oi1)) (hts _ z_oi2m) rfl (hl.1.1.trans hml.symm) rfl hdg (by rw [hRf]; omega) (by show 2 * 0 + _ + 12 ≤ R.locals; rw [hRl]; omega) k
    · rw [if_neg ha] at hch
      simp only [z_chkI, Bool.and_eq_true, Bool.or_eq_true, decide_eq_true_eq] at hch
      obtain ⟨⟨hlink, ⟨⟨⟨hkd, hnp⟩, hmr⟩, hcb⟩, hself⟩, hmrn⟩ := hch
      have hnp : f = z_np a + 1 := hnp
      have hab : Nat.beq a 9998 = false := by
        rw [← Bool.not_eq_true]; exact fun z => ha (Nat.eq_of_beq_eq_true z)
      rw [hab] at h
      dsimp only [cond_false] at h
      obtain ⟨as, qs, rfl, hal, hcq, h⟩ := z_pop_some h
      rw [List.append_nil] at h
      have ok := allok a hself
      obtain ⟨o, t, rfl, hko, h⟩ := z_recv_some h
      obtain ⟨j, n, rfl, hj, -, hjl⟩ := z_k_pos hko (by omega)
      obtain ⟨r', hcall, h⟩ := z_res_some h
      intro hho hso hvl hvs
      have hvas : ∀ v ∈ (z_R ((j : Int) + 1) :: t), z_vok hd.length v := fun v hv => hvs v (List.mem_append_left _ (List.mem_reverse.mpr hv))
      have hvq : ∀ v ∈ qs, z_vok hd.length v := fun v hv => hvs v (List.mem_append_right _ hv)
      obtain ⟨⟨⟨x', hx'⟩, hfh, hfs, hfv⟩, hMet⟩ := IH a (z_R ((j : Int) + 1) :: t) hd σ r' hcall hself hho hso hvas
      have hz := hk _ _ _ _ _ h
      have hB := z_callB (hd := hd) (r' := r') F ok rfl (z_has_mem hlink)
      obtain ⟨m1, m2, m3, m4, m5, m6, m7, m8, m9, m10⟩ := z_mchk_of ok
      have hle : hd.length ≤ r'.2.1.length := by rw [hx', List.length_append]; omega
      obtain ⟨⟨⟨y, hy⟩, hfin⟩, -⟩ := hz hfh hfs (fun v hv => z_vok_le hle (hvl v hv)) (z_rl_ok hfv (fun v hv => z_vok_le hle (hvq v hv)))
      refine ⟨⟨⟨x' ++ y, by rw [hy, hx', List.append_assoc]⟩, hfin⟩, fun ad H arr locs cells slots J hl => ?_⟩
      have hcel := J.2.2.2.2.2.2.1
      have hslo := J.2.2.2.2.2.2.2
      have hl1 : r.2.1.length = r'.2.1.length + y.length := by rw [hy, List.length_append]
      have hl2 : z_sl r.2.1 = z_sl r'.2.1 + z_sl y := by rw [hy, z_sl_app]
      have hl3 : z_sl r'.2.1 = z_sl hd + z_sl x' := by rw [hx', z_sl_app]
      have hroom : cells + (r'.2.1.length - hd.length) ≤ R.cells ∧ slots + (z_sl r'.2.1 - z_sl hd) ≤ R.slots := by rw [hRc, hRs]; constructor <;> omega
      have hcats : ((qs.map (z_cv ad)).map fun v => v.category).sum ≤ 8 := by rw [z_cats_cv]; exact hcq
      have hPre : ∀ U : State, U.heap = H → s.WarmedH U.vm → z_Pc dC dI dA hc (z_R ((j : Int) + 1) :: t) hd σ ad H.size (((z_R ((j : Int) + 1) :: t).map (z_cv ad)).toArray) U := fun U hU hW => ⟨rfl, by rw [hU], by rw [hU]; exact J.1, va_K.moved hW.alike hK, J.2.1.weaken (fun _ _ _ _ => trivial)⟩
      have hstk : ((z_R ((j : Int) + 1) :: t).reverse ++ qs).map (z_cv ad) = (t.map (z_cv ad)).reverse ++ .ref (ad j) :: qs.map (z_cv ad) := by
        rw [List.map_append, List.map_reverse, List.map_cons, z_cv_R, List.reverse_cons, List.append_assoc]; rfl
      rw [hstk]
      rw [List.map_cons, z_cv_R] at hPre
      rw [List.length_cons] at hal
      rw [hmrn] at hB
      exact z_W_ran (va_runI (b := ad j) (As := t.map (z_cv ad)) (rest := qs.map (z_cv ad)) ⟨hx, hb, hml, hown, hts⟩ (hMet ad H.size) ⟨hB, m10 hkd, hts _ (m8 (by omega))⟩ ⟨z_Pc_blind, hPre⟩ rfl (by rw [List.length_map]; omega) hl.1.1 rfl (lv_room hcats) hdg hroom) rfl rfl ⟨x', hx'⟩ J hl hvl hvq hz
  case invokestatic x =>
    simp only [z_chk, Bool.and_eq_true, decide_eq_true_eq] at hch
    obtain ⟨hdg, rfl, hch⟩ := hch
    by_cases ha : 9990 ≤ a
    · have hab : Nat.ble 9990 a = true := Nat.ble_eq_true_of_le ha
      rw [hab] at h
      dsimp only [cond_true] at h
      by_cases h9 : a = 9999
      · subst h9
        rw [if_pos rfl] at hch
        have h' : z_copy hd σ st (fun σ r => k (pc + 3) ls r hd σ) = some r := h
        obtain ⟨n, dp, dd, sp, ss, q, rfl, hcq, hcc, h'⟩ := z_copy_some h'
        exact z_W_copy F hcc hcq (z_has_mem hch) hdg (hk _ _ _ _ _ h')
      · have hab9 : Nat.beq a 9999 = false := by
          rw [← Bool.not_eq_true]; exact fun z => h9 (Nat.eq_of_beq_eq_true z)
        rw [hab9] at h
        dsimp only [cond_false] at h
        rw [if_neg h9] at hch
        unfold z_math at h
        by_cases h5 : a = 9995
        · subst h5
          rw [if_pos rfl] at hch
          have h' : (z_num2 st fun x y q => if z_cats q ≤ 8 then k (pc + 3) ls (z_I (if x < y then y else x) :: q) hd σ else none) = some r := h
          obtain ⟨x, y, q, rfl, h'⟩ := z_num2_some h'
          obtain ⟨hcq, h'⟩ := z_ite_some h'
          refine z_W_math (hk _ _ _ _ _ h') (fun hv => by split <;> first | exact (z_ok_tail hv).1 | exact (z_ok_tail (z_ok_tail hv).2).1) (fun hv => (z_ok_tail (z_ok_tail hv).2).2) hRc hRs (fun ad H arr locs cells slots Q hl hvs hcc hcs k => ?_)
          have hx1 : z_in x := (z_ok_tail (z_ok_tail hvs).2).1
          have hy1 : z_in y := (z_ok_tail hvs).1
          refine va_mmax hx hb (hml.trans hl.1.1.symm) hown (hts _ (z_has_mem hch)) (hts _ (z_mem_of z_ms_max rfl)) (hts _ (z_has_mem z_iniMath)) (hts _ (z_mem_of z_mc_max rfl)) (by rw [hRf]; omega) (by rw [z_cats_cv, hRl]; omega) hcc hcs hdg ?_
          rw [show (if Int32.ofInt x < Int32.ofInt y then Int32.ofInt y else Int32.ofInt x) = Int32.ofInt (if x < y then y else x) by simp only [z_lt32 hx1 hy1]; split <;> rfl]
          exact k
        · rw [if_neg h5] at hch
          by_cases h6 : a = 9996
          · subst h6
            rw [if_pos rfl] at hch
            have h' : (z_num2 st fun x y q => if z_cats q ≤ 8 then k (pc + 3) ls (z_I (if y < x then y else x) :: q) hd σ else none) = some r := h
            obtain ⟨x, y, q, rfl, h'⟩ := z_num2_some h'
            obtain ⟨hcq, h'⟩ := z_ite_some h'
            refine z_W_math (hk _ _ _ _ _ h') (fun hv => by split <;> first | exact (z_ok_tail hv).1 | exact (z_ok_tail (z_ok_tail hv).2).1) (fun hv => (z_ok_tail (z_ok_tail hv).2).2) hRc hRs (fun ad H arr locs cells slots Q hl hvs hcc hcs k => ?_)
            have hx1 : z_in x := (z_ok_tail (z_ok_tail hvs).2).1
            have hy1 : z_in y := (z_ok_tail hvs).1
            refine va_mmin hx hb (hml.trans hl.1.1.symm) hown (hts _ (z_has_mem hch)) (hts _ (z_mem_of z_ms_min rfl)) (hts _ (z_has_mem z_iniMath)) (hts _ (z_mem_of z_mc_min rfl)) (by rw [hRf]; omega) (by rw [z_cats_cv, hRl]; omega) hcc hcs hdg ?_
            rw [show (if Int32.ofInt y < Int32.ofInt x then Int32.ofInt y else Int32.ofInt x) = Int32.ofInt (if y < x then y else x) by simp only [z_lt32 hy1 hx1]; split <;> rfl]
            exact k
          · rw [if_neg h6] at hch
            by_cases h7 : a = 9997
            · subst h7
              rw [if_pos rfl] at hch
              have h' : (z_num st fun x q => if z_cats q ≤ 8 then k (pc + 3) ls (z_I (if 0 ≤ x then x else z_w (0 - x)) :: q) hd σ else none) = some r := h
              obtain ⟨x, q, rfl, h'⟩ := z_num_some h'
              obtain ⟨hcq, h'⟩ := z_ite_some h'
              refine z_W_math (hk _ _ _ _ _ h') (fun hv => by split <;> first | exact (z_ok_tail hv).1 | exact z_in32 _) (fun hv => (z_ok_tail hv).2) hRc hRs (fun ad H arr locs cells slots Q hl hvs hcc hcs k => ?_)
              have hx1 : z_in x := (z_ok_tail hvs).1
              refine va_mabs hx hb (hml.trans hl.1.1.symm) hown (hts _ (z_has_mem hch)) (hts _ (z_mem_of z_ms_abs rfl)) (hts _ (z_has_mem z_iniMath)) (hts _ (z_mem_of z_mc_abs rfl)) (by rw [hRf]; omega) (by rw [z_cats_cv, hRl]; omega) hcc hcs hdg ?_
              rw [show (if 0 ≤ Int32.ofInt x then Int32.ofInt x else 0 - Int32.ofInt x) = Int32.ofInt (if 0 ≤ x then x else z_w (0 - x)) by
                have h0 : (0 ≤ Int32.ofInt x) ↔ 0 ≤ x := z_le32 z_in0 hx1
                simp only [h0]; split
                · rfl
                · rw [z_ofw, Int32.ofInt_sub]; rfl]
              exact k
            · rw [if_neg h7] at hch
              simp only [Bool.and_eq_true, decide_eq_true_eq] at hch
              omega
    · have hab : Nat.ble 9990 a = false := by
        rw [← Bool.not_eq_true]; exact fun z => ha (Nat.le_of_ble_eq_true z)
      rw [hab] at h
      dsimp only [cond_false] at h
      rw [if_neg (by omega), if_neg (by omega), if_neg (by omega), if_neg (by omega)] at hch
      simp only [z_chkI, Bool.and_eq_true, Bool.or_eq_true, decide_eq_true_eq] at hch
      obtain ⟨⟨h9990, hlink⟩, ⟨⟨⟨hkd, hnp⟩, hmr⟩, hcb⟩, hself⟩ := hch
      obtain ⟨as, qs, rfl, hal, hcq, h⟩ := z_pop_some h
      rw [List.append_nil] at h
      have ok := allok a hself
      obtain ⟨r', hcall, h⟩ := z_res_some h
      intro hho hso hvl hvs
      have hvas : ∀ v ∈ as, z_vok hd.length v := fun v hv => hvs v (List.mem_append_left _ (List.mem_reverse.mpr hv))
      have hvq : ∀ v ∈ qs, z_vok hd.length v := fun v hv => hvs v (List.mem_append_right _ hv)
      obtain ⟨⟨⟨x', hx'⟩, hfh, hfs, hfv⟩, hMet⟩ := IH a as hd σ r' hcall hself hho hso hvas
      have hz := hk _ _ _ _ _ h
      have hB := z_callB (hd := hd) (r' := r') F ok rfl (z_has_mem hlink)
      obtain ⟨m1, m2, m3, m4, m5, m6, m7, m8, m9, m10⟩ := z_mchk_of ok
      have hle : hd.length ≤ r'.2.1.length := by rw [hx', List.length_append]; omega
      obtain ⟨⟨⟨y, hy⟩, hfin⟩, -⟩ := hz hfh hfs (fun v hv => z_vok_le hle (hvl v hv)) (z_rl_ok hfv (fun v hv => z_vok_le hle (hvq v hv)))
      refine ⟨⟨⟨x' ++ y, by rw [hy, hx', List.append_assoc]⟩, hfin⟩, fun ad H arr locs cells slots J hl => ?_⟩
      have hcel := J.2.2.2.2.2.2.1
      have hslo := J.2.2.2.2.2.2.2
      have hl1 : r.2.1.length = r'.2.1.length + y.length := by rw [hy, List.length_append]
      have hl2 : z_sl r.2.1 = z_sl r'.2.1 + z_sl y := by rw [hy, z_sl_app]
      have hl3 : z_sl r'.2.1 = z_sl hd + z_sl x' := by rw [hx', z_sl_app]
      have hroom : cells + (r'.2.1.length - hd.length) ≤ R.cells ∧ slots + (z_sl r'.2.1 - z_sl hd) ≤ R.slots := by rw [hRc, hRs]; constructor <;> omega
      have hcats : ((qs.map (z_cv ad)).map fun v => v.category).sum ≤ 8 := by rw [z_cats_cv]; exact hcq
      have hPre : ∀ U : State, U.heap = H → s.WarmedH U.vm → z_Pc dC dI dA hc as hd σ ad H.size ((as.map (z_cv ad)).toArray) U := fun U hU hW => ⟨rfl, by rw [hU], by rw [hU]; exact J.1, va_K.moved hW.alike hK, J.2.1.weaken (fun _ _ _ _ => trivial)⟩
      have hstk : (as.reverse ++ qs).map (z_cv ad) = (as.map (z_cv ad)).reverse ++ qs.map (z_cv ad) := by rw [List.map_append, List.map_reverse]
      rw [hstk]
      exact z_W_ran (va_runS (As := as.map (z_cv ad)) (rest := qs.map (z_cv ad)) ⟨hx, hb, hml, hown, hts⟩ (hMet ad H.size) ⟨hB, hts _ (m7 hkd)⟩ ⟨z_Pc_blind, hPre⟩ rfl (by rw [List.length_map, hal, hnp]; simp) hl.1.1 rfl (lv_room hcats) hdg hroom) rfl rfl ⟨x', hx'⟩ J hl hvl hvq hz
end ZT
