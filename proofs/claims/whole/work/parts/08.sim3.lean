section ZFN
variable {dC : Nat → ClassId} {hc : z_C} {mm d : Nat} {r : z_Res} {ls st : List z_V} {hd : z_H} {σ : z_S}
/-- the calls, one level less deep: what they leave -/
def z_FH (hc : z_C) (d : Nat) : Prop := ∀ (a : Nat) (as : List z_V) (hd : z_H) (σ : z_S) (r : z_Res), z_ev hc d a as hd σ = some r → (z_mp a).1 = a → z_hok hd → z_sok hc hd σ → (∀ v ∈ as, z_vok hd.length v) → z_fin hc hd r
theorem z_fin_le {hd' : z_H} {y : z_H} (hy : hd' = hd ++ y) (h : z_fin hc hd' r) : z_fin hc hd r := by
  obtain ⟨⟨x, hx⟩, h⟩ := h
  exact ⟨⟨y ++ x, by rw [hx, hy, List.append_assoc]⟩, h⟩
theorem z_vok_app {n k : Nat} {l : List z_V} (h : ∀ v ∈ l, z_vok n v) : ∀ v ∈ l, z_vok (n + k) v := fun v hv => z_vok_le (by omega) (h v hv)
set_option maxHeartbeats 8000000 in
theorem z_step_fin (hdyn : hc 0 0 = none → ∀ o f, hc o f = none) (allok : ∀ a, (z_mp a).1 = a → z_okm a) (IH : z_FH hc d)
    {k : Nat → List z_V → List z_V → z_H → z_S → Option z_Res} (hk : ∀ pc ls st hd σ, k pc ls st hd σ = some r → z_hok hd → z_sok hc hd σ → (∀ v ∈ ls, z_vok hd.length v) → (∀ v ∈ st, z_vok hd.length v) → z_fin hc hd r)
    {e' : z_E} (hch : z_chk mm e' = true) (h : z_step (z_ev hc d) hc e' ls st hd σ k some = some r) (hho : z_hok hd) (hso : z_sok hc hd σ) (hvl : ∀ v ∈ ls, z_vok hd.length v) (hvs : ∀ v ∈ st, z_vok hd.length v) : z_fin hc hd r := by
  obtain ⟨pc, i, len, a, f, ty, b, pl⟩ := e'
  cases i <;> dsimp only [z_step] at h <;> first | (exact absurd h (by simp)) | skip

  case aload j =>
    obtain ⟨x, hg, h⟩ := z_aload_some h
    exact hk _ _ _ _ _ h hho hso hvl (z_ok_cons (z_get_vok rfl hg hvl) hvs)
  case aload_n j =>
    obtain ⟨x, hg, h⟩ := z_aload_some h
    exact hk _ _ _ _ _ h hho hso hvl (z_ok_cons (z_get_vok rfl hg hvl) hvs)
  case iload j =>
    obtain ⟨x, hg, h⟩ := z_iload_some h
    exact hk _ _ _ _ _ h hho hso hvl (z_ok_cons (z_get_vok rfl hg hvl) hvs)
  case iload_n j =>
    obtain ⟨x, hg, h⟩ := z_iload_some h
    exact hk _ _ _ _ _ h hho hso hvl (z_ok_cons (z_get_vok rfl hg hvl) hvs)
  case lload j =>
    obtain ⟨x, hg, h⟩ := z_lload_some h
    exact hk _ _ _ _ _ h hho hso hvl (z_ok_cons (z_get_vok rfl hg hvl) hvs)
  case lload_n j =>
    obtain ⟨x, hg, h⟩ := z_lload_some h
    exact hk _ _ _ _ _ h hho hso hvl (z_ok_cons (z_get_vok rfl hg hvl) hvs)
  case istore j =>
    obtain ⟨x, q, rfl, h⟩ := z_num_some h
    exact hk _ _ _ _ _ h hho hso (z_set_vok (z_ok_tail hvs).1 hvl) (z_ok_tail hvs).2
  case istore_n j =>
    obtain ⟨x, q, rfl, h⟩ := z_num_some h
    exact hk _ _ _ _ _ h hho hso (z_set_vok (z_ok_tail hvs).1 hvl) (z_ok_tail hvs).2
  case astore j =>
    obtain ⟨x, q, rfl, h⟩ := z_ref_some h
    exact hk _ _ _ _ _ h hho hso (z_set_vok (z_ok_tail hvs).1 hvl) (z_ok_tail hvs).2
  case astore_n j =>
    obtain ⟨x, q, rfl, h⟩ := z_ref_some h
    exact hk _ _ _ _ _ h hho hso (z_set_vok (z_ok_tail hvs).1 hvl) (z_ok_tail hvs).2
  case lstore j =>
    obtain ⟨x, q, rfl, h⟩ := z_lon_some h
    exact hk _ _ _ _ _ h hho hso (z_set_vok (z_ok_tail hvs).1 (z_set_vok (v := z_U) trivial hvl)) (z_ok_tail hvs).2
  case lstore_n j =>
    obtain ⟨x, q, rfl, h⟩ := z_lon_some h
    exact hk _ _ _ _ _ h hho hso (z_set_vok (z_ok_tail hvs).1 (z_set_vok (v := z_U) trivial hvl)) (z_ok_tail hvs).2
  case iinc j n =>
    obtain ⟨x, q, hg, h⟩ := z_num_some h
    exact hk _ _ _ _ _ h hho hso (z_set_vok (v := z_I (z_w (x + n))) (z_in32 _) hvl) hvs
  case iconst n =>
    simp only [z_chk, Bool.and_eq_true, decide_eq_true_eq] at hch
    have hb32 : z_in b := by have h1 := hch.2.2; simp only [z_i32, Bool.and_eq_true, decide_eq_true_eq] at h1; exact h1
    exact hk _ _ _ _ _ h hho hso hvl (z_ok_cons hb32 hvs)
  case bipush n =>
    simp only [z_chk, Bool.and_eq_true, decide_eq_true_eq] at hch
    have hb32 : z_in b := by have h1 := hch.2.2; simp only [z_i32, Bool.and_eq_true, decide_eq_true_eq] at h1; exact h1
    exact hk _ _ _ _ _ h hho hso hvl (z_ok_cons hb32 hvs)
  case sipush n =>
    simp only [z_chk, Bool.and_eq_true, decide_eq_true_eq] at hch
    have hb32 : z_in b := by have h1 := hch.2.2; simp only [z_i32, Bool.and_eq_true, decide_eq_true_eq] at h1; exact h1
    exact hk _ _ _ _ _ h hho hso hvl (z_ok_cons hb32 hvs)
  case ldc x =>
    simp only [z_chk, Bool.and_eq_true, decide_eq_true_eq] at hch
    have hb32 : z_in b := by have h1 := hch.2.1.2; simp only [z_i32, Bool.and_eq_true, decide_eq_true_eq] at h1; exact h1
    exact hk _ _ _ _ _ h hho hso hvl (z_ok_cons hb32 hvs)
  case ldc_w x =>
    simp only [z_chk, Bool.and_eq_true, decide_eq_true_eq] at hch
    have hb32 : z_in b := by have h1 := hch.2.1.2; simp only [z_i32, Bool.and_eq_true, decide_eq_true_eq] at h1; exact h1
    exact hk _ _ _ _ _ h hho hso hvl (z_ok_cons hb32 hvs)
  case ldc2_w x =>
    simp only [z_chk, Bool.and_eq_true, decide_eq_true_eq] at hch
    have hb32 : z_inl b := by have h1 := hch.2.1.2; simp only [z_i64, Bool.and_eq_true, decide_eq_true_eq] at h1; exact h1
    exact hk _ _ _ _ _ h hho hso hvl (z_ok_cons hb32 hvs)
  case lconst n =>
    simp only [z_chk, Bool.and_eq_true, decide_eq_true_eq] at hch
    have hb32 : z_inl b := by have h1 := hch.2.2; simp only [z_i64, Bool.and_eq_true, decide_eq_true_eq] at h1; exact h1
    exact hk _ _ _ _ _ h hho hso hvl (z_ok_cons hb32 hvs)
  case iadd =>
    obtain ⟨x, y, q, rfl, h⟩ := z_num2_some h
    exact hk _ _ _ _ _ h hho hso hvl (z_ok_cons (z_in32 _) (z_ok_tail (z_ok_tail hvs).2).2)
  case isub =>
    obtain ⟨x, y, q, rfl, h⟩ := z_num2_some h
    exact hk _ _ _ _ _ h hho hso hvl (z_ok_cons (z_in32 _) (z_ok_tail (z_ok_tail hvs).2).2)
  case imul =>
    obtain ⟨x, y, q, rfl, h⟩ := z_num2_some h
    exact hk _ _ _ _ _ h hho hso hvl (z_ok_cons (z_in32 _) (z_ok_tail (z_ok_tail hvs).2).2)
  case iand =>
    obtain ⟨x, y, q, rfl, h⟩ := z_num2_some h
    exact hk _ _ _ _ _ h hho hso hvl (z_ok_cons (z_in32 _) (z_ok_tail (z_ok_tail hvs).2).2)
  case ior =>
    obtain ⟨x, y, q, rfl, h⟩ := z_num2_some h
    exact hk _ _ _ _ _ h hho hso hvl (z_ok_cons (z_in32 _) (z_ok_tail (z_ok_tail hvs).2).2)
  case ixor =>
    obtain ⟨x, y, q, rfl, h⟩ := z_num2_some h
    exact hk _ _ _ _ _ h hho hso hvl (z_ok_cons (z_in32 _) (z_ok_tail (z_ok_tail hvs).2).2)
  case ishl =>
    obtain ⟨x, y, q, rfl, h⟩ := z_num2_some h
    exact hk _ _ _ _ _ h hho hso hvl (z_ok_cons (z_in32 _) (z_ok_tail (z_ok_tail hvs).2).2)
  case ishr =>
    obtain ⟨x, y, q, rfl, h⟩ := z_num2_some h
    exact hk _ _ _ _ _ h hho hso hvl (z_ok_cons (z_in32 _) (z_ok_tail (z_ok_tail hvs).2).2)
  case iushr =>
    obtain ⟨x, y, q, rfl, h⟩ := z_num2_some h
    exact hk _ _ _ _ _ h hho hso hvl (z_ok_cons (z_in32 _) (z_ok_tail (z_ok_tail hvs).2).2)
  case idiv =>
    obtain ⟨x, y, q, rfl, h⟩ := z_num2_some h
    obtain ⟨hne, h⟩ := z_iten_some h
    exact hk _ _ _ _ _ h hho hso hvl (z_ok_cons (z_in32 _) (z_ok_tail (z_ok_tail hvs).2).2)
  case irem =>
    obtain ⟨x, y, q, rfl, h⟩ := z_num2_some h
    obtain ⟨hne, h⟩ := z_iten_some h
    exact hk _ _ _ _ _ h hho hso hvl (z_ok_cons (z_in32 _) (z_ok_tail (z_ok_tail hvs).2).2)
  case ineg =>
    obtain ⟨x, q, rfl, h⟩ := z_num_some h
    exact hk _ _ _ _ _ h hho hso hvl (z_ok_cons (z_in32 _) (z_ok_tail hvs).2)
  case ladd =>
    obtain ⟨x, y, q, rfl, h⟩ := z_lon2_some h
    exact hk _ _ _ _ _ h hho hso hvl (z_ok_cons (z_in64 _) (z_ok_tail (z_ok_tail hvs).2).2)
  case lmul =>
    obtain ⟨x, y, q, rfl, h⟩ := z_lon2_some h
    exact hk _ _ _ _ _ h hho hso hvl (z_ok_cons (z_in64 _) (z_ok_tail (z_ok_tail hvs).2).2)
  case ldiv =>
    obtain ⟨x, y, q, rfl, h⟩ := z_lon2_some h
    obtain ⟨hne, h⟩ := z_iten_some h
    exact hk _ _ _ _ _ h hho hso hvl (z_ok_cons (z_in64 _) (z_ok_tail (z_ok_tail hvs).2).2)
  case lrem =>
    obtain ⟨x, y, q, rfl, h⟩ := z_lon2_some h
    obtain ⟨hne, h⟩ := z_iten_some h
    exact hk _ _ _ _ _ h hho hso hvl (z_ok_cons (z_in64 _) (z_ok_tail (z_ok_tail hvs).2).2)
  case lcmp =>
    obtain ⟨x, y, q, rfl, h⟩ := z_lon2_some h
    exact hk _ _ _ _ _ h hho hso hvl (z_ok_cons (by unfold z_lcmp; repeat' split <;> (constructor <;> omega)) (z_ok_tail (z_ok_tail hvs).2).2)
  case i2l =>
    obtain ⟨x, q, rfl, h⟩ := z_num_some h
    exact hk _ _ _ _ _ h hho hso hvl (z_ok_cons (by have h0 : z_in x := (z_ok_tail hvs).1; have h1 := h0.1; have h2 := h0.2; constructor <;> omega) (z_ok_tail hvs).2)
  case l2i =>
    obtain ⟨x, q, rfl, h⟩ := z_lon_some h
    exact hk _ _ _ _ _ h hho hso hvl (z_ok_cons (z_in32 _) (z_ok_tail hvs).2)
  case i2b =>
    obtain ⟨x, q, rfl, h⟩ := z_num_some h
    exact hk _ _ _ _ _ h hho hso hvl (z_ok_cons (z_in32 _) (z_ok_tail hvs).2)
  case i2c =>
    obtain ⟨x, q, rfl, h⟩ := z_num_some h
    exact hk _ _ _ _ _ h hho hso hvl (z_ok_cons (z_in32 _) (z_ok_tail hvs).2)
  case pop =>
    obtain ⟨v, q, rfl, hv, h⟩ := z_any_some h
    exact hk _ _ _ _ _ h hho hso hvl (z_ok_tail hvs).2
  case dup =>
    obtain ⟨v, q, rfl, hv, h⟩ := z_any_some h
    exact hk _ _ _ _ _ h hho hso hvl (z_ok_cons (z_ok_tail hvs).1 hvs)
  case dup_x1 =>
    obtain ⟨v, q, rfl, hv, h⟩ := z_any_some h
    obtain ⟨w, q, rfl, hw, h⟩ := z_any_some h
    exact hk _ _ _ _ _ h hho hso hvl (z_ok_cons (z_ok_tail hvs).1 (z_ok_cons (z_ok_tail (z_ok_tail hvs).2).1 (z_ok_cons (z_ok_tail hvs).1 (z_ok_tail (z_ok_tail hvs).2).2)))
  case dup2 =>
    obtain ⟨v, q, rfl, hv, h⟩ := z_any_some h
    obtain ⟨w, q, rfl, hw, h⟩ := z_any_some h
    exact hk _ _ _ _ _ h hho hso hvl (z_ok_cons (z_ok_tail hvs).1 (z_ok_cons (z_ok_tail (z_ok_tail hvs).2).1 hvs))
  case ifCond cnd off =>
    obtain ⟨x, q, rfl, h2⟩ := z_num_some h
    clear h
    unfold z_if at h2
    cases cnd <;> dsimp only at h2 <;> split at h2 <;> exact hk _ _ _ _ _ h2 hho hso hvl (z_ok_tail hvs).2
  case if_icmp cnd off =>
    obtain ⟨x, y, q, rfl, h2⟩ := z_num2_some h
    clear h
    unfold z_if at h2
    cases cnd <;> dsimp only at h2 <;> split at h2 <;> exact hk _ _ _ _ _ h2 hho hso hvl (z_ok_tail (z_ok_tail hvs).2).2
  case ifnull off =>
    obtain ⟨x, q, rfl, h2⟩ := z_ref_some h
    clear h
    split at h2 <;> exact hk _ _ _ _ _ h2 hho hso hvl (z_ok_tail hvs).2
  case ifnonnull off =>
    obtain ⟨x, q, rfl, h2⟩ := z_ref_some h
    clear h
    split at h2 <;> exact hk _ _ _ _ _ h2 hho hso hvl (z_ok_tail hvs).2
  case goto off =>
    exact hk _ _ _ _ _ h hho hso hvl hvs
  case tableswitch dflt lo hi offs =>
    obtain ⟨x, q, rfl, h⟩ := z_num_some h
    rcases z_sw_some h with ⟨i, t, h1, h2, h3⟩ | ⟨h1, h2⟩
    · exact hk _ _ _ _ _ h3 hho hso hvl (z_ok_tail hvs).2
    · exact hk _ _ _ _ _ h2 hho hso hvl (z_ok_tail hvs).2
  case getfield x =>
    simp only [z_chk, Bool.and_eq_true, decide_eq_true_eq] at hch
    obtain ⟨hdg, ⟨⟨⟨rfl, ha⟩, hf⟩, hty⟩, hw⟩ := hch
    obtain ⟨o, q, rfl, h⟩ := z_ref_some h
    obtain ⟨hkk, h⟩ := z_ite_some h
    subst hty
    obtain ⟨j, n, rfl, hj, -, hjl⟩ := z_k_pos hkk (by omega)
    have h10 : 10 + a - 10 = a := by omega
    have hn : n = z_nf a := by have := ((hho j _ hj).2 (by show 10 ≤ 10 + a; omega)).2; rw [show (10 + a, n).1 - 10 = a from h10] at this; exact this
    have h0 := (hso j _ hj).2 (by show 10 ≤ 10 + a; omega) f (by show f < n.toNat; rw [hn]; omega)
    rw [show (10 + a, n).1 - 10 = a from h10] at h0
    exact hk _ _ _ _ _ h hho hso hvl (z_ok_cons h0 (z_ok_tail hvs).2)
  case putfield x =>
    simp only [z_chk, Bool.and_eq_true, decide_eq_true_eq] at hch
    obtain ⟨hdg, ⟨⟨⟨⟨rfl, ha⟩, hf⟩, hty⟩, hw⟩, hfin⟩ := hch
    have hfo := z_fto a ha f hf
    unfold z_put at h
    subst hty
    split at h
    · next h1 =>
      split at h
      · next v o q =>
        obtain ⟨hcn, h⟩ := z_free_some h
        obtain ⟨hkk, h⟩ := z_ite_some h
        obtain ⟨j, n, rfl, hj, -, hjl⟩ := z_k_pos hkk (by omega)
        exact hk _ _ _ _ _ h hho (z_sok_updF hj hso (by rw [h1]; unfold z_fv z_gf z_upd; rw [hcn]; simpa using (z_ok_tail hvs).1)) hvl (z_ok_tail (z_ok_tail hvs).2).2
      · cases h
    · next h1 =>
      split at h
      · obtain ⟨hkk, h⟩ := z_ite_some h
        obtain ⟨j, n, rfl, hj, -, hjl⟩ := z_k_pos hkk (by omega)
        exact hk _ _ _ _ _ h hho (z_sok_updF hj hso (by rw [h1]; unfold z_fv z_upd; simpa using (z_ok_tail hvs).1)) hvl (z_ok_tail (z_ok_tail hvs).2).2
      · cases h
    · next h1 =>
      split at h
      · obtain ⟨h01, h⟩ := z_ite_some h
        obtain ⟨hkk, h⟩ := z_ite_some h
        obtain ⟨j, n, rfl, hj, -, hjl⟩ := z_k_pos hkk (by omega)
        exact hk _ _ _ _ _ h hho (z_sok_updF hj hso (by rw [h1]; unfold z_fv z_upd; simpa using (z_ok_tail hvs).1)) hvl (z_ok_tail (z_ok_tail hvs).2).2
      · cases h
    · next h1 h2 h3 =>
      have h0 : z_ft a f = 0 := by
        revert hfo h1 h2 h3; generalize z_ft a f = n; intro hfo h1 h2 h3
        match n, hfo with
        | 0, _ => rfl
        | 1, _ => exact absurd rfl h1
        | 2, _ => exact absurd rfl h2
        | 3, _ => exact absurd rfl h3
        | n + 4, hfo => cases hfo
      split at h
      · obtain ⟨hkk, h⟩ := z_ite_some h
        obtain ⟨j, n, rfl, hj, -, hjl⟩ := z_k_pos hkk (by omega)
        exact hk _ _ _ _ _ h hho (z_sok_updF hj hso (by rw [h0]; unfold z_fv z_upd; simpa using (z_ok_tail hvs).1)) hvl (z_ok_tail (z_ok_tail hvs).2).2
      · cases h
  case iaload =>
    obtain ⟨i, q, rfl, h⟩ := z_num_some h
    obtain ⟨o, q, rfl, h⟩ := z_ref_some h
    obtain ⟨⟨hkk, h0, h1⟩, h⟩ := z_ite_some h
    obtain ⟨j, n, rfl, hj, -, hjl⟩ := z_k_pos (k := z_k hd o) rfl (by omega)
    exact hk _ _ _ _ _ h hho hso hvl (z_ok_cons ((hso j _ hj).1 (by dsimp only; omega) i) (z_ok_tail (z_ok_tail hvs).2).2)
  case caload =>
    obtain ⟨i, q, rfl, h⟩ := z_num_some h
    obtain ⟨o, q, rfl, h⟩ := z_ref_some h
    obtain ⟨⟨hkk, h0, h1⟩, h⟩ := z_ite_some h
    obtain ⟨j, n, rfl, hj, -, hjl⟩ := z_k_pos (k := z_k hd o) rfl (by omega)
    exact hk _ _ _ _ _ h hho hso hvl (z_ok_cons ((hso j _ hj).1 (by dsimp only; omega) i) (z_ok_tail (z_ok_tail hvs).2).2)
  case baload =>
    obtain ⟨i, q, rfl, h⟩ := z_num_some h
    obtain ⟨o, q, rfl, h⟩ := z_ref_some h
    obtain ⟨⟨hkk, h0, h1⟩, h⟩ := z_ite_some h
    obtain ⟨j, n, rfl, hj, -, hjl⟩ := z_k_pos (k := z_k hd o) rfl (by omega)
    exact hk _ _ _ _ _ h hho hso hvl (z_ok_cons ((hso j _ hj).1 (by dsimp only; omega) i) (z_ok_tail (z_ok_tail hvs).2).2)
  case iastore =>
    obtain ⟨i, v, q, rfl, h⟩ := z_num2_some h
    obtain ⟨o, q, rfl, h⟩ := z_ref_some h
    obtain ⟨⟨hkk, h0, h1⟩, h⟩ := z_ite_some h
    obtain ⟨j, n, rfl, hj, -, hjl⟩ := z_k_pos hkk (by omega)
    exact hk _ _ _ _ _ h hho (z_sok_updA hj (by omega) hso (z_ok_tail hvs).1) hvl (z_ok_tail (z_ok_tail (z_ok_tail hvs).2).2).2
  case castore =>
    obtain ⟨i, v, q, rfl, h⟩ := z_num2_some h
    obtain ⟨o, q, rfl, h⟩ := z_ref_some h
    obtain ⟨⟨hkk, h0, h1⟩, h⟩ := z_ite_some h
    obtain ⟨j, n, rfl, hj, -, hjl⟩ := z_k_pos hkk (by omega)
    exact hk _ _ _ _ _ h hho (z_sok_updA hj (by omega) hso (z_in32 _)) hvl (z_ok_tail (z_ok_tail (z_ok_tail hvs).2).2).2
  case bastore =>
    obtain ⟨i, v, q, rfl, h⟩ := z_num2_some h
    obtain ⟨o, q, rfl, h⟩ := z_ref_some h
    cases hab : Nat.beq a 2 with
    | true =>
      rw [hab] at h
      dsimp only [cond_true] at h
      obtain ⟨h01, h⟩ := z_ite_some h
      obtain ⟨⟨hkk, h0, h1⟩, h⟩ := z_ite_some h
      obtain ⟨j, n, rfl, hj, -, hjl⟩ := z_k_pos hkk (by omega)
      exact hk _ _ _ _ _ h hho (z_sok_updA hj (by omega) hso (z_ok_tail hvs).1) hvl (z_ok_tail (z_ok_tail (z_ok_tail hvs).2).2).2
    | false =>
      rw [hab] at h
      dsimp only [cond_false] at h
      obtain ⟨⟨hkk, h0, h1⟩, h⟩ := z_ite_some h
      obtain ⟨j, n, rfl, hj, -, hjl⟩ := z_k_pos hkk (by omega)
      exact hk _ _ _ _ _ h hho (z_sok_updA hj (by omega) hso (z_in32 _)) hvl (z_ok_tail (z_ok_tail (z_ok_tail hvs).2).2).2
  case arraylength =>
    obtain ⟨o, q, rfl, h⟩ := z_ref_some h
    obtain ⟨⟨h1, h4⟩, h⟩ := z_ite_some h
    obtain ⟨j, n, rfl, hj, hn, hjl⟩ := z_k_pos (k := z_k hd o) rfl (by omega)
    have h9 := (hho j _ hj).1 (by dsimp only; omega)
    have h91 := h9.2.2.1
    have h92 := h9.2.2.2
    exact hk _ _ _ _ _ h hho hso hvl (z_ok_cons (by rw [hn]; constructor <;> (dsimp only at h91 h92; omega)) (z_ok_tail hvs).2)
  case newarray t =>
    simp only [z_chk, Bool.and_eq_true, decide_eq_true_eq] at hch
    obtain ⟨hdg, ⟨⟨rfl, hat⟩, hpos⟩, hw⟩ := hch
    obtain ⟨n, q, rfl, h⟩ := z_num_some h
    obtain ⟨⟨h0, h1⟩, h⟩ := z_ite_some h
    subst hat
    have hk4 : z_akind t < 10 ∧ z_akind t ≤ 4 := by cases t <;> decide
    exact z_fin_le rfl (hk _ _ _ _ _ h (z_hok_push hho ⟨fun _ => ⟨hpos, hk4.2, h0, h1⟩, fun z => absurd z (by show ¬ 10 ≤ z_akind t; omega)⟩) (z_sok_push hso (Or.inl hk4.1)) (fun v hv => z_vok_le (by rw [List.length_append]; omega) (hvl v hv)) (z_ok_cons ⟨by omega, by rw [List.length_append]; simp⟩ (fun v hv => z_vok_le (by rw [List.length_append]; omega) ((z_ok_tail hvs).2 v hv))))
  case new x =>
    simp only [z_chk, Bool.and_eq_true, decide_eq_true_eq] at hch
    obtain ⟨hdg, ⟨⟨⟨⟨rfl, ha⟩, hbn⟩, hw⟩, hw1⟩, hw2⟩ := hch
    obtain ⟨hn, h⟩ := z_free_some h
    subst hbn
    have h10 : 10 + a - 10 = a := by omega
    exact z_fin_le rfl (hk _ _ _ _ _ h (z_hok_push hho ⟨fun z => absurd z (by show ¬ 10 + a < 10; omega), fun _ => by rw [show (10 + a, (z_nf a : Int)).1 - 10 = a from h10]; exact ⟨ha, rfl⟩⟩) (z_sok_push hso (Or.inr (hdyn hn))) (fun v hv => z_vok_le (by rw [List.length_append]; omega) (hvl v hv)) (z_ok_cons ⟨by omega, by rw [List.length_append]; simp⟩ (fun v hv => z_vok_le (by rw [List.length_append]; omega) (hvs v hv))))
  case ireturn =>
    unfold z_one at h
    split at h
    · next x =>
      have fin : r = (z_I x, hd, σ) → z_fin hc hd r := fun hr => by
        subst hr
        exact ⟨⟨[], by simp⟩, hho, hso, (z_ok_tail hvs).1⟩
      cases hab : Nat.beq a 2 with
      | true =>
        rw [hab] at h
        dsimp only [cond_true] at h
        obtain ⟨h01, h⟩ := z_ite_some h
        exact fin (Option.some.inj h).symm
      | false =>
        rw [hab] at h
        exact fin (Option.some.inj h).symm
    · cases h
  case return_ =>
    unfold z_end at h
    split at h
    · cases h
      exact ⟨⟨[], by simp⟩, hho, hso, trivial⟩
    · cases h
  case invokevirtual x =>
    simp only [z_chk, z_chkI, Bool.and_eq_true, Bool.or_eq_true, decide_eq_true_eq] at hch
    obtain ⟨hdg, ⟨rfl, hlink⟩, ⟨⟨⟨hkd, hnp⟩, hmr⟩, hcb⟩, hself⟩ := hch
    obtain ⟨as, qs, rfl, hal, hcq, h⟩ := z_pop_some h
    rw [List.append_nil] at h
    obtain ⟨o, t, has, hko, h⟩ := z_recv_some h
    obtain ⟨r', hcall, h⟩ := z_res_some h
    have hvas : ∀ v ∈ as, z_vok hd.length v := fun v hv => hvs v (List.mem_append_left _ (List.mem_reverse.mpr hv))
    have hvq : ∀ v ∈ qs, z_vok hd.length v := fun v hv => hvs v (List.mem_append_right _ hv)
    obtain ⟨⟨x', hx'⟩, hfh, hfs, hfv⟩ := IH a as hd σ r' hcall hself hho hso hvas
    have hle : hd.length ≤ r'.2.1.length := by rw [hx', List.length_append]; omega
    exact z_fin_le hx' (hk _ _ _ _ _ h hfh hfs (fun v hv => z_vok_le hle (hvl v hv)) (z_rl_ok hfv (fun v hv => z_vok_le hle (hvq v hv))))
  case invokespecial x =>
    simp only [z_chk, Bool.and_eq_true, decide_eq_true_eq] at hch
    obtain ⟨hdg, rfl, hch⟩ := hch
    by_cases ha : a = 9998
    · subst ha
      have h' : (z_ref st fun o r => if 10 ≤ z_k hd o ∧ z_cats r ≤ 8 then k (pc + 3) ls r hd σ else none) = some r := h
      obtain ⟨o, q, rfl, h'⟩ := z_ref_some h'
      obtain ⟨hcq, h'⟩ := z_ite_some h'
      exact hk _ _ _ _ _ h' hho hso hvl (z_ok_tail hvs).2
    · rw [if_neg ha] at hch
      simp only [z_chkI, Bool.and_eq_true, Bool.or_eq_true, decide_eq_true_eq] at hch
      obtain ⟨⟨hlink, ⟨⟨⟨hkd, hnp⟩, hmr⟩, hcb⟩, hself⟩, hmrn⟩ := hch
      have hab : Nat.beq a 9998 = false := by
        rw [← Bool.not_eq_true]; exact fun z => ha (Nat.eq_of_beq_eq_true z)
      rw [hab] at h
      dsimp only [cond_false] at h
      obtain ⟨as, qs, rfl, hal, hcq, h⟩ := z_pop_some h
      rw [List.append_nil] at h
      obtain ⟨o, t, has, hko, h⟩ := z_recv_some h
      obtain ⟨r', hcall, h⟩ := z_res_some h
      have hvas : ∀ v ∈ as, z_vok hd.length v := fun v hv => hvs v (List.mem_append_left _ (List.mem_reverse.mpr hv))
      have hvq : ∀ v ∈ qs, z_vok hd.length v := fun v hv => hvs v (List.mem_append_right _ hv)
      obtain ⟨⟨x', hx'⟩, hfh, hfs, hfv⟩ := IH a as hd σ r' hcall hself hho hso hvas
      have hle : hd.length ≤ r'.2.1.length := by rw [hx', List.length_append]; omega
      exact z_fin_le hx' (hk _ _ _ _ _ h hfh hfs (fun v hv => z_vok_le hle (hvl v hv)) (z_rl_ok hfv (fun v hv => z_vok_le hle (hvq v hv))))
  case invokestatic x =>
    simp only [z_chk, Bool.and_eq_true, decide_eq_true_eq] at hch
    obtain ⟨hdg, rfl, hch⟩ := hch
    by_cases ha : 9990 ≤ a
    · have hab : Nat.ble 9990 a = true := Nat.ble_eq_true_of_le ha
      rw [hab] at h
      dsimp only [cond_true] at h
      cases hab9 : Nat.beq a 9999 with
      | true =>
        rw [hab9] at h
        dsimp only [cond_true] at h
        obtain ⟨n, dp, dd, sp, ss, q, rfl, hcq, hcc, h⟩ := z_copy_some h
        obtain ⟨hk1, hk2, c1, c2, c3, c4, c5⟩ := hcc
        obtain ⟨j, w, rfl, hj, hn, hjl⟩ := z_k_pos hk1 (by omega)
        obtain ⟨j', w', rfl, hj', hn', hjl'⟩ := z_k_pos hk2 (by omega)
        exact hk _ _ _ _ _ h hho (z_sok_cpy hj hj' hso) hvl (z_ok_tail (z_ok_tail (z_ok_tail (z_ok_tail (z_ok_tail hvs).2).2).2).2).2
      | false =>
        rw [hab9] at h
        dsimp only [cond_false] at h
        unfold z_math at h
        split at h
        · obtain ⟨x, q, rfl, h⟩ := z_num_some h
          obtain ⟨hcq, h⟩ := z_ite_some h
          exact hk _ _ _ _ _ h hho hso hvl (z_ok_cons (by split <;> first | exact (z_ok_tail hvs).1 | exact z_in32 _) (z_ok_tail hvs).2)
        · split at h
          · obtain ⟨x, y, q, rfl, h⟩ := z_num2_some h
            obtain ⟨hcq, h⟩ := z_ite_some h
            exact hk _ _ _ _ _ h hho hso hvl (z_ok_cons (by split <;> first | exact (z_ok_tail hvs).1 | exact (z_ok_tail (z_ok_tail hvs).2).1) (z_ok_tail (z_ok_tail hvs).2).2)
          · obtain ⟨x, y, q, rfl, h⟩ := z_num2_some h
            obtain ⟨hcq, h⟩ := z_ite_some h
            exact hk _ _ _ _ _ h hho hso hvl (z_ok_cons (by split <;> first | exact (z_ok_tail hvs).1 | exact (z_ok_tail (z_ok_tail hvs).2).1) (z_ok_tail (z_ok_tail hvs).2).2)
    · have hab : Nat.ble 9990 a = false := by
        rw [← Bool.not_eq_true]; exact fun z => ha (Nat.le_of_ble_eq_true z)
      rw [hab] at h
      dsimp only [cond_false] at h
      rw [if_neg (by omega), if_neg (by omega), if_neg (by omega), if_neg (by omega)] at hch
      simp only [z_chkI, Bool.and_eq_true, Bool.or_eq_true, decide_eq_true_eq] at hch
      obtain ⟨⟨h9990, hlink⟩, ⟨⟨⟨hkd, hnp⟩, hmr⟩, hcb⟩, hself⟩ := hch
      obtain ⟨as, qs, rfl, hal, hcq, h⟩ := z_pop_some h
      rw [List.append_nil] at h
      obtain ⟨r', hcall, h⟩ := z_res_some h
      have hvas : ∀ v ∈ as, z_vok hd.length v := fun v hv => hvs v (List.mem_append_left _ (List.mem_reverse.mpr hv))
      have hvq : ∀ v ∈ qs, z_vok hd.length v := fun v hv => hvs v (List.mem_append_right _ hv)
      obtain ⟨⟨x', hx'⟩, hfh, hfs, hfv⟩ := IH a as hd σ r' hcall hself hho hso hvas
      have hle : hd.length ≤ r'.2.1.length := by rw [hx', List.length_append]; omega
      exact z_fin_le hx' (hk _ _ _ _ _ h hfh hfs (fun v hv => z_vok_le hle (hvl v hv)) (z_rl_ok hfv (fun v hv => z_vok_le hle (hvq v hv))))
theorem z_ex_fin (hdyn : hc 0 0 = none → ∀ o f, hc o f = none) (okm : z_okm mm) (allok : ∀ a, (z_mp a).1 = a → z_okm a) (IH : z_FH hc d) : ∀ (n pc : Nat) (ls st : List z_V) (hd : z_H) (σ : z_S), z_ex (z_ev hc d) hc n mm pc ls st hd σ = some r →
    z_hok hd → z_sok hc hd σ → (∀ v ∈ ls, z_vok hd.length v) → (∀ v ∈ st, z_vok hd.length v) → z_fin hc hd r := by
  intro n
  induction n with
  | zero => intro pc ls st hd σ h; cases h
  | succ n ih =>
    intro pc ls st hd σ h
    unfold z_ex at h
    split at h
    · cases h
    · next e he =>
      exact z_step_fin hdyn allok IH (fun pc ls st hd σ h => ih pc ls st hd σ h) (List.all_eq_true.mp okm.1 e (z_find_some he).1) h
theorem z_ev_some {d m : Nat} {as : List z_V} (h : z_ev hc (d + 1) m as hd σ = some r) : as.length ≤ z_ml m ∧ (∀ v ∈ as, z_argb v = true) ∧ ∃ n, z_ex (z_ev hc d) hc n m 0 (as ++ List.replicate (z_ml m - as.length) z_U) [] hd σ = some r := by
  have h' : cond (z_aok m as) (z_go (z_ev hc d) hc m 0 (as ++ List.replicate (z_ml m - as.length) z_U) [] hd σ) none = some r := h
  cases ha : z_aok m as with
  | false => rw [ha] at h'; cases h'
  | true =>
    rw [ha] at h'
    unfold z_aok at ha
    rw [Bool.and_eq_true] at ha
    exact ⟨Nat.le_of_ble_eq_true ha.1, List.all_eq_true.mp ha.2, z_go_iff.mp h'⟩
theorem z_fin_all (hdyn : hc 0 0 = none → ∀ o f, hc o f = none) (allok : ∀ a, (z_mp a).1 = a → z_okm a) : ∀ d, z_FH hc d := by
  intro d
  induction d with
  | zero => intro a as hd σ r h; cases h
  | succ d ih =>
    intro a as hd σ r h hself hho hso hvas
    obtain ⟨h1, h2, n, h3⟩ := z_ev_some h
    refine z_ex_fin hdyn (allok a hself) allok ih n 0 _ _ hd σ h3 hho hso (fun v hv => ?_) (fun v hv => by cases hv)
    rcases List.mem_append.mp hv with hv | hv
    · exact hvas v hv
    · rw [List.eq_of_mem_replicate hv]; trivial
end ZFN

