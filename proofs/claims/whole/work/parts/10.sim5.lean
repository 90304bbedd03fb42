section ZFI
variable {p : Program} {l : Launch} {e : Env} {R : Room} {s : State} {m : MethodId} {args : Array Value} {below : List Frame} {meth : Method} {c : Code} {dC : Nat → ClassId} {dI : Nat → Nat → Nat} {dA : Nat → ClassId} {hc : z_C} {mm d : Nat} {ad0 : Nat → Nat} {n0 s0 : Nat} {r : z_Res}
theorem z_sim (F : z_Fix p s m args meth c R dC dI dA mm d) (hRc : R.cells = r.2.1.length - n0) (hRs : R.slots = z_sl r.2.1 - s0) (hdyn : hc 0 0 = none → ∀ o f, hc o f = none) (okm : z_okm mm) (allok : ∀ a, (z_mp a).1 = a → z_okm a) (IH : z_IH l dC dI dA hc d) :
    ∀ (n pc : Nat) (ls st : List z_V) (hd : z_H) (σ : z_S), z_ex (z_ev hc d) hc n mm pc ls st hd σ = some r → z_W p l e R s m args below meth c dC dI dA hc mm ad0 n0 s0 r pc ls st hd σ := by
  intro n
  induction n with
  | zero => intro pc ls st hd σ h; cases h
  | succ n ih =>
    intro pc ls st hd σ h
    unfold z_ex at h
    split at h
    · cases h
    · next e' he =>
      obtain ⟨h1, h2⟩ := z_find_some he
      have := z_step_sim (ls := ls) (st := st) (hd := hd) (σ := σ) F hRc hRs hdyn okm allok IH (fun pc ls st hd σ h => ih pc ls st hd σ h) (List.all_eq_true.mp okm.1 e' h1) h
      rw [h2] at this
      exact this
theorem z_lg_len : ∀ {vs : List Value}, (∀ v ∈ vs, v.category = 1) → (lg_sl vs).length = vs.length
  | [], _ => rfl
  | v :: vs, h => by
    have h1 : v.category = 1 := h v List.mem_cons_self
    have h2 := z_lg_len (fun w hw => h w (List.mem_cons_of_mem _ hw))
    unfold lg_sl at *
    rw [List.flatMap_cons, List.length_append, h2, h1]
    simp; omega
theorem z_lv_args : ∀ {vs : List Value} {i j : Nat} {v : Value}, (∀ v ∈ vs, v.category = 1) → vs[j]? = some v → (i + j, v) ∈ lv_args i vs
  | [], _, _, _, _, h => by simp at h
  | w :: vs, i, 0, v, hc, h => by
    have h' : some w = some v := h
    cases h'
    exact List.mem_cons_self
  | w :: vs, i, j + 1, v, hc, h => by
    have h' : vs[j]? = some v := h
    have h1 : w.category = 1 := hc w List.mem_cons_self
    have h2 := z_lv_args (i := i + 1) (fun w hw => hc w (List.mem_cons_of_mem _ hw)) h'
    unfold lv_args
    rw [h1, if_neg (by decide)]
    refine List.mem_cons_of_mem _ ?_
    rw [show i + (j + 1) = i + 1 + j by omega]
    exact h2
theorem z_arg_cat {ad : Nat → Nat} {v : z_V} (h : z_argb v = true) : (z_cv ad v).category = 1 := by
  rw [z_cat_cv]
  unfold z_argb at h
  unfold z_cat
  split at h
  · rfl
  · rfl
  · cases h
theorem z_met (hdyn : hc 0 0 = none → ∀ o f, hc o f = none) (allok : ∀ a, (z_mp a).1 = a → z_okm a) : ∀ d, z_IH l dC dI dA hc d := by
  intro d
  induction d with
  | zero => intro a as hd σ r h; cases h
  | succ d ih =>
    intro a as hd σ r h hself hho hso hvas
    have ok := allok a hself
    have hfin := z_fin_all hdyn allok (d + 1) a as hd σ r h hself hho hso hvas
    refine ⟨hfin, fun ad sz => ?_⟩
    obtain ⟨h1, h2, n, h3⟩ := z_ev_some h
    obtain ⟨m1, m2, m3, m4, m5, m6, m7, m8, m9, m10⟩ := z_mchk_of ok
    refine Met.ofW (cc := z_mb a) (maxL := z_ml a) (ret := z_mr a) m2 rfl ?_
    intro p e s m args below meth c s₁ B hml hv
    obtain ⟨hargs, hsz, hP, hK, hD0⟩ := hv
    have hts := atoms_spec (ws := z_ws a) B.pre
    have hF : z_Fix p s m args meth c (headSpec (z_ws a) ({ frames := d + 1, cells := r.2.1.length - hd.length, slots := z_sl r.2.1 - z_sl hd, locals := 60 * (d + 1) } : Room)).room dC dI dA a d :=
      ⟨B.exec, B.bytes, hml, findClass_of_methodNamed B.named, fun w hw => hts w (List.mem_cons_of_mem _ hw), B.returns, B.notSynchronized, (name_of_methodNamed B.named B.method).1, hK, rfl, rfl⟩
    have hcat : ∀ v ∈ as.map (z_cv ad), v.category = 1 := fun v hv => by
      obtain ⟨w, hw, rfl⟩ := List.mem_map.mp hv
      exact z_arg_cat (h2 w hw)
    have hw := z_sim (l := l) (e := e) (below := below) (ad0 := ad) (n0 := hd.length) (s0 := z_sl hd) (r := r) hF rfl rfl hdyn ok allok ih n 0 _ _ hd σ h3 hho hso (fun v hv => by
      rcases List.mem_append.mp hv with hv | hv
      · exact hvas v hv
      · rw [List.eq_of_mem_replicate hv]; trivial) (fun v hv => by cases hv)
    subst hargs
    rw [lg_entry_eq]
    have hlen : (lg_sl (as.map (z_cv ad))).length ≤ z_ml a := by rw [z_lg_len hcat, List.length_map]; exact h1
    have hl := lv_entry (as.map (z_cv ad)) (n := z_ml a) hlen
    generalize (lg_sl (as.map (z_cv ad)) ++ List.replicate (z_ml a - (lg_sl (as.map (z_cv ad))).length) Slot.unset).toArray = arr at hl ⊢
    have hfr : ∀ q, z_fr ad hd.length s.heap.size q ↔ z_fr ad hd.length sz q := fun q => by rw [hsz]
    have hD : va_D (z_fr ad hd.length s.heap.size) (z_wd dA hc ad hd σ) := ⟨hD0.1, fun k q hk => by
      have hkl : k < hd.length := by rw [← z_wd_len (dA := dA) (hc := hc) (ad := ad) (σ := σ)]; exact (List.getElem?_eq_some_iff.mp hk).1
      rw [z_wd_get (List.getElem?_eq_getElem hkl)] at hk
      cases hk
      exact Or.inl ⟨k, hkl, rfl⟩⟩
    have k := hw.2 ad s.heap arr [] 0 0 ⟨hP, hD, va_S.rf, hho, hso, fun _ _ => rfl, by omega, by omega⟩ ⟨z_lv_weak hl fun q hq => by
      obtain ⟨v, g1, g2, g3⟩ := z_ll_mem.mp hq
      have hq1 : q.1 < as.length := by
        rcases Nat.lt_or_ge q.1 as.length with g | g
        · exact g
        · rw [List.getElem?_append_right g] at g1
          have := List.eq_of_mem_replicate (List.mem_of_getElem? g1)
          subst this
          cases g2
      rw [List.getElem?_append_left hq1] at g1
      have g4 := z_lv_args (i := 0) hcat (j := q.1) (v := z_cv ad v) (by rw [List.getElem?_map, g1]; rfl)
      rw [Nat.zero_add, ← g3] at g4
      exact g4, by rw [List.length_append, List.length_replicate]; omega⟩
    rw [hsz] at k
    exact k
end ZFI
