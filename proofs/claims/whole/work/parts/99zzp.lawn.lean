/-! The law makes an object. -/
section
variable {p : Program} {l : Launch} {e : Env} {R : Room} {s : State} {m : MethodId} {args : Array Value} {below : List Frame} {meth : Method} {c : Code} {dC : Nat → ClassId} {dI : Nat → Nat → Nat} {dA : Nat → ClassId}
theorem w_make {Q : State → Prop} {cc : ByteArray} {nL pc a x y mm : Nat} {hd : z_H} {σ0 : z_S} {H : Heap} {arr : Array Slot} {cells slots : Nat} {rest : List Value}
    (hx : p.tables.exec = Jvm.exec) (hb : c.code = cc) (hml : c.maxLocals = nL) (hown : s.vm.findClass RL = some m.cls) (hts : ∀ w ∈ z_tw, w.before args s = true) (hK : va_K (dC, dI) vwCl (z_tys dA) s) (ha : a < 13)
    (hw : Jvm.Cond.classLink RL x (z_cl a) ∈ z_tw) (hw1 : Jvm.Cond.instantiable (z_cl a) (z_nf a) ∈ z_tw) (hw2 : Jvm.Cond.initialized (z_cl a) ∈ z_tw) (hev : z_ev z_hcN 8 mm [z_R 1] [(10 + a, (z_nf a : Int))] (fun _ _ => 0) = some (z_U, hd, σ0)) (hself : (z_mp mm).1 = mm) (hkd : z_kd mm = 2) (hnp : z_np mm = 0) (hmr : z_mr mm = none)
    (hlink : Jvm.Cond.methodLink RL y (z_my mm) ∈ z_tw) (d0 : decode cc pc = .ok (.new x, 3)) (d3 : decode cc (pc + 3) = .ok (.dup, 1)) (d4 : decode cc (pc + 4) = .ok (.invokespecial y, 3)) (hcats : (rest.map fun v => v.category).sum ≤ 6) (hsz : s.heap.size ≤ H.size) (hsize : arr.size = nL)
    (hl1 : 1 ≤ hd.length) (hl2 : z_nf a ≤ z_sl hd) (hfit : cells + hd.length ≤ R.cells ∧ slots + z_sl hd ≤ R.slots) (hRf : 9 ≤ R.frames) (hRl : 60 * 8 + 60 ≤ R.locals)
    (kk : ∀ (ad : Nat → Nat) (H1 : Heap), va_P (dC, dI) vwCl (z_wd dA z_hcN ad hd σ0) H1 → va_D (fun q => H.size ≤ q) (z_wd dA z_hcN ad hd σ0) → z_sok z_hcN hd σ0 → (∀ q : Nat, q < H.size → H1[q]? = H[q]?) → H.size ≤ H1.size → W p l e R s m args below meth c H1 [] (cells + hd.length) (slots + z_sl hd) Q (F0 m (pc + 7) arr (.ref (ad 0) :: rest))) :
    W p l e R s m args below meth c H [] cells slots Q (F0 m pc arr rest) := by
  have ok := z_allok mm hself
  obtain ⟨m1, m2, m3, m4, m5, m6, m7, m8, m9, m10⟩ := z_mchk_of ok
  have h10 : 10 + a - 10 = a := by omega
  have hho : z_hok [(10 + a, (z_nf a : Int))] := fun j q hq => by
    have hz : j < 1 := (List.getElem?_eq_some_iff.mp hq).1
    rw [show j = 0 by omega] at hq
    cases hq
    exact ⟨fun z => absurd z (by show ¬ 10 + a < 10; omega), fun _ => by rw [show (10 + a, (z_nf a : Int)).1 - 10 = a from h10]; exact ⟨ha, rfl⟩⟩
  have hfv : ∀ (t f : Nat), z_fv z_hcN (fun _ _ => 0) ((0 : Nat) + 1) f t = match t with | 1 => z_R 0 | 2 => z_L 0 | _ => z_I 0 := fun t f => by
    match t with
    | 0 => rfl
    | 1 => rfl
    | 2 => rfl
    | t + 3 => rfl
  have hso : z_sok z_hcN [(10 + a, (z_nf a : Int))] (fun _ _ => 0) := fun j q hq => by
    have hz : j < 1 := (List.getElem?_eq_some_iff.mp hq).1
    rw [show j = 0 by omega] at hq ⊢
    cases hq
    refine ⟨fun z i => ⟨by omega, by omega⟩, fun _ f _ => ?_⟩
    rw [hfv]
    split
    · exact ⟨by omega, by show (0 : Int) ≤ 1; omega⟩
    · exact ⟨by omega, by omega⟩
    · exact ⟨by omega, by omega⟩
  obtain ⟨hfin, hMet⟩ := z_run_met (l := l) (dC := dC) (dI := dI) (dA := dA) (fun _ _ _ => rfl) hev hself hho hso (fun v hv => by rw [List.mem_singleton] at hv; subst hv; exact ⟨by omega, by show (1 : Int) ≤ 1; omega⟩)
  refine va_new (C := z_cl a) (T := z_T a) (N := z_nf a) (ci := a) (Ts := z_tw) (A := fun q => H.size ≤ q) (ws := []) (fs := (List.range (z_nf a)).map (fun f => z_cv (fun _ => 0) (z_fv z_hcN (fun _ _ => 0) ((0 : Nat) + 1) f (z_ft a f)))) hx hb hts (z_uw a ha) (z_ty a) (fun k hk => z_tyok a ha k hk) hown (hts _ hw) (hts _ hw1) (hts _ hw2) hK (fun k q h => by simp at h) ⟨fun i j p q h => by simp at h, fun k q h => by simp at h⟩ (va_S.rf (H0 := H)) (fun q h => h) (z_vwCl a ha) (fun j hj => ?_) (by omega) (by omega) d0 (fun q0 H1 hP1 hD1 hS1 => ?_)
  · rw [z_dfc a ha j hj]
    unfold vp_V
    rw [List.getD_eq_getElem?_getD, List.getElem?_map, List.getElem?_range hj]
    show _ = z_cv (fun _ => 0) (z_fv z_hcN (fun _ _ => 0) ((0 : Nat) + 1) j (z_ft a j))
    rw [hfv]
    generalize z_ft a j = w
    match w with
    | 0 => rfl
    | 1 => rfl
    | 2 => rfl
    | w + 3 => rfl
  · have hwd : z_wd dA z_hcN (fun _ => q0) [(10 + a, (z_nf a : Int))] (fun _ _ => 0) = [(q0, .inr (a, (List.range (z_nf a)).map (fun f => z_cv (fun _ => 0) (z_fv z_hcN (fun _ _ => 0) ((0 : Nat) + 1) f (z_ft a f)))))] := by
      show [(q0, z_cell dA z_hcN (fun _ => q0) (fun _ _ => 0) 0 (10 + a, (z_nf a : Int)))] = _
      unfold z_cell
      rw [if_neg (by show ¬ 10 + a < 10; omega)]
      show [(q0, Sum.inr (10 + a - 10, _))] = _
      rw [h10]
      congr 4
      refine List.map_congr_left fun f hf => ?_
      rw [hfv]
      split <;> rfl
    have hP2 : va_P (dC, dI) vwCl (z_wd dA z_hcN (fun _ => q0) [(10 + a, (z_nf a : Int))] (fun _ _ => 0)) H1 := by rw [hwd]; exact hP1
    have hD2 : va_D (fun q => H.size ≤ q) (z_wd dA z_hcN (fun _ => q0) [(10 + a, (z_nf a : Int))] (fun _ _ => 0)) := by rw [hwd]; exact hD1
    have hq0 : H.size ≤ q0 := hD1.2 0 _ rfl
    refine lv_dup hx hb d3 rfl ?_
    have hB : CallB R s args RL y (z_my mm) (z_mb mm) (z_ml mm) (z_mr mm) (z_ws mm) ({ frames := 8, cells := hd.length - 1, slots := z_sl hd - z_sl [(10 + a, (z_nf a : Int))], locals := 60 * 8 } : Room) (hd.length - 1) (z_sl hd - z_sl [(10 + a, (z_nf a : Int))]) (z_np mm) :=
      callB_of (z_np mm) hts (z_ws_good ok) rfl rfl rfl (hts _ m4) (hts _ hlink) ⟨m3.1, m3.2, m1⟩ ⟨hRf, by show 8 + (z_ml mm + 11) + 60 * 8 ≤ R.locals; omega⟩
    rw [hmr] at hB
    have hPre : ∀ U : State, U.heap = H1 → s.WarmedH U.vm → z_Pc dC dI dA z_hcN [z_R 1] [(10 + a, (z_nf a : Int))] (fun _ _ => 0) (fun _ => q0) H1.size ((Value.ref q0 :: []).toArray) U := fun U hU hW => ⟨rfl, by rw [hU], by rw [hU]; exact hP2, va_K.moved hW.alike hK, hD2.weaken (fun _ _ _ _ => trivial)⟩
    have hsl1 : z_sl [(10 + a, (z_nf a : Int))] = z_nf a := by unfold z_sl; simp
    have hcat2 : ((Value.ref q0 :: rest).map fun v => v.category).sum ≤ 8 := by
      show 1 + (rest.map fun v => v.category).sum ≤ 8
      omega
    have hr := va_runI (e := e) (below := below) (meth := meth) (b := q0) (As := []) (rest := .ref q0 :: rest) (H := H1) (locs := []) (cells := cells + 1) (slots := slots + z_nf a) (g := F0 m (pc + 4) arr (.ref q0 :: .ref q0 :: rest)) ⟨hx, hb, hml, hown, hts⟩ (hMet (fun _ => q0) H1.size) ⟨hB, m10 hkd, hts _ (m8 (by rw [hkd]; decide))⟩ ⟨z_Pc_blind, hPre⟩ rfl hnp.symm hsize rfl (lv_room hcat2) d4 ⟨by show cells + 1 + (hd.length - 1) ≤ R.cells; omega, by show slots + z_nf a + (z_sl hd - z_sl [(10 + a, (z_nf a : Int))]) ≤ R.slots; rw [hsl1]; omega⟩
    intro T hT X
    obtain ⟨v9, st₀, u, T', L, e0, X', hL, e1, e2, ⟨⟨ad', had', hv, hvok, hhok, hsok, hP', hD'⟩, hz, hk⟩, stp⟩ := hr T hT X
    cases hv
    rw [e0] at hz hk hD'
    have hfr : ∀ q, z_fr (fun _ => q0) 1 H1.size q → H.size ≤ q := fun q hq => by
      rcases hq with ⟨j, hj, rfl⟩ | hq
      · exact hq0
      · exact Nat.le_trans hS1.1 hq
    have X2 : Stand p l e R s m args below meth c T' L (cells + hd.length) (slots + z_sl hd) := by
      have := X'
      rw [List.nil_append] at this
      have h1 : cells + 1 + (hd.length - 1) = cells + hd.length := by omega
      have h2 : slots + z_nf a + (z_sl hd - z_sl [(10 + a, (z_nf a : Int))]) = slots + z_sl hd := by rw [hsl1]; omega
      rw [← h1, ← h2]
      exact this
    have h0 : ad' 0 = q0 := had' 0 (by show 0 < 1; omega)
    obtain ⟨t2, a1, b1⟩ := kk ad' T'.heap (by rw [e1]; exact hP') (hD'.weaken (fun _ q _ z => hfr _ z)) hsok (fun q hq => by
        rw [e1, hk q (Nat.lt_of_lt_of_le hq hS1.1) (fun z => absurd (hfr q z) (by omega))]
        exact hS1.2.1 q hq (by show ¬ H.size ≤ q; omega)) (Nat.le_trans hS1.1 (by rw [e1]; exact hz)) T' rfl (Stand.forget (locs := []) X2 (fun q hq => Nat.le_trans hsz (hfr _ (hL q hq))))
    rw [h0] at a1
    exact ⟨t2, stp t2 a1, b1⟩
end
