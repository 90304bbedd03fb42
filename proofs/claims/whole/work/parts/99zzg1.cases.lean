/-! The law: its questions, one by one. -/
/-- from the end of a round, whatever was asked -/
def w_K (p : Program) (l : Launch) (e : Env) (s : State) (m : MethodId) (below : List Frame) (meth : Method) (c : Code) (dC : Nat → ClassId) (dI : Nat → Nat → Nat) (dA : Nat → ClassId) (dL : ClassId) (adC adM : Nat → Nat) (qo b : Nat) (x4 : Int32) (Q : State → Prop) (cells slots : Nat) : Prop :=
  ∀ (X σ τ : z_S) (f : Nat → Int64) (H : Heap) (locs : List Loc) (ls : Array Slot), c_inv σ X → m_inv τ X → w_J s dC dI dA dL adC adM qo σ τ f H locs → lv_has ls 7 [(0, .ref b), (1, .ref (adC 0)), (2, .ref (adM 0)), (3, .ref qo), (4, .int x4)] →
    W p l e room_1 s m #[.ref b] below meth c H locs (cells + 1) (slots + 6) Q (F0 m 1336 ls [])
section
variable {p : Program} {l : Launch} {e : Env} {s : State} {m : MethodId} {below : List Frame} {meth : Method} {c : Code} {dC : Nat → ClassId} {dI : Nat → Nat → Nat} {dA : Nat → ClassId} {dL : ClassId} {adC adM : Nat → Nat} {qo : Nat} {σ τ X : z_S} {f : Nat → Int64} {H : Heap} {locs : List Loc} {b L : Nat} {xs : Nat → Int32} {Q : State → Prop} {cells slots : Nat} {ls : Array Slot} {x4 : Int32}
set_option maxHeartbeats 4000000 in
theorem w_case0 (C0 : lw_At p s m meth c b L xs) (hK : va_K (dC, dI) vwCl (z_tys dA) s) (hap : w_ap adC adM qo) (h1 : vp_in (x4 + 1) L) (h2 : vp_in (x4 + 2) L) (h3 : vp_in (x4 + 3) L) (h4 : vp_in (x4 + 4) L) (hfit : cells + 1 ≤ room_1.cells ∧ slots + 6 ≤ room_1.slots) (hc : c_inv σ X) (hm : m_inv τ X) (J : w_J s dC dI dA dL adC adM qo σ τ f H locs) (hl : lv_has ls 7 [(0, .ref b), (1, .ref (adC 0)), (2, .ref (adM 0)), (3, .ref qo), (4, .int x4)])
    (K : w_K p l e s m below meth c dC dI dA dL adC adM qo b x4 Q cells slots) : W p l e room_1 s m #[.ref b] below meth c H locs cells slots Q (F0 m 204 ls []) := by
  obtain ⟨hx, hb, hr, hml, hown, hts, hX, hbl, hlocks, hgv⟩ := id C0
  have hbA : ¬ (fun q : Nat => s.heap.size ≤ q) b := Nat.not_le.mpr hbl
  have hf0 : cells ≤ room_1.cells ∧ slots ≤ room_1.slots := ⟨by omega, by omega⟩
  refine lv_aload_n hx hb dL_law_204 rfl (lv_at hl 1 rfl) ?_
  refine lv_aload_n hx hb dL_law_205 rfl (lv_at hl 0 rfl) ?_
  refine lv_iload hx hb dL_law_206 (lv_at hl 4 rfl) ?_
  refine lv_iconst (v := 1) hx hb dL_law_208 (by decide) ?_
  refine lv_iadd hx hb dL_law_209 ?_
  refine va_sld hx hb hX hbl hbA J.2.2.2.2.2.2.2.2 h1 dL_law_210 ?_
  refine w_callC (rest := []) (ts := [xs (x4 + 1).toNatClampNeg]) C0 hK hap w_o1101 (C_sign hc 20 (xs (x4 + 1).toNatClampNeg).toInt) J dL_law_211 (Nat.le_of_ble_eq_true rfl) hl.1 hf0 (fun σ1 H1 locs1 hc1 J1 hv1 => ?_)
  refine lv_aload_n hx hb dL_law_214 rfl (lv_at hl 2 rfl) ?_
  refine lv_aload_n hx hb dL_law_215 rfl (lv_at hl 0 rfl) ?_
  refine lv_iload hx hb dL_law_216 (lv_at hl 4 rfl) ?_
  refine lv_iconst (v := 1) hx hb dL_law_218 (by decide) ?_
  refine lv_iadd hx hb dL_law_219 ?_
  refine va_sld hx hb hX hbl hbA J1.2.2.2.2.2.2.2.2 h1 dL_law_220 ?_
  obtain ⟨τ1, em, hm1, -⟩ := M_sign hm 20 (xs (x4 + 1).toNatClampNeg).toInt
  refine w_callM (ts := [xs (x4 + 1).toNatClampNeg]) C0 hK hap w_o1209 em J1 dL_law_221 (Nat.le_of_ble_eq_true rfl) hl.1 hf0 (fun H2 locs2 J2 hv2 => ?_)
  refine lv_icmp_eq (tgt := 1336) hx hb dL_law_224 (by decide) (fun _ => ?_) (fun hne => absurd rfl hne)
  exact W.widen (k := cells + 1) (n := slots + 6) (Nat.le_succ _) (Nat.le_add_right _ _) (K _ _ _ _ _ _ _ hc1 hm1 J2 hl)
set_option maxHeartbeats 4000000 in
theorem w_case1 (C0 : lw_At p s m meth c b L xs) (hK : va_K (dC, dI) vwCl (z_tys dA) s) (hap : w_ap adC adM qo) (h1 : vp_in (x4 + 1) L) (h2 : vp_in (x4 + 2) L) (h3 : vp_in (x4 + 3) L) (h4 : vp_in (x4 + 4) L) (hfit : cells + 1 ≤ room_1.cells ∧ slots + 6 ≤ room_1.slots) (hc : c_inv σ X) (hm : m_inv τ X) (J : w_J s dC dI dA dL adC adM qo σ τ f H locs) (hl : lv_has ls 7 [(0, .ref b), (1, .ref (adC 0)), (2, .ref (adM 0)), (3, .ref qo), (4, .int x4)])
    (K : w_K p l e s m below meth c dC dI dA dL adC adM qo b x4 Q cells slots) : W p l e room_1 s m #[.ref b] below meth c H locs cells slots Q (F0 m 229 ls []) := by
  obtain ⟨hx, hb, hr, hml, hown, hts, hX, hbl, hlocks, hgv⟩ := id C0
  have hbA : ¬ (fun q : Nat => s.heap.size ≤ q) b := Nat.not_le.mpr hbl
  have hf0 : cells ≤ room_1.cells ∧ slots ≤ room_1.slots := ⟨by omega, by omega⟩
  refine lv_aload_n hx hb dL_law_229 rfl (lv_at hl 1 rfl) ?_
  refine lv_aload_n hx hb dL_law_230 rfl (lv_at hl 0 rfl) ?_
  refine lv_iload hx hb dL_law_231 (lv_at hl 4 rfl) ?_
  refine lv_iconst (v := 1) hx hb dL_law_233 (by decide) ?_
  refine lv_iadd hx hb dL_law_234 ?_
  refine va_sld hx hb hX hbl hbA J.2.2.2.2.2.2.2.2 h1 dL_law_235 ?_
  refine w_callC (rest := []) (ts := [xs (x4 + 1).toNatClampNeg]) C0 hK hap w_o1102 (C_end hc 20 (xs (x4 + 1).toNatClampNeg).toInt) J dL_law_236 (Nat.le_of_ble_eq_true rfl) hl.1 hf0 (fun σ1 H1 locs1 hc1 J1 hv1 => ?_)
  refine lv_aload_n hx hb dL_law_239 rfl (lv_at hl 2 rfl) ?_
  refine lv_aload_n hx hb dL_law_240 rfl (lv_at hl 0 rfl) ?_
  refine lv_iload hx hb dL_law_241 (lv_at hl 4 rfl) ?_
  refine lv_iconst (v := 1) hx hb dL_law_243 (by decide) ?_
  refine lv_iadd hx hb dL_law_244 ?_
  refine va_sld hx hb hX hbl hbA J1.2.2.2.2.2.2.2.2 h1 dL_law_245 ?_
  obtain ⟨τ1, em, hm1, -⟩ := M_end hm 20 (xs (x4 + 1).toNatClampNeg).toInt
  refine w_callM (ts := [xs (x4 + 1).toNatClampNeg]) C0 hK hap w_o1210 em J1 dL_law_246 (Nat.le_of_ble_eq_true rfl) hl.1 hf0 (fun H2 locs2 J2 hv2 => ?_)
  refine lv_icmp_eq (tgt := 1336) hx hb dL_law_249 (by decide) (fun _ => ?_) (fun hne => absurd rfl hne)
  exact W.widen (k := cells + 1) (n := slots + 6) (Nat.le_succ _) (Nat.le_add_right _ _) (K _ _ _ _ _ _ _ hc1 hm1 J2 hl)
set_option maxHeartbeats 4000000 in
theorem w_case2 (C0 : lw_At p s m meth c b L xs) (hK : va_K (dC, dI) vwCl (z_tys dA) s) (hap : w_ap adC adM qo) (h1 : vp_in (x4 + 1) L) (h2 : vp_in (x4 + 2) L) (h3 : vp_in (x4 + 3) L) (h4 : vp_in (x4 + 4) L) (hfit : cells + 1 ≤ room_1.cells ∧ slots + 6 ≤ room_1.slots) (hc : c_inv σ X) (hm : m_inv τ X) (J : w_J s dC dI dA dL adC adM qo σ τ f H locs) (hl : lv_has ls 7 [(0, .ref b), (1, .ref (adC 0)), (2, .ref (adM 0)), (3, .ref qo), (4, .int x4)])
    (K : w_K p l e s m below meth c dC dI dA dL adC adM qo b x4 Q cells slots) : W p l e room_1 s m #[.ref b] below meth c H locs cells slots Q (F0 m 254 ls []) := by
  obtain ⟨hx, hb, hr, hml, hown, hts, hX, hbl, hlocks, hgv⟩ := id C0
  have hbA : ¬ (fun q : Nat => s.heap.size ≤ q) b := Nat.not_le.mpr hbl
  have hf0 : cells ≤ room_1.cells ∧ slots ≤ room_1.slots := ⟨by omega, by omega⟩
  refine lv_aload_n hx hb dL_law_254 rfl (lv_at hl 1 rfl) ?_
  refine w_callC (rest := []) (ts := []) C0 hK hap w_o1103 (C_tell hc 20 ) J dL_law_255 (Nat.le_of_ble_eq_true rfl) hl.1 hf0 (fun σ1 H1 locs1 hc1 J1 hv1 => ?_)
  refine lv_aload_n hx hb dL_law_258 rfl (lv_at hl 2 rfl) ?_
  obtain ⟨τ1, em, hm1, -⟩ := M_tell hm 20 
  refine w_callM (ts := []) C0 hK hap w_o1220 em J1 dL_law_259 (Nat.le_of_ble_eq_true rfl) hl.1 hf0 (fun H2 locs2 J2 hv2 => ?_)
  refine lv_icmp_eq (tgt := 1336) hx hb dL_law_262 (by decide) (fun _ => ?_) (fun hne => absurd rfl hne)
  exact W.widen (k := cells + 1) (n := slots + 6) (Nat.le_succ _) (Nat.le_add_right _ _) (K _ _ _ _ _ _ _ hc1 hm1 J2 hl)
set_option maxHeartbeats 4000000 in
theorem w_case3 (C0 : lw_At p s m meth c b L xs) (hK : va_K (dC, dI) vwCl (z_tys dA) s) (hap : w_ap adC adM qo) (h1 : vp_in (x4 + 1) L) (h2 : vp_in (x4 + 2) L) (h3 : vp_in (x4 + 3) L) (h4 : vp_in (x4 + 4) L) (hfit : cells + 1 ≤ room_1.cells ∧ slots + 6 ≤ room_1.slots) (hc : c_inv σ X) (hm : m_inv τ X) (J : w_J s dC dI dA dL adC adM qo σ τ f H locs) (hl : lv_has ls 7 [(0, .ref b), (1, .ref (adC 0)), (2, .ref (adM 0)), (3, .ref qo), (4, .int x4)])
    (K : w_K p l e s m below meth c dC dI dA dL adC adM qo b x4 Q cells slots) : W p l e room_1 s m #[.ref b] below meth c H locs cells slots Q (F0 m 267 ls []) := by
  obtain ⟨hx, hb, hr, hml, hown, hts, hX, hbl, hlocks, hgv⟩ := id C0
  have hbA : ¬ (fun q : Nat => s.heap.size ≤ q) b := Nat.not_le.mpr hbl
  have hf0 : cells ≤ room_1.cells ∧ slots ≤ room_1.slots := ⟨by omega, by omega⟩
  refine lv_aload_n hx hb dL_law_267 rfl (lv_at hl 1 rfl) ?_
  refine lv_aload_n hx hb dL_law_268 rfl (lv_at hl 0 rfl) ?_
  refine lv_iload hx hb dL_law_269 (lv_at hl 4 rfl) ?_
  refine lv_iconst (v := 1) hx hb dL_law_271 (by decide) ?_
  refine lv_iadd hx hb dL_law_272 ?_
  refine va_sld hx hb hX hbl hbA J.2.2.2.2.2.2.2.2 h1 dL_law_273 ?_
  refine lv_aload_n hx hb dL_law_274 rfl (lv_at hl 0 rfl) ?_
  refine lv_iload hx hb dL_law_275 (lv_at hl 4 rfl) ?_
  refine lv_iconst (v := 2) hx hb dL_law_277 (by decide) ?_
  refine lv_iadd hx hb dL_law_278 ?_
  refine va_sld hx hb hX hbl hbA J.2.2.2.2.2.2.2.2 h2 dL_law_279 ?_
  refine w_callC (rest := []) (ts := [xs (x4 + 1).toNatClampNeg, xs (x4 + 2).toNatClampNeg]) C0 hK hap w_o1104 (C_toll hc 20 (xs (x4 + 1).toNatClampNeg).toInt (xs (x4 + 2).toNatClampNeg).toInt) J dL_law_280 (Nat.le_of_ble_eq_true rfl) hl.1 hf0 (fun σ1 H1 locs1 hc1 J1 hv1 => ?_)
  refine lv_aload_n hx hb dL_law_283 rfl (lv_at hl 2 rfl) ?_
  refine lv_aload_n hx hb dL_law_284 rfl (lv_at hl 0 rfl) ?_
  refine lv_iload hx hb dL_law_285 (lv_at hl 4 rfl) ?_
  refine lv_iconst (v := 1) hx hb dL_law_287 (by decide) ?_
  refine lv_iadd hx hb dL_law_288 ?_
  refine va_sld hx hb hX hbl hbA J1.2.2.2.2.2.2.2.2 h1 dL_law_289 ?_
  refine lv_aload_n hx hb dL_law_290 rfl (lv_at hl 0 rfl) ?_
  refine lv_iload hx hb dL_law_291 (lv_at hl 4 rfl) ?_
  refine lv_iconst (v := 2) hx hb dL_law_293 (by decide) ?_
  refine lv_iadd hx hb dL_law_294 ?_
  refine va_sld hx hb hX hbl hbA J1.2.2.2.2.2.2.2.2 h2 dL_law_295 ?_
  obtain ⟨τ1, em, hm1, -⟩ := M_toll hm 20 (xs (x4 + 1).toNatClampNeg).toInt (xs (x4 + 2).toNatClampNeg).toInt
  refine w_callM (ts := [xs (x4 + 1).toNatClampNeg, xs (x4 + 2).toNatClampNeg]) C0 hK hap w_o1234 em J1 dL_law_296 (Nat.le_of_ble_eq_true rfl) hl.1 hf0 (fun H2 locs2 J2 hv2 => ?_)
  refine lv_icmp_eq (tgt := 1336) hx hb dL_law_299 (by decide) (fun _ => ?_) (fun hne => absurd rfl hne)
  exact W.widen (k := cells + 1) (n := slots + 6) (Nat.le_succ _) (Nat.le_add_right _ _) (K _ _ _ _ _ _ _ hc1 hm1 J2 hl)
set_option maxHeartbeats 4000000 in
theorem w_case4 (C0 : lw_At p s m meth c b L xs) (hK : va_K (dC, dI) vwCl (z_tys dA) s) (hap : w_ap adC adM qo) (h1 : vp_in (x4 + 1) L) (h2 : vp_in (x4 + 2) L) (h3 : vp_in (x4 + 3) L) (h4 : vp_in (x4 + 4) L) (hfit : cells + 1 ≤ room_1.cells ∧ slots + 6 ≤ room_1.slots) (hc : c_inv σ X) (hm : m_inv τ X) (J : w_J s dC dI dA dL adC adM qo σ τ f H locs) (hl : lv_has ls 7 [(0, .ref b), (1, .ref (adC 0)), (2, .ref (adM 0)), (3, .ref qo), (4, .int x4)])
    (K : w_K p l e s m below meth c dC dI dA dL adC adM qo b x4 Q cells slots) : W p l e room_1 s m #[.ref b] below meth c H locs cells slots Q (F0 m 304 ls []) := by
  obtain ⟨hx, hb, hr, hml, hown, hts, hX, hbl, hlocks, hgv⟩ := id C0
  have hbA : ¬ (fun q : Nat => s.heap.size ≤ q) b := Nat.not_le.mpr hbl
  have hf0 : cells ≤ room_1.cells ∧ slots ≤ room_1.slots := ⟨by omega, by omega⟩
  refine lv_aload_n hx hb dL_law_304 rfl (lv_at hl 1 rfl) ?_
  refine lv_aload_n hx hb dL_law_305 rfl (lv_at hl 0 rfl) ?_
  refine lv_iload hx hb dL_law_306 (lv_at hl 4 rfl) ?_
  refine lv_iconst (v := 1) hx hb dL_law_308 (by decide) ?_
  refine lv_iadd hx hb dL_law_309 ?_
  refine va_sld hx hb hX hbl hbA J.2.2.2.2.2.2.2.2 h1 dL_law_310 ?_
  refine w_callC (rest := []) (ts := [xs (x4 + 1).toNatClampNeg]) C0 hK hap w_o1105 (C_lean hc 20 (xs (x4 + 1).toNatClampNeg).toInt) J dL_law_311 (Nat.le_of_ble_eq_true rfl) hl.1 hf0 (fun σ1 H1 locs1 hc1 J1 hv1 => ?_)
  refine lv_aload_n hx hb dL_law_314 rfl (lv_at hl 2 rfl) ?_
  refine lv_aload_n hx hb dL_law_315 rfl (lv_at hl 0 rfl) ?_
  refine lv_iload hx hb dL_law_316 (lv_at hl 4 rfl) ?_
  refine lv_iconst (v := 1) hx hb dL_law_318 (by decide) ?_
  refine lv_iadd hx hb dL_law_319 ?_
  refine va_sld hx hb hX hbl hbA J1.2.2.2.2.2.2.2.2 h1 dL_law_320 ?_
  obtain ⟨τ1, em, hm1, -⟩ := M_lean hm 20 (xs (x4 + 1).toNatClampNeg).toInt
  refine w_callM (ts := [xs (x4 + 1).toNatClampNeg]) C0 hK hap w_o1235 em J1 dL_law_321 (Nat.le_of_ble_eq_true rfl) hl.1 hf0 (fun H2 locs2 J2 hv2 => ?_)
  refine lv_icmp_eq (tgt := 1336) hx hb dL_law_324 (by decide) (fun _ => ?_) (fun hne => absurd rfl hne)
  exact W.widen (k := cells + 1) (n := slots + 6) (Nat.le_succ _) (Nat.le_add_right _ _) (K _ _ _ _ _ _ _ hc1 hm1 J2 hl)
set_option maxHeartbeats 4000000 in
theorem w_case5 (C0 : lw_At p s m meth c b L xs) (hK : va_K (dC, dI) vwCl (z_tys dA) s) (hap : w_ap adC adM qo) (h1 : vp_in (x4 + 1) L) (h2 : vp_in (x4 + 2) L) (h3 : vp_in (x4 + 3) L) (h4 : vp_in (x4 + 4) L) (hfit : cells + 1 ≤ room_1.cells ∧ slots + 6 ≤ room_1.slots) (hc : c_inv σ X) (hm : m_inv τ X) (J : w_J s dC dI dA dL adC adM qo σ τ f H locs) (hl : lv_has ls 7 [(0, .ref b), (1, .ref (adC 0)), (2, .ref (adM 0)), (3, .ref qo), (4, .int x4)])
    (K : w_K p l e s m below meth c dC dI dA dL adC adM qo b x4 Q cells slots) : W p l e room_1 s m #[.ref b] below meth c H locs cells slots Q (F0 m 329 ls []) := by
  obtain ⟨hx, hb, hr, hml, hown, hts, hX, hbl, hlocks, hgv⟩ := id C0
  have hbA : ¬ (fun q : Nat => s.heap.size ≤ q) b := Nat.not_le.mpr hbl
  have hf0 : cells ≤ room_1.cells ∧ slots ≤ room_1.slots := ⟨by omega, by omega⟩
  refine lv_aload_n hx hb dL_law_329 rfl (lv_at hl 1 rfl) ?_
  refine lv_aload_n hx hb dL_law_330 rfl (lv_at hl 0 rfl) ?_
  refine lv_iload hx hb dL_law_331 (lv_at hl 4 rfl) ?_
  refine lv_iconst (v := 1) hx hb dL_law_333 (by decide) ?_
  refine lv_iadd hx hb dL_law_334 ?_
  refine va_sld hx hb hX hbl hbA J.2.2.2.2.2.2.2.2 h1 dL_law_335 ?_
  refine lv_aload_n hx hb dL_law_336 rfl (lv_at hl 0 rfl) ?_
  refine lv_iload hx hb dL_law_337 (lv_at hl 4 rfl) ?_
  refine lv_iconst (v := 2) hx hb dL_law_339 (by decide) ?_
  refine lv_iadd hx hb dL_law_340 ?_
  refine va_sld hx hb hX hbl hbA J.2.2.2.2.2.2.2.2 h2 dL_law_341 ?_
  refine w_callC (rest := []) (ts := [xs (x4 + 1).toNatClampNeg, xs (x4 + 2).toNatClampNeg]) C0 hK hap w_o1106 (C_way hc 20 (xs (x4 + 1).toNatClampNeg).toInt (xs (x4 + 2).toNatClampNeg).toInt) J dL_law_342 (Nat.le_of_ble_eq_true rfl) hl.1 hf0 (fun σ1 H1 locs1 hc1 J1 hv1 => ?_)
  refine lv_aload_n hx hb dL_law_345 rfl (lv_at hl 2 rfl) ?_
  refine lv_aload_n hx hb dL_law_346 rfl (lv_at hl 0 rfl) ?_
  refine lv_iload hx hb dL_law_347 (lv_at hl 4 rfl) ?_
  refine lv_iconst (v := 1) hx hb dL_law_349 (by decide) ?_
  refine lv_iadd hx hb dL_law_350 ?_
  refine va_sld hx hb hX hbl hbA J1.2.2.2.2.2.2.2.2 h1 dL_law_351 ?_
  refine lv_aload_n hx hb dL_law_352 rfl (lv_at hl 0 rfl) ?_
  refine lv_iload hx hb dL_law_353 (lv_at hl 4 rfl) ?_
  refine lv_iconst (v := 2) hx hb dL_law_355 (by decide) ?_
  refine lv_iadd hx hb dL_law_356 ?_
  refine va_sld hx hb hX hbl hbA J1.2.2.2.2.2.2.2.2 h2 dL_law_357 ?_
  obtain ⟨τ1, em, hm1, -⟩ := M_way hm 20 (xs (x4 + 1).toNatClampNeg).toInt (xs (x4 + 2).toNatClampNeg).toInt
  refine w_callM (ts := [xs (x4 + 1).toNatClampNeg, xs (x4 + 2).toNatClampNeg]) C0 hK hap w_o1239 em J1 dL_law_358 (Nat.le_of_ble_eq_true rfl) hl.1 hf0 (fun H2 locs2 J2 hv2 => ?_)
  refine lv_icmp_eq (tgt := 1336) hx hb dL_law_361 (by decide) (fun _ => ?_) (fun hne => absurd rfl hne)
  exact W.widen (k := cells + 1) (n := slots + 6) (Nat.le_succ _) (Nat.le_add_right _ _) (K _ _ _ _ _ _ _ hc1 hm1 J2 hl)
set_option maxHeartbeats 4000000 in
theorem w_case6 (C0 : lw_At p s m meth c b L xs) (hK : va_K (dC, dI) vwCl (z_tys dA) s) (hap : w_ap adC adM qo) (h1 : vp_in (x4 + 1) L) (h2 : vp_in (x4 + 2) L) (h3 : vp_in (x4 + 3) L) (h4 : vp_in (x4 + 4) L) (hfit : cells + 1 ≤ room_1.cells ∧ slots + 6 ≤ room_1.slots) (hc : c_inv σ X) (hm : m_inv τ X) (J : w_J s dC dI dA dL adC adM qo σ τ f H locs) (hl : lv_has ls 7 [(0, .ref b), (1, .ref (adC 0)), (2, .ref (adM 0)), (3, .ref qo), (4, .int x4)])
    (K : w_K p l e s m below meth c dC dI dA dL adC adM qo b x4 Q cells slots) : W p l e room_1 s m #[.ref b] below meth c H locs cells slots Q (F0 m 366 ls []) := by
  obtain ⟨hx, hb, hr, hml, hown, hts, hX, hbl, hlocks, hgv⟩ := id C0
  have hbA : ¬ (fun q : Nat => s.heap.size ≤ q) b := Nat.not_le.mpr hbl
  have hf0 : cells ≤ room_1.cells ∧ slots ≤ room_1.slots := ⟨by omega, by omega⟩
  refine lv_aload_n hx hb dL_law_366 rfl (lv_at hl 1 rfl) ?_
  refine lv_aload_n hx hb dL_law_367 rfl (lv_at hl 0 rfl) ?_
  refine lv_iload hx hb dL_law_368 (lv_at hl 4 rfl) ?_
  refine lv_iconst (v := 1) hx hb dL_law_370 (by decide) ?_
  refine lv_iadd hx hb dL_law_371 ?_
  refine va_sld hx hb hX hbl hbA J.2.2.2.2.2.2.2.2 h1 dL_law_372 ?_
  refine lv_aload_n hx hb dL_law_373 rfl (lv_at hl 0 rfl) ?_
  refine lv_iload hx hb dL_law_374 (lv_at hl 4 rfl) ?_
  refine lv_iconst (v := 2) hx hb dL_law_376 (by decide) ?_
  refine lv_iadd hx hb dL_law_377 ?_
  refine va_sld hx hb hX hbl hbA J.2.2.2.2.2.2.2.2 h2 dL_law_378 ?_
  refine w_callC (rest := []) (ts := [xs (x4 + 1).toNatClampNeg, xs (x4 + 2).toNatClampNeg]) C0 hK hap w_o1107 (C_pains hc 20 (xs (x4 + 1).toNatClampNeg).toInt (xs (x4 + 2).toNatClampNeg).toInt) J dL_law_379 (Nat.le_of_ble_eq_true rfl) hl.1 hf0 (fun σ1 H1 locs1 hc1 J1 hv1 => ?_)
  refine lv_aload_n hx hb dL_law_382 rfl (lv_at hl 2 rfl) ?_
  refine lv_aload_n hx hb dL_law_383 rfl (lv_at hl 0 rfl) ?_
  refine lv_iload hx hb dL_law_384 (lv_at hl 4 rfl) ?_
  refine lv_iconst (v := 1) hx hb dL_law_386 (by decide) ?_
  refine lv_iadd hx hb dL_law_387 ?_
  refine va_sld hx hb hX hbl hbA J1.2.2.2.2.2.2.2.2 h1 dL_law_388 ?_
  refine lv_aload_n hx hb dL_law_389 rfl (lv_at hl 0 rfl) ?_
  refine lv_iload hx hb dL_law_390 (lv_at hl 4 rfl) ?_
  refine lv_iconst (v := 2) hx hb dL_law_392 (by decide) ?_
  refine lv_iadd hx hb dL_law_393 ?_
  refine va_sld hx hb hX hbl hbA J1.2.2.2.2.2.2.2.2 h2 dL_law_394 ?_
  obtain ⟨τ1, em, hm1, -⟩ := M_pains hm 20 (xs (x4 + 1).toNatClampNeg).toInt (xs (x4 + 2).toNatClampNeg).toInt
  refine w_callM (ts := [xs (x4 + 1).toNatClampNeg, xs (x4 + 2).toNatClampNeg]) C0 hK hap w_o1240 em J1 dL_law_395 (Nat.le_of_ble_eq_true rfl) hl.1 hf0 (fun H2 locs2 J2 hv2 => ?_)
  refine lv_icmp_eq (tgt := 1336) hx hb dL_law_398 (by decide) (fun _ => ?_) (fun hne => absurd rfl hne)
  exact W.widen (k := cells + 1) (n := slots + 6) (Nat.le_succ _) (Nat.le_add_right _ _) (K _ _ _ _ _ _ _ hc1 hm1 J2 hl)
set_option maxHeartbeats 4000000 in
theorem w_case7 (C0 : lw_At p s m meth c b L xs) (hK : va_K (dC, dI) vwCl (z_tys dA) s) (hap : w_ap adC adM qo) (h1 : vp_in (x4 + 1) L) (h2 : vp_in (x4 + 2) L) (h3 : vp_in (x4 + 3) L) (h4 : vp_in (x4 + 4) L) (hfit : cells + 1 ≤ room_1.cells ∧ slots + 6 ≤ room_1.slots) (hc : c_inv σ X) (hm : m_inv τ X) (J : w_J s dC dI dA dL adC adM qo σ τ f H locs) (hl : lv_has ls 7 [(0, .ref b), (1, .ref (adC 0)), (2, .ref (adM 0)), (3, .ref qo), (4, .int x4)])
    (K : w_K p l e s m below meth c dC dI dA dL adC adM qo b x4 Q cells slots) : W p l e room_1 s m #[.ref b] below meth c H locs cells slots Q (F0 m 403 ls []) := by
  obtain ⟨hx, hb, hr, hml, hown, hts, hX, hbl, hlocks, hgv⟩ := id C0
  have hbA : ¬ (fun q : Nat => s.heap.size ≤ q) b := Nat.not_le.mpr hbl
  have hf0 : cells ≤ room_1.cells ∧ slots ≤ room_1.slots := ⟨by omega, by omega⟩
  refine lv_aload_n hx hb dL_law_403 rfl (lv_at hl 1 rfl) ?_
  refine lv_aload_n hx hb dL_law_404 rfl (lv_at hl 0 rfl) ?_
  refine lv_iload hx hb dL_law_405 (lv_at hl 4 rfl) ?_
  refine lv_iconst (v := 1) hx hb dL_law_407 (by decide) ?_
  refine lv_iadd hx hb dL_law_408 ?_
  refine va_sld hx hb hX hbl hbA J.2.2.2.2.2.2.2.2 h1 dL_law_409 ?_
  refine lv_aload_n hx hb dL_law_410 rfl (lv_at hl 0 rfl) ?_
  refine lv_iload hx hb dL_law_411 (lv_at hl 4 rfl) ?_
  refine lv_iconst (v := 2) hx hb dL_law_413 (by decide) ?_
  refine lv_iadd hx hb dL_law_414 ?_
  refine va_sld hx hb hX hbl hbA J.2.2.2.2.2.2.2.2 h2 dL_law_415 ?_
  refine w_callC (rest := []) (ts := [xs (x4 + 1).toNatClampNeg, xs (x4 + 2).toNatClampNeg]) C0 hK hap w_o1108 (C_room hc 20 (xs (x4 + 1).toNatClampNeg).toInt (xs (x4 + 2).toNatClampNeg).toInt) J dL_law_416 (Nat.le_of_ble_eq_true rfl) hl.1 hf0 (fun σ1 H1 locs1 hc1 J1 hv1 => ?_)
  refine lv_aload_n hx hb dL_law_419 rfl (lv_at hl 2 rfl) ?_
  refine lv_aload_n hx hb dL_law_420 rfl (lv_at hl 0 rfl) ?_
  refine lv_iload hx hb dL_law_421 (lv_at hl 4 rfl) ?_
  refine lv_iconst (v := 1) hx hb dL_law_423 (by decide) ?_
  refine lv_iadd hx hb dL_law_424 ?_
  refine va_sld hx hb hX hbl hbA J1.2.2.2.2.2.2.2.2 h1 dL_law_425 ?_
  refine lv_aload_n hx hb dL_law_426 rfl (lv_at hl 0 rfl) ?_
  refine lv_iload hx hb dL_law_427 (lv_at hl 4 rfl) ?_
  refine lv_iconst (v := 2) hx hb dL_law_429 (by decide) ?_
  refine lv_iadd hx hb dL_law_430 ?_
  refine va_sld hx hb hX hbl hbA J1.2.2.2.2.2.2.2.2 h2 dL_law_431 ?_
  obtain ⟨τ1, em, hm1, -⟩ := M_room hm 20 (xs (x4 + 1).toNatClampNeg).toInt (xs (x4 + 2).toNatClampNeg).toInt
  refine w_callM (ts := [xs (x4 + 1).toNatClampNeg, xs (x4 + 2).toNatClampNeg]) C0 hK hap w_o1241 em J1 dL_law_432 (Nat.le_of_ble_eq_true rfl) hl.1 hf0 (fun H2 locs2 J2 hv2 => ?_)
  refine lv_icmp_eq (tgt := 1336) hx hb dL_law_435 (by decide) (fun _ => ?_) (fun hne => absurd rfl hne)
  exact W.widen (k := cells + 1) (n := slots + 6) (Nat.le_succ _) (Nat.le_add_right _ _) (K _ _ _ _ _ _ _ hc1 hm1 J2 hl)
set_option maxHeartbeats 4000000 in
theorem w_case8 (C0 : lw_At p s m meth c b L xs) (hK : va_K (dC, dI) vwCl (z_tys dA) s) (hap : w_ap adC adM qo) (h1 : vp_in (x4 + 1) L) (h2 : vp_in (x4 + 2) L) (h3 : vp_in (x4 + 3) L) (h4 : vp_in (x4 + 4) L) (hfit : cells + 1 ≤ room_1.cells ∧ slots + 6 ≤ room_1.slots) (hc : c_inv σ X) (hm : m_inv τ X) (J : w_J s dC dI dA dL adC adM qo σ τ f H locs) (hl : lv_has ls 7 [(0, .ref b), (1, .ref (adC 0)), (2, .ref (adM 0)), (3, .ref qo), (4, .int x4)])
    (K : w_K p l e s m below meth c dC dI dA dL adC adM qo b x4 Q cells slots) : W p l e room_1 s m #[.ref b] below meth c H locs cells slots Q (F0 m 440 ls []) := by
  obtain ⟨hx, hb, hr, hml, hown, hts, hX, hbl, hlocks, hgv⟩ := id C0
  have hbA : ¬ (fun q : Nat => s.heap.size ≤ q) b := Nat.not_le.mpr hbl
  have hf0 : cells ≤ room_1.cells ∧ slots ≤ room_1.slots := ⟨by omega, by omega⟩
  refine lv_aload_n hx hb dL_law_440 rfl (lv_at hl 1 rfl) ?_
  refine lv_aload_n hx hb dL_law_441 rfl (lv_at hl 0 rfl) ?_
  refine lv_iload hx hb dL_law_442 (lv_at hl 4 rfl) ?_
  refine lv_iconst (v := 1) hx hb dL_law_444 (by decide) ?_
  refine lv_iadd hx hb dL_law_445 ?_
  refine va_sld hx hb hX hbl hbA J.2.2.2.2.2.2.2.2 h1 dL_law_446 ?_
  refine w_callC (rest := []) (ts := [xs (x4 + 1).toNatClampNeg]) C0 hK hap w_o1109 (C_take hc 20 (xs (x4 + 1).toNatClampNeg).toInt) J dL_law_447 (Nat.le_of_ble_eq_true rfl) hl.1 hf0 (fun σ1 H1 locs1 hc1 J1 hv1 => ?_)
  refine lv_aload_n hx hb dL_law_450 rfl (lv_at hl 2 rfl) ?_
  refine lv_aload_n hx hb dL_law_451 rfl (lv_at hl 0 rfl) ?_
  refine lv_iload hx hb dL_law_452 (lv_at hl 4 rfl) ?_
  refine lv_iconst (v := 1) hx hb dL_law_454 (by decide) ?_
  refine lv_iadd hx hb dL_law_455 ?_
  refine va_sld hx hb hX hbl hbA J1.2.2.2.2.2.2.2.2 h1 dL_law_456 ?_
  obtain ⟨τ1, em, hm1, -⟩ := M_take hm 20 (xs (x4 + 1).toNatClampNeg).toInt
  refine w_callM (ts := [xs (x4 + 1).toNatClampNeg]) C0 hK hap w_o1242 em J1 dL_law_457 (Nat.le_of_ble_eq_true rfl) hl.1 hf0 (fun H2 locs2 J2 hv2 => ?_)
  refine lv_icmp_eq (tgt := 1336) hx hb dL_law_460 (by decide) (fun _ => ?_) (fun hne => absurd rfl hne)
  exact W.widen (k := cells + 1) (n := slots + 6) (Nat.le_succ _) (Nat.le_add_right _ _) (K _ _ _ _ _ _ _ hc1 hm1 J2 hl)
set_option maxHeartbeats 4000000 in
theorem w_case9 (C0 : lw_At p s m meth c b L xs) (hK : va_K (dC, dI) vwCl (z_tys dA) s) (hap : w_ap adC adM qo) (h1 : vp_in (x4 + 1) L) (h2 : vp_in (x4 + 2) L) (h3 : vp_in (x4 + 3) L) (h4 : vp_in (x4 + 4) L) (hfit : cells + 1 ≤ room_1.cells ∧ slots + 6 ≤ room_1.slots) (hc : c_inv σ X) (hm : m_inv τ X) (J : w_J s dC dI dA dL adC adM qo σ τ f H locs) (hl : lv_has ls 7 [(0, .ref b), (1, .ref (adC 0)), (2, .ref (adM 0)), (3, .ref qo), (4, .int x4)])
    (K : w_K p l e s m below meth c dC dI dA dL adC adM qo b x4 Q cells slots) : W p l e room_1 s m #[.ref b] below meth c H locs cells slots Q (F0 m 465 ls []) := by
  obtain ⟨hx, hb, hr, hml, hown, hts, hX, hbl, hlocks, hgv⟩ := id C0
  have hbA : ¬ (fun q : Nat => s.heap.size ≤ q) b := Nat.not_le.mpr hbl
  have hf0 : cells ≤ room_1.cells ∧ slots ≤ room_1.slots := ⟨by omega, by omega⟩
  refine lv_aload_n hx hb dL_law_465 rfl (lv_at hl 1 rfl) ?_
  refine w_callC (rest := []) (ts := []) C0 hK hap w_o1110 (C_suf hc 20 ) J dL_law_466 (Nat.le_of_ble_eq_true rfl) hl.1 hf0 (fun σ1 H1 locs1 hc1 J1 hv1 => ?_)
  refine lv_aload_n hx hb dL_law_469 rfl (lv_at hl 2 rfl) ?_
  obtain ⟨τ1, em, hm1, -⟩ := M_suf hm 20 
  refine w_callM (ts := []) C0 hK hap w_o1243 em J1 dL_law_470 (Nat.le_of_ble_eq_true rfl) hl.1 hf0 (fun H2 locs2 J2 hv2 => ?_)
  refine lv_icmp_eq (tgt := 1336) hx hb dL_law_473 (by decide) (fun _ => ?_) (fun hne => absurd rfl hne)
  exact W.widen (k := cells + 1) (n := slots + 6) (Nat.le_succ _) (Nat.le_add_right _ _) (K _ _ _ _ _ _ _ hc1 hm1 J2 hl)
set_option maxHeartbeats 4000000 in
theorem w_case10 (C0 : lw_At p s m meth c b L xs) (hK : va_K (dC, dI) vwCl (z_tys dA) s) (hap : w_ap adC adM qo) (h1 : vp_in (x4 + 1) L) (h2 : vp_in (x4 + 2) L) (h3 : vp_in (x4 + 3) L) (h4 : vp_in (x4 + 4) L) (hfit : cells + 1 ≤ room_1.cells ∧ slots + 6 ≤ room_1.slots) (hc : c_inv σ X) (hm : m_inv τ X) (J : w_J s dC dI dA dL adC adM qo σ τ f H locs) (hl : lv_has ls 7 [(0, .ref b), (1, .ref (adC 0)), (2, .ref (adM 0)), (3, .ref qo), (4, .int x4)])
    (K : w_K p l e s m below meth c dC dI dA dL adC adM qo b x4 Q cells slots) : W p l e room_1 s m #[.ref b] below meth c H locs cells slots Q (F0 m 478 ls []) := by
  obtain ⟨hx, hb, hr, hml, hown, hts, hX, hbl, hlocks, hgv⟩ := id C0
  have hbA : ¬ (fun q : Nat => s.heap.size ≤ q) b := Nat.not_le.mpr hbl
  have hf0 : cells ≤ room_1.cells ∧ slots ≤ room_1.slots := ⟨by omega, by omega⟩
  refine lv_aload_n hx hb dL_law_478 rfl (lv_at hl 1 rfl) ?_
  refine lv_aload_n hx hb dL_law_479 rfl (lv_at hl 0 rfl) ?_
  refine lv_iload hx hb dL_law_480 (lv_at hl 4 rfl) ?_
  refine lv_iconst (v := 1) hx hb dL_law_482 (by decide) ?_
  refine lv_iadd hx hb dL_law_483 ?_
  refine va_sld hx hb hX hbl hbA J.2.2.2.2.2.2.2.2 h1 dL_law_484 ?_
  refine w_callC (rest := []) (ts := [xs (x4 + 1).toNatClampNeg]) C0 hK hap w_o1111 (C_by hc 20 (xs (x4 + 1).toNatClampNeg).toInt) J dL_law_485 (Nat.le_of_ble_eq_true rfl) hl.1 hf0 (fun σ1 H1 locs1 hc1 J1 hv1 => ?_)
  refine lv_aload_n hx hb dL_law_488 rfl (lv_at hl 2 rfl) ?_
  refine lv_aload_n hx hb dL_law_489 rfl (lv_at hl 0 rfl) ?_
  refine lv_iload hx hb dL_law_490 (lv_at hl 4 rfl) ?_
  refine lv_iconst (v := 1) hx hb dL_law_492 (by decide) ?_
  refine lv_iadd hx hb dL_law_493 ?_
  refine va_sld hx hb hX hbl hbA J1.2.2.2.2.2.2.2.2 h1 dL_law_494 ?_
  obtain ⟨τ1, em, hm1, -⟩ := M_by hm 20 (xs (x4 + 1).toNatClampNeg).toInt
  refine w_callM (ts := [xs (x4 + 1).toNatClampNeg]) C0 hK hap w_o1244 em J1 dL_law_495 (Nat.le_of_ble_eq_true rfl) hl.1 hf0 (fun H2 locs2 J2 hv2 => ?_)
  refine lv_icmp_eq (tgt := 1336) hx hb dL_law_498 (by decide) (fun _ => ?_) (fun hne => absurd rfl hne)
  exact W.widen (k := cells + 1) (n := slots + 6) (Nat.le_succ _) (Nat.le_add_right _ _) (K _ _ _ _ _ _ _ hc1 hm1 J2 hl)
set_option maxHeartbeats 4000000 in
theorem w_case11 (C0 : lw_At p s m meth c b L xs) (hK : va_K (dC, dI) vwCl (z_tys dA) s) (hap : w_ap adC adM qo) (h1 : vp_in (x4 + 1) L) (h2 : vp_in (x4 + 2) L) (h3 : vp_in (x4 + 3) L) (h4 : vp_in (x4 + 4) L) (hfit : cells + 1 ≤ room_1.cells ∧ slots + 6 ≤ room_1.slots) (hc : c_inv σ X) (hm : m_inv τ X) (J : w_J s dC dI dA dL adC adM qo σ τ f H locs) (hl : lv_has ls 7 [(0, .ref b), (1, .ref (adC 0)), (2, .ref (adM 0)), (3, .ref qo), (4, .int x4)])
    (K : w_K p l e s m below meth c dC dI dA dL adC adM qo b x4 Q cells slots) : W p l e room_1 s m #[.ref b] below meth c H locs cells slots Q (F0 m 503 ls []) := by
  obtain ⟨hx, hb, hr, hml, hown, hts, hX, hbl, hlocks, hgv⟩ := id C0
  have hbA : ¬ (fun q : Nat => s.heap.size ≤ q) b := Nat.not_le.mpr hbl
  have hf0 : cells ≤ room_1.cells ∧ slots ≤ room_1.slots := ⟨by omega, by omega⟩
  refine lv_aload_n hx hb dL_law_503 rfl (lv_at hl 1 rfl) ?_
  refine lv_aload_n hx hb dL_law_504 rfl (lv_at hl 0 rfl) ?_
  refine lv_iload hx hb dL_law_505 (lv_at hl 4 rfl) ?_
  refine lv_iconst (v := 1) hx hb dL_law_507 (by decide) ?_
  refine lv_iadd hx hb dL_law_508 ?_
  refine va_sld hx hb hX hbl hbA J.2.2.2.2.2.2.2.2 h1 dL_law_509 ?_
  refine w_callC (rest := []) (ts := [xs (x4 + 1).toNatClampNeg]) C0 hK hap w_o1112 (C_ways hc 20 (xs (x4 + 1).toNatClampNeg).toInt) J dL_law_510 (Nat.le_of_ble_eq_true rfl) hl.1 hf0 (fun σ1 H1 locs1 hc1 J1 hv1 => ?_)
  refine lv_aload_n hx hb dL_law_513 rfl (lv_at hl 2 rfl) ?_
  refine lv_aload_n hx hb dL_law_514 rfl (lv_at hl 0 rfl) ?_
  refine lv_iload hx hb dL_law_515 (lv_at hl 4 rfl) ?_
  refine lv_iconst (v := 1) hx hb dL_law_517 (by decide) ?_
  refine lv_iadd hx hb dL_law_518 ?_
  refine va_sld hx hb hX hbl hbA J1.2.2.2.2.2.2.2.2 h1 dL_law_519 ?_
  obtain ⟨τ1, em, hm1, -⟩ := M_ways hm 20 (xs (x4 + 1).toNatClampNeg).toInt
  refine w_callM (ts := [xs (x4 + 1).toNatClampNeg]) C0 hK hap w_o1246 em J1 dL_law_520 (Nat.le_of_ble_eq_true rfl) hl.1 hf0 (fun H2 locs2 J2 hv2 => ?_)
  refine lv_icmp_eq (tgt := 1336) hx hb dL_law_523 (by decide) (fun _ => ?_) (fun hne => absurd rfl hne)
  exact W.widen (k := cells + 1) (n := slots + 6) (Nat.le_succ _) (Nat.le_add_right _ _) (K _ _ _ _ _ _ _ hc1 hm1 J2 hl)
end
