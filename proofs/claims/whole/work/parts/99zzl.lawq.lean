/-! The law: its questions on numbers told. -/
section
variable {p : Program} {l : Launch} {e : Env} {s : State} {m : MethodId} {below : List Frame} {meth : Method} {c : Code} {dC : Nat → ClassId} {dI : Nat → Nat → Nat} {dA : Nat → ClassId} {dL : ClassId} {adC adM : Nat → Nat} {qo : Nat} {σ τ X : z_S} {f : Nat → Int64} {H : Heap} {locs : List Loc} {b L : Nat} {xs : Nat → Int32} {Q : State → Prop} {cells slots : Nat} {ls : Array Slot} {x4 : Int32}
theorem w_cmp0 (x : Int64) : lg_cmp (vp_updL f 0 x (0 : Int32).toNatClampNeg) x = 0 := by
  have e : vp_updL f 0 x (0 : Int32).toNatClampNeg = x := rfl
  rw [e]
  unfold lg_cmp
  simp
set_option maxHeartbeats 4000000 in
theorem w_case36 (C0 : lw_At p s m meth c b L xs) (hK5 : va_K (dC, dI) vwCl (z_tys dA ++ [(dL, .long)]) s) (hfl : l.stackTraces = false) (hbad : w_bad s) (hU : vx_Zq Bundle.tN "UNASSIGNED_STACK" Bundle.steD (fun q => s.heap.size ≤ q) s s.heap) (hN : vx_Zq Bundle.tN "SUPPRESSED_SENTINEL" Bundle.listD (fun q => s.heap.size ≤ q) s s.heap) (hap : w_ap adC adM qo) (h1 : vp_in (x4 + 1) L) (h2 : vp_in (x4 + 2) L) (hfit : cells + 1 ≤ room_1.cells ∧ slots + 6 ≤ room_1.slots) (hc : c_inv σ X) (hm : m_inv τ X) (J : w_J s dC dI dA dL adC adM qo σ τ f H locs) (hl : lv_has ls 7 [(0, .ref b), (1, .ref (adC 0)), (2, .ref (adM 0)), (3, .ref qo), (4, .int x4)])
    (K : w_K p l e s m below meth c dC dI dA dL adC adM qo b x4 Q cells slots) : W p l e room_1 s m #[.ref b] below meth c H locs cells slots Q (F0 m 1212 ls []) := by
  obtain ⟨hx, hb, hr, hml, hown, hts, hX, hbl, hlocks, hgv⟩ := id C0
  have hbA : ¬ (fun q : Nat => s.heap.size ≤ q) b := Nat.not_le.mpr hbl
  have hK : va_K (dC, dI) vwCl (z_tys dA) s := hK5.sub [0, 1, 2, 3] rfl
  have hf0 : cells ≤ room_1.cells ∧ slots ≤ room_1.slots := ⟨by omega, by omega⟩
  refine lv_aload_n hx hb dL_law_1212 rfl (lv_at hl 1 rfl) ?_
  refine lv_aload_n hx hb dL_law_1213 rfl (lv_at hl 0 rfl) ?_
  refine lv_iload hx hb dL_law_1214 (lv_at hl 4 rfl) ?_
  refine lv_iconst (v := 1) hx hb dL_law_1216 (by decide) ?_
  refine lv_iadd hx hb dL_law_1217 ?_
  refine va_sld hx hb hX hbl hbA J.2.2.2.2.2.2.2.2 h1 dL_law_1218 ?_
  refine lv_aload_n hx hb dL_law_1219 rfl (lv_at hl 0 rfl) ?_
  refine lv_iload hx hb dL_law_1220 (lv_at hl 4 rfl) ?_
  refine lv_iconst (v := 2) hx hb dL_law_1222 (by decide) ?_
  refine lv_iadd hx hb dL_law_1223 ?_
  refine va_sld hx hb hX hbl hbA J.2.2.2.2.2.2.2.2 h2 dL_law_1224 ?_
  refine lv_aload_n hx hb dL_law_1225 rfl (lv_at hl 3 rfl) ?_
  refine w_call_of C0 hK5 hfl hbad hU hN hap hc J dL_law_1226 (Nat.le_of_ble_eq_true rfl) hl.1 hfit (fun hp σ1 H1 locs1 hc1 J1 => ?_) (fun hp H1 locs1 J1 => ?_)
  · refine lv_istore (lv' := [(5, .int 0), (0, .ref b), (1, .ref (adC 0)), (2, .ref (adM 0)), (3, .ref qo), (4, .int x4)]) hx hb dL_law_1229 hl (by decide) rfl (fun ls hl => ?_)
    refine lv_aload_n hx hb dL_law_1231 rfl (lv_at hl 3 rfl) ?_
    refine lv_aload_n hx hb dL_law_1232 rfl (lv_at hl 1 rfl) ?_
    refine lv_iload hx hb dL_law_1233 (lv_at hl 5 rfl) ?_
    refine lv_iconst (v := 1) hx hb dL_law_1235 (by decide) ?_
    refine lv_iadd hx hb dL_law_1236 ?_
    refine va_sld hx hb hX hbl hbA J1.2.2.2.2.2.2.2.2 h1 dL_law_1237 ?_
    refine lv_aload_n hx hb dL_law_1238 rfl (lv_at hl 1 rfl) ?_
    refine lv_iload hx hb dL_law_1239 (lv_at hl 5 rfl) ?_
    refine lv_iconst (v := 2) hx hb dL_law_1241 (by decide) ?_
    refine lv_iadd hx hb dL_law_1242 ?_
    refine va_sld hx hb hX hbl hbA J1.2.2.2.2.2.2.2.2 h2 dL_law_1243 ?_
    obtain ⟨τ1, em, hm1, t26⟩ := M_of hm 20 hp.1 hp.2
    refine w_callM (rest := []) (ts := [xs (x4 + 1).toNatClampNeg, xs (x4 + 2).toNatClampNeg]) C0 hK hap w_o1289 em J1 dL_law_1244 (Nat.le_of_ble_eq_true rfl) hl.1 hf0 (fun H2 locs2 J2 hv2 => ?_)
    refine lv_istore (lv' := [(6, .int (Int32.ofInt (s_of X (xs (x4 + 1).toNatClampNeg).toInt (xs (x4 + 2).toNatClampNeg).toInt))), (5, .int 0), (0, .ref b), (1, .ref (adC 0)), (2, .ref (adM 0)), (3, .ref qo), (4, .int x4)]) hx hb dL_law_1247 hl (by decide) rfl (fun ls hl => ?_)
    refine lv_aload_n hx hb dL_law_1249 rfl (lv_at hl 4 rfl) ?_
    have et := M_thrown_v hm1 20
    rw [t26] at et
    refine w_callM (rest := []) (ts := []) C0 hK hap w_o1201 et J2 dL_law_1250 (Nat.le_of_ble_eq_true rfl) hl.1 hf0 (fun H3 locs3 J3 hv3 => ?_)
    refine lv_iload hx hb dL_law_1253 (lv_at hl 1 rfl) ?_
    refine lv_icmp_eq (tgt := 1260) hx hb dL_law_1255 (by decide) (fun _ => ?_) (fun hne => absurd (by decide) hne)
    refine lv_iload hx hb dL_law_1260 (lv_at hl 1 rfl) ?_
    refine lv_if_ne (tgt := 1277) hx hb dL_law_1262 (by decide) (fun h => absurd rfl h) (fun _ => ?_)
    refine lv_aload_n hx hb dL_law_1265 rfl (lv_at hl 5 rfl) ?_
    refine lv_iconst (v := 0) hx hb dL_law_1266 (by decide) ?_
    refine va_lald (D := (dC, dI)) (cl := vwCl) (ws := [(qo, .inl (dL, 1, .inr (.inl (vp_updL f 0 (Int32.ofInt (s_of X (xs (x4 + 1).toNatClampNeg).toInt (xs (x4 + 2).toNatClampNeg).toInt)).toInt64))))]) hx hb hK5 (fun k x hx9 => by
      have hz : k < 1 := (List.getElem?_eq_some_iff.mp hx9).1
      rw [show k = 0 by omega] at hx9
      cases hx9
      exact J3.2.2.2.2.2.2.1) 0 4 rfl w_ty4 w_in0 dL_law_1267 ?_
    refine lv_iload hx hb dL_law_1268 (lv_at hl 0 rfl) ?_
    refine lv_i2l (v := (Int32.ofInt (s_of X (xs (x4 + 1).toNatClampNeg).toInt (xs (x4 + 2).toNatClampNeg).toInt)).toInt64) hx hb dL_law_1270 rfl ?_
    refine W.lcmp hx hb dL_law_1271 ?_
    refine lv_if_eq (tgt := 1277) hx hb dL_law_1272 (by decide) (fun _ => ?_) (fun h => absurd (w_cmp0 _) h)
    refine lv_goto (tgt := 1336) hx hb dL_law_1277 (by decide) ?_
    exact W.widen (k := cells + 1) (n := slots + 6) (Nat.le_succ _) (Nat.le_add_right _ _) (K _ _ _ _ _ _ _ hc1 hm1 J3 (lv_sub hl [2, 3, 4, 5, 6] rfl))
  · refine lv_istore (lv' := [(5, .int 1), (0, .ref b), (1, .ref (adC 0)), (2, .ref (adM 0)), (3, .ref qo), (4, .int x4)]) hx hb dL_law_1229 hl (by decide) rfl (fun ls hl => ?_)
    refine lv_aload_n hx hb dL_law_1231 rfl (lv_at hl 3 rfl) ?_
    refine lv_aload_n hx hb dL_law_1232 rfl (lv_at hl 1 rfl) ?_
    refine lv_iload hx hb dL_law_1233 (lv_at hl 5 rfl) ?_
    refine lv_iconst (v := 1) hx hb dL_law_1235 (by decide) ?_
    refine lv_iadd hx hb dL_law_1236 ?_
    refine va_sld hx hb hX hbl hbA J1.2.2.2.2.2.2.2.2 h1 dL_law_1237 ?_
    refine lv_aload_n hx hb dL_law_1238 rfl (lv_at hl 1 rfl) ?_
    refine lv_iload hx hb dL_law_1239 (lv_at hl 5 rfl) ?_
    refine lv_iconst (v := 2) hx hb dL_law_1241 (by decide) ?_
    refine lv_iadd hx hb dL_law_1242 ?_
    refine va_sld hx hb hX hbl hbA J1.2.2.2.2.2.2.2.2 h2 dL_law_1243 ?_
    obtain ⟨τ1, em, hm1, t26⟩ := M_of_lost hm 20 hp
    refine w_callM (rest := []) (ts := [xs (x4 + 1).toNatClampNeg, xs (x4 + 2).toNatClampNeg]) C0 hK hap w_o1289 em J1 dL_law_1244 (Nat.le_of_ble_eq_true rfl) hl.1 hfit (fun H2 locs2 J2 hv2 => ?_)
    refine lv_istore (lv' := [(6, .int (Int32.ofInt 0)), (5, .int 1), (0, .ref b), (1, .ref (adC 0)), (2, .ref (adM 0)), (3, .ref qo), (4, .int x4)]) hx hb dL_law_1247 hl (by decide) rfl (fun ls hl => ?_)
    refine lv_aload_n hx hb dL_law_1249 rfl (lv_at hl 4 rfl) ?_
    have et := M_thrown_v hm1 20
    rw [t26] at et
    refine w_callM (rest := []) (ts := []) C0 hK hap w_o1201 et J2 dL_law_1250 (Nat.le_of_ble_eq_true rfl) hl.1 hfit (fun H3 locs3 J3 hv3 => ?_)
    refine lv_iload hx hb dL_law_1253 (lv_at hl 1 rfl) ?_
    refine lv_icmp_eq (tgt := 1260) hx hb dL_law_1255 (by decide) (fun _ => ?_) (fun hne => absurd (by decide) hne)
    refine lv_iload hx hb dL_law_1260 (lv_at hl 1 rfl) ?_
    refine lv_if_ne (tgt := 1277) hx hb dL_law_1262 (by decide) (fun _ => ?_) (fun h => absurd h (by decide))
    refine lv_goto (tgt := 1336) hx hb dL_law_1277 (by decide) ?_
    exact K _ _ _ _ _ _ _ hc hm1 J3 (lv_sub hl [2, 3, 4, 5, 6] rfl)
set_option maxHeartbeats 4000000 in
theorem w_case37 (C0 : lw_At p s m meth c b L xs) (hK5 : va_K (dC, dI) vwCl (z_tys dA ++ [(dL, .long)]) s) (hfl : l.stackTraces = false) (hbad : w_bad s) (hU : vx_Zq Bundle.tN "UNASSIGNED_STACK" Bundle.steD (fun q => s.heap.size ≤ q) s s.heap) (hN : vx_Zq Bundle.tN "SUPPRESSED_SENTINEL" Bundle.listD (fun q => s.heap.size ≤ q) s s.heap) (hap : w_ap adC adM qo) (h1 : vp_in (x4 + 1) L) (h2 : vp_in (x4 + 2) L) (hfit : cells + 1 ≤ room_1.cells ∧ slots + 6 ≤ room_1.slots) (hc : c_inv σ X) (hm : m_inv τ X) (J : w_J s dC dI dA dL adC adM qo σ τ f H locs) (hl : lv_has ls 7 [(0, .ref b), (1, .ref (adC 0)), (2, .ref (adM 0)), (3, .ref qo), (4, .int x4)])
    (K : w_K p l e s m below meth c dC dI dA dL adC adM qo b x4 Q cells slots) : W p l e room_1 s m #[.ref b] below meth c H locs cells slots Q (F0 m 1280 ls []) := by
  obtain ⟨hx, hb, hr, hml, hown, hts, hX, hbl, hlocks, hgv⟩ := id C0
  have hbA : ¬ (fun q : Nat => s.heap.size ≤ q) b := Nat.not_le.mpr hbl
  have hK : va_K (dC, dI) vwCl (z_tys dA) s := hK5.sub [0, 1, 2, 3] rfl
  have hf0 : cells ≤ room_1.cells ∧ slots ≤ room_1.slots := ⟨by omega, by omega⟩
  refine lv_aload_n hx hb dL_law_1280 rfl (lv_at hl 1 rfl) ?_
  refine lv_aload_n hx hb dL_law_1281 rfl (lv_at hl 0 rfl) ?_
  refine lv_iload hx hb dL_law_1282 (lv_at hl 4 rfl) ?_
  refine lv_iconst (v := 1) hx hb dL_law_1284 (by decide) ?_
  refine lv_iadd hx hb dL_law_1285 ?_
  refine va_sld hx hb hX hbl hbA J.2.2.2.2.2.2.2.2 h1 dL_law_1286 ?_
  refine lv_aload_n hx hb dL_law_1287 rfl (lv_at hl 3 rfl) ?_
  refine w_call_row C0 hK5 hfl hbad hU hN hap hc J dL_law_1288 (Nat.le_of_ble_eq_true rfl) hl.1 hfit (fun hp σ1 H1 locs1 hc1 J1 => ?_) (fun hp H1 locs1 J1 => ?_)
  · refine lv_istore (lv' := [(5, .int 0), (0, .ref b), (1, .ref (adC 0)), (2, .ref (adM 0)), (3, .ref qo), (4, .int x4)]) hx hb dL_law_1291 hl (by decide) rfl (fun ls hl => ?_)
    refine lv_aload_n hx hb dL_law_1293 rfl (lv_at hl 3 rfl) ?_
    refine lv_aload_n hx hb dL_law_1294 rfl (lv_at hl 1 rfl) ?_
    refine lv_iload hx hb dL_law_1295 (lv_at hl 5 rfl) ?_
    refine lv_iconst (v := 1) hx hb dL_law_1297 (by decide) ?_
    refine lv_iadd hx hb dL_law_1298 ?_
    refine va_sld hx hb hX hbl hbA J1.2.2.2.2.2.2.2.2 h1 dL_law_1299 ?_
    obtain ⟨τ1, em, hm1, t26⟩ := M_row hm 20 hp
    refine w_callM (rest := []) (ts := [xs (x4 + 1).toNatClampNeg]) C0 hK hap w_o1290 em J1 dL_law_1300 (Nat.le_of_ble_eq_true rfl) hl.1 hf0 (fun H2 locs2 J2 hv2 => ?_)
    refine lv_istore (lv' := [(6, .int (Int32.ofInt (X 19 (xs (x4 + 1).toNatClampNeg).toInt))), (5, .int 0), (0, .ref b), (1, .ref (adC 0)), (2, .ref (adM 0)), (3, .ref qo), (4, .int x4)]) hx hb dL_law_1303 hl (by decide) rfl (fun ls hl => ?_)
    refine lv_aload_n hx hb dL_law_1305 rfl (lv_at hl 4 rfl) ?_
    have et := M_thrown_v hm1 20
    rw [t26] at et
    refine w_callM (rest := []) (ts := []) C0 hK hap w_o1201 et J2 dL_law_1306 (Nat.le_of_ble_eq_true rfl) hl.1 hf0 (fun H3 locs3 J3 hv3 => ?_)
    refine lv_iload hx hb dL_law_1309 (lv_at hl 1 rfl) ?_
    refine lv_icmp_eq (tgt := 1316) hx hb dL_law_1311 (by decide) (fun _ => ?_) (fun hne => absurd (by decide) hne)
    refine lv_iload hx hb dL_law_1316 (lv_at hl 1 rfl) ?_
    refine lv_if_ne (tgt := 1333) hx hb dL_law_1318 (by decide) (fun h => absurd rfl h) (fun _ => ?_)
    refine lv_aload_n hx hb dL_law_1321 rfl (lv_at hl 5 rfl) ?_
    refine lv_iconst (v := 0) hx hb dL_law_1322 (by decide) ?_
    refine va_lald (D := (dC, dI)) (cl := vwCl) (ws := [(qo, .inl (dL, 1, .inr (.inl (vp_updL f 0 (Int32.ofInt (X 19 (xs (x4 + 1).toNatClampNeg).toInt)).toInt64))))]) hx hb hK5 (fun k x hx9 => by
      have hz : k < 1 := (List.getElem?_eq_some_iff.mp hx9).1
      rw [show k = 0 by omega] at hx9
      cases hx9
      exact J3.2.2.2.2.2.2.1) 0 4 rfl w_ty4 w_in0 dL_law_1323 ?_
    refine lv_iload hx hb dL_law_1324 (lv_at hl 0 rfl) ?_
    refine lv_i2l (v := (Int32.ofInt (X 19 (xs (x4 + 1).toNatClampNeg).toInt)).toInt64) hx hb dL_law_1326 rfl ?_
    refine W.lcmp hx hb dL_law_1327 ?_
    refine lv_if_eq (tgt := 1333) hx hb dL_law_1328 (by decide) (fun _ => ?_) (fun h => absurd (w_cmp0 _) h)
    refine lv_goto (tgt := 1336) hx hb dL_law_1333 (by decide) ?_
    exact W.widen (k := cells + 1) (n := slots + 6) (Nat.le_succ _) (Nat.le_add_right _ _) (K _ _ _ _ _ _ _ hc1 hm1 J3 (lv_sub hl [2, 3, 4, 5, 6] rfl))
  · refine lv_istore (lv' := [(5, .int 1), (0, .ref b), (1, .ref (adC 0)), (2, .ref (adM 0)), (3, .ref qo), (4, .int x4)]) hx hb dL_law_1291 hl (by decide) rfl (fun ls hl => ?_)
    refine lv_aload_n hx hb dL_law_1293 rfl (lv_at hl 3 rfl) ?_
    refine lv_aload_n hx hb dL_law_1294 rfl (lv_at hl 1 rfl) ?_
    refine lv_iload hx hb dL_law_1295 (lv_at hl 5 rfl) ?_
    refine lv_iconst (v := 1) hx hb dL_law_1297 (by decide) ?_
    refine lv_iadd hx hb dL_law_1298 ?_
    refine va_sld hx hb hX hbl hbA J1.2.2.2.2.2.2.2.2 h1 dL_law_1299 ?_
    obtain ⟨τ1, em, hm1, t26⟩ := M_row_lost hm 20 hp
    refine w_callM (rest := []) (ts := [xs (x4 + 1).toNatClampNeg]) C0 hK hap w_o1290 em J1 dL_law_1300 (Nat.le_of_ble_eq_true rfl) hl.1 hfit (fun H2 locs2 J2 hv2 => ?_)
    refine lv_istore (lv' := [(6, .int (Int32.ofInt 0)), (5, .int 1), (0, .ref b), (1, .ref (adC 0)), (2, .ref (adM 0)), (3, .ref qo), (4, .int x4)]) hx hb dL_law_1303 hl (by decide) rfl (fun ls hl => ?_)
    refine lv_aload_n hx hb dL_law_1305 rfl (lv_at hl 4 rfl) ?_
    have et := M_thrown_v hm1 20
    rw [t26] at et
    refine w_callM (rest := []) (ts := []) C0 hK hap w_o1201 et J2 dL_law_1306 (Nat.le_of_ble_eq_true rfl) hl.1 hfit (fun H3 locs3 J3 hv3 => ?_)
    refine lv_iload hx hb dL_law_1309 (lv_at hl 1 rfl) ?_
    refine lv_icmp_eq (tgt := 1316) hx hb dL_law_1311 (by decide) (fun _ => ?_) (fun hne => absurd (by decide) hne)
    refine lv_iload hx hb dL_law_1316 (lv_at hl 1 rfl) ?_
    refine lv_if_ne (tgt := 1333) hx hb dL_law_1318 (by decide) (fun _ => ?_) (fun h => absurd h (by decide))
    refine lv_goto (tgt := 1336) hx hb dL_law_1333 (by decide) ?_
    exact K _ _ _ _ _ _ _ hc hm1 J3 (lv_sub hl [2, 3, 4, 5, 6] rfl)
end
