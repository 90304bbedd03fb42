def z_lp : List (List Nat) := [[482, 484, 486, 488], [337, 339, 341, 343, 345, 347, 349, 351, 353, 355, 357, 359, 361], [234, 236, 238, 240, 242, 244, 246, 248, 250, 252], [265, 267], [414, 416, 418, 420, 422, 424], [124, 126, 128, 130, 132], [190, 192, 194, 196, 198, 200, 202, 204, 206, 208, 210, 212], [146, 148], [387, 389, 391, 393, 395, 397, 399], [448, 450, 452, 454, 456, 458, 460, 462, 464, 466, 468], [298, 300, 302, 304, 306, 308, 310, 312, 314, 316, 318], [501, 503, 505, 507, 509, 511, 513, 515, 517, 519], [1406, 1408, 1410, 1412, 1414, 1416, 1418, 1420, 1422, 1424, 1426, 1428, 1430, 1432, 1434, 1436, 1438, 1440, 1442, 1444, 1446, 1448, 1450, 1452, 1454, 1456, 1458, 1460, 1462, 1464, 1466, 1468, 1470, 1472, 1474, 1476, 1478, 1480, 1482, 1484, 1486, 1488, 1490, 1492, 1494, 1496, 1498, 1500, 1502, 1504, 1506, 1508, 1510, 1512, 1514, 1516, 1518, 1520, 1522, 1524, 1526, 1528, 1530, 1532, 1534, 1536, 1538, 1540, 1542, 1544, 1546, 1548, 1550, 1552, 1554]]
theorem z_has_mem {p : Nat} {w : Jvm.Cond} (h : z_has p w = true) : w ∈ z_tw := by
  unfold z_has at h
  rw [Bool.and_eq_true] at h
  exact List.mem_filter.mpr ⟨List.mem_of_getElem? (of_decide_eq_true h.1), h.2⟩
theorem z_uwc : (List.range 13).all (fun a => (List.range (z_nf a)).all (fun k => z_has (z_at (z_at z_lp a []) k 0) (u_lay (z_cl a) (z_T a) k))) = true := by decide +kernel
theorem z_uw (a : Nat) (ha : a < 13) : ∀ w ∈ u_ws (z_cl a) (z_T a) (z_nf a), w ∈ z_tw := by
  intro w hw
  unfold u_ws at hw
  obtain ⟨k, hk, rfl⟩ := List.mem_map.mp hw
  have h1 := List.all_eq_true.mp z_uwc a (List.mem_range.mpr ha)
  exact z_has_mem (List.all_eq_true.mp h1 k hk)
theorem z_vwCl (a : Nat) (ha : a < 13) : vwCl[a]? = some (z_cl a, z_T a, z_nf a) := by
  match a, ha with
  | 0, _ => rfl
  | 1, _ => rfl
  | 2, _ => rfl
  | 3, _ => rfl
  | 4, _ => rfl
  | 5, _ => rfl
  | 6, _ => rfl
  | 7, _ => rfl
  | 8, _ => rfl
  | 9, _ => rfl
  | 10, _ => rfl
  | 11, _ => rfl
  | 12, _ => rfl
  | a + 13, h => exact absurd h (by omega)
theorem z_tyc : (List.range 13).all (fun a => (List.range (z_nf a)).all (fun k => decide (parseFieldDescriptor (z_T a k).2.2.1 = some (z_ty a k)))) = true := by decide +kernel
theorem z_tyok (a : Nat) (ha : a < 13) (k : Nat) (hk : k < z_nf a) : parseFieldDescriptor (z_T a k).2.2.1 = some (z_ty a k) :=
  of_decide_eq_true (List.all_eq_true.mp (List.all_eq_true.mp z_tyc a (List.mem_range.mpr ha)) k (List.mem_range.mpr hk))
theorem z_nmc : (List.range 13).all (fun a => (List.range (z_nf a)).all (fun k => (List.range (z_nf a)).all (fun j => decide (k ≠ j → (z_T a k).2.1 ≠ (z_T a j).2.1)))) = true := by decide +kernel
theorem z_nm (a : Nat) (ha : a < 13) : ∀ k, k < z_nf a → ∀ j, j < z_nf a → k ≠ j → (z_T a k).2.1 ≠ (z_T a j).2.1 := fun k hk j hj =>
  of_decide_eq_true (List.all_eq_true.mp (List.all_eq_true.mp (List.all_eq_true.mp z_nmc a (List.mem_range.mpr ha)) k (List.mem_range.mpr hk)) j (List.mem_range.mpr hj))
def z_isref (t : FieldType) : Bool := match t with
  | .object _ => true
  | .array _ => true
  | _ => false
def z_ftt (n : Nat) (t : FieldType) : Bool := match n with
  | 0 => decide (t = .int)
  | 1 => z_isref t
  | 2 => decide (t = .long)
  | 3 => decide (t = .boolean)
  | _ => false
theorem z_ftc : (List.range 13).all (fun a => (List.range (z_nf a)).all (fun k => z_ftt (z_ft a k) (z_ty a k))) = true := by decide +kernel
theorem z_fto (a : Nat) (ha : a < 13) (k : Nat) (hk : k < z_nf a) : z_ftt (z_ft a k) (z_ty a k) = true :=
  List.all_eq_true.mp (List.all_eq_true.mp z_ftc a (List.mem_range.mpr ha)) k (List.mem_range.mpr hk)
/-- a new object's fields -/
theorem z_dfc (a : Nat) (ha : a < 13) (k : Nat) (hk : k < z_nf a) : defaultValue (z_ty a k) = match z_ft a k with
    | 1 => Value.null
    | 2 => Value.long 0
    | _ => Value.int 0 := by
  have h := z_fto a ha k hk
  generalize z_ft a k = n at h ⊢
  generalize z_ty a k = t at h ⊢
  match n, h with
  | 0, h => have h' : t = .int := of_decide_eq_true h; subst h'; rfl
  | 1, h =>
    have h' : z_isref t = true := h
    cases t <;> first | rfl | cases h'
  | 2, h => have h' : t = .long := of_decide_eq_true h; subst h'; rfl
  | 3, h => have h' : t = .boolean := of_decide_eq_true h; subst h'; rfl
  | n + 4, h => cases h

theorem z_ac1 : z_has 552 (.native arraycopyName) = true := by decide +kernel
theorem z_ac2 : z_has 551 (.static arraycopyName) = true := by decide +kernel
theorem z_iniSystem : z_has 97 (.initialized "java/lang/System") = true := by decide +kernel
theorem z_iniMath : z_has 98 (.initialized "java/lang/Math") = true := by decide +kernel
theorem z_oi1 : z_has 110 (.instanceMethod Lib.objectInit) = true := by decide +kernel
set_option maxRecDepth 100000 in
theorem z_oi2 : lw_tbl[111]? = some (.code Lib.objectInit ⟨#[0xb1]⟩ 1 none) := by rfl
