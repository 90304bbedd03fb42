/-! The law: its questions, one by one. -/
section
variable {p : Program} {l : Launch} {e : Env} {s : State} {m : MethodId} {below : List Frame} {meth : Method} {c : Code} {dC : Nat → ClassId} {dI : Nat → Nat → Nat} {dA : Nat → ClassId} {dL : ClassId} {adC adM : Nat → Nat} {qo : Nat} {σ τ X : z_S} {f : Nat → Int64} {H : Heap} {locs : List Loc} {b L : Nat} {xs : Nat → Int32} {Q : State → Prop} {cells slots : Nat} {ls : Array Slot} {x4 : Int32}
set_option maxHeartbeats 4000000 in
theorem w_case24 (C0 : lw_At p s m meth c b L xs) (hK : va_K (dC, dI) vwCl (z_tys dA) s) (hap : w_ap adC adM qo) (h1 : vp_in (x4 + 1) L) (h2 : vp_in (x4 + 2) L) (h3 : vp_in (x4 + 3) L) (h4 : vp_in (x4 + 4) L) (hfit : cells + 1 ≤ room_1.cells ∧ slots + 6 ≤ room_1.slots) (hc : c_inv σ X) (hm : m_inv τ X) (J : w_J s dC dI dA dL adC adM qo σ τ f H locs) (hl : lv_has ls 7 [(0, .ref b), (1, .ref (adC 0)), (2, .ref (adM 0)), (3, .ref qo), (4, .int x4)])
    (K : w_K p l e s m below meth c dC dI dA dL adC adM qo b x4 Q cells slots) : W p l e room_1 s m #[.ref b] below meth c H locs cells slots Q (F0 m 840 ls []) := by
  obtain ⟨hx, hb, hr, hml, hown, hts, hX, hbl, hlocks, hgv⟩ := id C0
  have hbA : ¬ (fun q : Nat => s.heap.size ≤ q) b := Nat.not_le.mpr hbl
  have hf0 : cells ≤ room_1.cells ∧ slots ≤ room_1.slots := ⟨by omega, by omega⟩
  refine lv_aload_n hx hb dL_law_840 rfl (lv_at hl 1 rfl) ?_
  refine w_callC (rest := []) (ts := []) C0 hK hap w_o1125 (C_rests hc 20 ) J dL_law_841 (Nat.le_of_ble_eq_true rfl) hl.1 hf0 (fun σ1 H1 locs1 hc1 J1 hv1 => ?_)
  refine lv_aload_n hx hb dL_law_844 rfl (lv_at hl 2 rfl) ?_
  obtain ⟨τ1, em, hm1, -⟩ := M_rests hm 20 
  refine w_callM (ts := []) C0 hK hap w_o1273 em J1 dL_law_845 (Nat.le_of_ble_eq_true rfl) hl.1 hf0 (fun H2 locs2 J2 hv2 => ?_)
  refine lv_icmp_eq (tgt := 1336) hx hb dL_law_848 (by decide) (fun _ => ?_) (fun hne => absurd rfl hne)
  exact W.widen (k := cells + 1) (n := slots + 6) (Nat.le_succ _) (Nat.le_add_right _ _) (K _ _ _ _ _ _ _ hc1 hm1 J2 hl)
set_option maxHeartbeats 4000000 in
theorem w_case25 (C0 : lw_At p s m meth c b L xs) (hK : va_K (dC, dI) vwCl (z_tys dA) s) (hap : w_ap adC adM qo) (h1 : vp_in (x4 + 1) L) (h2 : vp_in (x4 + 2) L) (h3 : vp_in (x4 + 3) L) (h4 : vp_in (x4 + 4) L) (hfit : cells + 1 ≤ room_1.cells ∧ slots + 6 ≤ room_1.slots) (hc : c_inv σ X) (hm : m_inv τ X) (J : w_J s dC dI dA dL adC adM qo σ τ f H locs) (hl : lv_has ls 7 [(0, .ref b), (1, .ref (adC 0)), (2, .ref (adM 0)), (3, .ref qo), (4, .int x4)])
    (K : w_K p l e s m below meth c dC dI dA dL adC adM qo b x4 Q cells slots) : W p l e room_1 s m #[.ref b] below meth c H locs cells slots Q (F0 m 853 ls []) := by
  obtain ⟨hx, hb, hr, hml, hown, hts, hX, hbl, hlocks, hgv⟩ := id C0
  have hbA : ¬ (fun q : Nat => s.heap.size ≤ q) b := Nat.not_le.mpr hbl
  have hf0 : cells ≤ room_1.cells ∧ slots ≤ room_1.slots := ⟨by omega, by omega⟩
  refine lv_aload_n hx hb dL_law_853 rfl (lv_at hl 1 rfl) ?_
  refine lv_aload_n hx hb dL_law_854 rfl (lv_at hl 0 rfl) ?_
  refine lv_iload hx hb dL_law_855 (lv_at hl 4 rfl) ?_
  refine lv_iconst (v := 1) hx hb dL_law_857 (by decide) ?_
  refine lv_iadd hx hb dL_law_858 ?_
  refine va_sld hx hb hX hbl hbA J.2.2.2.2.2.2.2.2 h1 dL_law_859 ?_
  refine lv_aload_n hx hb dL_law_860 rfl (lv_at hl 0 rfl) ?_
  refine lv_iload hx hb dL_law_861 (lv_at hl 4 rfl) ?_
  refine lv_iconst (v := 2) hx hb dL_law_863 (by decide) ?_
  refine lv_iadd hx hb dL_law_864 ?_
  refine va_sld hx hb hX hbl hbA J.2.2.2.2.2.2.2.2 h2 dL_law_865 ?_
  refine w_callC (rest := []) (ts := [xs (x4 + 1).toNatClampNeg, xs (x4 + 2).toNatClampNeg]) C0 hK hap w_o1126 (C_spare hc 20 (xs (x4 + 1).toNatClampNeg).toInt (xs (x4 + 2).toNatClampNeg).toInt) J dL_law_866 (Nat.le_of_ble_eq_true rfl) hl.1 hf0 (fun σ1 H1 locs1 hc1 J1 hv1 => ?_)
  refine lv_aload_n hx hb dL_law_869 rfl (lv_at hl 2 rfl) ?_
  refine lv_aload_n hx hb dL_law_870 rfl (lv_at hl 0 rfl) ?_
  refine lv_iload hx hb dL_law_871 (lv_at hl 4 rfl) ?_
  refine lv_iconst (v := 1) hx hb dL_law_873 (by decide) ?_
  refine lv_iadd hx hb dL_law_874 ?_
  refine va_sld hx hb hX hbl hbA J1.2.2.2.2.2.2.2.2 h1 dL_law_875 ?_
  refine lv_aload_n hx hb dL_law_876 rfl (lv_at hl 0 rfl) ?_
  refine lv_iload hx hb dL_law_877 (lv_at hl 4 rfl) ?_
  refine lv_iconst (v := 2) hx hb dL_law_879 (by decide) ?_
  refine lv_iadd hx hb dL_law_880 ?_
  refine va_sld hx hb hX hbl hbA J1.2.2.2.2.2.2.2.2 h2 dL_law_881 ?_
  obtain ⟨τ1, em, hm1, -⟩ := M_spare hm 20 (xs (x4 + 1).toNatClampNeg).toInt (xs (x4 + 2).toNatClampNeg).toInt
  refine w_callM (ts := [xs (x4 + 1).toNatClampNeg, xs (x4 + 2).toNatClampNeg]) C0 hK hap w_o1275 em J1 dL_law_882 (Nat.le_of_ble_eq_true rfl) hl.1 hf0 (fun H2 locs2 J2 hv2 => ?_)
  refine lv_icmp_eq (tgt := 1336) hx hb dL_law_885 (by decide) (fun _ => ?_) (fun hne => absurd rfl hne)
  exact W.widen (k := cells + 1) (n := slots + 6) (Nat.le_succ _) (Nat.le_add_right _ _) (K _ _ _ _ _ _ _ hc1 hm1 J2 hl)
set_option maxHeartbeats 4000000 in
theorem w_case26 (C0 : lw_At p s m meth c b L xs) (hK : va_K (dC, dI) vwCl (z_tys dA) s) (hap : w_ap adC adM qo) (h1 : vp_in (x4 + 1) L) (h2 : vp_in (x4 + 2) L) (h3 : vp_in (x4 + 3) L) (h4 : vp_in (x4 + 4) L) (hfit : cells + 1 ≤ room_1.cells ∧ slots + 6 ≤ room_1.slots) (hc : c_inv σ X) (hm : m_inv τ X) (J : w_J s dC dI dA dL adC adM qo σ τ f H locs) (hl : lv_has ls 7 [(0, .ref b), (1, .ref (adC 0)), (2, .ref (adM 0)), (3, .ref qo), (4, .int x4)])
    (K : w_K p l e s m below meth c dC dI dA dL adC adM qo b x4 Q cells slots) : W p l e room_1 s m #[.ref b] below meth c H locs cells slots Q (F0 m 890 ls []) := by
  obtain ⟨hx, hb, hr, hml, hown, hts, hX, hbl, hlocks, hgv⟩ := id C0
  have hbA : ¬ (fun q : Nat => s.heap.size ≤ q) b := Nat.not_le.mpr hbl
  have hf0 : cells ≤ room_1.cells ∧ slots ≤ room_1.slots := ⟨by omega, by omega⟩
  refine lv_aload_n hx hb dL_law_890 rfl (lv_at hl 1 rfl) ?_
  refine lv_aload_n hx hb dL_law_891 rfl (lv_at hl 0 rfl) ?_
  refine lv_iload hx hb dL_law_892 (lv_at hl 4 rfl) ?_
  refine lv_iconst (v := 1) hx hb dL_law_894 (by decide) ?_
  refine lv_iadd hx hb dL_law_895 ?_
  refine va_sld hx hb hX hbl hbA J.2.2.2.2.2.2.2.2 h1 dL_law_896 ?_
  refine w_callC (rest := []) (ts := [xs (x4 + 1).toNatClampNeg]) C0 hK hap w_o1127 (C_ceiling hc 20 (xs (x4 + 1).toNatClampNeg).toInt) J dL_law_897 (Nat.le_of_ble_eq_true rfl) hl.1 hf0 (fun σ1 H1 locs1 hc1 J1 hv1 => ?_)
  refine lv_aload_n hx hb dL_law_900 rfl (lv_at hl 2 rfl) ?_
  refine lv_aload_n hx hb dL_law_901 rfl (lv_at hl 0 rfl) ?_
  refine lv_iload hx hb dL_law_902 (lv_at hl 4 rfl) ?_
  refine lv_iconst (v := 1) hx hb dL_law_904 (by decide) ?_
  refine lv_iadd hx hb dL_law_905 ?_
  refine va_sld hx hb hX hbl hbA J1.2.2.2.2.2.2.2.2 h1 dL_law_906 ?_
  obtain ⟨τ1, em, hm1, -⟩ := M_ceiling hm 20 (xs (x4 + 1).toNatClampNeg).toInt
  refine w_callM (ts := [xs (x4 + 1).toNatClampNeg]) C0 hK hap w_o1276 em J1 dL_law_907 (Nat.le_of_ble_eq_true rfl) hl.1 hf0 (fun H2 locs2 J2 hv2 => ?_)
  refine lv_icmp_eq (tgt := 1336) hx hb dL_law_910 (by decide) (fun _ => ?_) (fun hne => absurd rfl hne)
  exact W.widen (k := cells + 1) (n := slots + 6) (Nat.le_succ _) (Nat.le_add_right _ _) (K _ _ _ _ _ _ _ hc1 hm1 J2 hl)
set_option maxHeartbeats 4000000 in
theorem w_case27 (C0 : lw_At p s m meth c b L xs) (hK : va_K (dC, dI) vwCl (z_tys dA) s) (hap : w_ap adC adM qo) (h1 : vp_in (x4 + 1) L) (h2 : vp_in (x4 + 2) L) (h3 : vp_in (x4 + 3) L) (h4 : vp_in (x4 + 4) L) (hfit : cells + 1 ≤ room_1.cells ∧ slots + 6 ≤ room_1.slots) (hc : c_inv σ X) (hm : m_inv τ X) (J : w_J s dC dI dA dL adC adM qo σ τ f H locs) (hl : lv_has ls 7 [(0, .ref b), (1, .ref (adC 0)), (2, .ref (adM 0)), (3, .ref qo), (4, .int x4)])
    (K : w_K p l e s m below meth c dC dI dA dL adC adM qo b x4 Q cells slots) : W p l e room_1 s m #[.ref b] below meth c H locs cells slots Q (F0 m 915 ls []) := by
  obtain ⟨hx, hb, hr, hml, hown, hts, hX, hbl, hlocks, hgv⟩ := id C0
  have hbA : ¬ (fun q : Nat => s.heap.size ≤ q) b := Nat.not_le.mpr hbl
  have hf0 : cells ≤ room_1.cells ∧ slots ≤ room_1.slots := ⟨by omega, by omega⟩
  refine lv_aload_n hx hb dL_law_915 rfl (lv_at hl 1 rfl) ?_
  refine lv_aload_n hx hb dL_law_916 rfl (lv_at hl 0 rfl) ?_
  refine lv_iload hx hb dL_law_917 (lv_at hl 4 rfl) ?_
  refine lv_iconst (v := 1) hx hb dL_law_919 (by decide) ?_
  refine lv_iadd hx hb dL_law_920 ?_
  refine va_sld hx hb hX hbl hbA J.2.2.2.2.2.2.2.2 h1 dL_law_921 ?_
  refine lv_aload_n hx hb dL_law_922 rfl (lv_at hl 0 rfl) ?_
  refine lv_iload hx hb dL_law_923 (lv_at hl 4 rfl) ?_
  refine lv_iconst (v := 2) hx hb dL_law_925 (by decide) ?_
  refine lv_iadd hx hb dL_law_926 ?_
  refine va_sld hx hb hX hbl hbA J.2.2.2.2.2.2.2.2 h2 dL_law_927 ?_
  refine w_callC (rest := []) (ts := [xs (x4 + 1).toNatClampNeg, xs (x4 + 2).toNatClampNeg]) C0 hK hap w_o1128 (C_without hc 20 (xs (x4 + 1).toNatClampNeg).toInt (xs (x4 + 2).toNatClampNeg).toInt) J dL_law_928 (Nat.le_of_ble_eq_true rfl) hl.1 hf0 (fun σ1 H1 locs1 hc1 J1 hv1 => ?_)
  refine lv_aload_n hx hb dL_law_931 rfl (lv_at hl 2 rfl) ?_
  refine lv_aload_n hx hb dL_law_932 rfl (lv_at hl 0 rfl) ?_
  refine lv_iload hx hb dL_law_933 (lv_at hl 4 rfl) ?_
  refine lv_iconst (v := 1) hx hb dL_law_935 (by decide) ?_
  refine lv_iadd hx hb dL_law_936 ?_
  refine va_sld hx hb hX hbl hbA J1.2.2.2.2.2.2.2.2 h1 dL_law_937 ?_
  refine lv_aload_n hx hb dL_law_938 rfl (lv_at hl 0 rfl) ?_
  refine lv_iload hx hb dL_law_939 (lv_at hl 4 rfl) ?_
  refine lv_iconst (v := 2) hx hb dL_law_941 (by decide) ?_
  refine lv_iadd hx hb dL_law_942 ?_
  refine va_sld hx hb hX hbl hbA J1.2.2.2.2.2.2.2.2 h2 dL_law_943 ?_
  obtain ⟨τ1, em, hm1, -⟩ := M_without hm 20 (xs (x4 + 1).toNatClampNeg).toInt (xs (x4 + 2).toNatClampNeg).toInt
  refine w_callM (ts := [xs (x4 + 1).toNatClampNeg, xs (x4 + 2).toNatClampNeg]) C0 hK hap w_o1277 em J1 dL_law_944 (Nat.le_of_ble_eq_true rfl) hl.1 hf0 (fun H2 locs2 J2 hv2 => ?_)
  refine lv_icmp_eq (tgt := 1336) hx hb dL_law_947 (by decide) (fun _ => ?_) (fun hne => absurd rfl hne)
  exact W.widen (k := cells + 1) (n := slots + 6) (Nat.le_succ _) (Nat.le_add_right _ _) (K _ _ _ _ _ _ _ hc1 hm1 J2 hl)
set_option maxHeartbeats 4000000 in
theorem w_case28 (C0 : lw_At p s m meth c b L xs) (hK : va_K (dC, dI) vwCl (z_tys dA) s) (hap : w_ap adC adM qo) (h1 : vp_in (x4 + 1) L) (h2 : vp_in (x4 + 2) L) (h3 : vp_in (x4 + 3) L) (h4 : vp_in (x4 + 4) L) (hfit : cells + 1 ≤ room_1.cells ∧ slots + 6 ≤ room_1.slots) (hc : c_inv σ X) (hm : m_inv τ X) (J : w_J s dC dI dA dL adC adM qo σ τ f H locs) (hl : lv_has ls 7 [(0, .ref b), (1, .ref (adC 0)), (2, .ref (adM 0)), (3, .ref qo), (4, .int x4)])
    (K : w_K p l e s m below meth c dC dI dA dL adC adM qo b x4 Q cells slots) : W p l e room_1 s m #[.ref b] below meth c H locs cells slots Q (F0 m 952 ls []) := by
  obtain ⟨hx, hb, hr, hml, hown, hts, hX, hbl, hlocks, hgv⟩ := id C0
  have hbA : ¬ (fun q : Nat => s.heap.size ≤ q) b := Nat.not_le.mpr hbl
  have hf0 : cells ≤ room_1.cells ∧ slots ≤ room_1.slots := ⟨by omega, by omega⟩
  refine lv_aload_n hx hb dL_law_952 rfl (lv_at hl 1 rfl) ?_
  refine lv_aload_n hx hb dL_law_953 rfl (lv_at hl 0 rfl) ?_
  refine lv_iload hx hb dL_law_954 (lv_at hl 4 rfl) ?_
  refine lv_iconst (v := 1) hx hb dL_law_956 (by decide) ?_
  refine lv_iadd hx hb dL_law_957 ?_
  refine va_sld hx hb hX hbl hbA J.2.2.2.2.2.2.2.2 h1 dL_law_958 ?_
  refine lv_aload_n hx hb dL_law_959 rfl (lv_at hl 0 rfl) ?_
  refine lv_iload hx hb dL_law_960 (lv_at hl 4 rfl) ?_
  refine lv_iconst (v := 2) hx hb dL_law_962 (by decide) ?_
  refine lv_iadd hx hb dL_law_963 ?_
  refine va_sld hx hb hX hbl hbA J.2.2.2.2.2.2.2.2 h2 dL_law_964 ?_
  refine lv_aload_n hx hb dL_law_965 rfl (lv_at hl 0 rfl) ?_
  refine lv_iload hx hb dL_law_966 (lv_at hl 4 rfl) ?_
  refine lv_iconst (v := 3) hx hb dL_law_968 (by decide) ?_
  refine lv_iadd hx hb dL_law_969 ?_
  refine va_sld hx hb hX hbl hbA J.2.2.2.2.2.2.2.2 h3 dL_law_970 ?_
  refine lv_aload_n hx hb dL_law_971 rfl (lv_at hl 0 rfl) ?_
  refine lv_iload hx hb dL_law_972 (lv_at hl 4 rfl) ?_
  refine lv_iconst (v := 4) hx hb dL_law_974 (by decide) ?_
  refine lv_iadd hx hb dL_law_975 ?_
  refine va_sld hx hb hX hbl hbA J.2.2.2.2.2.2.2.2 h4 dL_law_976 ?_
  refine w_callC (rest := []) (ts := [xs (x4 + 1).toNatClampNeg, xs (x4 + 2).toNatClampNeg, xs (x4 + 3).toNatClampNeg, xs (x4 + 4).toNatClampNeg]) C0 hK hap w_o1129 (C_ford hc 20 (xs (x4 + 1).toNatClampNeg).toInt (xs (x4 + 2).toNatClampNeg).toInt (xs (x4 + 3).toNatClampNeg).toInt (xs (x4 + 4).toNatClampNeg).toInt) J dL_law_977 (Nat.le_of_ble_eq_true rfl) hl.1 hf0 (fun σ1 H1 locs1 hc1 J1 hv1 => ?_)
  refine lv_aload_n hx hb dL_law_980 rfl (lv_at hl 2 rfl) ?_
  refine lv_aload_n hx hb dL_law_981 rfl (lv_at hl 0 rfl) ?_
  refine lv_iload hx hb dL_law_982 (lv_at hl 4 rfl) ?_
  refine lv_iconst (v := 1) hx hb dL_law_984 (by decide) ?_
  refine lv_iadd hx hb dL_law_985 ?_
  refine va_sld hx hb hX hbl hbA J1.2.2.2.2.2.2.2.2 h1 dL_law_986 ?_
  refine lv_aload_n hx hb dL_law_987 rfl (lv_at hl 0 rfl) ?_
  refine lv_iload hx hb dL_law_988 (lv_at hl 4 rfl) ?_
  refine lv_iconst (v := 2) hx hb dL_law_990 (by decide) ?_
  refine lv_iadd hx hb dL_law_991 ?_
  refine va_sld hx hb hX hbl hbA J1.2.2.2.2.2.2.2.2 h2 dL_law_992 ?_
  refine lv_aload_n hx hb dL_law_993 rfl (lv_at hl 0 rfl) ?_
  refine lv_iload hx hb dL_law_994 (lv_at hl 4 rfl) ?_
  refine lv_iconst (v := 3) hx hb dL_law_996 (by decide) ?_
  refine lv_iadd hx hb dL_law_997 ?_
  refine va_sld hx hb hX hbl hbA J1.2.2.2.2.2.2.2.2 h3 dL_law_998 ?_
  refine lv_aload_n hx hb dL_law_999 rfl (lv_at hl 0 rfl) ?_
  refine lv_iload hx hb dL_law_1000 (lv_at hl 4 rfl) ?_
  refine lv_iconst (v := 4) hx hb dL_law_1002 (by decide) ?_
  refine lv_iadd hx hb dL_law_1003 ?_
  refine va_sld hx hb hX hbl hbA J1.2.2.2.2.2.2.2.2 h4 dL_law_1004 ?_
  obtain ⟨τ1, em, hm1, -⟩ := M_ford hm 20 (xs (x4 + 1).toNatClampNeg).toInt (xs (x4 + 2).toNatClampNeg).toInt (xs (x4 + 3).toNatClampNeg).toInt (xs (x4 + 4).toNatClampNeg).toInt
  refine w_callM (ts := [xs (x4 + 1).toNatClampNeg, xs (x4 + 2).toNatClampNeg, xs (x4 + 3).toNatClampNeg, xs (x4 + 4).toNatClampNeg]) C0 hK hap w_o1278 em J1 dL_law_1005 (Nat.le_of_ble_eq_true rfl) hl.1 hf0 (fun H2 locs2 J2 hv2 => ?_)
  refine lv_icmp_eq (tgt := 1336) hx hb dL_law_1008 (by decide) (fun _ => ?_) (fun hne => absurd rfl hne)
  exact W.widen (k := cells + 1) (n := slots + 6) (Nat.le_succ _) (Nat.le_add_right _ _) (K _ _ _ _ _ _ _ hc1 hm1 J2 hl)
set_option maxHeartbeats 4000000 in
theorem w_case29 (C0 : lw_At p s m meth c b L xs) (hK : va_K (dC, dI) vwCl (z_tys dA) s) (hap : w_ap adC adM qo) (h1 : vp_in (x4 + 1) L) (h2 : vp_in (x4 + 2) L) (h3 : vp_in (x4 + 3) L) (h4 : vp_in (x4 + 4) L) (hfit : cells + 1 ≤ room_1.cells ∧ slots + 6 ≤ room_1.slots) (hc : c_inv σ X) (hm : m_inv τ X) (J : w_J s dC dI dA dL adC adM qo σ τ f H locs) (hl : lv_has ls 7 [(0, .ref b), (1, .ref (adC 0)), (2, .ref (adM 0)), (3, .ref qo), (4, .int x4)])
    (K : w_K p l e s m below meth c dC dI dA dL adC adM qo b x4 Q cells slots) : W p l e room_1 s m #[.ref b] below meth c H locs cells slots Q (F0 m 1013 ls []) := by
  obtain ⟨hx, hb, hr, hml, hown, hts, hX, hbl, hlocks, hgv⟩ := id C0
  have hbA : ¬ (fun q : Nat => s.heap.size ≤ q) b := Nat.not_le.mpr hbl
  have hf0 : cells ≤ room_1.cells ∧ slots ≤ room_1.slots := ⟨by omega, by omega⟩
  refine lv_aload_n hx hb dL_law_1013 rfl (lv_at hl 1 rfl) ?_
  refine lv_aload_n hx hb dL_law_1014 rfl (lv_at hl 0 rfl) ?_
  refine lv_iload hx hb dL_law_1015 (lv_at hl 4 rfl) ?_
  refine lv_iconst (v := 1) hx hb dL_law_1017 (by decide) ?_
  refine lv_iadd hx hb dL_law_1018 ?_
  refine va_sld hx hb hX hbl hbA J.2.2.2.2.2.2.2.2 h1 dL_law_1019 ?_
  refine lv_aload_n hx hb dL_law_1020 rfl (lv_at hl 0 rfl) ?_
  refine lv_iload hx hb dL_law_1021 (lv_at hl 4 rfl) ?_
  refine lv_iconst (v := 2) hx hb dL_law_1023 (by decide) ?_
  refine lv_iadd hx hb dL_law_1024 ?_
  refine va_sld hx hb hX hbl hbA J.2.2.2.2.2.2.2.2 h2 dL_law_1025 ?_
  refine w_callC (rest := []) (ts := [xs (x4 + 1).toNatClampNeg, xs (x4 + 2).toNatClampNeg]) C0 hK hap w_o1130 (C_weight hc 20 (xs (x4 + 1).toNatClampNeg).toInt (xs (x4 + 2).toNatClampNeg).toInt) J dL_law_1026 (Nat.le_of_ble_eq_true rfl) hl.1 hf0 (fun σ1 H1 locs1 hc1 J1 hv1 => ?_)
  refine lv_aload_n hx hb dL_law_1029 rfl (lv_at hl 2 rfl) ?_
  refine lv_aload_n hx hb dL_law_1030 rfl (lv_at hl 0 rfl) ?_
  refine lv_iload hx hb dL_law_1031 (lv_at hl 4 rfl) ?_
  refine lv_iconst (v := 1) hx hb dL_law_1033 (by decide) ?_
  refine lv_iadd hx hb dL_law_1034 ?_
  refine va_sld hx hb hX hbl hbA J1.2.2.2.2.2.2.2.2 h1 dL_law_1035 ?_
  refine lv_aload_n hx hb dL_law_1036 rfl (lv_at hl 0 rfl) ?_
  refine lv_iload hx hb dL_law_1037 (lv_at hl 4 rfl) ?_
  refine lv_iconst (v := 2) hx hb dL_law_1039 (by decide) ?_
  refine lv_iadd hx hb dL_law_1040 ?_
  refine va_sld hx hb hX hbl hbA J1.2.2.2.2.2.2.2.2 h2 dL_law_1041 ?_
  obtain ⟨τ1, em, hm1, -⟩ := M_weight hm 20 (xs (x4 + 1).toNatClampNeg).toInt (xs (x4 + 2).toNatClampNeg).toInt
  refine w_callM (ts := [xs (x4 + 1).toNatClampNeg, xs (x4 + 2).toNatClampNeg]) C0 hK hap w_o1279 em J1 dL_law_1042 (Nat.le_of_ble_eq_true rfl) hl.1 hf0 (fun H2 locs2 J2 hv2 => ?_)
  refine lv_icmp_eq (tgt := 1336) hx hb dL_law_1045 (by decide) (fun _ => ?_) (fun hne => absurd rfl hne)
  exact W.widen (k := cells + 1) (n := slots + 6) (Nat.le_succ _) (Nat.le_add_right _ _) (K _ _ _ _ _ _ _ hc1 hm1 J2 hl)
set_option maxHeartbeats 4000000 in
theorem w_case30 (C0 : lw_At p s m meth c b L xs) (hK : va_K (dC, dI) vwCl (z_tys dA) s) (hap : w_ap adC adM qo) (h1 : vp_in (x4 + 1) L) (h2 : vp_in (x4 + 2) L) (h3 : vp_in (x4 + 3) L) (h4 : vp_in (x4 + 4) L) (hfit : cells + 1 ≤ room_1.cells ∧ slots + 6 ≤ room_1.slots) (hc : c_inv σ X) (hm : m_inv τ X) (J : w_J s dC dI dA dL adC adM qo σ τ f H locs) (hl : lv_has ls 7 [(0, .ref b), (1, .ref (adC 0)), (2, .ref (adM 0)), (3, .ref qo), (4, .int x4)])
    (K : w_K p l e s m below meth c dC dI dA dL adC adM qo b x4 Q cells slots) : W p l e room_1 s m #[.ref b] below meth c H locs cells slots Q (F0 m 1050 ls []) := by
  obtain ⟨hx, hb, hr, hml, hown, hts, hX, hbl, hlocks, hgv⟩ := id C0
  have hbA : ¬ (fun q : Nat => s.heap.size ≤ q) b := Nat.not_le.mpr hbl
  have hf0 : cells ≤ room_1.cells ∧ slots ≤ room_1.slots := ⟨by omega, by omega⟩
  refine lv_aload_n hx hb dL_law_1050 rfl (lv_at hl 1 rfl) ?_
  refine lv_aload_n hx hb dL_law_1051 rfl (lv_at hl 0 rfl) ?_
  refine lv_iload hx hb dL_law_1052 (lv_at hl 4 rfl) ?_
  refine lv_iconst (v := 1) hx hb dL_law_1054 (by decide) ?_
  refine lv_iadd hx hb dL_law_1055 ?_
  refine va_sld hx hb hX hbl hbA J.2.2.2.2.2.2.2.2 h1 dL_law_1056 ?_
  refine w_callC (rest := []) (ts := [xs (x4 + 1).toNatClampNeg]) C0 hK hap w_o1131 (C_mean hc 20 (xs (x4 + 1).toNatClampNeg).toInt) J dL_law_1057 (Nat.le_of_ble_eq_true rfl) hl.1 hf0 (fun σ1 H1 locs1 hc1 J1 hv1 => ?_)
  refine lv_aload_n hx hb dL_law_1060 rfl (lv_at hl 2 rfl) ?_
  refine lv_aload_n hx hb dL_law_1061 rfl (lv_at hl 0 rfl) ?_
  refine lv_iload hx hb dL_law_1062 (lv_at hl 4 rfl) ?_
  refine lv_iconst (v := 1) hx hb dL_law_1064 (by decide) ?_
  refine lv_iadd hx hb dL_law_1065 ?_
  refine va_sld hx hb hX hbl hbA J1.2.2.2.2.2.2.2.2 h1 dL_law_1066 ?_
  obtain ⟨τ1, em, hm1, -⟩ := M_mean hm 20 (xs (x4 + 1).toNatClampNeg).toInt
  refine w_callM (ts := [xs (x4 + 1).toNatClampNeg]) C0 hK hap w_o1282 em J1 dL_law_1067 (Nat.le_of_ble_eq_true rfl) hl.1 hf0 (fun H2 locs2 J2 hv2 => ?_)
  refine lv_icmp_eq (tgt := 1336) hx hb dL_law_1070 (by decide) (fun _ => ?_) (fun hne => absurd rfl hne)
  exact W.widen (k := cells + 1) (n := slots + 6) (Nat.le_succ _) (Nat.le_add_right _ _) (K _ _ _ _ _ _ _ hc1 hm1 J2 hl)
set_option maxHeartbeats 4000000 in
theorem w_case31 (C0 : lw_At p s m meth c b L xs) (hK : va_K (dC, dI) vwCl (z_tys dA) s) (hap : w_ap adC adM qo) (h1 : vp_in (x4 + 1) L) (h2 : vp_in (x4 + 2) L) (h3 : vp_in (x4 + 3) L) (h4 : vp_in (x4 + 4) L) (hfit : cells + 1 ≤ room_1.cells ∧ slots + 6 ≤ room_1.slots) (hc : c_inv σ X) (hm : m_inv τ X) (J : w_J s dC dI dA dL adC adM qo σ τ f H locs) (hl : lv_has ls 7 [(0, .ref b), (1, .ref (adC 0)), (2, .ref (adM 0)), (3, .ref qo), (4, .int x4)])
    (K : w_K p l e s m below meth c dC dI dA dL adC adM qo b x4 Q cells slots) : W p l e room_1 s m #[.ref b] below meth c H locs cells slots Q (F0 m 1075 ls []) := by
  obtain ⟨hx, hb, hr, hml, hown, hts, hX, hbl, hlocks, hgv⟩ := id C0
  have hbA : ¬ (fun q : Nat => s.heap.size ≤ q) b := Nat.not_le.mpr hbl
  have hf0 : cells ≤ room_1.cells ∧ slots ≤ room_1.slots := ⟨by omega, by omega⟩
  refine lv_aload_n hx hb dL_law_1075 rfl (lv_at hl 1 rfl) ?_
  refine lv_aload_n hx hb dL_law_1076 rfl (lv_at hl 0 rfl) ?_
  refine lv_iload hx hb dL_law_1077 (lv_at hl 4 rfl) ?_
  refine lv_iconst (v := 1) hx hb dL_law_1079 (by decide) ?_
  refine lv_iadd hx hb dL_law_1080 ?_
  refine va_sld hx hb hX hbl hbA J.2.2.2.2.2.2.2.2 h1 dL_law_1081 ?_
  refine w_callC (rest := []) (ts := [xs (x4 + 1).toNatClampNeg]) C0 hK hap w_o1132 (C_safe hc 20 (xs (x4 + 1).toNatClampNeg).toInt) J dL_law_1082 (Nat.le_of_ble_eq_true rfl) hl.1 hf0 (fun σ1 H1 locs1 hc1 J1 hv1 => ?_)
  refine lv_aload_n hx hb dL_law_1085 rfl (lv_at hl 2 rfl) ?_
  refine lv_aload_n hx hb dL_law_1086 rfl (lv_at hl 0 rfl) ?_
  refine lv_iload hx hb dL_law_1087 (lv_at hl 4 rfl) ?_
  refine lv_iconst (v := 1) hx hb dL_law_1089 (by decide) ?_
  refine lv_iadd hx hb dL_law_1090 ?_
  refine va_sld hx hb hX hbl hbA J1.2.2.2.2.2.2.2.2 h1 dL_law_1091 ?_
  obtain ⟨τ1, em, hm1, -⟩ := M_safe hm 20 (xs (x4 + 1).toNatClampNeg).toInt
  refine w_callM (ts := [xs (x4 + 1).toNatClampNeg]) C0 hK hap w_o1283 em J1 dL_law_1092 (Nat.le_of_ble_eq_true rfl) hl.1 hf0 (fun H2 locs2 J2 hv2 => ?_)
  refine lv_icmp_eq (tgt := 1336) hx hb dL_law_1095 (by decide) (fun _ => ?_) (fun hne => absurd rfl hne)
  exact W.widen (k := cells + 1) (n := slots + 6) (Nat.le_succ _) (Nat.le_add_right _ _) (K _ _ _ _ _ _ _ hc1 hm1 J2 hl)
set_option maxHeartbeats 4000000 in
theorem w_case32 (C0 : lw_At p s m meth c b L xs) (hK : va_K (dC, dI) vwCl (z_tys dA) s) (hap : w_ap adC adM qo) (h1 : vp_in (x4 + 1) L) (h2 : vp_in (x4 + 2) L) (h3 : vp_in (x4 + 3) L) (h4 : vp_in (x4 + 4) L) (hfit : cells + 1 ≤ room_1.cells ∧ slots + 6 ≤ room_1.slots) (hc : c_inv σ X) (hm : m_inv τ X) (J : w_J s dC dI dA dL adC adM qo σ τ f H locs) (hl : lv_has ls 7 [(0, .ref b), (1, .ref (adC 0)), (2, .ref (adM 0)), (3, .ref qo), (4, .int x4)])
    (K : w_K p l e s m below meth c dC dI dA dL adC adM qo b x4 Q cells slots) : W p l e room_1 s m #[.ref b] below meth c H locs cells slots Q (F0 m 1100 ls []) := by
  obtain ⟨hx, hb, hr, hml, hown, hts, hX, hbl, hlocks, hgv⟩ := id C0
  have hbA : ¬ (fun q : Nat => s.heap.size ≤ q) b := Nat.not_le.mpr hbl
  have hf0 : cells ≤ room_1.cells ∧ slots ≤ room_1.slots := ⟨by omega, by omega⟩
  refine lv_aload_n hx hb dL_law_1100 rfl (lv_at hl 1 rfl) ?_
  refine lv_aload_n hx hb dL_law_1101 rfl (lv_at hl 0 rfl) ?_
  refine lv_iload hx hb dL_law_1102 (lv_at hl 4 rfl) ?_
  refine lv_iconst (v := 1) hx hb dL_law_1104 (by decide) ?_
  refine lv_iadd hx hb dL_law_1105 ?_
  refine va_sld hx hb hX hbl hbA J.2.2.2.2.2.2.2.2 h1 dL_law_1106 ?_
  refine lv_aload_n hx hb dL_law_1107 rfl (lv_at hl 0 rfl) ?_
  refine lv_iload hx hb dL_law_1108 (lv_at hl 4 rfl) ?_
  refine lv_iconst (v := 2) hx hb dL_law_1110 (by decide) ?_
  refine lv_iadd hx hb dL_law_1111 ?_
  refine va_sld hx hb hX hbl hbA J.2.2.2.2.2.2.2.2 h2 dL_law_1112 ?_
  refine w_callC (rest := []) (ts := [xs (x4 + 1).toNatClampNeg, xs (x4 + 2).toNatClampNeg]) C0 hK hap w_o1133 (C_learn hc 20 (xs (x4 + 1).toNatClampNeg).toInt (xs (x4 + 2).toNatClampNeg).toInt) J dL_law_1113 (Nat.le_of_ble_eq_true rfl) hl.1 hf0 (fun σ1 H1 locs1 hc1 J1 hv1 => ?_)
  refine lv_aload_n hx hb dL_law_1116 rfl (lv_at hl 2 rfl) ?_
  refine lv_aload_n hx hb dL_law_1117 rfl (lv_at hl 0 rfl) ?_
  refine lv_iload hx hb dL_law_1118 (lv_at hl 4 rfl) ?_
  refine lv_iconst (v := 1) hx hb dL_law_1120 (by decide) ?_
  refine lv_iadd hx hb dL_law_1121 ?_
  refine va_sld hx hb hX hbl hbA J1.2.2.2.2.2.2.2.2 h1 dL_law_1122 ?_
  refine lv_aload_n hx hb dL_law_1123 rfl (lv_at hl 0 rfl) ?_
  refine lv_iload hx hb dL_law_1124 (lv_at hl 4 rfl) ?_
  refine lv_iconst (v := 2) hx hb dL_law_1126 (by decide) ?_
  refine lv_iadd hx hb dL_law_1127 ?_
  refine va_sld hx hb hX hbl hbA J1.2.2.2.2.2.2.2.2 h2 dL_law_1128 ?_
  obtain ⟨τ1, em, hm1, -⟩ := M_learn hm 20 (xs (x4 + 1).toNatClampNeg).toInt (xs (x4 + 2).toNatClampNeg).toInt
  refine w_callM (ts := [xs (x4 + 1).toNatClampNeg, xs (x4 + 2).toNatClampNeg]) C0 hK hap w_o1284 em J1 dL_law_1129 (Nat.le_of_ble_eq_true rfl) hl.1 hf0 (fun H2 locs2 J2 hv2 => ?_)
  refine lv_icmp_eq (tgt := 1336) hx hb dL_law_1132 (by decide) (fun _ => ?_) (fun hne => absurd rfl hne)
  exact W.widen (k := cells + 1) (n := slots + 6) (Nat.le_succ _) (Nat.le_add_right _ _) (K _ _ _ _ _ _ _ hc1 hm1 J2 hl)
set_option maxHeartbeats 4000000 in
theorem w_case33 (C0 : lw_At p s m meth c b L xs) (hK : va_K (dC, dI) vwCl (z_tys dA) s) (hap : w_ap adC adM qo) (h1 : vp_in (x4 + 1) L) (h2 : vp_in (x4 + 2) L) (h3 : vp_in (x4 + 3) L) (h4 : vp_in (x4 + 4) L) (hfit : cells + 1 ≤ room_1.cells ∧ slots + 6 ≤ room_1.slots) (hc : c_inv σ X) (hm : m_inv τ X) (J : w_J s dC dI dA dL adC adM qo σ τ f H locs) (hl : lv_has ls 7 [(0, .ref b), (1, .ref (adC 0)), (2, .ref (adM 0)), (3, .ref qo), (4, .int x4)])
    (K : w_K p l e s m below meth c dC dI dA dL adC adM qo b x4 Q cells slots) : W p l e room_1 s m #[.ref b] below meth c H locs cells slots Q (F0 m 1137 ls []) := by
  obtain ⟨hx, hb, hr, hml, hown, hts, hX, hbl, hlocks, hgv⟩ := id C0
  have hbA : ¬ (fun q : Nat => s.heap.size ≤ q) b := Nat.not_le.mpr hbl
  have hf0 : cells ≤ room_1.cells ∧ slots ≤ room_1.slots := ⟨by omega, by omega⟩
  refine lv_aload_n hx hb dL_law_1137 rfl (lv_at hl 1 rfl) ?_
  refine lv_aload_n hx hb dL_law_1138 rfl (lv_at hl 0 rfl) ?_
  refine lv_iload hx hb dL_law_1139 (lv_at hl 4 rfl) ?_
  refine lv_iconst (v := 1) hx hb dL_law_1141 (by decide) ?_
  refine lv_iadd hx hb dL_law_1142 ?_
  refine va_sld hx hb hX hbl hbA J.2.2.2.2.2.2.2.2 h1 dL_law_1143 ?_
  refine w_callC (rest := []) (ts := [xs (x4 + 1).toNatClampNeg]) C0 hK hap w_o1134 (C_last hc 20 (xs (x4 + 1).toNatClampNeg).toInt) J dL_law_1144 (Nat.le_of_ble_eq_true rfl) hl.1 hf0 (fun σ1 H1 locs1 hc1 J1 hv1 => ?_)
  refine lv_aload_n hx hb dL_law_1147 rfl (lv_at hl 2 rfl) ?_
  refine lv_aload_n hx hb dL_law_1148 rfl (lv_at hl 0 rfl) ?_
  refine lv_iload hx hb dL_law_1149 (lv_at hl 4 rfl) ?_
  refine lv_iconst (v := 1) hx hb dL_law_1151 (by decide) ?_
  refine lv_iadd hx hb dL_law_1152 ?_
  refine va_sld hx hb hX hbl hbA J1.2.2.2.2.2.2.2.2 h1 dL_law_1153 ?_
  obtain ⟨τ1, em, hm1, -⟩ := M_last hm 20 (xs (x4 + 1).toNatClampNeg).toInt
  refine w_callM (ts := [xs (x4 + 1).toNatClampNeg]) C0 hK hap w_o1285 em J1 dL_law_1154 (Nat.le_of_ble_eq_true rfl) hl.1 hf0 (fun H2 locs2 J2 hv2 => ?_)
  refine lv_icmp_eq (tgt := 1336) hx hb dL_law_1157 (by decide) (fun _ => ?_) (fun hne => absurd rfl hne)
  exact W.widen (k := cells + 1) (n := slots + 6) (Nat.le_succ _) (Nat.le_add_right _ _) (K _ _ _ _ _ _ _ hc1 hm1 J2 hl)
set_option maxHeartbeats 4000000 in
theorem w_case34 (C0 : lw_At p s m meth c b L xs) (hK : va_K (dC, dI) vwCl (z_tys dA) s) (hap : w_ap adC adM qo) (h1 : vp_in (x4 + 1) L) (h2 : vp_in (x4 + 2) L) (h3 : vp_in (x4 + 3) L) (h4 : vp_in (x4 + 4) L) (hfit : cells + 1 ≤ room_1.cells ∧ slots + 6 ≤ room_1.slots) (hc : c_inv σ X) (hm : m_inv τ X) (J : w_J s dC dI dA dL adC adM qo σ τ f H locs) (hl : lv_has ls 7 [(0, .ref b), (1, .ref (adC 0)), (2, .ref (adM 0)), (3, .ref qo), (4, .int x4)])
    (K : w_K p l e s m below meth c dC dI dA dL adC adM qo b x4 Q cells slots) : W p l e room_1 s m #[.ref b] below meth c H locs cells slots Q (F0 m 1162 ls []) := by
  obtain ⟨hx, hb, hr, hml, hown, hts, hX, hbl, hlocks, hgv⟩ := id C0
  have hbA : ¬ (fun q : Nat => s.heap.size ≤ q) b := Nat.not_le.mpr hbl
  have hf0 : cells ≤ room_1.cells ∧ slots ≤ room_1.slots := ⟨by omega, by omega⟩
  refine lv_aload_n hx hb dL_law_1162 rfl (lv_at hl 1 rfl) ?_
  refine lv_aload_n hx hb dL_law_1163 rfl (lv_at hl 0 rfl) ?_
  refine lv_iload hx hb dL_law_1164 (lv_at hl 4 rfl) ?_
  refine lv_iconst (v := 1) hx hb dL_law_1166 (by decide) ?_
  refine lv_iadd hx hb dL_law_1167 ?_
  refine va_sld hx hb hX hbl hbA J.2.2.2.2.2.2.2.2 h1 dL_law_1168 ?_
  refine w_callC (rest := []) (ts := [xs (x4 + 1).toNatClampNeg]) C0 hK hap w_o1135 (C_fair hc 20 (xs (x4 + 1).toNatClampNeg).toInt) J dL_law_1169 (Nat.le_of_ble_eq_true rfl) hl.1 hf0 (fun σ1 H1 locs1 hc1 J1 hv1 => ?_)
  refine lv_aload_n hx hb dL_law_1172 rfl (lv_at hl 2 rfl) ?_
  refine lv_aload_n hx hb dL_law_1173 rfl (lv_at hl 0 rfl) ?_
  refine lv_iload hx hb dL_law_1174 (lv_at hl 4 rfl) ?_
  refine lv_iconst (v := 1) hx hb dL_law_1176 (by decide) ?_
  refine lv_iadd hx hb dL_law_1177 ?_
  refine va_sld hx hb hX hbl hbA J1.2.2.2.2.2.2.2.2 h1 dL_law_1178 ?_
  obtain ⟨τ1, em, hm1, -⟩ := M_fair hm 20 (xs (x4 + 1).toNatClampNeg).toInt
  refine w_callM (ts := [xs (x4 + 1).toNatClampNeg]) C0 hK hap w_o1287 em J1 dL_law_1179 (Nat.le_of_ble_eq_true rfl) hl.1 hf0 (fun H2 locs2 J2 hv2 => ?_)
  refine lv_icmp_eq (tgt := 1336) hx hb dL_law_1182 (by decide) (fun _ => ?_) (fun hne => absurd rfl hne)
  exact W.widen (k := cells + 1) (n := slots + 6) (Nat.le_succ _) (Nat.le_add_right _ _) (K _ _ _ _ _ _ _ hc1 hm1 J2 hl)
set_option maxHeartbeats 4000000 in
theorem w_case35 (C0 : lw_At p s m meth c b L xs) (hK : va_K (dC, dI) vwCl (z_tys dA) s) (hap : w_ap adC adM qo) (h1 : vp_in (x4 + 1) L) (h2 : vp_in (x4 + 2) L) (h3 : vp_in (x4 + 3) L) (h4 : vp_in (x4 + 4) L) (hfit : cells + 1 ≤ room_1.cells ∧ slots + 6 ≤ room_1.slots) (hc : c_inv σ X) (hm : m_inv τ X) (J : w_J s dC dI dA dL adC adM qo σ τ f H locs) (hl : lv_has ls 7 [(0, .ref b), (1, .ref (adC 0)), (2, .ref (adM 0)), (3, .ref qo), (4, .int x4)])
    (K : w_K p l e s m below meth c dC dI dA dL adC adM qo b x4 Q cells slots) : W p l e room_1 s m #[.ref b] below meth c H locs cells slots Q (F0 m 1187 ls []) := by
  obtain ⟨hx, hb, hr, hml, hown, hts, hX, hbl, hlocks, hgv⟩ := id C0
  have hbA : ¬ (fun q : Nat => s.heap.size ≤ q) b := Nat.not_le.mpr hbl
  have hf0 : cells ≤ room_1.cells ∧ slots ≤ room_1.slots := ⟨by omega, by omega⟩
  refine lv_aload_n hx hb dL_law_1187 rfl (lv_at hl 1 rfl) ?_
  refine lv_aload_n hx hb dL_law_1188 rfl (lv_at hl 0 rfl) ?_
  refine lv_iload hx hb dL_law_1189 (lv_at hl 4 rfl) ?_
  refine lv_iconst (v := 1) hx hb dL_law_1191 (by decide) ?_
  refine lv_iadd hx hb dL_law_1192 ?_
  refine va_sld hx hb hX hbl hbA J.2.2.2.2.2.2.2.2 h1 dL_law_1193 ?_
  refine w_callC (rest := []) (ts := [xs (x4 + 1).toNatClampNeg]) C0 hK hap w_o1136 (C_count hc 20 (xs (x4 + 1).toNatClampNeg).toInt) J dL_law_1194 (Nat.le_of_ble_eq_true rfl) hl.1 hf0 (fun σ1 H1 locs1 hc1 J1 hv1 => ?_)
  refine lv_aload_n hx hb dL_law_1197 rfl (lv_at hl 2 rfl) ?_
  refine lv_aload_n hx hb dL_law_1198 rfl (lv_at hl 0 rfl) ?_
  refine lv_iload hx hb dL_law_1199 (lv_at hl 4 rfl) ?_
  refine lv_iconst (v := 1) hx hb dL_law_1201 (by decide) ?_
  refine lv_iadd hx hb dL_law_1202 ?_
  refine va_sld hx hb hX hbl hbA J1.2.2.2.2.2.2.2.2 h1 dL_law_1203 ?_
  obtain ⟨τ1, em, hm1, -⟩ := M_count hm 20 (xs (x4 + 1).toNatClampNeg).toInt
  refine w_callM (ts := [xs (x4 + 1).toNatClampNeg]) C0 hK hap w_o1288 em J1 dL_law_1204 (Nat.le_of_ble_eq_true rfl) hl.1 hf0 (fun H2 locs2 J2 hv2 => ?_)
  refine lv_icmp_eq (tgt := 1336) hx hb dL_law_1207 (by decide) (fun _ => ?_) (fun hne => absurd rfl hne)
  exact W.widen (k := cells + 1) (n := slots + 6) (Nat.le_succ _) (Nat.le_add_right _ _) (K _ _ _ _ _ _ _ hc1 hm1 J2 hl)
end
