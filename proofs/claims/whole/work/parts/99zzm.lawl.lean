/-! The law: its loop. -/
section
variable {p : Program} {l : Launch} {e : Env} {s : State} {m : MethodId} {below : List Frame} {meth : Method} {c : Code} {dC : Nat → ClassId} {dI : Nat → Nat → Nat} {dA : Nat → ClassId} {dL : ClassId} {adC adM : Nat → Nat} {qo : Nat} {b L : Nat} {xs : Nat → Int32}
theorem w_len (hL : L ≤ 2560) : (Int32.ofNat L - 5).toInt = (L : Int) - 5 := by
  have e1 : Int32.ofNat L = Int32.ofInt (L : Int) := rfl
  have e2 : (5 : Int32) = Int32.ofInt 5 := rfl
  rw [e1, e2, ← Int32.ofInt_sub, z_of32 ⟨by omega, by omega⟩]
set_option maxHeartbeats 8000000 in
theorem w_loop (hL : L ≤ 2560) (C0 : lw_At p s m meth c b L xs) (hK5 : va_K (dC, dI) vwCl (z_tys dA ++ [(dL, .long)]) s) (hfl : l.stackTraces = false) (hbad : w_bad s) (hU : vx_Zq Bundle.tN "UNASSIGNED_STACK" Bundle.steD (fun q => s.heap.size ≤ q) s s.heap) (hN : vx_Zq Bundle.tN "SUPPRESSED_SENTINEL" Bundle.listD (fun q => s.heap.size ≤ q) s s.heap) (hap : w_ap adC adM qo) :
    ∀ (n i : Nat), i ≤ L → L < i + 5 * n → ∀ (X σ τ : z_S) (f : Nat → Int64) (H : Heap) (locs : List Loc) (ls : Array Slot) (cells slots : Nat), cells + n ≤ 601024 → slots + 6 * n ≤ 7293034 → c_inv σ X → m_inv τ X → w_J s dC dI dA dL adC adM qo σ τ f H locs → lv_has ls 7 [(0, .ref b), (1, .ref (adC 0)), (2, .ref (adM 0)), (3, .ref qo), (4, .int (nI i))] →
      W p l e room_1 s m #[.ref b] below meth c H locs cells slots (lw_Z below #[.ref b] s) (F0 m 23 ls []) := by
  obtain ⟨hx, hb, hr, hml, hown, hts, hX, hbl, hlocks, hgv⟩ := id C0
  have hbA : ¬ (fun q : Nat => s.heap.size ≤ q) b := Nat.not_le.mpr hbl
  have hK : va_K (dC, dI) vwCl (z_tys dA) s := hK5.sub [0, 1, 2, 3] rfl
  intro n
  induction n with
  | zero =>
    intro i h1 h2
    exact absurd h2 (by omega)
  | succ n ih =>
    intro i h1 h2 X σ τ f H locs ls cells slots hce hsl hc hm J hl
    have hS := J.2.2.2.2.2.2.2.2
    refine lv_iload hx hb dL_law_23 (lv_at hl 4 rfl) ?_
    refine lv_aload_n hx hb dL_law_25 rfl (lv_at hl 0 rfl) ?_
    refine va_slen hx hb hX hbl hbA hS dL_law_26 ?_
    refine lv_iconst (v := 5) hx hb dL_law_27 (by decide) ?_
    refine lv_isub hx hb dL_law_28 ?_
    refine lv_icmp_gt (tgt := 1342) hx hb dL_law_29 (by decide) (fun _ => ?_) (fun hgt => ?_)
    · refine lv_iconst (v := 1) hx hb dL_law_1342 (by decide) ?_
      refine va_forget (fun q hq => hS.2.2 q hq) ?_
      refine W.widen (k := 601024) (n := 7293034) (by omega) (by omega) ?_
      exact lw_ret hx hb hr hlocks dL_law_1343
    · have hi5 : i + 5 ≤ L := by
        have h3 := w_len hL
        have h4 := nI_toInt (n := i) (by omega)
        have h5 : ¬ (Int32.ofNat L - 5 < nI i) := hgt
        rw [Int32.lt_iff_toInt_lt, h3, h4] at h5
        omega
      have g0 : vp_in (nI i) L := vp_in_nI (by omega) (by omega)
      have g1 : vp_in (nI i + 1) L := by rw [show nI i + 1 = nI (i + 1) from nI_add i 1]; exact vp_in_nI (by omega) (by omega)
      have g2 : vp_in (nI i + 2) L := by rw [show nI i + 2 = nI (i + 2) from nI_add i 2]; exact vp_in_nI (by omega) (by omega)
      have g3 : vp_in (nI i + 3) L := by rw [show nI i + 3 = nI (i + 3) from nI_add i 3]; exact vp_in_nI (by omega) (by omega)
      have g4 : vp_in (nI i + 4) L := by rw [show nI i + 4 = nI (i + 4) from nI_add i 4]; exact vp_in_nI (by omega) (by omega)
      have K : w_K p l e s m below meth c dC dI dA dL adC adM qo b (nI i) (lw_Z below #[.ref b] s) cells slots := by
        intro X σ τ f H locs ls hc hm J hl
        refine lv_iinc (k := 4) (v := nI (i + 5)) (lv' := [(4, .int (nI (i + 5))), (0, .ref b), (1, .ref (adC 0)), (2, .ref (adM 0)), (3, .ref qo)]) hx hb dL_law_1336 hl rfl (nI_add i 5) (by decide) rfl (fun ls hl => ?_)
        refine lv_goto (tgt := 23) hx hb dL_law_1339 (by decide) ?_
        exact ih (i + 5) hi5 (by omega) X σ τ f H locs ls (cells + 1) (slots + 6) (by omega) (by omega) hc hm J (lv_sub hl [1, 2, 3, 4, 0] rfl)
      have hfit : cells + 1 ≤ room_1.cells ∧ slots + 6 ≤ room_1.slots := ⟨by show cells + 1 ≤ 601024; omega, by show slots + 6 ≤ 7293034; omega⟩
      refine lv_aload_n hx hb dL_law_32 rfl (lv_at hl 0 rfl) ?_
      refine lv_iload hx hb dL_law_33 (lv_at hl 4 rfl) ?_
      refine va_sld hx hb hX hbl hbA hS g0 dL_law_35 ?_
      refine lv_bipush (v := 63) hx hb dL_law_36 (by decide) ?_
      refine lv_iand hx hb dL_law_38 ?_
      refine lv_topi (fun y _ => ?_)
      by_cases c1 : y.toInt < 0
      · exact lv_tableOut (tgt := 1336) hx hb dL_law_39 (Or.inl c1) (by decide) (W.widen (k := cells + 1) (n := slots + 6) (Nat.le_succ _) (Nat.le_add_right _ _) (K X σ τ f H locs ls hc hm J hl))
      · by_cases c2 : 37 < y.toInt
        · exact lv_tableOut (tgt := 1336) hx hb dL_law_39 (Or.inr c2) (by decide) (W.widen (k := cells + 1) (n := slots + 6) (Nat.le_succ _) (Nat.le_add_right _ _) (K X σ τ f H locs ls hc hm J hl))
        · have hk : y.toInt = 0 ∨ y.toInt = 1 ∨ y.toInt = 2 ∨ y.toInt = 3 ∨ y.toInt = 4 ∨ y.toInt = 5 ∨ y.toInt = 6 ∨ y.toInt = 7 ∨ y.toInt = 8 ∨ y.toInt = 9 ∨ y.toInt = 10 ∨ y.toInt = 11 ∨ y.toInt = 12 ∨ y.toInt = 13 ∨ y.toInt = 14 ∨ y.toInt = 15 ∨ y.toInt = 16 ∨ y.toInt = 17 ∨ y.toInt = 18 ∨ y.toInt = 19 ∨ y.toInt = 20 ∨ y.toInt = 21 ∨ y.toInt = 22 ∨ y.toInt = 23 ∨ y.toInt = 24 ∨ y.toInt = 25 ∨ y.toInt = 26 ∨ y.toInt = 27 ∨ y.toInt = 28 ∨ y.toInt = 29 ∨ y.toInt = 30 ∨ y.toInt = 31 ∨ y.toInt = 32 ∨ y.toInt = 33 ∨ y.toInt = 34 ∨ y.toInt = 35 ∨ y.toInt = 36 ∨ y.toInt = 37 := by omega
          rcases hk with hk | hk | hk | hk | hk | hk | hk | hk | hk | hk | hk | hk | hk | hk | hk | hk | hk | hk | hk | hk | hk | hk | hk | hk | hk | hk | hk | hk | hk | hk | hk | hk | hk | hk | hk | hk | hk | hk
          · exact lv_tableIn (off := 165) (tgt := 204) hx hb dL_law_39 c1 c2 (by rw [hk]; rfl) (by decide) (w_case0 C0 hK hap g1 g2 g3 g4 hfit hc hm J hl K)
          · exact lv_tableIn (off := 190) (tgt := 229) hx hb dL_law_39 c1 c2 (by rw [hk]; rfl) (by decide) (w_case1 C0 hK hap g1 g2 g3 g4 hfit hc hm J hl K)
          · exact lv_tableIn (off := 215) (tgt := 254) hx hb dL_law_39 c1 c2 (by rw [hk]; rfl) (by decide) (w_case2 C0 hK hap g1 g2 g3 g4 hfit hc hm J hl K)
          · exact lv_tableIn (off := 228) (tgt := 267) hx hb dL_law_39 c1 c2 (by rw [hk]; rfl) (by decide) (w_case3 C0 hK hap g1 g2 g3 g4 hfit hc hm J hl K)
          · exact lv_tableIn (off := 265) (tgt := 304) hx hb dL_law_39 c1 c2 (by rw [hk]; rfl) (by decide) (w_case4 C0 hK hap g1 g2 g3 g4 hfit hc hm J hl K)
          · exact lv_tableIn (off := 290) (tgt := 329) hx hb dL_law_39 c1 c2 (by rw [hk]; rfl) (by decide) (w_case5 C0 hK hap g1 g2 g3 g4 hfit hc hm J hl K)
          · exact lv_tableIn (off := 327) (tgt := 366) hx hb dL_law_39 c1 c2 (by rw [hk]; rfl) (by decide) (w_case6 C0 hK hap g1 g2 g3 g4 hfit hc hm J hl K)
          · exact lv_tableIn (off := 364) (tgt := 403) hx hb dL_law_39 c1 c2 (by rw [hk]; rfl) (by decide) (w_case7 C0 hK hap g1 g2 g3 g4 hfit hc hm J hl K)
          · exact lv_tableIn (off := 401) (tgt := 440) hx hb dL_law_39 c1 c2 (by rw [hk]; rfl) (by decide) (w_case8 C0 hK hap g1 g2 g3 g4 hfit hc hm J hl K)
          · exact lv_tableIn (off := 426) (tgt := 465) hx hb dL_law_39 c1 c2 (by rw [hk]; rfl) (by decide) (w_case9 C0 hK hap g1 g2 g3 g4 hfit hc hm J hl K)
          · exact lv_tableIn (off := 439) (tgt := 478) hx hb dL_law_39 c1 c2 (by rw [hk]; rfl) (by decide) (w_case10 C0 hK hap g1 g2 g3 g4 hfit hc hm J hl K)
          · exact lv_tableIn (off := 464) (tgt := 503) hx hb dL_law_39 c1 c2 (by rw [hk]; rfl) (by decide) (w_case11 C0 hK hap g1 g2 g3 g4 hfit hc hm J hl K)
          · exact lv_tableIn (off := 489) (tgt := 528) hx hb dL_law_39 c1 c2 (by rw [hk]; rfl) (by decide) (w_case12 C0 hK hap g1 g2 g3 g4 hfit hc hm J hl K)
          · exact lv_tableIn (off := 514) (tgt := 553) hx hb dL_law_39 c1 c2 (by rw [hk]; rfl) (by decide) (w_case13 C0 hK hap g1 g2 g3 g4 hfit hc hm J hl K)
          · exact lv_tableIn (off := 539) (tgt := 578) hx hb dL_law_39 c1 c2 (by rw [hk]; rfl) (by decide) (w_case14 C0 hK hap g1 g2 g3 g4 hfit hc hm J hl K)
          · exact lv_tableIn (off := 564) (tgt := 603) hx hb dL_law_39 c1 c2 (by rw [hk]; rfl) (by decide) (w_case15 C0 hK hap g1 g2 g3 g4 hfit hc hm J hl K)
          · exact lv_tableIn (off := 589) (tgt := 628) hx hb dL_law_39 c1 c2 (by rw [hk]; rfl) (by decide) (w_case16 C0 hK hap g1 g2 g3 g4 hfit hc hm J hl K)
          · exact lv_tableIn (off := 614) (tgt := 653) hx hb dL_law_39 c1 c2 (by rw [hk]; rfl) (by decide) (w_case17 C0 hK hap g1 g2 g3 g4 hfit hc hm J hl K)
          · exact lv_tableIn (off := 651) (tgt := 690) hx hb dL_law_39 c1 c2 (by rw [hk]; rfl) (by decide) (w_case18 C0 hK hap g1 g2 g3 g4 hfit hc hm J hl K)
          · exact lv_tableIn (off := 676) (tgt := 715) hx hb dL_law_39 c1 c2 (by rw [hk]; rfl) (by decide) (w_case19 C0 hK hap g1 g2 g3 g4 hfit hc hm J hl K)
          · exact lv_tableIn (off := 701) (tgt := 740) hx hb dL_law_39 c1 c2 (by rw [hk]; rfl) (by decide) (w_case20 C0 hK hap g1 g2 g3 g4 hfit hc hm J hl K)
          · exact lv_tableIn (off := 726) (tgt := 765) hx hb dL_law_39 c1 c2 (by rw [hk]; rfl) (by decide) (w_case21 C0 hK hap g1 g2 g3 g4 hfit hc hm J hl K)
          · exact lv_tableIn (off := 751) (tgt := 790) hx hb dL_law_39 c1 c2 (by rw [hk]; rfl) (by decide) (w_case22 C0 hK hap g1 g2 g3 g4 hfit hc hm J hl K)
          · exact lv_tableIn (off := 776) (tgt := 815) hx hb dL_law_39 c1 c2 (by rw [hk]; rfl) (by decide) (w_case23 C0 hK hap g1 g2 g3 g4 hfit hc hm J hl K)
          · exact lv_tableIn (off := 801) (tgt := 840) hx hb dL_law_39 c1 c2 (by rw [hk]; rfl) (by decide) (w_case24 C0 hK hap g1 g2 g3 g4 hfit hc hm J hl K)
          · exact lv_tableIn (off := 814) (tgt := 853) hx hb dL_law_39 c1 c2 (by rw [hk]; rfl) (by decide) (w_case25 C0 hK hap g1 g2 g3 g4 hfit hc hm J hl K)
          · exact lv_tableIn (off := 851) (tgt := 890) hx hb dL_law_39 c1 c2 (by rw [hk]; rfl) (by decide) (w_case26 C0 hK hap g1 g2 g3 g4 hfit hc hm J hl K)
          · exact lv_tableIn (off := 876) (tgt := 915) hx hb dL_law_39 c1 c2 (by rw [hk]; rfl) (by decide) (w_case27 C0 hK hap g1 g2 g3 g4 hfit hc hm J hl K)
          · exact lv_tableIn (off := 913) (tgt := 952) hx hb dL_law_39 c1 c2 (by rw [hk]; rfl) (by decide) (w_case28 C0 hK hap g1 g2 g3 g4 hfit hc hm J hl K)
          · exact lv_tableIn (off := 974) (tgt := 1013) hx hb dL_law_39 c1 c2 (by rw [hk]; rfl) (by decide) (w_case29 C0 hK hap g1 g2 g3 g4 hfit hc hm J hl K)
          · exact lv_tableIn (off := 1011) (tgt := 1050) hx hb dL_law_39 c1 c2 (by rw [hk]; rfl) (by decide) (w_case30 C0 hK hap g1 g2 g3 g4 hfit hc hm J hl K)
          · exact lv_tableIn (off := 1036) (tgt := 1075) hx hb dL_law_39 c1 c2 (by rw [hk]; rfl) (by decide) (w_case31 C0 hK hap g1 g2 g3 g4 hfit hc hm J hl K)
          · exact lv_tableIn (off := 1061) (tgt := 1100) hx hb dL_law_39 c1 c2 (by rw [hk]; rfl) (by decide) (w_case32 C0 hK hap g1 g2 g3 g4 hfit hc hm J hl K)
          · exact lv_tableIn (off := 1098) (tgt := 1137) hx hb dL_law_39 c1 c2 (by rw [hk]; rfl) (by decide) (w_case33 C0 hK hap g1 g2 g3 g4 hfit hc hm J hl K)
          · exact lv_tableIn (off := 1123) (tgt := 1162) hx hb dL_law_39 c1 c2 (by rw [hk]; rfl) (by decide) (w_case34 C0 hK hap g1 g2 g3 g4 hfit hc hm J hl K)
          · exact lv_tableIn (off := 1148) (tgt := 1187) hx hb dL_law_39 c1 c2 (by rw [hk]; rfl) (by decide) (w_case35 C0 hK hap g1 g2 g3 g4 hfit hc hm J hl K)
          · exact lv_tableIn (off := 1173) (tgt := 1212) hx hb dL_law_39 c1 c2 (by rw [hk]; rfl) (by decide) (w_case36 C0 hK5 hfl hbad hU hN hap g1 g2 hfit hc hm J hl K)
          · exact lv_tableIn (off := 1241) (tgt := 1280) hx hb dL_law_39 c1 c2 (by rw [hk]; rfl) (by decide) (w_case37 C0 hK5 hfl hbad hU hN hap g1 g2 hfit hc hm J hl K)
end
