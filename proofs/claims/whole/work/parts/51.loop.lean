/-! ===== the law: its loop, its entry ===== -/
theorem lcond {L q : Nat} (hL : L ≤ 3584) (hq : q ≤ 600) (h : L < 7 * q + 7) : Int32.ofNat L - 7 < nI (7 * q) := by
  have e : (nI L - nI 7).toInt = (L : Int) - (7 : Nat) := pk_sub_toInt (by omega) (by omega)
  show nI L - nI 7 < nI (7 * q)
  rw [Int32.lt_iff_toInt_lt, e, nI_toInt (by omega)]
  omega
theorem lcond2 {L q : Nat} (hL : L ≤ 3584) (h : 7 * q + 7 ≤ L) : ¬ Int32.ofNat L - 7 < nI (7 * q) := by
  have e : (nI L - nI 7).toInt = (L : Int) - (7 : Nat) := pk_sub_toInt (by omega) (by omega)
  show ¬ nI L - nI 7 < nI (7 * q)
  rw [Int32.lt_iff_toInt_lt, e, nI_toInt (by omega)]
  omega
theorem law_exit {p : Program} {l : Launch} {e : Env} {s : State} {m : MethodId} {below : List Frame} {meth : Method} {c : Code} {bs : Nat} {H : Heap} {locs : List Loc} {ls : Array Slot} (hx : p.tables.exec = Jvm.exec) (hb : c.code = code) (hr : meth.sig.returnType = ret) (hlocks : meth.locks = false) (hS : va_S (fun q => s.heap.size ≤ q) s.heap H locs) : W p l e room_1 s m #[Value.ref bs] below meth c H locs 194 9309 (lw_Z below #[Value.ref bs] s) (F0 m 1288 ls []) := by
  refine va_forget hS.2.2 ?_
  refine W.widen (k := 600000) (n := 7302249) (by decide) (by decide) ?_
  refine lv_iconst (v := 1) hx hb dL_law_1288 rfl ?_
  exact lw_ret hx hb hr hlocks dL_law_1289
set_option maxRecDepth 20000 in
theorem law_loop {p : Program} {e : Env} {s : State} {m : MethodId} {below : List Frame} {meth : Method} {c : Code} (l : Launch) {bs L : Nat} {xs : Nat → Int32} (hL : L ≤ 3584) (C0 : lw_At p s m meth c bs L xs) {D : va_G} {cA : Nat → ClassId} (hK : gKK D cA s) {Inv : gIt → gJt → Bool → Prop} (hE0 : EE_0 Inv) (hE1 : EE_1 Inv) (hE2 : EE_2 Inv) (hE3 : EE_3 Inv) (hE4 : EE_4 Inv) (hE5 : EE_5 Inv) (hE6 : EE_6 Inv) (hE7 : EE_7 Inv) (hE8 : EE_8 Inv) (hE9 : EE_9 Inv) (hE10 : EE_10 Inv) (hE11 : EE_11 Inv) (hE12 : EE_12 Inv) (hE13 : EE_13 Inv) (hE14 : EE_14 Inv) (hE15 : EE_15 Inv) (hE16 : EE_16 Inv) (hE17 : EE_17 Inv) (hE18 : EE_18 Inv) (hE19 : EE_19 Inv) (hE20 : EE_20 Inv) (hE21 : EE_21 Inv) (hE22 : EE_22 Inv) (hE23 : EE_23 Inv) (hE24 : EE_24 Inv) (hE25 : EE_25 Inv) (hE26 : EE_26 Inv) (hE27 : EE_27 Inv) : ∀ (n q : Nat), L ≤ 7 * q + 7 * n → q ≤ 600 → ∀ (I : gIt) (J : gJt) (w : Bool), Inv I J w → ∀ (H : Heap) (locs : List Loc) (ls : Array Slot), va_P D gcl (gws s.heap.size cA gS0 I J (gR0 w)) H → va_S (fun q => s.heap.size ≤ q) s.heap H locs → lv_has ls 4 [(0, .ref bs), (1, .ref (s.heap.size + 0)), (2, .ref (s.heap.size + 149)), (3, .int (nI (7 * q)))] → W p l e room_1 s m #[Value.ref bs] below meth c H locs 194 9309 (lw_Z below #[Value.ref bs] s) (F0 m 18 ls []) := by
  obtain ⟨hx, hb, hr, hml, hown, hts, hX, hbl, hlocks, hgv⟩ := id C0
  have hbA : ¬ (fun q : Nat => s.heap.size ≤ q) bs := Nat.not_le.mpr hbl
  intro n
  induction n with
  | zero =>
    intro q hn hq6 I J w hI H locs ls hP hS hl
    refine lv_iload_n hx hb dL_law_18 rfl (lv_at hl 3 rfl) ?_
    refine lv_aload_n hx hb dL_law_19 rfl (lv_at hl 0 rfl) ?_
    refine va_slen hx hb hX hbl hbA hS dL_law_20 ?_
    refine lv_bipush (v := 7) hx hb dL_law_21 rfl ?_
    refine lv_isub hx hb dL_law_23 ?_
    refine lv_icmp_gt (tgt := 1288) hx hb dL_law_24 (by decide) (fun _ => ?_) (fun hc => absurd (lcond hL hq6 (by omega)) hc)
    exact law_exit hx hb hr hlocks hS
  | succ n ihn =>
    intro q hn hq6 I J w hI H locs ls hP hS hl
    refine lv_iload_n hx hb dL_law_18 rfl (lv_at hl 3 rfl) ?_
    refine lv_aload_n hx hb dL_law_19 rfl (lv_at hl 0 rfl) ?_
    refine va_slen hx hb hX hbl hbA hS dL_law_20 ?_
    refine lv_bipush (v := 7) hx hb dL_law_21 rfl ?_
    refine lv_isub hx hb dL_law_23 ?_
    by_cases hq : 7 * q + 7 ≤ L
    · refine lv_icmp_gt (tgt := 1288) hx hb dL_law_24 (by decide) (fun hc => absurd hc (lcond2 hL hq)) (fun _ => ?_)
      have ih : ∀ I J w, Inv I J w → ∀ (H : Heap) (locs : List Loc) (ls : Array Slot), va_P D gcl (gws s.heap.size cA gS0 I J (gR0 w)) H → va_S (fun q => s.heap.size ≤ q) s.heap H locs → lv_has ls 4 [(0, .ref bs), (1, .ref (s.heap.size + 0)), (2, .ref (s.heap.size + 149)), (3, .int (nI (7 * (q + 1))))] → W p l e room_1 s m #[Value.ref bs] below meth c H locs 194 9309 (lw_Z below #[Value.ref bs] s) (F0 m 18 ls []) := fun I J w h => ihn (q + 1) (by omega) (by omega) I J w h
      refine lv_aload_n hx hb dL_law_27 rfl (lv_at hl 0 rfl) ?_
      refine lv_iload_n hx hb dL_law_28 rfl (lv_at hl 3 rfl) ?_
      refine va_sld hx hb hX hbl hbA hS (lin0 hL hq) dL_law_29 ?_
      refine lv_bipush (v := 31) hx hb dL_law_30 rfl ?_
      refine lv_iand hx hb dL_law_32 ?_
      refine lv_topi (fun x hx0 => ?_)
      by_cases c0 : x = (0 : Int32)
      · refine lv_tableIn (off := 127) (tgt := 160) hx hb dL_law_33 (by rw [c0]; decide) (by rw [c0]; decide) (by rw [c0]; rfl) (by decide) ?_
        exact law_0 l hL C0 hK hE0 hq hI ih H locs ls hP hS hl
      by_cases c1 : x = (1 : Int32)
      · refine lv_tableIn (off := 150) (tgt := 183) hx hb dL_law_33 (by rw [c1]; decide) (by rw [c1]; decide) (by rw [c1]; rfl) (by decide) ?_
        exact law_1 l hL C0 hK hE1 hq hI ih H locs ls hP hS hl
      by_cases c2 : x = (2 : Int32)
      · refine lv_tableIn (off := 183) (tgt := 216) hx hb dL_law_33 (by rw [c2]; decide) (by rw [c2]; decide) (by rw [c2]; rfl) (by decide) ?_
        exact law_2 l hL C0 hK hE2 hq hI ih H locs ls hP hS hl
      by_cases c3 : x = (3 : Int32)
      · refine lv_tableIn (off := 216) (tgt := 249) hx hb dL_law_33 (by rw [c3]; decide) (by rw [c3]; decide) (by rw [c3]; rfl) (by decide) ?_
        exact law_3 l hL C0 hK hE3 hq hI ih H locs ls hP hS hl
      by_cases c4 : x = (4 : Int32)
      · refine lv_tableIn (off := 259) (tgt := 292) hx hb dL_law_33 (by rw [c4]; decide) (by rw [c4]; decide) (by rw [c4]; rfl) (by decide) ?_
        exact law_4 l hL C0 hK hE4 hq hI ih H locs ls hP hS hl
      by_cases c5 : x = (5 : Int32)
      · refine lv_tableIn (off := 292) (tgt := 325) hx hb dL_law_33 (by rw [c5]; decide) (by rw [c5]; decide) (by rw [c5]; rfl) (by decide) ?_
        exact law_5 l hL C0 hK hE5 hq hI ih H locs ls hP hS hl
      by_cases c6 : x = (6 : Int32)
      · refine lv_tableIn (off := 325) (tgt := 358) hx hb dL_law_33 (by rw [c6]; decide) (by rw [c6]; decide) (by rw [c6]; rfl) (by decide) ?_
        exact law_6 l hL C0 hK hE6 hq hI ih H locs ls hP hS hl
      by_cases c7 : x = (7 : Int32)
      · refine lv_tableIn (off := 348) (tgt := 381) hx hb dL_law_33 (by rw [c7]; decide) (by rw [c7]; decide) (by rw [c7]; rfl) (by decide) ?_
        exact law_7 l hL C0 hK hE7 hq hI ih H locs ls hP hS hl
      by_cases c8 : x = (8 : Int32)
      · refine lv_tableIn (off := 411) (tgt := 444) hx hb dL_law_33 (by rw [c8]; decide) (by rw [c8]; decide) (by rw [c8]; rfl) (by decide) ?_
        exact law_8 l hL C0 hK hE8 hq hI ih H locs ls hP hS hl
      by_cases c9 : x = (9 : Int32)
      · refine lv_tableIn (off := 464) (tgt := 497) hx hb dL_law_33 (by rw [c9]; decide) (by rw [c9]; decide) (by rw [c9]; rfl) (by decide) ?_
        exact law_9 l hL C0 hK hE9 hq hI ih H locs ls hP hS hl
      by_cases c10 : x = (10 : Int32)
      · refine lv_tableIn (off := 497) (tgt := 530) hx hb dL_law_33 (by rw [c10]; decide) (by rw [c10]; decide) (by rw [c10]; rfl) (by decide) ?_
        exact law_10 l hL C0 hK hE10 hq hI ih H locs ls hP hS hl
      by_cases c11 : x = (11 : Int32)
      · refine lv_tableIn (off := 540) (tgt := 573) hx hb dL_law_33 (by rw [c11]; decide) (by rw [c11]; decide) (by rw [c11]; rfl) (by decide) ?_
        exact law_11 l hL C0 hK hE11 hq hI ih H locs ls hP hS hl
      by_cases c12 : x = (12 : Int32)
      · refine lv_tableIn (off := 604) (tgt := 637) hx hb dL_law_33 (by rw [c12]; decide) (by rw [c12]; decide) (by rw [c12]; rfl) (by decide) ?_
        exact law_12 l hL C0 hK hE12 hq hI ih H locs ls hP hS hl
      by_cases c13 : x = (13 : Int32)
      · refine lv_tableIn (off := 658) (tgt := 691) hx hb dL_law_33 (by rw [c13]; decide) (by rw [c13]; decide) (by rw [c13]; rfl) (by decide) ?_
        exact law_13 l hL C0 hK hE13 hq hI ih H locs ls hP hS hl
      by_cases c14 : x = (14 : Int32)
      · refine lv_tableIn (off := 749) (tgt := 782) hx hb dL_law_33 (by rw [c14]; decide) (by rw [c14]; decide) (by rw [c14]; rfl) (by decide) ?_
        exact law_14 l hL C0 hK hE14 hq hI ih H locs ls hP hS hl
      by_cases c15 : x = (15 : Int32)
      · refine lv_tableIn (off := 782) (tgt := 815) hx hb dL_law_33 (by rw [c15]; decide) (by rw [c15]; decide) (by rw [c15]; rfl) (by decide) ?_
        exact law_15 l hL C0 hK hE15 hq hI ih H locs ls hP hS hl
      by_cases c16 : x = (16 : Int32)
      · refine lv_tableIn (off := 835) (tgt := 868) hx hb dL_law_33 (by rw [c16]; decide) (by rw [c16]; decide) (by rw [c16]; rfl) (by decide) ?_
        exact law_16 l hL C0 hK hE16 hq hI ih H locs ls hP hS hl
      by_cases c17 : x = (17 : Int32)
      · refine lv_tableIn (off := 858) (tgt := 891) hx hb dL_law_33 (by rw [c17]; decide) (by rw [c17]; decide) (by rw [c17]; rfl) (by decide) ?_
        exact law_17 l hL C0 hK hE17 hq hI ih H locs ls hP hS hl
      by_cases c18 : x = (18 : Int32)
      · refine lv_tableIn (off := 881) (tgt := 914) hx hb dL_law_33 (by rw [c18]; decide) (by rw [c18]; decide) (by rw [c18]; rfl) (by decide) ?_
        exact law_18 l hL C0 hK hE18 hq hI ih H locs ls hP hS hl
      by_cases c19 : x = (19 : Int32)
      · refine lv_tableIn (off := 905) (tgt := 938) hx hb dL_law_33 (by rw [c19]; decide) (by rw [c19]; decide) (by rw [c19]; rfl) (by decide) ?_
        exact law_19 l hL C0 hK hE19 hq hI ih H locs ls hP hS hl
      by_cases c20 : x = (20 : Int32)
      · refine lv_tableIn (off := 974) (tgt := 1007) hx hb dL_law_33 (by rw [c20]; decide) (by rw [c20]; decide) (by rw [c20]; rfl) (by decide) ?_
        exact law_20 l hL C0 hK hE20 hq hI ih H locs ls hP hS hl
      by_cases c21 : x = (21 : Int32)
      · refine lv_tableIn (off := 1018) (tgt := 1051) hx hb dL_law_33 (by rw [c21]; decide) (by rw [c21]; decide) (by rw [c21]; rfl) (by decide) ?_
        exact law_21 l hL C0 hK hE21 hq hI ih H locs ls hP hS hl
      by_cases c22 : x = (22 : Int32)
      · refine lv_tableIn (off := 1061) (tgt := 1094) hx hb dL_law_33 (by rw [c22]; decide) (by rw [c22]; decide) (by rw [c22]; rfl) (by decide) ?_
        exact law_22 l hL C0 hK hE22 hq hI ih H locs ls hP hS hl
      by_cases c23 : x = (23 : Int32)
      · refine lv_tableIn (off := 1114) (tgt := 1147) hx hb dL_law_33 (by rw [c23]; decide) (by rw [c23]; decide) (by rw [c23]; rfl) (by decide) ?_
        exact law_23 l hL C0 hK hE23 hq hI ih H locs ls hP hS hl
      by_cases c24 : x = (24 : Int32)
      · refine lv_tableIn (off := 1147) (tgt := 1180) hx hb dL_law_33 (by rw [c24]; decide) (by rw [c24]; decide) (by rw [c24]; rfl) (by decide) ?_
        exact law_24 l hL C0 hK hE24 hq hI ih H locs ls hP hS hl
      by_cases c25 : x = (25 : Int32)
      · refine lv_tableIn (off := 1180) (tgt := 1213) hx hb dL_law_33 (by rw [c25]; decide) (by rw [c25]; decide) (by rw [c25]; rfl) (by decide) ?_
        exact law_25 l hL C0 hK hE25 hq hI ih H locs ls hP hS hl
      by_cases c26 : x = (26 : Int32)
      · refine lv_tableIn (off := 1193) (tgt := 1226) hx hb dL_law_33 (by rw [c26]; decide) (by rw [c26]; decide) (by rw [c26]; rfl) (by decide) ?_
        exact law_26 l hL C0 hK hE26 hq hI ih H locs ls hP hS hl
      by_cases c27 : x = (27 : Int32)
      · refine lv_tableIn (off := 1226) (tgt := 1259) hx hb dL_law_33 (by rw [c27]; decide) (by rw [c27]; decide) (by rw [c27]; rfl) (by decide) ?_
        exact law_27 l hL C0 hK hE27 hq hI ih H locs ls hP hS hl
      have n0 := lv_neT (a := 0) c0 rfl
      have n1 := lv_neT (a := 1) c1 rfl
      have n2 := lv_neT (a := 2) c2 rfl
      have n3 := lv_neT (a := 3) c3 rfl
      have n4 := lv_neT (a := 4) c4 rfl
      have n5 := lv_neT (a := 5) c5 rfl
      have n6 := lv_neT (a := 6) c6 rfl
      have n7 := lv_neT (a := 7) c7 rfl
      have n8 := lv_neT (a := 8) c8 rfl
      have n9 := lv_neT (a := 9) c9 rfl
      have n10 := lv_neT (a := 10) c10 rfl
      have n11 := lv_neT (a := 11) c11 rfl
      have n12 := lv_neT (a := 12) c12 rfl
      have n13 := lv_neT (a := 13) c13 rfl
      have n14 := lv_neT (a := 14) c14 rfl
      have n15 := lv_neT (a := 15) c15 rfl
      have n16 := lv_neT (a := 16) c16 rfl
      have n17 := lv_neT (a := 17) c17 rfl
      have n18 := lv_neT (a := 18) c18 rfl
      have n19 := lv_neT (a := 19) c19 rfl
      have n20 := lv_neT (a := 20) c20 rfl
      have n21 := lv_neT (a := 21) c21 rfl
      have n22 := lv_neT (a := 22) c22 rfl
      have n23 := lv_neT (a := 23) c23 rfl
      have n24 := lv_neT (a := 24) c24 rfl
      have n25 := lv_neT (a := 25) c25 rfl
      have n26 := lv_neT (a := 26) c26 rfl
      have n27 := lv_neT (a := 27) c27 rfl
      refine lv_tableOut (tgt := 1282) hx hb dL_law_33 (by omega) (by decide) ?_
      exact law_next l hL C0 hK hq hI ih H locs ls hP hS hl
    · refine lv_icmp_gt (tgt := 1288) hx hb dL_law_24 (by decide) (fun _ => ?_) (fun hc => absurd (lcond hL hq6 (by omega)) hc)
      exact law_exit hx hb hr hlocks hS
