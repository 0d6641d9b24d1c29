/-! ===== feed ===== -/
theorem b255 : ∀ i, i < 32 → (255#32).getLsbD i = decide (i < 8) := by decide
theorem byte_low (x : Int32) : (Int8.toInt32 (Int32.toInt8 x)) &&& 255 = x &&& 255 := by
  apply Int32.toBitVec_inj.mp
  rw [Int32.toBitVec_and, Int32.toBitVec_and, Int8.toBitVec_toInt32, Int32.toBitVec_toInt8]
  show (BitVec.signExtend 32 (BitVec.signExtend 8 x.toBitVec)) &&& 255#32 = x.toBitVec &&& 255#32
  apply BitVec.eq_of_getLsbD_eq
  intro i hi
  rw [BitVec.getLsbD_and, BitVec.getLsbD_and, b255 i hi]
  by_cases h : i < 8
  · rw [BitVec.getLsbD_signExtend, BitVec.getLsbD_signExtend]
    simp [h, hi]
  · simp [h]
theorem shr_255 (x : Int32) {k : Nat} (hk : k ≤ 24) : gushr x (nI k) &&& 255 = gshr x (nI k) &&& 255 := by
  unfold gushr gshr
  apply Int32.toBitVec_inj.mp
  have e1 : (x.toUInt32 >>> ((nI k).toUInt32 &&& Int32.toUInt32 31)).toInt32.toBitVec = x.toBitVec >>> k := by
    apply BitVec.eq_of_toNat_eq
    rw [pk_ushr x _ k (sm_u k (by omega)), BitVec.toNat_ushiftRight, Nat.shiftRight_eq_div_pow]
  have e2 : (x >>> (nI k &&& 31)).toBitVec = x.toBitVec.sshiftRight k := by
    apply BitVec.eq_of_toInt_eq
    rw [BitVec.toInt_sshiftRight]
    exact pk_shr x _ k (sm_l k (by omega))
  show (x.toUInt32 >>> ((nI k).toUInt32 &&& Int32.toUInt32 31)).toInt32.toBitVec &&& 255#32 = (x >>> (nI k &&& 31)).toBitVec &&& 255#32
  rw [e1, e2]
  apply BitVec.eq_of_getLsbD_eq
  intro i hi
  rw [BitVec.getLsbD_and, BitVec.getLsbD_and, b255 i hi]
  by_cases h : i < 8
  · rw [BitVec.getLsbD_ushiftRight, BitVec.getLsbD_sshiftRight]
    have h2 : k + i < 32 := by omega
    have h3 : ¬ 32 ≤ i := by omega
    simp [h2, h3, h]
  · simp [h]
/-- four bytes more: cell c from place n on, their number in the field f of the cell o -/
def ap4 (o f c n : Nat) (b : Nat → Int32) (I r : gIt) : Prop := (∀ a, a ≠ o → a ≠ c → r a = I a) ∧ r o f = nI (n + 4) ∧ (∀ j, j ≠ f → r o j = I o j) ∧ (∀ j, j < n → r c j = I c j) ∧ (∀ i, i < 4 → r c (n + i) = b i)
def byA (x : Int32) (i : Nat) : Int32 := gushr x (nI (24 - 8 * i)) &&& 255
def byB (x : Int32) (i : Nat) : Int32 := vp_nar .byte (Int8.toInt32 (Int32.toInt8 (gshr x (nI (24 - 8 * i)))))
theorem by_eq (x : Int32) (i : Nat) : byA x i = byB x i &&& 255 := by
  unfold byA byB
  rw [pk_vb, byte_low, shr_255 x (by omega)]
theorem x10_append {I : gIt} {n : Nat} (hn : n ≤ 96) (h : I 11 1 = nI n) (x : Int32) : ∃ r, p_X10_append I x = some r ∧ ap4 11 1 12 n (byA x) I r := by
  have st : ∀ (f m s : Nat) (I : gIt), m < 100 → I 11 1 = nI m → s < 4 → p_X10_append_3 x (f + 1) I (nI (24 - 8 * s)) = p_X10_append_3 x f (gu2 (gu2 I 12 m (byA x s)) 11 1 (nI (m + 1))) (nI (24 - 8 * s) + (-8)) := fun f m s I hm hI hs => by
    show (if _ then _ else _) = _
    rw [if_neg (nI_pos (by omega)), hI, if_neg (show ¬ (100 : Int32) ≤ nI m from nI_ge (b := 100) hm (by omega))]
    unfold gL
    dsimp only
    rw [gck_t (gin_nI hm (by omega)), nI_clamp (by omega), gu_rd (by decide), hI, nI_1]
    rfl
  refine ⟨gu2 (gu2 (gu2 (gu2 (gu2 (gu2 (gu2 (gu2 I 12 n (byA x 0)) 11 1 (nI (n + 1))) 12 (n + 1) (byA x 1)) 11 1 (nI (n + 1 + 1))) 12 (n + 2) (byA x 2)) 11 1 (nI (n + 2 + 1))) 12 (n + 3) (byA x 3)) 11 1 (nI (n + 3 + 1)), ?_, ?_⟩
  · unfold p_X10_append
    have e0 := st 999999 n 0 I (by omega) h (by omega)
    have e1 := st 999998 (n + 1) 1 (gu2 (gu2 I 12 n (byA x 0)) 11 1 (nI (n + 1))) (by omega) rfl (by omega)
    have e2 := st 999997 (n + 2) 2 (gu2 (gu2 (gu2 (gu2 I 12 n (byA x 0)) 11 1 (nI (n + 1))) 12 (n + 1) (byA x 1)) 11 1 (nI (n + 1 + 1))) (by omega) rfl (by omega)
    have e3 := st 999996 (n + 3) 3 (gu2 (gu2 (gu2 (gu2 (gu2 (gu2 I 12 n (byA x 0)) 11 1 (nI (n + 1))) 12 (n + 1) (byA x 1)) 11 1 (nI (n + 1 + 1))) 12 (n + 2) (byA x 2)) 11 1 (nI (n + 2 + 1))) (by omega) rfl (by omega)
    have t0 : nI (24 - 8 * 0) + (-8) = nI (24 - 8 * 1) := by decide
    have t1 : nI (24 - 8 * 1) + (-8) = nI (24 - 8 * 2) := by decide
    have t2 : nI (24 - 8 * 2) + (-8) = nI (24 - 8 * 3) := by decide
    rw [t0] at e0
    rw [t1] at e1
    rw [t2] at e2
    show p_X10_append_3 x (999999 + 1) I (nI (24 - 8 * 0)) = _
    rw [e0, e1, e2, e3]
    show (if nI (24 - 8 * 3) + (-8) < 0 then _ else _) = _
    rw [if_pos (by decide)]
  · refine ⟨fun a h1 h2 => by rw [gu2_ne h1, gu2_ne h2, gu2_ne h1, gu2_ne h2, gu2_ne h1, gu2_ne h2, gu2_ne h1, gu2_ne h2], rfl, fun j hj => ?_, fun j hj => ?_, fun i hi => ?_⟩
    · simp only [gu_rd, ne_eq, Nat.reduceEqDiff, not_false_eq_true, gu_sl]
      rw [if_neg hj, if_neg hj, if_neg hj, if_neg hj]
    · simp only [gu_rd, ne_eq, Nat.reduceEqDiff, not_false_eq_true, gu_sl]
      rw [if_neg (by omega), if_neg (by omega), if_neg (by omega), if_neg (by omega)]
    · simp only [gu_rd, ne_eq, Nat.reduceEqDiff, not_false_eq_true, gu_sl]
      match i, hi with
      | 0, _ => rw [if_neg (by omega), if_neg (by omega), if_neg (by omega), if_pos (by omega)]
      | 1, _ => rw [if_neg (by omega), if_neg (by omega), if_pos (by omega)]
      | 2, _ => rw [if_neg (by omega), if_pos (by omega)]
      | 3, _ => rw [if_pos (by omega)]
theorem x12_push {I : gIt} {n : Nat} (hn : n ≤ 96) (h : I 149 1 = nI n) (x : Int32) : ∃ r, p_X12_push I x = some r ∧ ap4 149 1 150 n (byB x) I r := by
  have st : ∀ (f m s : Nat) (I : gIt), m < 100 → I 149 1 = nI m → s < 4 → p_X12_push_3 x (f + 1) I (nI (24 - 8 * s)) = p_X12_push_3 x f (gu2 (gu2 I 150 m (byB x s)) 149 1 (nI (m + 1))) (nI (24 - 8 * s) + (-8)) := fun f m s I hm hI hs => by
    show (if _ then _ else _) = _
    rw [if_neg (nI_pos (by omega))]
    unfold gL
    dsimp only
    rw [hI, gck_t (gin_nI hm (by omega)), nI_clamp (by omega), gu_rd (by decide), hI, nI_1]
    rfl
  refine ⟨gu2 (gu2 (gu2 (gu2 (gu2 (gu2 (gu2 (gu2 I 150 n (byB x 0)) 149 1 (nI (n + 1))) 150 (n + 1) (byB x 1)) 149 1 (nI (n + 1 + 1))) 150 (n + 2) (byB x 2)) 149 1 (nI (n + 2 + 1))) 150 (n + 3) (byB x 3)) 149 1 (nI (n + 3 + 1)), ?_, ?_⟩
  · unfold p_X12_push
    have e0 := st 999999 n 0 I (by omega) h (by omega)
    have e1 := st 999998 (n + 1) 1 (gu2 (gu2 I 150 n (byB x 0)) 149 1 (nI (n + 1))) (by omega) rfl (by omega)
    have e2 := st 999997 (n + 2) 2 (gu2 (gu2 (gu2 (gu2 I 150 n (byB x 0)) 149 1 (nI (n + 1))) 150 (n + 1) (byB x 1)) 149 1 (nI (n + 1 + 1))) (by omega) rfl (by omega)
    have e3 := st 999996 (n + 3) 3 (gu2 (gu2 (gu2 (gu2 (gu2 (gu2 I 150 n (byB x 0)) 149 1 (nI (n + 1))) 150 (n + 1) (byB x 1)) 149 1 (nI (n + 1 + 1))) 150 (n + 2) (byB x 2)) 149 1 (nI (n + 2 + 1))) (by omega) rfl (by omega)
    have t0 : nI (24 - 8 * 0) + (-8) = nI (24 - 8 * 1) := by decide
    have t1 : nI (24 - 8 * 1) + (-8) = nI (24 - 8 * 2) := by decide
    have t2 : nI (24 - 8 * 2) + (-8) = nI (24 - 8 * 3) := by decide
    rw [t0] at e0
    rw [t1] at e1
    rw [t2] at e2
    show p_X12_push_3 x (999999 + 1) I (nI (24 - 8 * 0)) = _
    rw [e0, e1, e2, e3]
    show (if nI (24 - 8 * 3) + (-8) < 0 then _ else _) = _
    rw [if_pos (by decide)]
  · refine ⟨fun a h1 h2 => by rw [gu2_ne h1, gu2_ne h2, gu2_ne h1, gu2_ne h2, gu2_ne h1, gu2_ne h2, gu2_ne h1, gu2_ne h2], rfl, fun j hj => ?_, fun j hj => ?_, fun i hi => ?_⟩
    · simp only [gu_rd, ne_eq, Nat.reduceEqDiff, not_false_eq_true, gu_sl]
      rw [if_neg hj, if_neg hj, if_neg hj, if_neg hj]
    · simp only [gu_rd, ne_eq, Nat.reduceEqDiff, not_false_eq_true, gu_sl]
      rw [if_neg (by omega), if_neg (by omega), if_neg (by omega), if_neg (by omega)]
    · simp only [gu_rd, ne_eq, Nat.reduceEqDiff, not_false_eq_true, gu_sl]
      match i, hi with
      | 0, _ => rw [if_neg (by omega), if_neg (by omega), if_neg (by omega), if_pos (by omega)]
      | 1, _ => rw [if_neg (by omega), if_neg (by omega), if_pos (by omega)]
      | 2, _ => rw [if_neg (by omega), if_pos (by omega)]
      | 3, _ => rw [if_pos (by omega)]
/-- many bytes more, four at a time: the k-th four are those of xs k -/
def apN (o f c n : Nat) (by' : Int32 → Nat → Int32) (xs : Nat → Int32) (k : Nat) (I r : gIt) : Prop := (∀ a, a ≠ o → a ≠ c → r a = I a) ∧ r o f = nI (n + 4 * k) ∧ (∀ j, j ≠ f → r o j = I o j) ∧ (∀ j, j < n → r c j = I c j) ∧ (∀ i, i < 4 * k → r c (n + i) = by' (xs (i / 4)) (i % 4))
theorem apN_s {o f c n k : Nat} {by' : Int32 → Nat → Int32} {xs : Nat → Int32} {I r r' : gIt} (hoc : o ≠ c) (h : apN o f c n by' xs k I r) (h' : ap4 o f c (n + 4 * k) (by' (xs k)) r r') : apN o f c n by' xs (k + 1) I r' := by
  obtain ⟨a1, a2, a3, a4, a5⟩ := h
  obtain ⟨c1, c2, c3, c4, c5⟩ := h'
  refine ⟨fun a h1 h2 => (c1 a h1 h2).trans (a1 a h1 h2), by rw [c2]; congr 1, fun j hj => (c3 j hj).trans (a3 j hj), fun j hj => (c4 j (by omega)).trans (a4 j hj), fun i hi => ?_⟩
  by_cases q : i < 4 * k
  · rw [c4 (n + i) (by omega)]
    exact a5 i q
  · have := c5 (i - 4 * k) (by omega)
    rw [show n + 4 * k + (i - 4 * k) = n + i by omega] at this
    rw [this, show i / 4 = k by omega, show i % 4 = i - 4 * k by omega]
theorem apN_0 {o f c n : Nat} {by' : Int32 → Nat → Int32} {xs : Nat → Int32} {I : gIt} (h : I o f = nI n) : apN o f c n by' xs 0 I I := ⟨fun _ _ _ => rfl, h, fun _ _ => rfl, fun _ _ => rfl, fun i hi => by omega⟩
def x5s (a b c d e : Int32) (k : Nat) : Int32 := match k with
  | 0 => a
  | 1 => b
  | 2 => c
  | 3 => d
  | _ => e
theorem EE7 : EE_7 gInv := by
  intro I J w x1 x2 x3 x4 x5 hI
  obtain ⟨P, ns, nS, nC, nP, nT, hs, hr⟩ := id hI
  obtain ⟨⟨y1, y2, y3⟩, ⟨b1, b1', b1''⟩, ⟨b2, b2', b2''⟩, b3, b4, b5, ⟨b6, b6', b6'', b6t⟩, b7⟩ := id hs
  by_cases c : nT ≤ 80
  · have A0 : apN 11 1 12 nT byA (x5s x1 x2 x3 x4 x5) 0 I I := apN_0 b6
    obtain ⟨r1, e1, q1⟩ := x10_append (n := nT + 4 * 0) (by omega) A0.2.1 x1
    have A1 := apN_s (by decide) A0 q1
    obtain ⟨r2, e2, q2⟩ := x10_append (n := nT + 4 * (0 + 1)) (by omega) A1.2.1 x2
    have A2 := apN_s (by decide) A1 q2
    obtain ⟨r3, e3, q3⟩ := x10_append (n := nT + 4 * (0 + 1 + 1)) (by omega) A2.2.1 x3
    have A3 := apN_s (by decide) A2 q3
    obtain ⟨r4, e4, q4⟩ := x10_append (n := nT + 4 * (0 + 1 + 1 + 1)) (by omega) A3.2.1 x4
    have A4 := apN_s (by decide) A3 q4
    obtain ⟨r5, e5, q5⟩ := x10_append (n := nT + 4 * (0 + 1 + 1 + 1 + 1)) (by omega) A4.2.1 x5
    have A5 := apN_s (by decide) A4 q5
    have B0 : apN 149 1 150 nT byB (x5s x1 x2 x3 x4 x5) 0 r5 r5 := apN_0 (by rw [A5.1 149 (by decide) (by decide)]; exact b6')
    obtain ⟨s1, f1, p1⟩ := x12_push (n := nT + 4 * 0) (by omega) B0.2.1 x1
    have B1 := apN_s (by decide) B0 p1
    obtain ⟨s2, f2, p2⟩ := x12_push (n := nT + 4 * (0 + 1)) (by omega) B1.2.1 x2
    have B2 := apN_s (by decide) B1 p2
    obtain ⟨s3, f3, p3⟩ := x12_push (n := nT + 4 * (0 + 1 + 1)) (by omega) B2.2.1 x3
    have B3 := apN_s (by decide) B2 p3
    obtain ⟨s4, f4, p4⟩ := x12_push (n := nT + 4 * (0 + 1 + 1 + 1)) (by omega) B3.2.1 x4
    have B4 := apN_s (by decide) B3 p4
    obtain ⟨s5, f5, p5⟩ := x12_push (n := nT + 4 * (0 + 1 + 1 + 1 + 1)) (by omega) B4.2.1 x5
    have B5 := apN_s (by decide) B4 p5
    obtain ⟨A1', A2', A3', A4', A5'⟩ := A5
    obtain ⟨B1', B2', B3', B4', B5'⟩ := B5
    refine EEw (g := fun I => p_X12_feed I x1 x2 x3 x4 x5) (nI (nT + 20)) r5 s5 ?_ ?_ ?_
    · unfold p_X11_feed
      rw [b6, if_pos (show nI nT ≤ (80 : Int32) from nI_le (b := 80) c (by omega)), e1]
      show gB (p_X10_append r1 x2) _ = _
      rw [e2]
      show gB (p_X10_append r2 x3) _ = _
      rw [e3]
      show gB (p_X10_append r3 x4) _ = _
      rw [e4]
      show gB (p_X10_append r4 x5) _ = _
      rw [e5]
      show some (r5 11 1, r5) = _
      rw [A2']
    · show p_X12_feed r5 x1 x2 x3 x4 x5 = _
      unfold p_X12_feed
      rw [A1' 149 (by decide) (by decide), b6', show nI nT + 20 = nI (nT + 20) from nI_add nT 20, if_pos (show nI (nT + 20) ≤ (100 : Int32) from nI_le (b := 100) (by omega) (by omega)), f1]
      show gB (p_X12_push s1 x2) _ = _
      rw [f2]
      show gB (p_X12_push s2 x3) _ = _
      rw [f3]
      show gB (p_X12_push s3 x4) _ = _
      rw [f4]
      show gB (p_X12_push s4 x5) _ = _
      rw [f5]
      show some (s5 149 1, s5) = _
      rw [B2']
    · have t : ∀ a, a ≠ 11 → a ≠ 12 → a ≠ 149 → a ≠ 150 → s5 a = I a := fun a h1 h2 h3 h4 => (B1' a h3 h4).trans (A1' a h1 h2)
      have t149 : ∀ j, j ≠ 1 → s5 149 j = I 149 j := fun j hj => by rw [B3' j hj, A1' 149 (by decide) (by decide)]
      have u0 := t 0 (by decide) (by decide) (by decide) (by decide)
      refine ⟨P, ns, nS, nC, nP, nT + 20, ?_, fun o ho => ?_, fun k i hk hi => ?_, fun j hj => ?_, fun i hi => ?_, fun i hi => ?_, fun k hk => ?_, fun o ho => ?_, fun s hs => ?_, ?_, ?_⟩
      · unfold iScal at hs ⊢
        rw [u0, t 1 (by decide) (by decide) (by decide) (by decide), t 9 (by decide) (by decide) (by decide) (by decide), t 84 (by decide) (by decide) (by decide) (by decide), t 95 (by decide) (by decide) (by decide) (by decide), t149 2 (by decide), t149 3 (by decide), t149 4 (by decide), t149 5 (by decide), t149 6 (by decide), t149 7 (by decide), t149 8 (by decide), t149 9 (by decide)]
        refine ⟨hs.1, hs.2.1, hs.2.2.1, hs.2.2.2.1, hs.2.2.2.2.1, hs.2.2.2.2.2.1, ⟨?_, B2', by omega, by omega⟩, hs.2.2.2.2.2.2.2⟩
        rw [B1' 11 (by decide) (by decide)]
        exact A2'
      · exact iPer1_c (I := I) (fun x hx => t x (by omega) (by omega) (by omega) (by omega)) (by rw [u0]; exact Int.le_refl _) (hr.1 o ho)
      · exact iTab1_c (I := I) (t 10 (by decide) (by decide) (by decide) (by decide)) (t 156 (by decide) (by decide) (by decide) (by decide)) (hr.2.1 k i hk hi)
      · rw [B1' 12 (by decide) (by decide)]
        by_cases q : j < nT
        · rw [A4' j q, B4' j q, A1' 150 (by decide) (by decide)]
          exact hr.2.2.1 j q
        · have z1 := A5' (j - nT) (by omega)
          have z2 := B5' (j - nT) (by omega)
          rw [show nT + (j - nT) = j by omega] at z1 z2
          rw [z1, z2]
          exact by_eq _ _
      · exact iSal1_c (I := I) (fun x hx => t x (by omega) (by omega) (by omega) (by omega)) (by rw [u0]; exact Int.le_refl _) (Nat.le_refl _) (Nat.le_refl _) b2'' (hr.2.2.2.1 i hi)
      · exact iChg1_c (I := I) (fun x hx => t x (by omega) (by omega) (by omega) (by omega)) (Nat.le_refl _) (Nat.le_refl _) (hr.2.2.2.2.1 i hi)
      · rw [t 192 (by decide) (by decide) (by decide) (by decide), t 193 (by decide) (by decide) (by decide) (by decide)]
        exact hr.2.2.2.2.2.1 k hk
      · exact iPap1_c (I := I) (t 7 (by decide) (by decide) (by decide) (by decide)) (t 8 (by decide) (by decide) (by decide) (by decide)) (t 192 (by decide) (by decide) (by decide) (by decide)) (t 193 (by decide) (by decide) (by decide) (by decide)) (hr.2.2.2.2.2.2.1 o ho)
      · exact iSet1_c (I := I) (fun x hx => t x (by omega) (by omega) (by omega) (by omega)) (Nat.le_refl _) (by omega) (hr.2.2.2.2.2.2.2.1 s hs)
      · rw [t149 59 (by decide), u0]
        exact hr.2.2.2.2.2.2.2.2.1
      · rw [u0]
        rcases hr.2.2.2.2.2.2.2.2.2 with q | ⟨q, q2⟩
        · exact Or.inl q
        · refine Or.inr ⟨q, iAct1_c (I := I) ?_ ?_ (t 189 (by decide) (by decide) (by decide) (by decide)) (t 190 (by decide) (by decide) (by decide) (by decide)) (t149 60 (by decide)) q2⟩
          · cases w <;> exact t _ (by decide) (by decide) (by decide) (by decide)
          · cases w <;> exact t _ (by decide) (by decide) (by decide) (by decide)
  · refine EEw (g := fun I => p_X12_feed I x1 x2 x3 x4 x5) (-1) I I ?_ ?_ hI
    · unfold p_X11_feed
      rw [b6, if_neg (show ¬ nI nT ≤ (80 : Int32) from nI_ge (a := 80) (by omega) (by omega))]
    · show p_X12_feed I x1 x2 x3 x4 x5 = _
      unfold p_X12_feed
      rw [b6', show nI nT + 20 = nI (nT + 20) from nI_add nT 20, if_neg (show ¬ nI (nT + 20) ≤ (100 : Int32) from nI_ge (a := 100) (by omega) (by omega))]
