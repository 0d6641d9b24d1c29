/-! ===== pure programs and their walks ===== -/
def p_X0_emit (I : gIt) (a0 : Nat) (x1 : Int32) : Option gIt :=
  if (I a0 6) < 0 then
  some I
  else
  if (nI 60) ≤ (I a0 6) then
  some I
  else
  gck (gin (I a0 6) 60) (
  gL (gu2 I ((a0 + 1)) ((I a0 6)).toNatClampNeg x1) fun I4 =>
  gL (((I4 a0 6) + (1 : Int32))) fun z5 =>
  gL (gu2 I4 a0 6 z5) fun I6 =>
  some I6)
set_option maxRecDepth 20000 in
theorem q_X0_emit {l : Launch} {I : gIt} {J : gJt} {w : Bool} {a0 : Nat} {x1 : Int32} {v : gIt} (ha0 : gisa a0) (h : p_X0_emit I a0 x1 = some v) : Cn l gX0_emit 2 0 0 [.ref a0, .int x1] gS0 I J (gR0 w) (fun v' S' I' J' R' => v' = none ∧ S' = gS0 ∧ I' = v ∧ J' = J ∧ R' = gR0 w) := by
  refine Cn.of [some (.ref a0), some (.int x1)] (by decide) rfl (Nat.le_of_ble_eq_true rfl) ?_
  rw [p_X0_emit] at h
  refine G_aload_n dX0_emit_0 rfl rfl ?_
  refine G_getI fl_X0_33 (gisa_sl ha0) (gisa_sk ha0) rfl dX0_emit_1 ?_
  refine G_if_lt 39 dX0_emit_4 (by decide) (fun c1 => ?_) (fun c1 => ?_)
  · replace h := git c1 h
    refine G_vret rfl (Nat.le_refl _) (Nat.le_refl _) dX0_emit_39 ?_
    cases h
    exact ⟨rfl, rfl, rfl, rfl, rfl⟩
  · replace h := gif c1 h
    refine G_aload_n dX0_emit_7 rfl rfl ?_
    refine G_getI fl_X0_33 (gisa_sl ha0) (gisa_sk ha0) rfl dX0_emit_8 ?_
    refine G_aload_n dX0_emit_11 rfl rfl ?_
    refine G_getR fl_X0_9 (gisa_sl ha0) (gisa_sk ha0) rfl (gisa_r0 _ ha0) dX0_emit_12 ?_
    refine G_alen (gisa_l0 ha0) (gisa_s0 ha0) (by decide) (by decide) dX0_emit_15 ?_
    refine G_icmp_ge 39 dX0_emit_16 (by decide) (fun c2 => ?_) (fun c2 => ?_)
    · replace h := git c2 h
      refine G_vret rfl (Nat.le_refl _) (Nat.le_refl _) dX0_emit_39 ?_
      cases h
      exact ⟨rfl, rfl, rfl, rfl, rfl⟩
    · replace h := gif c2 h
      refine G_aload_n dX0_emit_19 rfl rfl ?_
      refine G_getR fl_X0_9 (gisa_sl ha0) (gisa_sk ha0) rfl (gisa_r0 _ ha0) dX0_emit_20 ?_
      refine G_aload_n dX0_emit_23 rfl rfl ?_
      refine G_getI fl_X0_33 (gisa_sl ha0) (gisa_sk ha0) rfl dX0_emit_24 ?_
      refine G_iload_n dX0_emit_27 rfl rfl ?_
      obtain ⟨b3, h⟩ := gck_some h
      refine G_iast (gisa_l0 ha0) (gisa_s0 ha0) (gin_in b3) dX0_emit_28 ?_
      refine G_mI fun I4 eI4 => ?_
      replace h := gL_some eI4 h
      refine G_aload_n dX0_emit_29 rfl rfl ?_
      refine G_dup dX0_emit_30 rfl ?_
      refine G_getI fl_X0_33 (gisa_sl ha0) (gisa_sk ha0) rfl dX0_emit_31 ?_
      refine G_iconst (v := 1) dX0_emit_34 rfl ?_
      refine G_iadd dX0_emit_35 ?_
      refine G_nI fun z5 ez5 => ?_
      replace h := gL_some ez5 h
      refine G_putI fl_X0_33 (gisa_sl ha0) (gisa_sk ha0) rfl rfl ⟨rfl, rfl⟩ dX0_emit_36 ?_
      refine G_mI fun I6 eI6 => ?_
      replace h := gL_some eI6 h
      refine G_vret rfl (Nat.le_refl _) (Nat.le_refl _) dX0_emit_39 ?_
      cases h
      exact ⟨rfl, rfl, rfl, rfl, rfl⟩
def p_X0_readNumber_4 (a0 : Nat) : Nat → gIt → Int32 → Int32 → Option (Int32 × gIt)
  | 0, _, _, _ => none
  | n + 1, I, x2, x3 =>
    if (6 : Int32) ≤ x3 then
    gB (p_X10_atDigit I) fun r2 =>
    if r2 = 0 then
    gB (p_X0_emit I a0 x2) fun r5 =>
    some ((1 : Int32), r5)
    else
    gB (p_X10_refuse I (2 : Int32)) fun r7 =>
    gck (gbo r7.1) (
    some (r7.1, r7.2))
    else
    gB (p_X10_atDigit I) fun r10 =>
    if r10 = 0 then
    gB (p_X10_atDigit I) fun r13 =>
    if r13 = 0 then
    gB (p_X0_emit I a0 x2) fun r16 =>
    some ((1 : Int32), r16)
    else
    gB (p_X10_refuse I (2 : Int32)) fun r18 =>
    gck (gbo r18.1) (
    some (r18.1, r18.2))
    else
    gB (p_X10_takeDigit I (0 : Int32)) fun r21 =>
    gL (((x2 * (10 : Int32)) + r21.1)) fun z23 =>
    p_X0_readNumber_4 a0 n r21.2 z23 (x3 + (1 : Int32))
def p_X0_readNumber (I : gIt) (a0 : Nat) : Option (Int32 × gIt) :=
  p_X0_readNumber_4 a0 gFu I (0 : Int32) (0 : Int32)
set_option maxRecDepth 20000 in
theorem q_X0_readNumber_4 {l : Launch} {v : (Int32 × gIt)} {J : gJt} {w : Bool} {a0 : Nat} (ha0 : gisa a0) : ∀ (n : Nat) (I : gIt) (x2 : Int32) (x3 : Int32), p_X0_readNumber_4 a0 n I x2 x3 = some v → G l gX0_readNumber 4 0 0 (fun v' S' I' J' R' => v' = some (.int v.1) ∧ S' = gS0 ∧ I' = v.2 ∧ J' = J ∧ R' = gR0 w) 0 0 4 [some (.ref a0), some (.ref 11), some (.int x2), some (.int x3)] [] gS0 I J (gR0 w) := by
  intro n
  induction n with
  | zero => intro _ _ _ h; cases h
  | succ n ih =>
    intro I x2 x3 h
    rw [p_X0_readNumber_4] at h
    refine G_iload_n dX0_readNumber_4 rfl rfl ?_
    refine G_bipush (v := 6) dX0_readNumber_5 rfl ?_
    refine G_icmp_ge 34 dX0_readNumber_7 (by decide) (fun c1 => ?_) (fun c1 => ?_)
    · replace h := git c1 h
      refine G_aload_n dX0_readNumber_34 rfl rfl ?_
      obtain ⟨r2, hr3, h⟩ := gB_some h
      refine G_cV (mj := gX10_atDigit) (As := []) (rest := []) ml_X0_74 vX10_atDigit sl_11 sk_11 (by decide) rfl rfl rfl (Nat.le_of_ble_eq_true rfl) (by decide) (Nat.le_refl _) (Nat.le_refl _) dX0_readNumber_35 (q_X10_atDigit hr3) ?_
      refine G_if_eq 47 dX0_readNumber_38 (by decide) (fun c4 => ?_) (fun c4 => ?_)
      · replace h := git c4 h
        refine G_aload_n dX0_readNumber_47 rfl rfl ?_
        refine G_iload_n dX0_readNumber_48 rfl rfl ?_
        obtain ⟨r5, hr6, h⟩ := gB_some h
        refine G_cV (mj := gX0_emit) (As := [.int x2]) (rest := []) ml_X0_64 vX0_emit (gisa_sl ha0) (gisa_sk ha0) (by decide) rfl rfl rfl (Nat.le_of_ble_eq_true rfl) (by decide) (Nat.le_refl _) (Nat.le_refl _) dX0_readNumber_49 (q_X0_emit ha0 hr6) ?_
        refine G_iconst (v := 1) dX0_readNumber_52 rfl ?_
        refine G_zret rfl (Or.inr rfl) (Nat.le_refl _) (Nat.le_refl _) dX0_readNumber_53 ?_
        cases h
        exact ⟨rfl, rfl, rfl, rfl, rfl⟩
      · replace h := gif c4 h
        refine G_aload_n dX0_readNumber_41 rfl rfl ?_
        refine G_iconst (v := 2) dX0_readNumber_42 rfl ?_
        obtain ⟨r7, hr8, h⟩ := gB_some h
        refine G_cV (mj := gX10_refuse) (As := [.int (2 : Int32)]) (rest := []) ml_X0_54 vX10_refuse sl_11 sk_11 (by decide) rfl rfl rfl (Nat.le_of_ble_eq_true rfl) (by decide) (Nat.le_refl _) (Nat.le_refl _) dX0_readNumber_43 (q_X10_refuse hr8) ?_
        obtain ⟨b9, h⟩ := gck_some h
        refine G_zret rfl (gbo_or b9) (Nat.le_refl _) (Nat.le_refl _) dX0_readNumber_46 ?_
        cases h
        exact ⟨rfl, rfl, rfl, rfl, rfl⟩
    · replace h := gif c1 h
      refine G_aload_n dX0_readNumber_10 rfl rfl ?_
      obtain ⟨r10, hr11, h⟩ := gB_some h
      refine G_cV (mj := gX10_atDigit) (As := []) (rest := []) ml_X0_74 vX10_atDigit sl_11 sk_11 (by decide) rfl rfl rfl (Nat.le_of_ble_eq_true rfl) (by decide) (Nat.le_refl _) (Nat.le_refl _) dX0_readNumber_11 (q_X10_atDigit hr11) ?_
      refine G_if_eq 34 dX0_readNumber_14 (by decide) (fun c12 => ?_) (fun c12 => ?_)
      · replace h := git c12 h
        refine G_aload_n dX0_readNumber_34 rfl rfl ?_
        obtain ⟨r13, hr14, h⟩ := gB_some h
        refine G_cV (mj := gX10_atDigit) (As := []) (rest := []) ml_X0_74 vX10_atDigit sl_11 sk_11 (by decide) rfl rfl rfl (Nat.le_of_ble_eq_true rfl) (by decide) (Nat.le_refl _) (Nat.le_refl _) dX0_readNumber_35 (q_X10_atDigit hr14) ?_
        refine G_if_eq 47 dX0_readNumber_38 (by decide) (fun c15 => ?_) (fun c15 => ?_)
        · replace h := git c15 h
          refine G_aload_n dX0_readNumber_47 rfl rfl ?_
          refine G_iload_n dX0_readNumber_48 rfl rfl ?_
          obtain ⟨r16, hr17, h⟩ := gB_some h
          refine G_cV (mj := gX0_emit) (As := [.int x2]) (rest := []) ml_X0_64 vX0_emit (gisa_sl ha0) (gisa_sk ha0) (by decide) rfl rfl rfl (Nat.le_of_ble_eq_true rfl) (by decide) (Nat.le_refl _) (Nat.le_refl _) dX0_readNumber_49 (q_X0_emit ha0 hr17) ?_
          refine G_iconst (v := 1) dX0_readNumber_52 rfl ?_
          refine G_zret rfl (Or.inr rfl) (Nat.le_refl _) (Nat.le_refl _) dX0_readNumber_53 ?_
          cases h
          exact ⟨rfl, rfl, rfl, rfl, rfl⟩
        · replace h := gif c15 h
          refine G_aload_n dX0_readNumber_41 rfl rfl ?_
          refine G_iconst (v := 2) dX0_readNumber_42 rfl ?_
          obtain ⟨r18, hr19, h⟩ := gB_some h
          refine G_cV (mj := gX10_refuse) (As := [.int (2 : Int32)]) (rest := []) ml_X0_54 vX10_refuse sl_11 sk_11 (by decide) rfl rfl rfl (Nat.le_of_ble_eq_true rfl) (by decide) (Nat.le_refl _) (Nat.le_refl _) dX0_readNumber_43 (q_X10_refuse hr19) ?_
          obtain ⟨b20, h⟩ := gck_some h
          refine G_zret rfl (gbo_or b20) (Nat.le_refl _) (Nat.le_refl _) dX0_readNumber_46 ?_
          cases h
          exact ⟨rfl, rfl, rfl, rfl, rfl⟩
      · replace h := gif c12 h
        refine G_iload_n dX0_readNumber_17 rfl rfl ?_
        refine G_bipush (v := 10) dX0_readNumber_18 rfl ?_
        refine G_imul dX0_readNumber_20 ?_
        refine G_aload_n dX0_readNumber_21 rfl rfl ?_
        refine G_iconst (v := 0) dX0_readNumber_22 rfl ?_
        obtain ⟨r21, hr22, h⟩ := gB_some h
        refine G_cV (mj := gX10_takeDigit) (As := [.int (0 : Int32)]) (rest := [.int (x2 * (10 : Int32))]) ml_X0_86 vX10_takeDigit sl_11 sk_11 (by decide) rfl rfl rfl (Nat.le_of_ble_eq_true rfl) (by decide) (Nat.le_refl _) (Nat.le_refl _) dX0_readNumber_23 (q_X10_takeDigit hr22) ?_
        refine G_iadd dX0_readNumber_26 ?_
        refine G_nI fun z23 ez23 => ?_
        replace h := gL_some ez23 h
        refine S_istore_n [some (.ref a0), some (.ref 11), some (.int z23), some (.int x3)] dX0_readNumber_27 rfl (by decide) rfl ?_
        refine S_iinc (v := (1 : Int32)) [some (.ref a0), some (.ref 11), some (.int z23), some (.int (x3 + (1 : Int32)))] dX0_readNumber_28 rfl rfl (by decide) rfl ?_
        refine G_goto 4 dX0_readNumber_31 (by decide) ?_
        exact ih _ _ _ h
set_option maxRecDepth 20000 in
theorem q_X0_readNumber {l : Launch} {I : gIt} {J : gJt} {w : Bool} {a0 : Nat} {v : (Int32 × gIt)} (ha0 : gisa a0) (h : p_X0_readNumber I a0 = some v) : Cn l gX0_readNumber 4 0 0 [.ref a0, .ref 11] gS0 I J (gR0 w) (fun v' S' I' J' R' => v' = some (.int v.1) ∧ S' = gS0 ∧ I' = v.2 ∧ J' = J ∧ R' = gR0 w) := by
  refine Cn.of [some (.ref a0), some (.ref 11), none, none] (by decide) rfl (Nat.le_of_ble_eq_true rfl) ?_
  rw [p_X0_readNumber] at h
  refine G_iconst (v := 0) dX0_readNumber_0 rfl ?_
  refine S_istore_n [some (.ref a0), some (.ref 11), some (.int (0 : Int32)), none] dX0_readNumber_1 rfl (by decide) rfl ?_
  refine G_iconst (v := 0) dX0_readNumber_2 rfl ?_
  refine S_istore_n [some (.ref a0), some (.ref 11), some (.int (0 : Int32)), some (.int (0 : Int32))] dX0_readNumber_3 rfl (by decide) rfl ?_
  exact q_X0_readNumber_4  ha0 gFu _ _ _ h
def p_X0_wordOf (x0 : Int32) : Option Int32 :=
  if x0 = (97 : Int32) then
  some (-3 : Int32)
  else
  if x0 = (112 : Int32) then
  some (-1 : Int32)
  else
  if x0 = (116 : Int32) then
  some (-5 : Int32)
  else
  if x0 = (118 : Int32) then
  some (-4 : Int32)
  else
  if x0 = (119 : Int32) then
  some (-2 : Int32)
  else
  some (0 : Int32)
set_option maxRecDepth 20000 in
theorem q_X0_wordOf {l : Launch} {I : gIt} {J : gJt} {w : Bool} {x0 : Int32} {v : Int32} (h : p_X0_wordOf x0 = some v) : Cn l gX0_wordOf 2 0 0 [.int x0] gS0 I J (gR0 w) (fun v' S' I' J' R' => v' = some (.int v) ∧ S' = gS0 ∧ I' = I ∧ J' = J ∧ R' = gR0 w) := by
  refine Cn.of [some (.int x0)] (by decide) rfl (Nat.le_of_ble_eq_true rfl) ?_
  rw [p_X0_wordOf] at h
  refine G_iload_n dX0_wordOf_0 rfl rfl ?_
  by_cases c1 : x0 = (97 : Int32)
  · replace h := git c1 h
    refine G_lsw (off := 56) 57 dX0_wordOf_1 (by decide) (by rw [c1] <;> rfl) (by decide) ?_
    refine G_bipush (v := -3) dX0_wordOf_57 rfl ?_
    refine G_iret rfl (Nat.le_refl _) (Nat.le_refl _) dX0_wordOf_59 ?_
    cases h
    exact ⟨rfl, rfl, rfl, rfl, rfl⟩
  · replace h := gif c1 h
    by_cases c2 : x0 = (112 : Int32)
    · replace h := git c2 h
      refine G_lsw (off := 51) 52 dX0_wordOf_1 (by decide) (by rw [c2] <;> rfl) (by decide) ?_
      refine G_iconst (v := -1) dX0_wordOf_52 rfl ?_
      refine G_iret rfl (Nat.le_refl _) (Nat.le_refl _) dX0_wordOf_53 ?_
      cases h
      exact ⟨rfl, rfl, rfl, rfl, rfl⟩
    · replace h := gif c2 h
      by_cases c3 : x0 = (116 : Int32)
      · replace h := git c3 h
        refine G_lsw (off := 62) 63 dX0_wordOf_1 (by decide) (by rw [c3] <;> rfl) (by decide) ?_
        refine G_bipush (v := -5) dX0_wordOf_63 rfl ?_
        refine G_iret rfl (Nat.le_refl _) (Nat.le_refl _) dX0_wordOf_65 ?_
        cases h
        exact ⟨rfl, rfl, rfl, rfl, rfl⟩
      · replace h := gif c3 h
        by_cases c4 : x0 = (118 : Int32)
        · replace h := git c4 h
          refine G_lsw (off := 59) 60 dX0_wordOf_1 (by decide) (by rw [c4] <;> rfl) (by decide) ?_
          refine G_bipush (v := -4) dX0_wordOf_60 rfl ?_
          refine G_iret rfl (Nat.le_refl _) (Nat.le_refl _) dX0_wordOf_62 ?_
          cases h
          exact ⟨rfl, rfl, rfl, rfl, rfl⟩
        · replace h := gif c4 h
          by_cases c5 : x0 = (119 : Int32)
          · replace h := git c5 h
            refine G_lsw (off := 53) 54 dX0_wordOf_1 (by decide) (by rw [c5] <;> rfl) (by decide) ?_
            refine G_bipush (v := -2) dX0_wordOf_54 rfl ?_
            refine G_iret rfl (Nat.le_refl _) (Nat.le_refl _) dX0_wordOf_56 ?_
            cases h
            exact ⟨rfl, rfl, rfl, rfl, rfl⟩
          · replace h := gif c5 h
            refine G_lsw (off := 65) 66 dX0_wordOf_1 (by decide) (by show Op.lookupswitch.offset [(97, 56), (112, 51), (116, 62), (118, 59), (119, 53)] 65 x0.toInt = 65; rw [lv_osw (a := 97) c1 rfl, lv_osw (a := 112) c2 rfl, lv_osw (a := 116) c3 rfl, lv_osw (a := 118) c4 rfl, lv_osw (a := 119) c5 rfl] <;> rfl) (by decide) ?_
            refine G_iconst (v := 0) dX0_wordOf_66 rfl ?_
            refine G_iret rfl (Nat.le_refl _) (Nat.le_refl _) dX0_wordOf_67 ?_
            cases h
            exact ⟨rfl, rfl, rfl, rfl, rfl⟩
def p_X0_readProduct_13 (P : gIt → Nat → Int32 → Option (Int32 × gIt)) (a0 : Nat) (x2 : Int32) : Nat → gIt → Int32 → Option (Int32 × gIt)
  | 0, _, _ => none
  | n + 1, I, x3 =>
    if (100 : Int32) ≤ x3 then
    some ((1 : Int32), I)
    else
    gB (p_X10_take I (42 : Int32)) fun r5 =>
    if r5.1 = 0 then
    some ((1 : Int32), r5.2)
    else
    gB (P r5.2 a0 x2) fun r8 =>
    if r8.1 = 0 then
    some ((0 : Int32), r8.2)
    else
    gB (p_X0_emit r8.2 a0 (-8 : Int32)) fun r11 =>
    p_X0_readProduct_13 P a0 x2 n r11 (x3 + (1 : Int32))
def p_X0_readProduct (P : gIt → Nat → Int32 → Option (Int32 × gIt)) (I : gIt) (a0 : Nat) (x2 : Int32) : Option (Int32 × gIt) :=
  gB (P I a0 x2) fun r1 =>
  if r1.1 = 0 then
  some ((0 : Int32), r1.2)
  else
  p_X0_readProduct_13 P a0 x2 gFu r1.2 (0 : Int32)
set_option maxRecDepth 20000 in
theorem q_X0_readProduct_13 {l : Launch} {v : (Int32 × gIt)} {dP : Nat} {P : gIt → Nat → Int32 → Option (Int32 × gIt)} (hP : ∀ {I : gIt} {J : gJt} {w : Bool} {a0 : Nat} {x2 : Int32} {v : (Int32 × gIt)}, gisa a0 → P I a0 x2 = some v → Cn l gX0_readFactor dP 0 0 [.ref a0, .ref 11, .int x2] gS0 I J (gR0 w) (fun v' S' I' J' R' => v' = some (.int v.1) ∧ S' = gS0 ∧ I' = v.2 ∧ J' = J ∧ R' = gR0 w)) {J : gJt} {w : Bool} {a0 : Nat} {x2 : Int32} (ha0 : gisa a0) : ∀ (n : Nat) (I : gIt) (x3 : Int32), p_X0_readProduct_13 P a0 x2 n I x3 = some v → G l gX0_readProduct (dP + 6) 0 0 (fun v' S' I' J' R' => v' = some (.int v.1) ∧ S' = gS0 ∧ I' = v.2 ∧ J' = J ∧ R' = gR0 w) 0 0 13 [some (.ref a0), some (.ref 11), some (.int x2), some (.int x3)] [] gS0 I J (gR0 w) := by
  intro n
  induction n with
  | zero => intro _ _ h; cases h
  | succ n ih =>
    intro I x3 h
    rw [p_X0_readProduct_13] at h
    refine G_iload_n dX0_readProduct_13 rfl rfl ?_
    refine G_bipush (v := 100) dX0_readProduct_14 rfl ?_
    refine G_icmp_ge 51 dX0_readProduct_16 (by decide) (fun c4 => ?_) (fun c4 => ?_)
    · replace h := git c4 h
      refine G_iconst (v := 1) dX0_readProduct_51 rfl ?_
      refine G_zret rfl (Or.inr rfl) (Nat.le_refl _) (Nat.le_refl _) dX0_readProduct_52 ?_
      cases h
      exact ⟨rfl, rfl, rfl, rfl, rfl⟩
    · replace h := gif c4 h
      refine G_aload_n dX0_readProduct_19 rfl rfl ?_
      refine G_bipush (v := 42) dX0_readProduct_20 rfl ?_
      obtain ⟨r5, hr6, h⟩ := gB_some h
      refine G_cV (mj := gX10_take) (As := [.int (42 : Int32)]) (rest := []) ml_X0_44 vX10_take sl_11 sk_11 (by decide) rfl rfl rfl (Nat.le_of_ble_eq_true rfl) (by omega) (Nat.le_refl _) (Nat.le_refl _) dX0_readProduct_22 (q_X10_take hr6) ?_
      refine G_if_eq 51 dX0_readProduct_25 (by decide) (fun c7 => ?_) (fun c7 => ?_)
      · replace h := git c7 h
        refine G_iconst (v := 1) dX0_readProduct_51 rfl ?_
        refine G_zret rfl (Or.inr rfl) (Nat.le_refl _) (Nat.le_refl _) dX0_readProduct_52 ?_
        cases h
        exact ⟨rfl, rfl, rfl, rfl, rfl⟩
      · replace h := gif c7 h
        refine G_aload_n dX0_readProduct_28 rfl rfl ?_
        refine G_aload_n dX0_readProduct_29 rfl rfl ?_
        refine G_iload_n dX0_readProduct_30 rfl rfl ?_
        obtain ⟨r8, hr9, h⟩ := gB_some h
        refine G_cV (mj := gX0_readFactor) (As := [.ref 11, .int x2]) (rest := []) ml_X0_68 vX0_readFactor (gisa_sl ha0) (gisa_sk ha0) (by decide) rfl rfl rfl (Nat.le_of_ble_eq_true rfl) (by omega) (Nat.le_refl _) (Nat.le_refl _) dX0_readProduct_31 (hP ha0 hr9) ?_
        refine G_if_ne 39 dX0_readProduct_34 (by decide) (fun c10 => ?_) (fun c10 => ?_)
        · replace h := gif c10 h
          refine G_aload_n dX0_readProduct_39 rfl rfl ?_
          refine G_bipush (v := -8) dX0_readProduct_40 rfl ?_
          obtain ⟨r11, hr12, h⟩ := gB_some h
          refine G_cV (mj := gX0_emit) (As := [.int (-8 : Int32)]) (rest := []) ml_X0_64 vX0_emit (gisa_sl ha0) (gisa_sk ha0) (by decide) rfl rfl rfl (Nat.le_of_ble_eq_true rfl) (by omega) (Nat.le_refl _) (Nat.le_refl _) dX0_readProduct_42 (q_X0_emit ha0 hr12) ?_
          refine S_iinc (v := (1 : Int32)) [some (.ref a0), some (.ref 11), some (.int x2), some (.int (x3 + (1 : Int32)))] dX0_readProduct_45 rfl rfl (by decide) rfl ?_
          refine G_goto 13 dX0_readProduct_48 (by decide) ?_
          exact ih _ _ h
        · replace h := git c10 h
          refine G_iconst (v := 0) dX0_readProduct_37 rfl ?_
          refine G_zret rfl (Or.inl rfl) (Nat.le_refl _) (Nat.le_refl _) dX0_readProduct_38 ?_
          cases h
          exact ⟨rfl, rfl, rfl, rfl, rfl⟩
set_option maxRecDepth 20000 in
theorem q_X0_readProduct {l : Launch} {dP : Nat} {P : gIt → Nat → Int32 → Option (Int32 × gIt)} (hP : ∀ {I : gIt} {J : gJt} {w : Bool} {a0 : Nat} {x2 : Int32} {v : (Int32 × gIt)}, gisa a0 → P I a0 x2 = some v → Cn l gX0_readFactor dP 0 0 [.ref a0, .ref 11, .int x2] gS0 I J (gR0 w) (fun v' S' I' J' R' => v' = some (.int v.1) ∧ S' = gS0 ∧ I' = v.2 ∧ J' = J ∧ R' = gR0 w)) {I : gIt} {J : gJt} {w : Bool} {a0 : Nat} {x2 : Int32} {v : (Int32 × gIt)} (ha0 : gisa a0) (h : p_X0_readProduct P I a0 x2 = some v) : Cn l gX0_readProduct (dP + 6) 0 0 [.ref a0, .ref 11, .int x2] gS0 I J (gR0 w) (fun v' S' I' J' R' => v' = some (.int v.1) ∧ S' = gS0 ∧ I' = v.2 ∧ J' = J ∧ R' = gR0 w) := by
  refine Cn.of [some (.ref a0), some (.ref 11), some (.int x2), none] (by decide) rfl (Nat.le_of_ble_eq_true rfl) ?_
  rw [p_X0_readProduct] at h
  refine G_aload_n dX0_readProduct_0 rfl rfl ?_
  refine G_aload_n dX0_readProduct_1 rfl rfl ?_
  refine G_iload_n dX0_readProduct_2 rfl rfl ?_
  obtain ⟨r1, hr2, h⟩ := gB_some h
  refine G_cV (mj := gX0_readFactor) (As := [.ref 11, .int x2]) (rest := []) ml_X0_68 vX0_readFactor (gisa_sl ha0) (gisa_sk ha0) (by decide) rfl rfl rfl (Nat.le_of_ble_eq_true rfl) (by omega) (Nat.le_refl _) (Nat.le_refl _) dX0_readProduct_3 (hP ha0 hr2) ?_
  refine G_if_ne 11 dX0_readProduct_6 (by decide) (fun c3 => ?_) (fun c3 => ?_)
  · replace h := gif c3 h
    refine G_iconst (v := 0) dX0_readProduct_11 rfl ?_
    refine S_istore_n [some (.ref a0), some (.ref 11), some (.int x2), some (.int (0 : Int32))] dX0_readProduct_12 rfl (by decide) rfl ?_
    exact q_X0_readProduct_13 hP  ha0 gFu _ _ h
  · replace h := git c3 h
    refine G_iconst (v := 0) dX0_readProduct_9 rfl ?_
    refine G_zret rfl (Or.inl rfl) (Nat.le_refl _) (Nat.le_refl _) dX0_readProduct_10 ?_
    cases h
    exact ⟨rfl, rfl, rfl, rfl, rfl⟩
def p_X0_readSum_13 (P : gIt → Nat → Int32 → Option (Int32 × gIt)) (a0 : Nat) (x2 : Int32) : Nat → gIt → Int32 → Option (Int32 × gIt)
  | 0, _, _ => none
  | n + 1, I, x3 =>
    if (100 : Int32) ≤ x3 then
    some ((1 : Int32), I)
    else
    gB (p_X10_take I (43 : Int32)) fun r5 =>
    gB (α := (Int32 × gIt)) (
    if r5.1 = 0 then
    gB (p_X10_take r5.2 (45 : Int32)) fun r18 =>
    if r18.1 = 0 then
    some ((0 : Int32), r18.2)
    else
    some ((-7 : Int32), r18.2)
    else
    some ((-6 : Int32), r5.2)) fun ph7 =>
    if ph7.1 = 0 then
    some ((1 : Int32), ph7.2)
    else
    gB (p_X0_readProduct P ph7.2 a0 x2) fun r12 =>
    if r12.1 = 0 then
    some ((0 : Int32), r12.2)
    else
    gB (p_X0_emit r12.2 a0 ph7.1) fun r15 =>
    p_X0_readSum_13 P a0 x2 n r15 (x3 + (1 : Int32))
def p_X0_readSum (P : gIt → Nat → Int32 → Option (Int32 × gIt)) (I : gIt) (a0 : Nat) (x2 : Int32) : Option (Int32 × gIt) :=
  gB (p_X0_readProduct P I a0 x2) fun r1 =>
  if r1.1 = 0 then
  some ((0 : Int32), r1.2)
  else
  p_X0_readSum_13 P a0 x2 gFu r1.2 (0 : Int32)
set_option maxRecDepth 20000 in
theorem q_X0_readSum_13 {l : Launch} {v : (Int32 × gIt)} {dP : Nat} {P : gIt → Nat → Int32 → Option (Int32 × gIt)} (hP : ∀ {I : gIt} {J : gJt} {w : Bool} {a0 : Nat} {x2 : Int32} {v : (Int32 × gIt)}, gisa a0 → P I a0 x2 = some v → Cn l gX0_readFactor dP 0 0 [.ref a0, .ref 11, .int x2] gS0 I J (gR0 w) (fun v' S' I' J' R' => v' = some (.int v.1) ∧ S' = gS0 ∧ I' = v.2 ∧ J' = J ∧ R' = gR0 w)) {J : gJt} {w : Bool} {a0 : Nat} {x2 : Int32} (ha0 : gisa a0) : ∀ (n : Nat) (I : gIt) (x3 : Int32), p_X0_readSum_13 P a0 x2 n I x3 = some v → G l gX0_readSum (dP + 7) 0 0 (fun v' S' I' J' R' => v' = some (.int v.1) ∧ S' = gS0 ∧ I' = v.2 ∧ J' = J ∧ R' = gR0 w) 0 0 13 [some (.ref a0), some (.ref 11), some (.int x2), some (.int x3), none] [] gS0 I J (gR0 w) := by
  intro n
  induction n with
  | zero => intro _ _ h; cases h
  | succ n ih =>
    intro I x3 h
    rw [p_X0_readSum_13] at h
    refine G_iload_n dX0_readSum_13 rfl rfl ?_
    refine G_bipush (v := 100) dX0_readSum_14 rfl ?_
    refine G_icmp_ge 80 dX0_readSum_16 (by decide) (fun c4 => ?_) (fun c4 => ?_)
    · replace h := git c4 h
      refine G_iconst (v := 1) dX0_readSum_80 rfl ?_
      refine G_zret rfl (Or.inr rfl) (Nat.le_refl _) (Nat.le_refl _) dX0_readSum_81 ?_
      cases h
      exact ⟨rfl, rfl, rfl, rfl, rfl⟩
    · replace h := gif c4 h
      refine G_aload_n dX0_readSum_19 rfl rfl ?_
      refine G_bipush (v := 43) dX0_readSum_20 rfl ?_
      obtain ⟨r5, hr6, h⟩ := gB_some h
      refine G_cV (mj := gX10_take) (As := [.int (43 : Int32)]) (rest := []) ml_X0_44 vX10_take sl_11 sk_11 (by decide) rfl rfl rfl (Nat.le_of_ble_eq_true rfl) (by omega) (Nat.le_refl _) (Nat.le_refl _) dX0_readSum_22 (q_X10_take hr6) ?_
      obtain ⟨ph7, t8, r9⟩ := gB_some h
      have jn10 : G l gX0_readSum (dP + 7) 0 0 (fun v' S' I' J' R' => v' = some (.int v.1) ∧ S' = gS0 ∧ I' = v.2 ∧ J' = J ∧ R' = gR0 w) 0 0 48 [some (.ref a0), some (.ref 11), some (.int x2), some (.int x3), none] [.int ph7.1] gS0 ph7.2 J (gR0 w) := by
        refine S_istore [some (.ref a0), some (.ref 11), some (.int x2), some (.int x3), some (.int ph7.1)] dX0_readSum_48 (by decide) rfl ?_
        refine G_iload dX0_readSum_50 rfl ?_
        refine G_if_ne 57 dX0_readSum_52 (by decide) (fun c11 => ?_) (fun c11 => ?_)
        · replace r9 := gif c11 r9
          refine G_aload_n dX0_readSum_57 rfl rfl ?_
          refine G_aload_n dX0_readSum_58 rfl rfl ?_
          refine G_iload_n dX0_readSum_59 rfl rfl ?_
          obtain ⟨r12, hr13, r9⟩ := gB_some r9
          refine G_cV (mj := gX0_readProduct) (As := [.ref 11, .int x2]) (rest := []) ml_X0_61 vX0_readProduct (gisa_sl ha0) (gisa_sk ha0) (by decide) rfl rfl rfl (Nat.le_of_ble_eq_true rfl) (by omega) (Nat.le_refl _) (Nat.le_refl _) dX0_readSum_60 (q_X0_readProduct hP ha0 hr13) ?_
          refine G_if_ne 68 dX0_readSum_63 (by decide) (fun c14 => ?_) (fun c14 => ?_)
          · replace r9 := gif c14 r9
            refine G_aload_n dX0_readSum_68 rfl rfl ?_
            refine G_iload dX0_readSum_69 rfl ?_
            obtain ⟨r15, hr16, r9⟩ := gB_some r9
            refine G_cV (mj := gX0_emit) (As := [.int ph7.1]) (rest := []) ml_X0_64 vX0_emit (gisa_sl ha0) (gisa_sk ha0) (by decide) rfl rfl rfl (Nat.le_of_ble_eq_true rfl) (by omega) (Nat.le_refl _) (Nat.le_refl _) dX0_readSum_71 (q_X0_emit ha0 hr16) ?_
            refine S_iinc (v := (1 : Int32)) [some (.ref a0), some (.ref 11), some (.int x2), some (.int (x3 + (1 : Int32))), some (.int ph7.1)] dX0_readSum_74 rfl rfl (by decide) rfl ?_
            refine G_goto 13 dX0_readSum_77 (by decide) ?_
            refine G_sub [some (.ref a0), some (.ref 11), some (.int x2), some (.int (x3 + (1 : Int32))), none] ⟨rfl, rfl, rfl, rfl, trivial⟩ ?_
            exact ih _ _ r9
          · replace r9 := git c14 r9
            refine G_iconst (v := 0) dX0_readSum_66 rfl ?_
            refine G_zret rfl (Or.inl rfl) (Nat.le_refl _) (Nat.le_refl _) dX0_readSum_67 ?_
            cases r9
            exact ⟨rfl, rfl, rfl, rfl, rfl⟩
        · replace r9 := git c11 r9
          refine G_iconst (v := 1) dX0_readSum_55 rfl ?_
          refine G_zret rfl (Or.inr rfl) (Nat.le_refl _) (Nat.le_refl _) dX0_readSum_56 ?_
          cases r9
          exact ⟨rfl, rfl, rfl, rfl, rfl⟩
      refine G_if_eq 33 dX0_readSum_25 (by decide) (fun c17 => ?_) (fun c17 => ?_)
      · replace t8 := git c17 t8
        refine G_aload_n dX0_readSum_33 rfl rfl ?_
        refine G_bipush (v := 45) dX0_readSum_34 rfl ?_
        obtain ⟨r18, hr19, t8⟩ := gB_some t8
        refine G_cV (mj := gX10_take) (As := [.int (45 : Int32)]) (rest := []) ml_X0_44 vX10_take sl_11 sk_11 (by decide) rfl rfl rfl (Nat.le_of_ble_eq_true rfl) (by omega) (Nat.le_refl _) (Nat.le_refl _) dX0_readSum_36 (q_X10_take hr19) ?_
        refine G_if_eq 47 dX0_readSum_39 (by decide) (fun c20 => ?_) (fun c20 => ?_)
        · replace t8 := git c20 t8
          refine G_iconst (v := 0) dX0_readSum_47 rfl ?_
          cases t8
          exact jn10
        · replace t8 := gif c20 t8
          refine G_bipush (v := -7) dX0_readSum_42 rfl ?_
          refine G_goto 48 dX0_readSum_44 (by decide) ?_
          cases t8
          exact jn10
      · replace t8 := gif c17 t8
        refine G_bipush (v := -6) dX0_readSum_28 rfl ?_
        refine G_goto 48 dX0_readSum_30 (by decide) ?_
        cases t8
        exact jn10
set_option maxRecDepth 20000 in
theorem q_X0_readSum {l : Launch} {dP : Nat} {P : gIt → Nat → Int32 → Option (Int32 × gIt)} (hP : ∀ {I : gIt} {J : gJt} {w : Bool} {a0 : Nat} {x2 : Int32} {v : (Int32 × gIt)}, gisa a0 → P I a0 x2 = some v → Cn l gX0_readFactor dP 0 0 [.ref a0, .ref 11, .int x2] gS0 I J (gR0 w) (fun v' S' I' J' R' => v' = some (.int v.1) ∧ S' = gS0 ∧ I' = v.2 ∧ J' = J ∧ R' = gR0 w)) {I : gIt} {J : gJt} {w : Bool} {a0 : Nat} {x2 : Int32} {v : (Int32 × gIt)} (ha0 : gisa a0) (h : p_X0_readSum P I a0 x2 = some v) : Cn l gX0_readSum (dP + 7) 0 0 [.ref a0, .ref 11, .int x2] gS0 I J (gR0 w) (fun v' S' I' J' R' => v' = some (.int v.1) ∧ S' = gS0 ∧ I' = v.2 ∧ J' = J ∧ R' = gR0 w) := by
  refine Cn.of [some (.ref a0), some (.ref 11), some (.int x2), none, none] (by decide) rfl (Nat.le_of_ble_eq_true rfl) ?_
  rw [p_X0_readSum] at h
  refine G_aload_n dX0_readSum_0 rfl rfl ?_
  refine G_aload_n dX0_readSum_1 rfl rfl ?_
  refine G_iload_n dX0_readSum_2 rfl rfl ?_
  obtain ⟨r1, hr2, h⟩ := gB_some h
  refine G_cV (mj := gX0_readProduct) (As := [.ref 11, .int x2]) (rest := []) ml_X0_61 vX0_readProduct (gisa_sl ha0) (gisa_sk ha0) (by decide) rfl rfl rfl (Nat.le_of_ble_eq_true rfl) (by omega) (Nat.le_refl _) (Nat.le_refl _) dX0_readSum_3 (q_X0_readProduct hP ha0 hr2) ?_
  refine G_if_ne 11 dX0_readSum_6 (by decide) (fun c3 => ?_) (fun c3 => ?_)
  · replace h := gif c3 h
    refine G_iconst (v := 0) dX0_readSum_11 rfl ?_
    refine S_istore_n [some (.ref a0), some (.ref 11), some (.int x2), some (.int (0 : Int32)), none] dX0_readSum_12 rfl (by decide) rfl ?_
    exact q_X0_readSum_13 hP  ha0 gFu _ _ h
  · replace h := git c3 h
    refine G_iconst (v := 0) dX0_readSum_9 rfl ?_
    refine G_zret rfl (Or.inl rfl) (Nat.le_refl _) (Nat.le_refl _) dX0_readSum_10 ?_
    cases h
    exact ⟨rfl, rfl, rfl, rfl, rfl⟩
def p_X0_readFactor : Nat → gIt → Nat → Int32 → Option (Int32 × gIt)
  | 0, _, _, _ => none
  | n + 1, I, a0, x2 =>
    gB (p_X10_peek I) fun r1 =>
    if r1 = (40 : Int32) then
    if x2 < (6 : Int32) then
    gL (((I 11 3) + (1 : Int32))) fun z23 =>
    gL (gu2 I 11 3 z23) fun I24 =>
    gB (p_X0_readSum (p_X0_readFactor n) I24 a0 (x2 + (1 : Int32))) fun r25 =>
    if r25.1 = 0 then
    some ((0 : Int32), r25.2)
    else
    gB (p_X10_take r25.2 (41 : Int32)) fun r28 =>
    if r28.1 = 0 then
    gB (p_X10_refuse r28.2 (1 : Int32)) fun r31 =>
    if r31.1 = 0 then
    some ((0 : Int32), r31.2)
    else
    some ((1 : Int32), r31.2)
    else
    some ((1 : Int32), r28.2)
    else
    gB (p_X10_refuse I (5 : Int32)) fun r34 =>
    gck (gbo r34.1) (
    some (r34.1, r34.2))
    else
    gB (p_X10_atDigit I) fun r4 =>
    if r4 = 0 then
    gB (p_X10_peek I) fun r7 =>
    gB (p_X0_wordOf r7) fun r9 =>
    if r9 = 0 then
    gB (p_X10_refuse I (1 : Int32)) fun r16 =>
    gck (gbo r16.1) (
    some (r16.1, r16.2))
    else
    gL (((I 11 3) + (1 : Int32))) fun z12 =>
    gL (gu2 I 11 3 z12) fun I13 =>
    gB (p_X0_emit I13 a0 r9) fun r14 =>
    some ((1 : Int32), r14)
    else
    gB (p_X0_readNumber I a0) fun r19 =>
    gck (gbo r19.1) (
    some (r19.1, r19.2))
set_option maxRecDepth 20000 in
theorem q_X0_readFactor {l : Launch} : ∀ (n : Nat) {I : gIt} {J : gJt} {w : Bool} {a0 : Nat} {x2 : Int32} {v : (Int32 × gIt)} (ha0 : gisa a0) (h : p_X0_readFactor n I a0 x2 = some v), Cn l gX0_readFactor (8 * n + 8) 0 0 [.ref a0, .ref 11, .int x2] gS0 I J (gR0 w) (fun v' S' I' J' R' => v' = some (.int v.1) ∧ S' = gS0 ∧ I' = v.2 ∧ J' = J ∧ R' = gR0 w) := by
  intro n
  induction n with
  | zero => intro _ _ _ _ _ _ _ h; cases h
  | succ n ih =>
    intro I J w a0 x2 v ha0 h
    refine Cn.of [some (.ref a0), some (.ref 11), some (.int x2), none] (by decide) rfl (Nat.le_of_ble_eq_true rfl) ?_
    rw [p_X0_readFactor] at h
    refine G_aload_n dX0_readFactor_0 rfl rfl ?_
    obtain ⟨r1, hr2, h⟩ := gB_some h
    refine G_cV (mj := gX10_peek) (As := []) (rest := []) ml_X0_57 vX10_peek sl_11 sk_11 (by decide) rfl rfl rfl (Nat.le_of_ble_eq_true rfl) (by omega) (Nat.le_refl _) (Nat.le_refl _) dX0_readFactor_1 (q_X10_peek hr2) ?_
    refine G_bipush (v := 40) dX0_readFactor_4 rfl ?_
    refine G_icmp_ne 65 dX0_readFactor_6 (by decide) (fun c3 => ?_) (fun c3 => ?_)
    · replace h := gif c3 h
      refine G_aload_n dX0_readFactor_65 rfl rfl ?_
      obtain ⟨r4, hr5, h⟩ := gB_some h
      refine G_cV (mj := gX10_atDigit) (As := []) (rest := []) ml_X0_74 vX10_atDigit sl_11 sk_11 (by decide) rfl rfl rfl (Nat.le_of_ble_eq_true rfl) (by omega) (Nat.le_refl _) (Nat.le_refl _) dX0_readFactor_66 (q_X10_atDigit hr5) ?_
      refine G_if_eq 78 dX0_readFactor_69 (by decide) (fun c6 => ?_) (fun c6 => ?_)
      · replace h := git c6 h
        refine G_aload_n dX0_readFactor_78 rfl rfl ?_
        obtain ⟨r7, hr8, h⟩ := gB_some h
        refine G_cV (mj := gX10_peek) (As := []) (rest := []) ml_X0_57 vX10_peek sl_11 sk_11 (by decide) rfl rfl rfl (Nat.le_of_ble_eq_true rfl) (by omega) (Nat.le_refl _) (Nat.le_refl _) dX0_readFactor_79 (q_X10_peek hr8) ?_
        obtain ⟨r9, hr10, h⟩ := gB_some h
        refine G_cS (mj := gX0_wordOf) (As := [.int r7]) (rest := []) ml_X0_82 vX0_wordOf rfl rfl (Nat.le_of_ble_eq_true rfl) (by omega) (Nat.le_refl _) (Nat.le_refl _) dX0_readFactor_82 (q_X0_wordOf hr10) ?_
        refine S_istore_n [some (.ref a0), some (.ref 11), some (.int x2), some (.int r9)] dX0_readFactor_85 rfl (by decide) rfl ?_
        refine G_iload_n dX0_readFactor_86 rfl rfl ?_
        refine G_if_ne 96 dX0_readFactor_87 (by decide) (fun c11 => ?_) (fun c11 => ?_)
        · replace h := gif c11 h
          refine G_aload_n dX0_readFactor_96 rfl rfl ?_
          refine G_dup dX0_readFactor_97 rfl ?_
          refine G_getI fl_X0_71 sl_11 sk_11 rfl dX0_readFactor_98 ?_
          refine G_iconst (v := 1) dX0_readFactor_101 rfl ?_
          refine G_iadd dX0_readFactor_102 ?_
          refine G_nI fun z12 ez12 => ?_
          replace h := gL_some ez12 h
          refine G_putI fl_X0_71 sl_11 sk_11 rfl rfl ⟨rfl, rfl⟩ dX0_readFactor_103 ?_
          refine G_mI fun I13 eI13 => ?_
          replace h := gL_some eI13 h
          refine G_aload_n dX0_readFactor_106 rfl rfl ?_
          refine G_iload_n dX0_readFactor_107 rfl rfl ?_
          obtain ⟨r14, hr15, h⟩ := gB_some h
          refine G_cV (mj := gX0_emit) (As := [.int r9]) (rest := []) ml_X0_64 vX0_emit (gisa_sl ha0) (gisa_sk ha0) (by decide) rfl rfl rfl (Nat.le_of_ble_eq_true rfl) (by omega) (Nat.le_refl _) (Nat.le_refl _) dX0_readFactor_108 (q_X0_emit ha0 hr15) ?_
          refine G_iconst (v := 1) dX0_readFactor_111 rfl ?_
          refine G_zret rfl (Or.inr rfl) (Nat.le_refl _) (Nat.le_refl _) dX0_readFactor_112 ?_
          cases h
          exact ⟨rfl, rfl, rfl, rfl, rfl⟩
        · replace h := git c11 h
          refine G_aload_n dX0_readFactor_90 rfl rfl ?_
          refine G_iconst (v := 1) dX0_readFactor_91 rfl ?_
          obtain ⟨r16, hr17, h⟩ := gB_some h
          refine G_cV (mj := gX10_refuse) (As := [.int (1 : Int32)]) (rest := []) ml_X0_54 vX10_refuse sl_11 sk_11 (by decide) rfl rfl rfl (Nat.le_of_ble_eq_true rfl) (by omega) (Nat.le_refl _) (Nat.le_refl _) dX0_readFactor_92 (q_X10_refuse hr17) ?_
          obtain ⟨b18, h⟩ := gck_some h
          refine G_zret rfl (gbo_or b18) (Nat.le_refl _) (Nat.le_refl _) dX0_readFactor_95 ?_
          cases h
          exact ⟨rfl, rfl, rfl, rfl, rfl⟩
      · replace h := gif c6 h
        refine G_aload_n dX0_readFactor_72 rfl rfl ?_
        refine G_aload_n dX0_readFactor_73 rfl rfl ?_
        obtain ⟨r19, hr20, h⟩ := gB_some h
        refine G_cV (mj := gX0_readNumber) (As := [.ref 11]) (rest := []) ml_X0_78 vX0_readNumber (gisa_sl ha0) (gisa_sk ha0) (by decide) rfl rfl rfl (Nat.le_of_ble_eq_true rfl) (by omega) (Nat.le_refl _) (Nat.le_refl _) dX0_readFactor_74 (q_X0_readNumber ha0 hr20) ?_
        obtain ⟨b21, h⟩ := gck_some h
        refine G_zret rfl (gbo_or b21) (Nat.le_refl _) (Nat.le_refl _) dX0_readFactor_77 ?_
        cases h
        exact ⟨rfl, rfl, rfl, rfl, rfl⟩
    · replace h := git c3 h
      refine G_iload_n dX0_readFactor_9 rfl rfl ?_
      refine G_bipush (v := 6) dX0_readFactor_10 rfl ?_
      refine G_icmp_lt 21 dX0_readFactor_12 (by decide) (fun c22 => ?_) (fun c22 => ?_)
      · replace h := git c22 h
        refine G_aload_n dX0_readFactor_21 rfl rfl ?_
        refine G_dup dX0_readFactor_22 rfl ?_
        refine G_getI fl_X0_71 sl_11 sk_11 rfl dX0_readFactor_23 ?_
        refine G_iconst (v := 1) dX0_readFactor_26 rfl ?_
        refine G_iadd dX0_readFactor_27 ?_
        refine G_nI fun z23 ez23 => ?_
        replace h := gL_some ez23 h
        refine G_putI fl_X0_71 sl_11 sk_11 rfl rfl ⟨rfl, rfl⟩ dX0_readFactor_28 ?_
        refine G_mI fun I24 eI24 => ?_
        replace h := gL_some eI24 h
        refine G_aload_n dX0_readFactor_31 rfl rfl ?_
        refine G_aload_n dX0_readFactor_32 rfl rfl ?_
        refine G_iload_n dX0_readFactor_33 rfl rfl ?_
        refine G_iconst (v := 1) dX0_readFactor_34 rfl ?_
        refine G_iadd dX0_readFactor_35 ?_
        obtain ⟨r25, hr26, h⟩ := gB_some h
        refine G_cV (mj := gX0_readSum) (As := [.ref 11, .int (x2 + (1 : Int32))]) (rest := []) ml_X0_37 vX0_readSum (gisa_sl ha0) (gisa_sk ha0) (by decide) rfl rfl rfl (Nat.le_of_ble_eq_true rfl) (by omega) (Nat.le_refl _) (Nat.le_refl _) dX0_readFactor_36 (q_X0_readSum (fun ha hh => ih ha hh) ha0 hr26) ?_
        refine G_if_eq 63 dX0_readFactor_39 (by decide) (fun c27 => ?_) (fun c27 => ?_)
        · replace h := git c27 h
          refine G_iconst (v := 0) dX0_readFactor_63 rfl ?_
          refine G_zret rfl (Or.inl rfl) (Nat.le_refl _) (Nat.le_refl _) dX0_readFactor_64 ?_
          cases h
          exact ⟨rfl, rfl, rfl, rfl, rfl⟩
        · replace h := gif c27 h
          refine G_aload_n dX0_readFactor_42 rfl rfl ?_
          refine G_bipush (v := 41) dX0_readFactor_43 rfl ?_
          obtain ⟨r28, hr29, h⟩ := gB_some h
          refine G_cV (mj := gX10_take) (As := [.int (41 : Int32)]) (rest := []) ml_X0_44 vX10_take sl_11 sk_11 (by decide) rfl rfl rfl (Nat.le_of_ble_eq_true rfl) (by omega) (Nat.le_refl _) (Nat.le_refl _) dX0_readFactor_45 (q_X10_take hr29) ?_
          refine G_if_ne 59 dX0_readFactor_48 (by decide) (fun c30 => ?_) (fun c30 => ?_)
          · replace h := gif c30 h
            refine G_iconst (v := 1) dX0_readFactor_59 rfl ?_
            refine G_goto 64 dX0_readFactor_60 (by decide) ?_
            refine G_zret rfl (Or.inr rfl) (Nat.le_refl _) (Nat.le_refl _) dX0_readFactor_64 ?_
            cases h
            exact ⟨rfl, rfl, rfl, rfl, rfl⟩
          · replace h := git c30 h
            refine G_aload_n dX0_readFactor_51 rfl rfl ?_
            refine G_iconst (v := 1) dX0_readFactor_52 rfl ?_
            obtain ⟨r31, hr32, h⟩ := gB_some h
            refine G_cV (mj := gX10_refuse) (As := [.int (1 : Int32)]) (rest := []) ml_X0_54 vX10_refuse sl_11 sk_11 (by decide) rfl rfl rfl (Nat.le_of_ble_eq_true rfl) (by omega) (Nat.le_refl _) (Nat.le_refl _) dX0_readFactor_53 (q_X10_refuse hr32) ?_
            refine G_if_eq 63 dX0_readFactor_56 (by decide) (fun c33 => ?_) (fun c33 => ?_)
            · replace h := git c33 h
              refine G_iconst (v := 0) dX0_readFactor_63 rfl ?_
              refine G_zret rfl (Or.inl rfl) (Nat.le_refl _) (Nat.le_refl _) dX0_readFactor_64 ?_
              cases h
              exact ⟨rfl, rfl, rfl, rfl, rfl⟩
            · replace h := gif c33 h
              refine G_iconst (v := 1) dX0_readFactor_59 rfl ?_
              refine G_goto 64 dX0_readFactor_60 (by decide) ?_
              refine G_zret rfl (Or.inr rfl) (Nat.le_refl _) (Nat.le_refl _) dX0_readFactor_64 ?_
              cases h
              exact ⟨rfl, rfl, rfl, rfl, rfl⟩
      · replace h := gif c22 h
        refine G_aload_n dX0_readFactor_15 rfl rfl ?_
        refine G_iconst (v := 5) dX0_readFactor_16 rfl ?_
        obtain ⟨r34, hr35, h⟩ := gB_some h
        refine G_cV (mj := gX10_refuse) (As := [.int (5 : Int32)]) (rest := []) ml_X0_54 vX10_refuse sl_11 sk_11 (by decide) rfl rfl rfl (Nat.le_of_ble_eq_true rfl) (by omega) (Nat.le_refl _) (Nat.le_refl _) dX0_readFactor_17 (q_X10_refuse hr35) ?_
        obtain ⟨b36, h⟩ := gck_some h
        refine G_zret rfl (gbo_or b36) (Nat.le_refl _) (Nat.le_refl _) dX0_readFactor_20 ?_
        cases h
        exact ⟨rfl, rfl, rfl, rfl, rfl⟩
def p_X0_readText (I : gIt) (a0 : Nat) : Option (Int32 × gIt) :=
  gL (gu2 I a0 6 (0 : Int32)) fun I1 =>
  gB (p_X0_readSum (p_X0_readFactor 8) I1 a0 (0 : Int32)) fun r2 =>
  if r2.1 = 0 then
  some ((0 : Int32), r2.2)
  else
  gL ((r2.2 a0 6)) fun z5 =>
  gL (gu2 r2.2 a0 7 z5) fun I6 =>
  gB (p_X10_take I6 (60 : Int32)) fun r7 =>
  gck (gbo r7.1) (
  gL (gu2 r7.2 a0 10 r7.1) fun I10 =>
  if (I10 a0 10) = 0 then
  gB (p_X10_take I10 (62 : Int32)) fun r21 =>
  if r21.1 = 0 then
  gB (p_X10_refuse r21.2 (1 : Int32)) fun r33 =>
  gck (gbo r33.1) (
  some (r33.1, r33.2))
  else
  gB (p_X0_readSum (p_X0_readFactor 8) r21.2 a0 (0 : Int32)) fun r24 =>
  if r24.1 = 0 then
  some ((0 : Int32), r24.2)
  else
  gB (p_X10_peek r24.2) fun r27 =>
  if r27 = (-1 : Int32) then
  some ((1 : Int32), r24.2)
  else
  gB (p_X10_refuse r24.2 (1 : Int32)) fun r30 =>
  if r30.1 = 0 then
  some ((0 : Int32), r30.2)
  else
  some ((1 : Int32), r30.2)
  else
  gB (p_X0_readSum (p_X0_readFactor 8) I10 a0 (0 : Int32)) fun r12 =>
  if r12.1 = 0 then
  some ((0 : Int32), r12.2)
  else
  gB (p_X10_peek r12.2) fun r15 =>
  if r15 = (-1 : Int32) then
  some ((1 : Int32), r12.2)
  else
  gB (p_X10_refuse r12.2 (1 : Int32)) fun r18 =>
  if r18.1 = 0 then
  some ((0 : Int32), r18.2)
  else
  some ((1 : Int32), r18.2))
set_option maxRecDepth 20000 in
theorem q_X0_readText {l : Launch} {I : gIt} {J : gJt} {w : Bool} {a0 : Nat} {v : (Int32 × gIt)} (ha0 : gisa a0) (h : p_X0_readText I a0 = some v) : Cn l gX0_readText 80 0 0 [.ref a0, .ref 11] gS0 I J (gR0 w) (fun v' S' I' J' R' => v' = some (.int v.1) ∧ S' = gS0 ∧ I' = v.2 ∧ J' = J ∧ R' = gR0 w) := by
  refine Cn.of [some (.ref a0), some (.ref 11)] (by decide) rfl (Nat.le_of_ble_eq_true rfl) ?_
  rw [p_X0_readText] at h
  refine G_aload_n dX0_readText_0 rfl rfl ?_
  refine G_iconst (v := 0) dX0_readText_1 rfl ?_
  refine G_putI fl_X0_33 (gisa_sl ha0) (gisa_sk ha0) rfl rfl ⟨rfl, rfl⟩ dX0_readText_2 ?_
  refine G_mI fun I1 eI1 => ?_
  replace h := gL_some eI1 h
  refine G_aload_n dX0_readText_5 rfl rfl ?_
  refine G_aload_n dX0_readText_6 rfl rfl ?_
  refine G_iconst (v := 0) dX0_readText_7 rfl ?_
  obtain ⟨r2, hr3, h⟩ := gB_some h
  refine G_cV (mj := gX0_readSum) (As := [.ref 11, .int (0 : Int32)]) (rest := []) ml_X0_37 vX0_readSum (gisa_sl ha0) (gisa_sk ha0) (by decide) rfl rfl rfl (Nat.le_of_ble_eq_true rfl) (by decide) (Nat.le_refl _) (Nat.le_refl _) dX0_readText_8 (q_X0_readSum (fun ha hh => q_X0_readFactor 8 ha hh) ha0 hr3) ?_
  refine G_if_ne 16 dX0_readText_11 (by decide) (fun c4 => ?_) (fun c4 => ?_)
  · replace h := gif c4 h
    refine G_aload_n dX0_readText_16 rfl rfl ?_
    refine G_aload_n dX0_readText_17 rfl rfl ?_
    refine G_getI fl_X0_33 (gisa_sl ha0) (gisa_sk ha0) rfl dX0_readText_18 ?_
    refine G_nI fun z5 ez5 => ?_
    replace h := gL_some ez5 h
    refine G_putI fl_X0_41 (gisa_sl ha0) (gisa_sk ha0) rfl rfl ⟨rfl, rfl⟩ dX0_readText_21 ?_
    refine G_mI fun I6 eI6 => ?_
    replace h := gL_some eI6 h
    refine G_aload_n dX0_readText_24 rfl rfl ?_
    refine G_aload_n dX0_readText_25 rfl rfl ?_
    refine G_bipush (v := 60) dX0_readText_26 rfl ?_
    obtain ⟨r7, hr8, h⟩ := gB_some h
    refine G_cV (mj := gX10_take) (As := [.int (60 : Int32)]) (rest := [.ref a0]) ml_X0_44 vX10_take sl_11 sk_11 (by decide) rfl rfl rfl (Nat.le_of_ble_eq_true rfl) (by decide) (Nat.le_refl _) (Nat.le_refl _) dX0_readText_28 (q_X10_take hr8) ?_
    obtain ⟨b9, h⟩ := gck_some h
    refine G_putI fl_X0_50 (gisa_sl ha0) (gisa_sk ha0) rfl rfl (gbo_nf b9) dX0_readText_31 ?_
    refine G_mI fun I10 eI10 => ?_
    replace h := gL_some eI10 h
    refine G_aload_n dX0_readText_34 rfl rfl ?_
    refine G_getI fl_X0_50 (gisa_sl ha0) (gisa_sk ha0) rfl dX0_readText_35 ?_
    refine G_if_ne 56 dX0_readText_38 (by decide) (fun c11 => ?_) (fun c11 => ?_)
    · replace h := gif c11 h
      refine G_aload_n dX0_readText_56 rfl rfl ?_
      refine G_aload_n dX0_readText_57 rfl rfl ?_
      refine G_iconst (v := 0) dX0_readText_58 rfl ?_
      obtain ⟨r12, hr13, h⟩ := gB_some h
      refine G_cV (mj := gX0_readSum) (As := [.ref 11, .int (0 : Int32)]) (rest := []) ml_X0_37 vX0_readSum (gisa_sl ha0) (gisa_sk ha0) (by decide) rfl rfl rfl (Nat.le_of_ble_eq_true rfl) (by decide) (Nat.le_refl _) (Nat.le_refl _) dX0_readText_59 (q_X0_readSum (fun ha hh => q_X0_readFactor 8 ha hh) ha0 hr13) ?_
      refine G_if_ne 67 dX0_readText_62 (by decide) (fun c14 => ?_) (fun c14 => ?_)
      · replace h := gif c14 h
        refine G_aload_n dX0_readText_67 rfl rfl ?_
        obtain ⟨r15, hr16, h⟩ := gB_some h
        refine G_cV (mj := gX10_peek) (As := []) (rest := []) ml_X0_57 vX10_peek sl_11 sk_11 (by decide) rfl rfl rfl (Nat.le_of_ble_eq_true rfl) (by decide) (Nat.le_refl _) (Nat.le_refl _) dX0_readText_68 (q_X10_peek hr16) ?_
        refine G_iconst (v := -1) dX0_readText_71 rfl ?_
        refine G_icmp_eq 83 dX0_readText_72 (by decide) (fun c17 => ?_) (fun c17 => ?_)
        · replace h := git c17 h
          refine G_iconst (v := 1) dX0_readText_83 rfl ?_
          refine G_goto 88 dX0_readText_84 (by decide) ?_
          refine G_zret rfl (Or.inr rfl) (Nat.le_refl _) (Nat.le_refl _) dX0_readText_88 ?_
          cases h
          exact ⟨rfl, rfl, rfl, rfl, rfl⟩
        · replace h := gif c17 h
          refine G_aload_n dX0_readText_75 rfl rfl ?_
          refine G_iconst (v := 1) dX0_readText_76 rfl ?_
          obtain ⟨r18, hr19, h⟩ := gB_some h
          refine G_cV (mj := gX10_refuse) (As := [.int (1 : Int32)]) (rest := []) ml_X0_54 vX10_refuse sl_11 sk_11 (by decide) rfl rfl rfl (Nat.le_of_ble_eq_true rfl) (by decide) (Nat.le_refl _) (Nat.le_refl _) dX0_readText_77 (q_X10_refuse hr19) ?_
          refine G_if_eq 87 dX0_readText_80 (by decide) (fun c20 => ?_) (fun c20 => ?_)
          · replace h := git c20 h
            refine G_iconst (v := 0) dX0_readText_87 rfl ?_
            refine G_zret rfl (Or.inl rfl) (Nat.le_refl _) (Nat.le_refl _) dX0_readText_88 ?_
            cases h
            exact ⟨rfl, rfl, rfl, rfl, rfl⟩
          · replace h := gif c20 h
            refine G_iconst (v := 1) dX0_readText_83 rfl ?_
            refine G_goto 88 dX0_readText_84 (by decide) ?_
            refine G_zret rfl (Or.inr rfl) (Nat.le_refl _) (Nat.le_refl _) dX0_readText_88 ?_
            cases h
            exact ⟨rfl, rfl, rfl, rfl, rfl⟩
      · replace h := git c14 h
        refine G_iconst (v := 0) dX0_readText_65 rfl ?_
        refine G_zret rfl (Or.inl rfl) (Nat.le_refl _) (Nat.le_refl _) dX0_readText_66 ?_
        cases h
        exact ⟨rfl, rfl, rfl, rfl, rfl⟩
    · replace h := git c11 h
      refine G_aload_n dX0_readText_41 rfl rfl ?_
      refine G_bipush (v := 62) dX0_readText_42 rfl ?_
      obtain ⟨r21, hr22, h⟩ := gB_some h
      refine G_cV (mj := gX10_take) (As := [.int (62 : Int32)]) (rest := []) ml_X0_44 vX10_take sl_11 sk_11 (by decide) rfl rfl rfl (Nat.le_of_ble_eq_true rfl) (by decide) (Nat.le_refl _) (Nat.le_refl _) dX0_readText_44 (q_X10_take hr22) ?_
      refine G_if_ne 56 dX0_readText_47 (by decide) (fun c23 => ?_) (fun c23 => ?_)
      · replace h := gif c23 h
        refine G_aload_n dX0_readText_56 rfl rfl ?_
        refine G_aload_n dX0_readText_57 rfl rfl ?_
        refine G_iconst (v := 0) dX0_readText_58 rfl ?_
        obtain ⟨r24, hr25, h⟩ := gB_some h
        refine G_cV (mj := gX0_readSum) (As := [.ref 11, .int (0 : Int32)]) (rest := []) ml_X0_37 vX0_readSum (gisa_sl ha0) (gisa_sk ha0) (by decide) rfl rfl rfl (Nat.le_of_ble_eq_true rfl) (by decide) (Nat.le_refl _) (Nat.le_refl _) dX0_readText_59 (q_X0_readSum (fun ha hh => q_X0_readFactor 8 ha hh) ha0 hr25) ?_
        refine G_if_ne 67 dX0_readText_62 (by decide) (fun c26 => ?_) (fun c26 => ?_)
        · replace h := gif c26 h
          refine G_aload_n dX0_readText_67 rfl rfl ?_
          obtain ⟨r27, hr28, h⟩ := gB_some h
          refine G_cV (mj := gX10_peek) (As := []) (rest := []) ml_X0_57 vX10_peek sl_11 sk_11 (by decide) rfl rfl rfl (Nat.le_of_ble_eq_true rfl) (by decide) (Nat.le_refl _) (Nat.le_refl _) dX0_readText_68 (q_X10_peek hr28) ?_
          refine G_iconst (v := -1) dX0_readText_71 rfl ?_
          refine G_icmp_eq 83 dX0_readText_72 (by decide) (fun c29 => ?_) (fun c29 => ?_)
          · replace h := git c29 h
            refine G_iconst (v := 1) dX0_readText_83 rfl ?_
            refine G_goto 88 dX0_readText_84 (by decide) ?_
            refine G_zret rfl (Or.inr rfl) (Nat.le_refl _) (Nat.le_refl _) dX0_readText_88 ?_
            cases h
            exact ⟨rfl, rfl, rfl, rfl, rfl⟩
          · replace h := gif c29 h
            refine G_aload_n dX0_readText_75 rfl rfl ?_
            refine G_iconst (v := 1) dX0_readText_76 rfl ?_
            obtain ⟨r30, hr31, h⟩ := gB_some h
            refine G_cV (mj := gX10_refuse) (As := [.int (1 : Int32)]) (rest := []) ml_X0_54 vX10_refuse sl_11 sk_11 (by decide) rfl rfl rfl (Nat.le_of_ble_eq_true rfl) (by decide) (Nat.le_refl _) (Nat.le_refl _) dX0_readText_77 (q_X10_refuse hr31) ?_
            refine G_if_eq 87 dX0_readText_80 (by decide) (fun c32 => ?_) (fun c32 => ?_)
            · replace h := git c32 h
              refine G_iconst (v := 0) dX0_readText_87 rfl ?_
              refine G_zret rfl (Or.inl rfl) (Nat.le_refl _) (Nat.le_refl _) dX0_readText_88 ?_
              cases h
              exact ⟨rfl, rfl, rfl, rfl, rfl⟩
            · replace h := gif c32 h
              refine G_iconst (v := 1) dX0_readText_83 rfl ?_
              refine G_goto 88 dX0_readText_84 (by decide) ?_
              refine G_zret rfl (Or.inr rfl) (Nat.le_refl _) (Nat.le_refl _) dX0_readText_88 ?_
              cases h
              exact ⟨rfl, rfl, rfl, rfl, rfl⟩
        · replace h := git c26 h
          refine G_iconst (v := 0) dX0_readText_65 rfl ?_
          refine G_zret rfl (Or.inl rfl) (Nat.le_refl _) (Nat.le_refl _) dX0_readText_66 ?_
          cases h
          exact ⟨rfl, rfl, rfl, rfl, rfl⟩
      · replace h := git c23 h
        refine G_aload_n dX0_readText_50 rfl rfl ?_
        refine G_iconst (v := 1) dX0_readText_51 rfl ?_
        obtain ⟨r33, hr34, h⟩ := gB_some h
        refine G_cV (mj := gX10_refuse) (As := [.int (1 : Int32)]) (rest := []) ml_X0_54 vX10_refuse sl_11 sk_11 (by decide) rfl rfl rfl (Nat.le_of_ble_eq_true rfl) (by decide) (Nat.le_refl _) (Nat.le_refl _) dX0_readText_52 (q_X10_refuse hr34) ?_
        obtain ⟨b35, h⟩ := gck_some h
        refine G_zret rfl (gbo_or b35) (Nat.le_refl _) (Nat.le_refl _) dX0_readText_55 ?_
        cases h
        exact ⟨rfl, rfl, rfl, rfl, rfl⟩
  · replace h := git c4 h
    refine G_iconst (v := 0) dX0_readText_14 rfl ?_
    refine G_zret rfl (Or.inl rfl) (Nat.le_refl _) (Nat.le_refl _) dX0_readText_15 ?_
    cases h
    exact ⟨rfl, rfl, rfl, rfl, rfl⟩
def p_X0_drop (I : gIt) (a0 : Nat) : Option (Int32 × gIt) :=
  if (I a0 8) < (2 : Int32) then
  some ((0 : Int32), I)
  else
  if (I a0 8) ≤ (16 : Int32) then
  gL (((I a0 8) - (1 : Int32))) fun z3 =>
  gL (gu2 I a0 8 z3) fun I4 =>
  some ((1 : Int32), I4)
  else
  some ((0 : Int32), I)
set_option maxRecDepth 20000 in
theorem q_X0_drop {l : Launch} {I : gIt} {J : gJt} {w : Bool} {a0 : Nat} {v : (Int32 × gIt)} (ha0 : gisa a0) (h : p_X0_drop I a0 = some v) : Cn l gX0_drop 2 0 0 [.ref a0] gS0 I J (gR0 w) (fun v' S' I' J' R' => v' = some (.int v.1) ∧ S' = gS0 ∧ I' = v.2 ∧ J' = J ∧ R' = gR0 w) := by
  refine Cn.of [some (.ref a0)] (by decide) rfl (Nat.le_of_ble_eq_true rfl) ?_
  rw [p_X0_drop] at h
  refine G_aload_n dX0_drop_0 rfl rfl ?_
  refine G_getI fl_X0_96 (gisa_sl ha0) (gisa_sk ha0) rfl dX0_drop_1 ?_
  refine G_iconst (v := 2) dX0_drop_4 rfl ?_
  refine G_icmp_lt 17 dX0_drop_5 (by decide) (fun c1 => ?_) (fun c1 => ?_)
  · replace h := git c1 h
    refine G_iconst (v := 0) dX0_drop_17 rfl ?_
    refine G_zret rfl (Or.inl rfl) (Nat.le_refl _) (Nat.le_refl _) dX0_drop_18 ?_
    cases h
    exact ⟨rfl, rfl, rfl, rfl, rfl⟩
  · replace h := gif c1 h
    refine G_aload_n dX0_drop_8 rfl rfl ?_
    refine G_getI fl_X0_96 (gisa_sl ha0) (gisa_sk ha0) rfl dX0_drop_9 ?_
    refine G_bipush (v := 16) dX0_drop_12 rfl ?_
    refine G_icmp_le 19 dX0_drop_14 (by decide) (fun c2 => ?_) (fun c2 => ?_)
    · replace h := git c2 h
      refine G_aload_n dX0_drop_19 rfl rfl ?_
      refine G_dup dX0_drop_20 rfl ?_
      refine G_getI fl_X0_96 (gisa_sl ha0) (gisa_sk ha0) rfl dX0_drop_21 ?_
      refine G_iconst (v := 1) dX0_drop_24 rfl ?_
      refine G_isub dX0_drop_25 ?_
      refine G_nI fun z3 ez3 => ?_
      replace h := gL_some ez3 h
      refine G_putI fl_X0_96 (gisa_sl ha0) (gisa_sk ha0) rfl rfl ⟨rfl, rfl⟩ dX0_drop_26 ?_
      refine G_mI fun I4 eI4 => ?_
      replace h := gL_some eI4 h
      refine G_iconst (v := 1) dX0_drop_29 rfl ?_
      refine G_zret rfl (Or.inr rfl) (Nat.le_refl _) (Nat.le_refl _) dX0_drop_30 ?_
      cases h
      exact ⟨rfl, rfl, rfl, rfl, rfl⟩
    · replace h := gif c2 h
      refine G_iconst (v := 0) dX0_drop_17 rfl ?_
      refine G_zret rfl (Or.inl rfl) (Nat.le_refl _) (Nat.le_refl _) dX0_drop_18 ?_
      cases h
      exact ⟨rfl, rfl, rfl, rfl, rfl⟩
def p_X0_addTop_10 (I : gIt) (a0 : Nat) (y1 : Int64) : Nat → gJt → Int32 → Option (gIt × gJt)
  | 0, _, _ => none
  | n + 1, J, x3 =>
    if (32 : Int32) ≤ x3 then
    some (I, J)
    else
    gck (gin ((I a0 8) - (1 : Int32)) 16) (
    gck (gin x3 32) (
    gck (gin (I a0 8) 16) (
    gck (gin x3 32) (
    gL (((J ((a0 + 4 + (((I a0 8) - (1 : Int32))).toNatClampNeg)) (x3).toNatClampNeg) + (y1 * (J ((a0 + 4 + ((I a0 8)).toNatClampNeg)) (x3).toNatClampNeg)))) fun u9 =>
    gck (gin x3 32) (
    gL (gu2 J ((a0 + 4 + (((I a0 8) - (1 : Int32))).toNatClampNeg)) (x3).toNatClampNeg u9) fun J11 =>
    p_X0_addTop_10 I a0 y1 n J11 (x3 + (1 : Int32)))))))
def p_X0_addTop (I : gIt) (J : gJt) (a0 : Nat) (y1 : Int64) : Option (gIt × gJt) :=
  gB (p_X0_drop I a0) fun r1 =>
  if r1.1 = 0 then
  some (r1.2, J)
  else
  p_X0_addTop_10 r1.2 a0 y1 gFu J (0 : Int32)
set_option maxRecDepth 20000 in
theorem q_X0_addTop_10 {l : Launch} {v : (gIt × gJt)} {w : Bool} {I : gIt} {a0 : Nat} {y1 : Int64} (ha0 : gisa a0) : ∀ (n : Nat) (J : gJt) (x3 : Int32), p_X0_addTop_10 I a0 y1 n J x3 = some v → G l gX0_addTop 3 0 0 (fun v' S' I' J' R' => v' = none ∧ S' = gS0 ∧ I' = v.1 ∧ J' = v.2 ∧ R' = gR0 w) 0 0 10 [some (.ref a0), some (.long y1), none, some (.int x3)] [] gS0 I J (gR0 w) := by
  intro n
  induction n with
  | zero => intro _ _ h; cases h
  | succ n ih =>
    intro J x3 h
    rw [p_X0_addTop_10] at h
    refine G_iload_n dX0_addTop_10 rfl rfl ?_
    refine G_bipush (v := 32) dX0_addTop_11 rfl ?_
    refine G_icmp_ge 51 dX0_addTop_13 (by decide) (fun c4 => ?_) (fun c4 => ?_)
    · replace h := git c4 h
      refine G_vret rfl (Nat.le_refl _) (Nat.le_refl _) dX0_addTop_51 ?_
      cases h
      exact ⟨rfl, rfl, rfl, rfl, rfl⟩
    · replace h := gif c4 h
      refine G_aload_n dX0_addTop_16 rfl rfl ?_
      refine G_getR fl_X0_21 (gisa_sl ha0) (gisa_sk ha0) rfl (gisa_r2 _ ha0) dX0_addTop_17 ?_
      refine G_aload_n dX0_addTop_20 rfl rfl ?_
      refine G_getI fl_X0_96 (gisa_sl ha0) (gisa_sk ha0) rfl dX0_addTop_21 ?_
      refine G_iconst (v := 1) dX0_addTop_24 rfl ?_
      refine G_isub dX0_addTop_25 ?_
      obtain ⟨b5, h⟩ := gck_some h
      refine G_aaldJ (gisa_l2 ha0) (gisa_s2 ha0) (gin_in b5) (gisa_ar _ ha0 (gin_lt b5)) dX0_addTop_26 ?_
      refine G_iload_n dX0_addTop_27 rfl rfl ?_
      refine G_dup2 dX0_addTop_28 rfl rfl ?_
      obtain ⟨b6, h⟩ := gck_some h
      refine G_lald (gisa_al ha0 (gin_lt b5)) (gisa_as ha0 (gin_lt b5)) (gin_in b6) dX0_addTop_29 ?_
      refine G_lload_n dX0_addTop_30 rfl rfl ?_
      refine G_aload_n dX0_addTop_31 rfl rfl ?_
      refine G_getR fl_X0_21 (gisa_sl ha0) (gisa_sk ha0) rfl (gisa_r2 _ ha0) dX0_addTop_32 ?_
      refine G_aload_n dX0_addTop_35 rfl rfl ?_
      refine G_getI fl_X0_96 (gisa_sl ha0) (gisa_sk ha0) rfl dX0_addTop_36 ?_
      obtain ⟨b7, h⟩ := gck_some h
      refine G_aaldJ (gisa_l2 ha0) (gisa_s2 ha0) (gin_in b7) (gisa_ar _ ha0 (gin_lt b7)) dX0_addTop_39 ?_
      refine G_iload_n dX0_addTop_40 rfl rfl ?_
      obtain ⟨b8, h⟩ := gck_some h
      refine G_lald (gisa_al ha0 (gin_lt b7)) (gisa_as ha0 (gin_lt b7)) (gin_in b8) dX0_addTop_41 ?_
      refine G_lmul dX0_addTop_42 ?_
      refine G_ladd dX0_addTop_43 ?_
      refine G_nJ fun u9 eu9 => ?_
      replace h := gL_some eu9 h
      obtain ⟨b10, h⟩ := gck_some h
      refine G_last (gisa_al ha0 (gin_lt b5)) (gisa_as ha0 (gin_lt b5)) (gin_in b10) dX0_addTop_44 ?_
      refine G_mJ fun J11 eJ11 => ?_
      replace h := gL_some eJ11 h
      refine S_iinc (v := (1 : Int32)) [some (.ref a0), some (.long y1), none, some (.int (x3 + (1 : Int32)))] dX0_addTop_45 rfl rfl (by decide) rfl ?_
      refine G_goto 10 dX0_addTop_48 (by decide) ?_
      exact ih _ _ h
set_option maxRecDepth 20000 in
theorem q_X0_addTop {l : Launch} {I : gIt} {J : gJt} {w : Bool} {a0 : Nat} {y1 : Int64} {v : (gIt × gJt)} (ha0 : gisa a0) (h : p_X0_addTop I J a0 y1 = some v) : Cn l gX0_addTop 3 0 0 [.ref a0, .long y1] gS0 I J (gR0 w) (fun v' S' I' J' R' => v' = none ∧ S' = gS0 ∧ I' = v.1 ∧ J' = v.2 ∧ R' = gR0 w) := by
  refine Cn.of [some (.ref a0), some (.long y1), none, none] (by decide) rfl (Nat.le_of_ble_eq_true rfl) ?_
  rw [p_X0_addTop] at h
  refine G_aload_n dX0_addTop_0 rfl rfl ?_
  obtain ⟨r1, hr2, h⟩ := gB_some h
  refine G_cV (mj := gX0_drop) (As := []) (rest := []) ml_X0_117 vX0_drop (gisa_sl ha0) (gisa_sk ha0) (by decide) rfl rfl rfl (Nat.le_of_ble_eq_true rfl) (by decide) (Nat.le_refl _) (Nat.le_refl _) dX0_addTop_1 (q_X0_drop ha0 hr2) ?_
  refine G_if_ne 8 dX0_addTop_4 (by decide) (fun c3 => ?_) (fun c3 => ?_)
  · replace h := gif c3 h
    refine G_iconst (v := 0) dX0_addTop_8 rfl ?_
    refine S_istore_n [some (.ref a0), some (.long y1), none, some (.int (0 : Int32))] dX0_addTop_9 rfl (by decide) rfl ?_
    exact q_X0_addTop_10  ha0 gFu _ _ h
  · replace h := git c3 h
    refine G_vret rfl (Nat.le_refl _) (Nat.le_refl _) dX0_addTop_7 ?_
    cases h
    exact ⟨rfl, rfl, rfl, rfl, rfl⟩
def p_X0_multiplyTop_25 (K10 : gJt → Int32 → Option (gIt × gJt)) (I : gIt) (a0 : Nat) (x1 : Int32) : Nat → gJt → Int32 → Option (gIt × gJt)
  | 0, _, _ => none
  | n + 1, J, x2 =>
    if x1 < x2 then
    K10 J (x1 + (1 : Int32))
    else
    gck (gin x1 32) (
    gck (gin ((I a0 8) - (1 : Int32)) 16) (
    gck (gin x2 32) (
    gck (gin (I a0 8) 16) (
    gck (gin (x1 - x2) 32) (
    gL (((J ((a0 + 20)) (x1).toNatClampNeg) + ((J ((a0 + 4 + (((I a0 8) - (1 : Int32))).toNatClampNeg)) (x2).toNatClampNeg) * (J ((a0 + 4 + ((I a0 8)).toNatClampNeg)) ((x1 - x2)).toNatClampNeg)))) fun u15 =>
    gck (gin x1 32) (
    gL (gu2 J ((a0 + 20)) (x1).toNatClampNeg u15) fun J17 =>
    p_X0_multiplyTop_25 K10 I a0 x1 n J17 (x2 + (1 : Int32))))))))
def p_X0_multiplyTop_10 (I : gIt) (a0 : Nat) : Nat → gJt → Int32 → Option (gIt × gJt)
  | 0, _, _ => none
  | n + 1, J, x1 =>
    if (32 : Int32) ≤ x1 then
    gck (gin ((I a0 8) - (1 : Int32)) 16) (
    gL (gcp J (a0 + 20) (a0 + 4 + (((I a0 8) - (1 : Int32))).toNatClampNeg)) fun J6 =>
    some (I, J6))
    else
    gck (gin x1 32) (
    gL (gu2 J ((a0 + 20)) (x1).toNatClampNeg (0 : Int64)) fun J8 =>
    p_X0_multiplyTop_25 (fun J x1 => p_X0_multiplyTop_10 I a0 n J x1) I a0 x1 gFu J8 (0 : Int32))
def p_X0_multiplyTop (I : gIt) (J : gJt) (a0 : Nat) : Option (gIt × gJt) :=
  gB (p_X0_drop I a0) fun r1 =>
  if r1.1 = 0 then
  some (r1.2, J)
  else
  p_X0_multiplyTop_10 r1.2 a0 gFu J (0 : Int32)
set_option maxRecDepth 20000 in
theorem q_X0_multiplyTop_25 {l : Launch} {v : (gIt × gJt)} {w : Bool} {K10 : gJt → Int32 → Option (gIt × gJt)} {I : gIt} {a0 : Nat} {x1 : Int32} (hK10 : ∀ (J : gJt) (x1 : Int32), K10 J x1 = some v → G l gX0_multiplyTop 3 0 0 (fun v' S' I' J' R' => v' = none ∧ S' = gS0 ∧ I' = v.1 ∧ J' = v.2 ∧ R' = gR0 w) 0 0 10 [some (.ref a0), some (.int x1), none] [] gS0 I J (gR0 w)) (ha0 : gisa a0) : ∀ (n : Nat) (J : gJt) (x2 : Int32), p_X0_multiplyTop_25 K10 I a0 x1 n J x2 = some v → G l gX0_multiplyTop 3 0 0 (fun v' S' I' J' R' => v' = none ∧ S' = gS0 ∧ I' = v.1 ∧ J' = v.2 ∧ R' = gR0 w) 0 0 25 [some (.ref a0), some (.int x1), some (.int x2)] [] gS0 I J (gR0 w) := by
  intro n
  induction n with
  | zero => intro _ _ h; cases h
  | succ n ih =>
    intro J x2 h
    rw [p_X0_multiplyTop_25] at h
    refine G_iload_n dX0_multiplyTop_25 rfl rfl ?_
    refine G_iload_n dX0_multiplyTop_26 rfl rfl ?_
    refine G_icmp_gt 72 dX0_multiplyTop_27 (by decide) (fun c9 => ?_) (fun c9 => ?_)
    · replace h := git c9 h
      refine S_iinc (v := (1 : Int32)) [some (.ref a0), some (.int (x1 + (1 : Int32))), some (.int x2)] dX0_multiplyTop_72 rfl rfl (by decide) rfl ?_
      refine G_goto 10 dX0_multiplyTop_75 (by decide) ?_
      refine G_sub [some (.ref a0), some (.int (x1 + (1 : Int32))), none] ⟨rfl, rfl, trivial⟩ ?_
      exact hK10 _ _ h
    · replace h := gif c9 h
      refine G_aload_n dX0_multiplyTop_30 rfl rfl ?_
      refine G_getR fl_X0_24 (gisa_sl ha0) (gisa_sk ha0) rfl (gisa_r3 _ ha0) dX0_multiplyTop_31 ?_
      refine G_iload_n dX0_multiplyTop_34 rfl rfl ?_
      refine G_dup2 dX0_multiplyTop_35 rfl rfl ?_
      obtain ⟨b10, h⟩ := gck_some h
      refine G_lald (gisa_l3 ha0) (gisa_s3 ha0) (gin_in b10) dX0_multiplyTop_36 ?_
      refine G_aload_n dX0_multiplyTop_37 rfl rfl ?_
      refine G_getR fl_X0_21 (gisa_sl ha0) (gisa_sk ha0) rfl (gisa_r2 _ ha0) dX0_multiplyTop_38 ?_
      refine G_aload_n dX0_multiplyTop_41 rfl rfl ?_
      refine G_getI fl_X0_96 (gisa_sl ha0) (gisa_sk ha0) rfl dX0_multiplyTop_42 ?_
      refine G_iconst (v := 1) dX0_multiplyTop_45 rfl ?_
      refine G_isub dX0_multiplyTop_46 ?_
      obtain ⟨b11, h⟩ := gck_some h
      refine G_aaldJ (gisa_l2 ha0) (gisa_s2 ha0) (gin_in b11) (gisa_ar _ ha0 (gin_lt b11)) dX0_multiplyTop_47 ?_
      refine G_iload_n dX0_multiplyTop_48 rfl rfl ?_
      obtain ⟨b12, h⟩ := gck_some h
      refine G_lald (gisa_al ha0 (gin_lt b11)) (gisa_as ha0 (gin_lt b11)) (gin_in b12) dX0_multiplyTop_49 ?_
      refine G_aload_n dX0_multiplyTop_50 rfl rfl ?_
      refine G_getR fl_X0_21 (gisa_sl ha0) (gisa_sk ha0) rfl (gisa_r2 _ ha0) dX0_multiplyTop_51 ?_
      refine G_aload_n dX0_multiplyTop_54 rfl rfl ?_
      refine G_getI fl_X0_96 (gisa_sl ha0) (gisa_sk ha0) rfl dX0_multiplyTop_55 ?_
      obtain ⟨b13, h⟩ := gck_some h
      refine G_aaldJ (gisa_l2 ha0) (gisa_s2 ha0) (gin_in b13) (gisa_ar _ ha0 (gin_lt b13)) dX0_multiplyTop_58 ?_
      refine G_iload_n dX0_multiplyTop_59 rfl rfl ?_
      refine G_iload_n dX0_multiplyTop_60 rfl rfl ?_
      refine G_isub dX0_multiplyTop_61 ?_
      obtain ⟨b14, h⟩ := gck_some h
      refine G_lald (gisa_al ha0 (gin_lt b13)) (gisa_as ha0 (gin_lt b13)) (gin_in b14) dX0_multiplyTop_62 ?_
      refine G_lmul dX0_multiplyTop_63 ?_
      refine G_ladd dX0_multiplyTop_64 ?_
      refine G_nJ fun u15 eu15 => ?_
      replace h := gL_some eu15 h
      obtain ⟨b16, h⟩ := gck_some h
      refine G_last (gisa_l3 ha0) (gisa_s3 ha0) (gin_in b16) dX0_multiplyTop_65 ?_
      refine G_mJ fun J17 eJ17 => ?_
      replace h := gL_some eJ17 h
      refine S_iinc (v := (1 : Int32)) [some (.ref a0), some (.int x1), some (.int (x2 + (1 : Int32)))] dX0_multiplyTop_66 rfl rfl (by decide) rfl ?_
      refine G_goto 25 dX0_multiplyTop_69 (by decide) ?_
      exact ih _ _ h
set_option maxRecDepth 20000 in
theorem q_X0_multiplyTop_10 {l : Launch} {v : (gIt × gJt)} {w : Bool} {I : gIt} {a0 : Nat} (ha0 : gisa a0) : ∀ (n : Nat) (J : gJt) (x1 : Int32), p_X0_multiplyTop_10 I a0 n J x1 = some v → G l gX0_multiplyTop 3 0 0 (fun v' S' I' J' R' => v' = none ∧ S' = gS0 ∧ I' = v.1 ∧ J' = v.2 ∧ R' = gR0 w) 0 0 10 [some (.ref a0), some (.int x1), none] [] gS0 I J (gR0 w) := by
  intro n
  induction n with
  | zero => intro _ _ h; cases h
  | succ n ih =>
    intro J x1 h
    rw [p_X0_multiplyTop_10] at h
    refine G_iload_n dX0_multiplyTop_10 rfl rfl ?_
    refine G_bipush (v := 32) dX0_multiplyTop_11 rfl ?_
    refine G_icmp_ge 78 dX0_multiplyTop_13 (by decide) (fun c4 => ?_) (fun c4 => ?_)
    · replace h := git c4 h
      refine G_aload_n dX0_multiplyTop_78 rfl rfl ?_
      refine G_getR fl_X0_24 (gisa_sl ha0) (gisa_sk ha0) rfl (gisa_r3 _ ha0) dX0_multiplyTop_79 ?_
      refine G_iconst (v := 0) dX0_multiplyTop_82 rfl ?_
      refine G_aload_n dX0_multiplyTop_83 rfl rfl ?_
      refine G_getR fl_X0_21 (gisa_sl ha0) (gisa_sk ha0) rfl (gisa_r2 _ ha0) dX0_multiplyTop_84 ?_
      refine G_aload_n dX0_multiplyTop_87 rfl rfl ?_
      refine G_getI fl_X0_96 (gisa_sl ha0) (gisa_sk ha0) rfl dX0_multiplyTop_88 ?_
      refine G_iconst (v := 1) dX0_multiplyTop_91 rfl ?_
      refine G_isub dX0_multiplyTop_92 ?_
      obtain ⟨b5, h⟩ := gck_some h
      refine G_aaldJ (gisa_l2 ha0) (gisa_s2 ha0) (gin_in b5) (gisa_ar _ ha0 (gin_lt b5)) dX0_multiplyTop_93 ?_
      refine G_iconst (v := 0) dX0_multiplyTop_94 rfl ?_
      refine G_bipush (v := 32) dX0_multiplyTop_95 rfl ?_
      refine G_copyJ ml_X0_111 (gisa_l3 ha0) (gisa_s3 ha0) (gisa_al ha0 (gin_lt b5)) (gisa_as ha0 (gin_lt b5)) (by decide) (by decide) (Nat.le_of_ble_eq_true rfl) dX0_multiplyTop_97 ?_
      refine G_mJ fun J6 eJ6 => ?_
      replace h := gL_some eJ6 h
      refine G_vret rfl (Nat.le_refl _) (Nat.le_refl _) dX0_multiplyTop_100 ?_
      cases h
      exact ⟨rfl, rfl, rfl, rfl, rfl⟩
    · replace h := gif c4 h
      refine G_aload_n dX0_multiplyTop_16 rfl rfl ?_
      refine G_getR fl_X0_24 (gisa_sl ha0) (gisa_sk ha0) rfl (gisa_r3 _ ha0) dX0_multiplyTop_17 ?_
      refine G_iload_n dX0_multiplyTop_20 rfl rfl ?_
      refine G_lconst (v := 0) dX0_multiplyTop_21 rfl ?_
      obtain ⟨b7, h⟩ := gck_some h
      refine G_last (gisa_l3 ha0) (gisa_s3 ha0) (gin_in b7) dX0_multiplyTop_22 ?_
      refine G_mJ fun J8 eJ8 => ?_
      replace h := gL_some eJ8 h
      refine G_iconst (v := 0) dX0_multiplyTop_23 rfl ?_
      refine S_istore_n [some (.ref a0), some (.int x1), some (.int (0 : Int32))] dX0_multiplyTop_24 rfl (by decide) rfl ?_
      exact q_X0_multiplyTop_25 (fun J' x1' hq => ih J' x1' hq) ha0 gFu _ _ h
set_option maxRecDepth 20000 in
theorem q_X0_multiplyTop {l : Launch} {I : gIt} {J : gJt} {w : Bool} {a0 : Nat} {v : (gIt × gJt)} (ha0 : gisa a0) (h : p_X0_multiplyTop I J a0 = some v) : Cn l gX0_multiplyTop 3 0 0 [.ref a0] gS0 I J (gR0 w) (fun v' S' I' J' R' => v' = none ∧ S' = gS0 ∧ I' = v.1 ∧ J' = v.2 ∧ R' = gR0 w) := by
  refine Cn.of [some (.ref a0), none, none] (by decide) rfl (Nat.le_of_ble_eq_true rfl) ?_
  rw [p_X0_multiplyTop] at h
  refine G_aload_n dX0_multiplyTop_0 rfl rfl ?_
  obtain ⟨r1, hr2, h⟩ := gB_some h
  refine G_cV (mj := gX0_drop) (As := []) (rest := []) ml_X0_117 vX0_drop (gisa_sl ha0) (gisa_sk ha0) (by decide) rfl rfl rfl (Nat.le_of_ble_eq_true rfl) (by decide) (Nat.le_refl _) (Nat.le_refl _) dX0_multiplyTop_1 (q_X0_drop ha0 hr2) ?_
  refine G_if_ne 8 dX0_multiplyTop_4 (by decide) (fun c3 => ?_) (fun c3 => ?_)
  · replace h := gif c3 h
    refine G_iconst (v := 0) dX0_multiplyTop_8 rfl ?_
    refine S_istore_n [some (.ref a0), some (.int (0 : Int32)), none] dX0_multiplyTop_9 rfl (by decide) rfl ?_
    exact q_X0_multiplyTop_10  ha0 gFu _ _ h
  · replace h := git c3 h
    refine G_vret rfl (Nat.le_refl _) (Nat.le_refl _) dX0_multiplyTop_7 ?_
    cases h
    exact ⟨rfl, rfl, rfl, rfl, rfl⟩
def p_X0_push_29 (I : gIt) (a0 : Nat) (x1 : Int32) (a2 : Nat) : Nat → gJt → Int32 → Option (gIt × gJt)
  | 0, _, _ => none
  | n + 1, J, x3 =>
    if (32 : Int32) ≤ x3 then
    gB (α := (Int32 × gJt)) (
    if x1 = (-1 : Int32) then
    gck (gin (1 : Int32) 32) (
    gL (gu2 J a2 ((1 : Int32)).toNatClampNeg (1 : Int64)) fun J27 =>
    some (x3, J27))
    else
    if x1 < 0 then
    gL (((-2 : Int32) - x1)) fun z13 =>
    gB (α := Int64) (
    if z13 < 0 then
    some (0 : Int64)
    else
    if (nI 4) ≤ z13 then
    some (0 : Int64)
    else
    gck (gin z13 4) (
    some (J ((a0 + 2)) (z13).toNatClampNeg))) fun ph14 =>
    gck (gin (0 : Int32) 32) (
    gL (gu2 J a2 ((0 : Int32)).toNatClampNeg ph14) fun J19 =>
    some (z13, J19))
    else
    gL ((Int32.toInt64 x1)) fun u23 =>
    gck (gin (0 : Int32) 32) (
    gL (gu2 J a2 ((0 : Int32)).toNatClampNeg u23) fun J25 =>
    some (x3, J25))) fun ph5 =>
    gL (((I a0 8) + (1 : Int32))) fun z9 =>
    gL (gu2 I a0 8 z9) fun I10 =>
    some (I10, ph5.2)
    else
    gck (gin x3 32) (
    gL (gu2 J a2 (x3).toNatClampNeg (0 : Int64)) fun J29 =>
    p_X0_push_29 I a0 x1 a2 n J29 (x3 + (1 : Int32)))
def p_X0_push (I : gIt) (J : gJt) (a0 : Nat) (x1 : Int32) : Option (gIt × gJt) :=
  if (I a0 8) < 0 then
  some (I, J)
  else
  if (I a0 8) < (16 : Int32) then
  gck (gin (I a0 8) 16) (
  p_X0_push_29 I a0 x1 (a0 + 4 + ((I a0 8)).toNatClampNeg) gFu J (0 : Int32))
  else
  some (I, J)
set_option maxRecDepth 20000 in
theorem q_X0_push_29 {l : Launch} {v : (gIt × gJt)} {w : Bool} {I : gIt} {a0 : Nat} {x1 : Int32} {a2 : Nat} (ha0 : gisa a0) (ha2 : ∃ i, i < 16 ∧ a2 = a0 + 4 + i) : ∀ (n : Nat) (J : gJt) (x3 : Int32), p_X0_push_29 I a0 x1 a2 n J x3 = some v → G l gX0_push 2 0 0 (fun v' S' I' J' R' => v' = none ∧ S' = gS0 ∧ I' = v.1 ∧ J' = v.2 ∧ R' = gR0 w) 0 0 29 [some (.ref a0), some (.int x1), some (.ref a2), some (.int x3)] [] gS0 I J (gR0 w) := by
  intro n
  induction n with
  | zero => intro _ _ h; cases h
  | succ n ih =>
    intro J x3 h
    rw [p_X0_push_29] at h
    refine G_iload_n dX0_push_29 rfl rfl ?_
    refine G_bipush (v := 32) dX0_push_30 rfl ?_
    refine G_icmp_ge 45 dX0_push_32 (by decide) (fun c4 => ?_) (fun c4 => ?_)
    · replace h := git c4 h
      refine G_iload_n dX0_push_45 rfl rfl ?_
      refine G_iconst (v := -1) dX0_push_46 rfl ?_
      obtain ⟨ph5, t6, r7⟩ := gB_some h
      have jn8 : G l gX0_push 2 0 0 (fun v' S' I' J' R' => v' = none ∧ S' = gS0 ∧ I' = v.1 ∧ J' = v.2 ∧ R' = gR0 w) 0 0 100 [some (.ref a0), some (.int x1), some (.ref a2), some (.int ph5.1)] [] gS0 I ph5.2 (gR0 w) := by
        refine G_aload_n dX0_push_100 rfl rfl ?_
        refine G_dup dX0_push_101 rfl ?_
        refine G_getI fl_X0_96 (gisa_sl ha0) (gisa_sk ha0) rfl dX0_push_102 ?_
        refine G_iconst (v := 1) dX0_push_105 rfl ?_
        refine G_iadd dX0_push_106 ?_
        refine G_nI fun z9 ez9 => ?_
        replace r7 := gL_some ez9 r7
        refine G_putI fl_X0_96 (gisa_sl ha0) (gisa_sk ha0) rfl rfl ⟨rfl, rfl⟩ dX0_push_107 ?_
        refine G_mI fun I10 eI10 => ?_
        replace r7 := gL_some eI10 r7
        refine G_vret rfl (Nat.le_refl _) (Nat.le_refl _) dX0_push_110 ?_
        cases r7
        exact ⟨rfl, rfl, rfl, rfl, rfl⟩
      refine G_icmp_ne 57 dX0_push_47 (by decide) (fun c11 => ?_) (fun c11 => ?_)
      · replace t6 := gif c11 t6
        refine G_iload_n dX0_push_57 rfl rfl ?_
        refine G_if_lt 69 dX0_push_58 (by decide) (fun c12 => ?_) (fun c12 => ?_)
        · replace t6 := git c12 t6
          refine G_bipush (v := -2) dX0_push_69 rfl ?_
          refine G_iload_n dX0_push_71 rfl rfl ?_
          refine G_isub dX0_push_72 ?_
          refine G_nI fun z13 ez13 => ?_
          replace t6 := gL_some ez13 t6
          refine S_istore_n [some (.ref a0), some (.int x1), some (.ref a2), some (.int z13)] dX0_push_73 rfl (by decide) rfl ?_
          refine G_aload_n dX0_push_74 rfl rfl ?_
          refine G_iconst (v := 0) dX0_push_75 rfl ?_
          refine G_iload_n dX0_push_76 rfl rfl ?_
          obtain ⟨ph14, t15, r16⟩ := gB_some t6
          have jn17 : G l gX0_push 2 0 0 (fun v' S' I' J' R' => v' = none ∧ S' = gS0 ∧ I' = v.1 ∧ J' = v.2 ∧ R' = gR0 w) 0 0 99 [some (.ref a0), some (.int x1), some (.ref a2), some (.int z13)] [.long ph14, .int (0 : Int32), .ref a2] gS0 I J (gR0 w) := by
            obtain ⟨b18, r16⟩ := gck_some r16
            refine G_last (grow_l ha0 ha2) (grow_s ha0 ha2) (gin_in b18) dX0_push_99 ?_
            refine G_mJ fun J19 eJ19 => ?_
            replace r16 := gL_some eJ19 r16
            cases r16
            exact jn8
          refine G_if_lt 98 dX0_push_77 (by decide) (fun c20 => ?_) (fun c20 => ?_)
          · replace t15 := git c20 t15
            refine G_lconst (v := 0) dX0_push_98 rfl ?_
            cases t15
            exact jn17
          · replace t15 := gif c20 t15
            refine G_iload_n dX0_push_80 rfl rfl ?_
            refine G_aload_n dX0_push_81 rfl rfl ?_
            refine G_getR fl_X0_15 (gisa_sl ha0) (gisa_sk ha0) rfl (gisa_r1 _ ha0) dX0_push_82 ?_
            refine G_alen (gisa_l1 ha0) (gisa_s1 ha0) (by decide) (by decide) dX0_push_85 ?_
            refine G_icmp_ge 98 dX0_push_86 (by decide) (fun c21 => ?_) (fun c21 => ?_)
            · replace t15 := git c21 t15
              refine G_lconst (v := 0) dX0_push_98 rfl ?_
              cases t15
              exact jn17
            · replace t15 := gif c21 t15
              refine G_aload_n dX0_push_89 rfl rfl ?_
              refine G_getR fl_X0_15 (gisa_sl ha0) (gisa_sk ha0) rfl (gisa_r1 _ ha0) dX0_push_90 ?_
              refine G_iload_n dX0_push_93 rfl rfl ?_
              obtain ⟨b22, t15⟩ := gck_some t15
              refine G_lald (gisa_l1 ha0) (gisa_s1 ha0) (gin_in b22) dX0_push_94 ?_
              refine G_goto 99 dX0_push_95 (by decide) ?_
              cases t15
              exact jn17
        · replace t6 := gif c12 t6
          refine G_aload_n dX0_push_61 rfl rfl ?_
          refine G_iconst (v := 0) dX0_push_62 rfl ?_
          refine G_iload_n dX0_push_63 rfl rfl ?_
          refine G_i2l dX0_push_64 ?_
          refine G_nJ fun u23 eu23 => ?_
          replace t6 := gL_some eu23 t6
          obtain ⟨b24, t6⟩ := gck_some t6
          refine G_last (grow_l ha0 ha2) (grow_s ha0 ha2) (gin_in b24) dX0_push_65 ?_
          refine G_mJ fun J25 eJ25 => ?_
          replace t6 := gL_some eJ25 t6
          refine G_goto 100 dX0_push_66 (by decide) ?_
          cases t6
          exact jn8
      · replace t6 := git c11 t6
        refine G_aload_n dX0_push_50 rfl rfl ?_
        refine G_iconst (v := 1) dX0_push_51 rfl ?_
        refine G_lconst (v := 1) dX0_push_52 rfl ?_
        obtain ⟨b26, t6⟩ := gck_some t6
        refine G_last (grow_l ha0 ha2) (grow_s ha0 ha2) (gin_in b26) dX0_push_53 ?_
        refine G_mJ fun J27 eJ27 => ?_
        replace t6 := gL_some eJ27 t6
        refine G_goto 100 dX0_push_54 (by decide) ?_
        cases t6
        exact jn8
    · replace h := gif c4 h
      refine G_aload_n dX0_push_35 rfl rfl ?_
      refine G_iload_n dX0_push_36 rfl rfl ?_
      refine G_lconst (v := 0) dX0_push_37 rfl ?_
      obtain ⟨b28, h⟩ := gck_some h
      refine G_last (grow_l ha0 ha2) (grow_s ha0 ha2) (gin_in b28) dX0_push_38 ?_
      refine G_mJ fun J29 eJ29 => ?_
      replace h := gL_some eJ29 h
      refine S_iinc (v := (1 : Int32)) [some (.ref a0), some (.int x1), some (.ref a2), some (.int (x3 + (1 : Int32)))] dX0_push_39 rfl rfl (by decide) rfl ?_
      refine G_goto 29 dX0_push_42 (by decide) ?_
      exact ih _ _ h
set_option maxRecDepth 20000 in
theorem q_X0_push {l : Launch} {I : gIt} {J : gJt} {w : Bool} {a0 : Nat} {x1 : Int32} {v : (gIt × gJt)} (ha0 : gisa a0) (h : p_X0_push I J a0 x1 = some v) : Cn l gX0_push 2 0 0 [.ref a0, .int x1] gS0 I J (gR0 w) (fun v' S' I' J' R' => v' = none ∧ S' = gS0 ∧ I' = v.1 ∧ J' = v.2 ∧ R' = gR0 w) := by
  refine Cn.of [some (.ref a0), some (.int x1), none, none] (by decide) rfl (Nat.le_of_ble_eq_true rfl) ?_
  rw [p_X0_push] at h
  refine G_aload_n dX0_push_0 rfl rfl ?_
  refine G_getI fl_X0_96 (gisa_sl ha0) (gisa_sk ha0) rfl dX0_push_1 ?_
  refine G_if_lt 16 dX0_push_4 (by decide) (fun c1 => ?_) (fun c1 => ?_)
  · replace h := git c1 h
    refine G_vret rfl (Nat.le_refl _) (Nat.le_refl _) dX0_push_16 ?_
    cases h
    exact ⟨rfl, rfl, rfl, rfl, rfl⟩
  · replace h := gif c1 h
    refine G_aload_n dX0_push_7 rfl rfl ?_
    refine G_getI fl_X0_96 (gisa_sl ha0) (gisa_sk ha0) rfl dX0_push_8 ?_
    refine G_bipush (v := 16) dX0_push_11 rfl ?_
    refine G_icmp_lt 17 dX0_push_13 (by decide) (fun c2 => ?_) (fun c2 => ?_)
    · replace h := git c2 h
      refine G_aload_n dX0_push_17 rfl rfl ?_
      refine G_getR fl_X0_21 (gisa_sl ha0) (gisa_sk ha0) rfl (gisa_r2 _ ha0) dX0_push_18 ?_
      refine G_aload_n dX0_push_21 rfl rfl ?_
      refine G_getI fl_X0_96 (gisa_sl ha0) (gisa_sk ha0) rfl dX0_push_22 ?_
      obtain ⟨b3, h⟩ := gck_some h
      refine G_aaldJ (gisa_l2 ha0) (gisa_s2 ha0) (gin_in b3) (gisa_ar _ ha0 (gin_lt b3)) dX0_push_25 ?_
      refine S_astore_n [some (.ref a0), some (.int x1), some (.ref (a0 + 4 + ((I a0 8)).toNatClampNeg)), none] dX0_push_26 rfl (by decide) rfl ?_
      refine G_iconst (v := 0) dX0_push_27 rfl ?_
      refine S_istore_n [some (.ref a0), some (.int x1), some (.ref (a0 + 4 + ((I a0 8)).toNatClampNeg)), some (.int (0 : Int32))] dX0_push_28 rfl (by decide) rfl ?_
      exact q_X0_push_29  ha0 ⟨_, gin_lt b3, rfl⟩ gFu _ _ h
    · replace h := gif c2 h
      refine G_vret rfl (Nat.le_refl _) (Nat.le_refl _) dX0_push_16 ?_
      cases h
      exact ⟨rfl, rfl, rfl, rfl, rfl⟩
def p_X0_reduceSide_8 (a0 : Nat) (x1 : Int32) (x2 : Int32) (a3 : Nat) : Nat → gIt → gJt → Int32 → Option (gIt × gJt)
  | 0, _, _, _ => none
  | n + 1, I, J, x4 =>
    if x2 ≤ x4 then
    gck (gin (0 : Int32) 16) (
    gL (gcp J (a0 + 4 + ((0 : Int32)).toNatClampNeg) a3) fun J4 =>
    some (I, J4))
    else
    if (nI 60) ≤ x4 then
    gck (gin (0 : Int32) 16) (
    gL (gcp J (a0 + 4 + ((0 : Int32)).toNatClampNeg) a3) fun J7 =>
    some (I, J7))
    else
    gck (gin x4 60) (
    gL ((I ((a0 + 1)) (x4).toNatClampNeg)) fun z9 =>
    if z9 = (-6 : Int32) then
    if z9 = (-6 : Int32) then
    gB (p_X0_addTop I J a0 (1 : Int64)) fun r14 =>
    p_X0_reduceSide_8 a0 x1 x2 a3 n r14.1 r14.2 (x4 + (1 : Int32))
    else
    gB (p_X0_addTop I J a0 (-1 : Int64)) fun r12 =>
    p_X0_reduceSide_8 a0 x1 x2 a3 n r12.1 r12.2 (x4 + (1 : Int32))
    else
    if z9 = (-7 : Int32) then
    if z9 = (-6 : Int32) then
    gB (p_X0_addTop I J a0 (1 : Int64)) fun r25 =>
    p_X0_reduceSide_8 a0 x1 x2 a3 n r25.1 r25.2 (x4 + (1 : Int32))
    else
    gB (p_X0_addTop I J a0 (-1 : Int64)) fun r23 =>
    p_X0_reduceSide_8 a0 x1 x2 a3 n r23.1 r23.2 (x4 + (1 : Int32))
    else
    if z9 = (-8 : Int32) then
    gB (p_X0_multiplyTop I J a0) fun r20 =>
    p_X0_reduceSide_8 a0 x1 x2 a3 n r20.1 r20.2 (x4 + (1 : Int32))
    else
    gB (p_X0_push I J a0 z9) fun r18 =>
    p_X0_reduceSide_8 a0 x1 x2 a3 n r18.1 r18.2 (x4 + (1 : Int32)))
def p_X0_reduceSide (I : gIt) (J : gJt) (a0 : Nat) (x1 : Int32) (x2 : Int32) (a3 : Nat) : Option (gIt × gJt) :=
  gL (gu2 I a0 8 (0 : Int32)) fun I1 =>
  p_X0_reduceSide_8 a0 x1 x2 a3 gFu I1 J x1
set_option maxRecDepth 20000 in
theorem q_X0_reduceSide_8 {l : Launch} {v : (gIt × gJt)} {w : Bool} {a0 : Nat} {x1 : Int32} {x2 : Int32} {a3 : Nat} (ha0 : gisa a0) (ha3 : a3 = a0 + 21 ∨ a3 = a0 + 22) : ∀ (n : Nat) (I : gIt) (J : gJt) (x4 : Int32), p_X0_reduceSide_8 a0 x1 x2 a3 n I J x4 = some v → G l gX0_reduceSide 4 0 0 (fun v' S' I' J' R' => v' = none ∧ S' = gS0 ∧ I' = v.1 ∧ J' = v.2 ∧ R' = gR0 w) 0 0 8 [some (.ref a0), some (.int x1), some (.int x2), some (.ref a3), some (.int x4), none] [] gS0 I J (gR0 w) := by
  intro n
  induction n with
  | zero => intro _ _ _ h; cases h
  | succ n ih =>
    intro I J x4 h
    rw [p_X0_reduceSide_8] at h
    refine G_iload dX0_reduceSide_8 rfl ?_
    refine G_iload_n dX0_reduceSide_10 rfl rfl ?_
    refine G_icmp_ge 94 dX0_reduceSide_11 (by decide) (fun c2 => ?_) (fun c2 => ?_)
    · replace h := git c2 h
      refine G_aload_n dX0_reduceSide_94 rfl rfl ?_
      refine G_getR fl_X0_21 (gisa_sl ha0) (gisa_sk ha0) rfl (gisa_r2 _ ha0) dX0_reduceSide_95 ?_
      refine G_iconst (v := 0) dX0_reduceSide_98 rfl ?_
      obtain ⟨b3, h⟩ := gck_some h
      refine G_aaldJ (gisa_l2 ha0) (gisa_s2 ha0) (gin_in b3) (gisa_ar _ ha0 (gin_lt b3)) dX0_reduceSide_99 ?_
      refine G_iconst (v := 0) dX0_reduceSide_100 rfl ?_
      refine G_aload_n dX0_reduceSide_101 rfl rfl ?_
      refine G_iconst (v := 0) dX0_reduceSide_102 rfl ?_
      refine G_bipush (v := 32) dX0_reduceSide_103 rfl ?_
      refine G_copyJ ml_X0_111 (gisa_al ha0 (gin_lt b3)) (gisa_as ha0 (gin_lt b3)) (gside_l ha0 ha3) (gside_s ha0 ha3) (by decide) (by decide) (Nat.le_of_ble_eq_true rfl) dX0_reduceSide_105 ?_
      refine G_mJ fun J4 eJ4 => ?_
      replace h := gL_some eJ4 h
      refine G_vret rfl (Nat.le_refl _) (Nat.le_refl _) dX0_reduceSide_108 ?_
      cases h
      exact ⟨rfl, rfl, rfl, rfl, rfl⟩
    · replace h := gif c2 h
      refine G_iload dX0_reduceSide_14 rfl ?_
      refine G_aload_n dX0_reduceSide_16 rfl rfl ?_
      refine G_getR fl_X0_9 (gisa_sl ha0) (gisa_sk ha0) rfl (gisa_r0 _ ha0) dX0_reduceSide_17 ?_
      refine G_alen (gisa_l0 ha0) (gisa_s0 ha0) (by decide) (by decide) dX0_reduceSide_20 ?_
      refine G_icmp_ge 94 dX0_reduceSide_21 (by decide) (fun c5 => ?_) (fun c5 => ?_)
      · replace h := git c5 h
        refine G_aload_n dX0_reduceSide_94 rfl rfl ?_
        refine G_getR fl_X0_21 (gisa_sl ha0) (gisa_sk ha0) rfl (gisa_r2 _ ha0) dX0_reduceSide_95 ?_
        refine G_iconst (v := 0) dX0_reduceSide_98 rfl ?_
        obtain ⟨b6, h⟩ := gck_some h
        refine G_aaldJ (gisa_l2 ha0) (gisa_s2 ha0) (gin_in b6) (gisa_ar _ ha0 (gin_lt b6)) dX0_reduceSide_99 ?_
        refine G_iconst (v := 0) dX0_reduceSide_100 rfl ?_
        refine G_aload_n dX0_reduceSide_101 rfl rfl ?_
        refine G_iconst (v := 0) dX0_reduceSide_102 rfl ?_
        refine G_bipush (v := 32) dX0_reduceSide_103 rfl ?_
        refine G_copyJ ml_X0_111 (gisa_al ha0 (gin_lt b6)) (gisa_as ha0 (gin_lt b6)) (gside_l ha0 ha3) (gside_s ha0 ha3) (by decide) (by decide) (Nat.le_of_ble_eq_true rfl) dX0_reduceSide_105 ?_
        refine G_mJ fun J7 eJ7 => ?_
        replace h := gL_some eJ7 h
        refine G_vret rfl (Nat.le_refl _) (Nat.le_refl _) dX0_reduceSide_108 ?_
        cases h
        exact ⟨rfl, rfl, rfl, rfl, rfl⟩
      · replace h := gif c5 h
        refine G_aload_n dX0_reduceSide_24 rfl rfl ?_
        refine G_getR fl_X0_9 (gisa_sl ha0) (gisa_sk ha0) rfl (gisa_r0 _ ha0) dX0_reduceSide_25 ?_
        refine G_iload dX0_reduceSide_28 rfl ?_
        obtain ⟨b8, h⟩ := gck_some h
        refine G_iald (gisa_l0 ha0) (gisa_s0 ha0) (gin_in b8) dX0_reduceSide_30 ?_
        refine G_nI fun z9 ez9 => ?_
        replace h := gL_some ez9 h
        refine S_istore [some (.ref a0), some (.int x1), some (.int x2), some (.ref a3), some (.int x4), some (.int z9)] dX0_reduceSide_31 (by decide) rfl ?_
        refine G_iload dX0_reduceSide_33 rfl ?_
        refine G_bipush (v := -6) dX0_reduceSide_35 rfl ?_
        refine G_icmp_eq 47 dX0_reduceSide_37 (by decide) (fun c10 => ?_) (fun c10 => ?_)
        · replace h := git c10 h
          refine G_aload_n dX0_reduceSide_47 rfl rfl ?_
          refine G_iload dX0_reduceSide_48 rfl ?_
          refine G_bipush (v := -6) dX0_reduceSide_50 rfl ?_
          refine G_icmp_ne 59 dX0_reduceSide_52 (by decide) (fun c11 => ?_) (fun c11 => ?_)
          · replace h := gif c11 h
            refine G_ldc2 dX0_reduceSide_59 kc_X0_99 ?_
            obtain ⟨r12, hr13, h⟩ := gB_some h
            refine G_cV (mj := gX0_addTop) (As := [.long (-1 : Int64)]) (rest := []) ml_X0_101 vX0_addTop (gisa_sl ha0) (gisa_sk ha0) (by decide) rfl rfl rfl (Nat.le_of_ble_eq_true rfl) (by decide) (Nat.le_refl _) (Nat.le_refl _) dX0_reduceSide_62 (q_X0_addTop ha0 hr13) ?_
            refine G_goto 88 dX0_reduceSide_65 (by decide) ?_
            refine S_iinc (v := (1 : Int32)) [some (.ref a0), some (.int x1), some (.int x2), some (.ref a3), some (.int (x4 + (1 : Int32))), some (.int z9)] dX0_reduceSide_88 rfl rfl (by decide) rfl ?_
            refine G_goto 8 dX0_reduceSide_91 (by decide) ?_
            refine G_sub [some (.ref a0), some (.int x1), some (.int x2), some (.ref a3), some (.int (x4 + (1 : Int32))), none] ⟨rfl, rfl, rfl, rfl, rfl, trivial⟩ ?_
            exact ih _ _ _ h
          · replace h := git c11 h
            refine G_lconst (v := 1) dX0_reduceSide_55 rfl ?_
            refine G_goto 62 dX0_reduceSide_56 (by decide) ?_
            obtain ⟨r14, hr15, h⟩ := gB_some h
            refine G_cV (mj := gX0_addTop) (As := [.long (1 : Int64)]) (rest := []) ml_X0_101 vX0_addTop (gisa_sl ha0) (gisa_sk ha0) (by decide) rfl rfl rfl (Nat.le_of_ble_eq_true rfl) (by decide) (Nat.le_refl _) (Nat.le_refl _) dX0_reduceSide_62 (q_X0_addTop ha0 hr15) ?_
            refine G_goto 88 dX0_reduceSide_65 (by decide) ?_
            refine S_iinc (v := (1 : Int32)) [some (.ref a0), some (.int x1), some (.int x2), some (.ref a3), some (.int (x4 + (1 : Int32))), some (.int z9)] dX0_reduceSide_88 rfl rfl (by decide) rfl ?_
            refine G_goto 8 dX0_reduceSide_91 (by decide) ?_
            refine G_sub [some (.ref a0), some (.int x1), some (.int x2), some (.ref a3), some (.int (x4 + (1 : Int32))), none] ⟨rfl, rfl, rfl, rfl, rfl, trivial⟩ ?_
            exact ih _ _ _ h
        · replace h := gif c10 h
          refine G_iload dX0_reduceSide_40 rfl ?_
          refine G_bipush (v := -7) dX0_reduceSide_42 rfl ?_
          refine G_icmp_ne 68 dX0_reduceSide_44 (by decide) (fun c16 => ?_) (fun c16 => ?_)
          · replace h := gif c16 h
            refine G_iload dX0_reduceSide_68 rfl ?_
            refine G_bipush (v := -8) dX0_reduceSide_70 rfl ?_
            refine G_icmp_ne 82 dX0_reduceSide_72 (by decide) (fun c17 => ?_) (fun c17 => ?_)
            · replace h := gif c17 h
              refine G_aload_n dX0_reduceSide_82 rfl rfl ?_
              refine G_iload dX0_reduceSide_83 rfl ?_
              obtain ⟨r18, hr19, h⟩ := gB_some h
              refine G_cV (mj := gX0_push) (As := [.int z9]) (rest := []) ml_X0_108 vX0_push (gisa_sl ha0) (gisa_sk ha0) (by decide) rfl rfl rfl (Nat.le_of_ble_eq_true rfl) (by decide) (Nat.le_refl _) (Nat.le_refl _) dX0_reduceSide_85 (q_X0_push ha0 hr19) ?_
              refine S_iinc (v := (1 : Int32)) [some (.ref a0), some (.int x1), some (.int x2), some (.ref a3), some (.int (x4 + (1 : Int32))), some (.int z9)] dX0_reduceSide_88 rfl rfl (by decide) rfl ?_
              refine G_goto 8 dX0_reduceSide_91 (by decide) ?_
              refine G_sub [some (.ref a0), some (.int x1), some (.int x2), some (.ref a3), some (.int (x4 + (1 : Int32))), none] ⟨rfl, rfl, rfl, rfl, rfl, trivial⟩ ?_
              exact ih _ _ _ h
            · replace h := git c17 h
              refine G_aload_n dX0_reduceSide_75 rfl rfl ?_
              obtain ⟨r20, hr21, h⟩ := gB_some h
              refine G_cV (mj := gX0_multiplyTop) (As := []) (rest := []) ml_X0_105 vX0_multiplyTop (gisa_sl ha0) (gisa_sk ha0) (by decide) rfl rfl rfl (Nat.le_of_ble_eq_true rfl) (by decide) (Nat.le_refl _) (Nat.le_refl _) dX0_reduceSide_76 (q_X0_multiplyTop ha0 hr21) ?_
              refine G_goto 88 dX0_reduceSide_79 (by decide) ?_
              refine S_iinc (v := (1 : Int32)) [some (.ref a0), some (.int x1), some (.int x2), some (.ref a3), some (.int (x4 + (1 : Int32))), some (.int z9)] dX0_reduceSide_88 rfl rfl (by decide) rfl ?_
              refine G_goto 8 dX0_reduceSide_91 (by decide) ?_
              refine G_sub [some (.ref a0), some (.int x1), some (.int x2), some (.ref a3), some (.int (x4 + (1 : Int32))), none] ⟨rfl, rfl, rfl, rfl, rfl, trivial⟩ ?_
              exact ih _ _ _ h
          · replace h := git c16 h
            refine G_aload_n dX0_reduceSide_47 rfl rfl ?_
            refine G_iload dX0_reduceSide_48 rfl ?_
            refine G_bipush (v := -6) dX0_reduceSide_50 rfl ?_
            refine G_icmp_ne 59 dX0_reduceSide_52 (by decide) (fun c22 => ?_) (fun c22 => ?_)
            · replace h := gif c22 h
              refine G_ldc2 dX0_reduceSide_59 kc_X0_99 ?_
              obtain ⟨r23, hr24, h⟩ := gB_some h
              refine G_cV (mj := gX0_addTop) (As := [.long (-1 : Int64)]) (rest := []) ml_X0_101 vX0_addTop (gisa_sl ha0) (gisa_sk ha0) (by decide) rfl rfl rfl (Nat.le_of_ble_eq_true rfl) (by decide) (Nat.le_refl _) (Nat.le_refl _) dX0_reduceSide_62 (q_X0_addTop ha0 hr24) ?_
              refine G_goto 88 dX0_reduceSide_65 (by decide) ?_
              refine S_iinc (v := (1 : Int32)) [some (.ref a0), some (.int x1), some (.int x2), some (.ref a3), some (.int (x4 + (1 : Int32))), some (.int z9)] dX0_reduceSide_88 rfl rfl (by decide) rfl ?_
              refine G_goto 8 dX0_reduceSide_91 (by decide) ?_
              refine G_sub [some (.ref a0), some (.int x1), some (.int x2), some (.ref a3), some (.int (x4 + (1 : Int32))), none] ⟨rfl, rfl, rfl, rfl, rfl, trivial⟩ ?_
              exact ih _ _ _ h
            · replace h := git c22 h
              refine G_lconst (v := 1) dX0_reduceSide_55 rfl ?_
              refine G_goto 62 dX0_reduceSide_56 (by decide) ?_
              obtain ⟨r25, hr26, h⟩ := gB_some h
              refine G_cV (mj := gX0_addTop) (As := [.long (1 : Int64)]) (rest := []) ml_X0_101 vX0_addTop (gisa_sl ha0) (gisa_sk ha0) (by decide) rfl rfl rfl (Nat.le_of_ble_eq_true rfl) (by decide) (Nat.le_refl _) (Nat.le_refl _) dX0_reduceSide_62 (q_X0_addTop ha0 hr26) ?_
              refine G_goto 88 dX0_reduceSide_65 (by decide) ?_
              refine S_iinc (v := (1 : Int32)) [some (.ref a0), some (.int x1), some (.int x2), some (.ref a3), some (.int (x4 + (1 : Int32))), some (.int z9)] dX0_reduceSide_88 rfl rfl (by decide) rfl ?_
              refine G_goto 8 dX0_reduceSide_91 (by decide) ?_
              refine G_sub [some (.ref a0), some (.int x1), some (.int x2), some (.ref a3), some (.int (x4 + (1 : Int32))), none] ⟨rfl, rfl, rfl, rfl, rfl, trivial⟩ ?_
              exact ih _ _ _ h
set_option maxRecDepth 20000 in
theorem q_X0_reduceSide {l : Launch} {I : gIt} {J : gJt} {w : Bool} {a0 : Nat} {x1 : Int32} {x2 : Int32} {a3 : Nat} {v : (gIt × gJt)} (ha0 : gisa a0) (ha3 : a3 = a0 + 21 ∨ a3 = a0 + 22) (h : p_X0_reduceSide I J a0 x1 x2 a3 = some v) : Cn l gX0_reduceSide 4 0 0 [.ref a0, .int x1, .int x2, .ref a3] gS0 I J (gR0 w) (fun v' S' I' J' R' => v' = none ∧ S' = gS0 ∧ I' = v.1 ∧ J' = v.2 ∧ R' = gR0 w) := by
  refine Cn.of [some (.ref a0), some (.int x1), some (.int x2), some (.ref a3), none, none] (by decide) rfl (Nat.le_of_ble_eq_true rfl) ?_
  rw [p_X0_reduceSide] at h
  refine G_aload_n dX0_reduceSide_0 rfl rfl ?_
  refine G_iconst (v := 0) dX0_reduceSide_1 rfl ?_
  refine G_putI fl_X0_96 (gisa_sl ha0) (gisa_sk ha0) rfl rfl ⟨rfl, rfl⟩ dX0_reduceSide_2 ?_
  refine G_mI fun I1 eI1 => ?_
  replace h := gL_some eI1 h
  refine G_iload_n dX0_reduceSide_5 rfl rfl ?_
  refine S_istore [some (.ref a0), some (.int x1), some (.int x2), some (.ref a3), some (.int x1), none] dX0_reduceSide_6 (by decide) rfl ?_
  exact q_X0_reduceSide_8  ha0 ha3 gFu _ _ _ h
def p_X0_reduce_67 (J : gJt) (a0 : Nat) (y1 : Int64) (y3 : Int64) (y5 : Int64) (y7 : Int64) : Nat → gIt → Int32 → Option (gIt × gJt)
  | 0, _, _ => none
  | n + 1, I, x9 =>
    if (32 : Int32) ≤ x9 then
    some (I, J)
    else
    gck (gin x9 32) (
    if (lg_cmp (J ((a0 + 21)) (x9).toNatClampNeg) (0 : Int64)) = 0 then
    gck (gin x9 32) (
    if (lg_cmp (J ((a0 + 22)) (x9).toNatClampNeg) (0 : Int64)) = 0 then
    p_X0_reduce_67 J a0 y1 y3 y5 y7 n I (x9 + (1 : Int32))
    else
    gL (gu2 I a0 9 x9) fun I20 =>
    p_X0_reduce_67 J a0 y1 y3 y5 y7 n I20 (x9 + (1 : Int32)))
    else
    gL (gu2 I a0 9 x9) fun I17 =>
    p_X0_reduce_67 J a0 y1 y3 y5 y7 n I17 (x9 + (1 : Int32)))
def p_X0_reduce (I : gIt) (J : gJt) (a0 : Nat) (y1 : Int64) (y3 : Int64) (y5 : Int64) (y7 : Int64) : Option (gIt × gJt) :=
  gck (gin (0 : Int32) 4) (
  gL (gu2 J ((a0 + 2)) ((0 : Int32)).toNatClampNeg y1) fun J2 =>
  gck (gin (1 : Int32) 4) (
  gL (gu2 J2 ((a0 + 2)) ((1 : Int32)).toNatClampNeg y3) fun J4 =>
  gck (gin (2 : Int32) 4) (
  gL (gu2 J4 ((a0 + 2)) ((2 : Int32)).toNatClampNeg y5) fun J6 =>
  gck (gin (3 : Int32) 4) (
  gL (gu2 J6 ((a0 + 2)) ((3 : Int32)).toNatClampNeg y7) fun J8 =>
  gB (p_X0_reduceSide I J8 a0 (0 : Int32) (I a0 7) (a0 + 21)) fun r9 =>
  gB (p_X0_reduceSide r9.1 r9.2 a0 (r9.1 a0 7) (r9.1 a0 6) (a0 + 22)) fun r11 =>
  gL (gu2 r11.1 a0 9 (0 : Int32)) fun I13 =>
  p_X0_reduce_67 r11.2 a0 y1 y3 y5 y7 gFu I13 (0 : Int32)))))
set_option maxRecDepth 20000 in
theorem q_X0_reduce_67 {l : Launch} {v : (gIt × gJt)} {w : Bool} {J : gJt} {a0 : Nat} {y1 : Int64} {y3 : Int64} {y5 : Int64} {y7 : Int64} (ha0 : gisa a0) : ∀ (n : Nat) (I : gIt) (x9 : Int32), p_X0_reduce_67 J a0 y1 y3 y5 y7 n I x9 = some v → G l gX0_reduce 5 0 0 (fun v' S' I' J' R' => v' = none ∧ S' = gS0 ∧ I' = v.1 ∧ J' = v.2 ∧ R' = gR0 w) 0 0 67 [some (.ref a0), some (.long y1), none, some (.long y3), none, some (.long y5), none, some (.long y7), none, some (.int x9)] [] gS0 I J (gR0 w) := by
  intro n
  induction n with
  | zero => intro _ _ h; cases h
  | succ n ih =>
    intro I x9 h
    rw [p_X0_reduce_67] at h
    refine G_iload dX0_reduce_67 rfl ?_
    refine G_bipush (v := 32) dX0_reduce_69 rfl ?_
    refine G_icmp_ge 110 dX0_reduce_71 (by decide) (fun c14 => ?_) (fun c14 => ?_)
    · replace h := git c14 h
      refine G_vret rfl (Nat.le_refl _) (Nat.le_refl _) dX0_reduce_110 ?_
      cases h
      exact ⟨rfl, rfl, rfl, rfl, rfl⟩
    · replace h := gif c14 h
      refine G_aload_n dX0_reduce_74 rfl rfl ?_
      refine G_getR fl_X0_27 (gisa_sl ha0) (gisa_sk ha0) rfl (gisa_r4 _ ha0) dX0_reduce_75 ?_
      refine G_iload dX0_reduce_78 rfl ?_
      obtain ⟨b15, h⟩ := gck_some h
      refine G_lald (gisa_l4 ha0) (gisa_s4 ha0) (gin_in b15) dX0_reduce_80 ?_
      refine G_lconst (v := 0) dX0_reduce_81 rfl ?_
      refine G_lcmp dX0_reduce_82 ?_
      refine G_if_ne 98 dX0_reduce_83 (by decide) (fun c16 => ?_) (fun c16 => ?_)
      · replace h := gif c16 h
        refine G_aload_n dX0_reduce_98 rfl rfl ?_
        refine G_iload dX0_reduce_99 rfl ?_
        refine G_putI fl_X0_93 (gisa_sl ha0) (gisa_sk ha0) rfl rfl ⟨rfl, rfl⟩ dX0_reduce_101 ?_
        refine G_mI fun I17 eI17 => ?_
        replace h := gL_some eI17 h
        refine S_iinc (v := (1 : Int32)) [some (.ref a0), some (.long y1), none, some (.long y3), none, some (.long y5), none, some (.long y7), none, some (.int (x9 + (1 : Int32)))] dX0_reduce_104 rfl rfl (by decide) rfl ?_
        refine G_goto 67 dX0_reduce_107 (by decide) ?_
        exact ih _ _ h
      · replace h := git c16 h
        refine G_aload_n dX0_reduce_86 rfl rfl ?_
        refine G_getR fl_X0_30 (gisa_sl ha0) (gisa_sk ha0) rfl (gisa_r5 _ ha0) dX0_reduce_87 ?_
        refine G_iload dX0_reduce_90 rfl ?_
        obtain ⟨b18, h⟩ := gck_some h
        refine G_lald (gisa_l5 ha0) (gisa_s5 ha0) (gin_in b18) dX0_reduce_92 ?_
        refine G_lconst (v := 0) dX0_reduce_93 rfl ?_
        refine G_lcmp dX0_reduce_94 ?_
        refine G_if_eq 104 dX0_reduce_95 (by decide) (fun c19 => ?_) (fun c19 => ?_)
        · replace h := git c19 h
          refine S_iinc (v := (1 : Int32)) [some (.ref a0), some (.long y1), none, some (.long y3), none, some (.long y5), none, some (.long y7), none, some (.int (x9 + (1 : Int32)))] dX0_reduce_104 rfl rfl (by decide) rfl ?_
          refine G_goto 67 dX0_reduce_107 (by decide) ?_
          exact ih _ _ h
        · replace h := gif c19 h
          refine G_aload_n dX0_reduce_98 rfl rfl ?_
          refine G_iload dX0_reduce_99 rfl ?_
          refine G_putI fl_X0_93 (gisa_sl ha0) (gisa_sk ha0) rfl rfl ⟨rfl, rfl⟩ dX0_reduce_101 ?_
          refine G_mI fun I20 eI20 => ?_
          replace h := gL_some eI20 h
          refine S_iinc (v := (1 : Int32)) [some (.ref a0), some (.long y1), none, some (.long y3), none, some (.long y5), none, some (.long y7), none, some (.int (x9 + (1 : Int32)))] dX0_reduce_104 rfl rfl (by decide) rfl ?_
          refine G_goto 67 dX0_reduce_107 (by decide) ?_
          exact ih _ _ h
set_option maxRecDepth 20000 in
theorem q_X0_reduce {l : Launch} {I : gIt} {J : gJt} {w : Bool} {a0 : Nat} {y1 : Int64} {y3 : Int64} {y5 : Int64} {y7 : Int64} {v : (gIt × gJt)} (ha0 : gisa a0) (h : p_X0_reduce I J a0 y1 y3 y5 y7 = some v) : Cn l gX0_reduce 5 0 0 [.ref a0, .long y1, .long y3, .long y5, .long y7] gS0 I J (gR0 w) (fun v' S' I' J' R' => v' = none ∧ S' = gS0 ∧ I' = v.1 ∧ J' = v.2 ∧ R' = gR0 w) := by
  refine Cn.of [some (.ref a0), some (.long y1), none, some (.long y3), none, some (.long y5), none, some (.long y7), none, none] (by decide) rfl (Nat.le_of_ble_eq_true rfl) ?_
  rw [p_X0_reduce] at h
  refine G_aload_n dX0_reduce_0 rfl rfl ?_
  refine G_getR fl_X0_15 (gisa_sl ha0) (gisa_sk ha0) rfl (gisa_r1 _ ha0) dX0_reduce_1 ?_
  refine G_iconst (v := 0) dX0_reduce_4 rfl ?_
  refine G_lload_n dX0_reduce_5 rfl rfl ?_
  obtain ⟨b1, h⟩ := gck_some h
  refine G_last (gisa_l1 ha0) (gisa_s1 ha0) (gin_in b1) dX0_reduce_6 ?_
  refine G_mJ fun J2 eJ2 => ?_
  replace h := gL_some eJ2 h
  refine G_aload_n dX0_reduce_7 rfl rfl ?_
  refine G_getR fl_X0_15 (gisa_sl ha0) (gisa_sk ha0) rfl (gisa_r1 _ ha0) dX0_reduce_8 ?_
  refine G_iconst (v := 1) dX0_reduce_11 rfl ?_
  refine G_lload_n dX0_reduce_12 rfl rfl ?_
  obtain ⟨b3, h⟩ := gck_some h
  refine G_last (gisa_l1 ha0) (gisa_s1 ha0) (gin_in b3) dX0_reduce_13 ?_
  refine G_mJ fun J4 eJ4 => ?_
  replace h := gL_some eJ4 h
  refine G_aload_n dX0_reduce_14 rfl rfl ?_
  refine G_getR fl_X0_15 (gisa_sl ha0) (gisa_sk ha0) rfl (gisa_r1 _ ha0) dX0_reduce_15 ?_
  refine G_iconst (v := 2) dX0_reduce_18 rfl ?_
  refine G_lload dX0_reduce_19 rfl ?_
  obtain ⟨b5, h⟩ := gck_some h
  refine G_last (gisa_l1 ha0) (gisa_s1 ha0) (gin_in b5) dX0_reduce_21 ?_
  refine G_mJ fun J6 eJ6 => ?_
  replace h := gL_some eJ6 h
  refine G_aload_n dX0_reduce_22 rfl rfl ?_
  refine G_getR fl_X0_15 (gisa_sl ha0) (gisa_sk ha0) rfl (gisa_r1 _ ha0) dX0_reduce_23 ?_
  refine G_iconst (v := 3) dX0_reduce_26 rfl ?_
  refine G_lload dX0_reduce_27 rfl ?_
  obtain ⟨b7, h⟩ := gck_some h
  refine G_last (gisa_l1 ha0) (gisa_s1 ha0) (gin_in b7) dX0_reduce_29 ?_
  refine G_mJ fun J8 eJ8 => ?_
  replace h := gL_some eJ8 h
  refine G_aload_n dX0_reduce_30 rfl rfl ?_
  refine G_iconst (v := 0) dX0_reduce_31 rfl ?_
  refine G_aload_n dX0_reduce_32 rfl rfl ?_
  refine G_getI fl_X0_41 (gisa_sl ha0) (gisa_sk ha0) rfl dX0_reduce_33 ?_
  refine G_aload_n dX0_reduce_36 rfl rfl ?_
  refine G_getR fl_X0_27 (gisa_sl ha0) (gisa_sk ha0) rfl (gisa_r4 _ ha0) dX0_reduce_37 ?_
  obtain ⟨r9, hr10, h⟩ := gB_some h
  refine G_cV (mj := gX0_reduceSide) (As := [.int (0 : Int32), .int (I a0 7), .ref (a0 + 21)]) (rest := []) ml_X0_89 vX0_reduceSide (gisa_sl ha0) (gisa_sk ha0) (by decide) rfl rfl rfl (Nat.le_of_ble_eq_true rfl) (by decide) (Nat.le_refl _) (Nat.le_refl _) dX0_reduce_40 (q_X0_reduceSide ha0 (Or.inl rfl) hr10) ?_
  refine G_aload_n dX0_reduce_43 rfl rfl ?_
  refine G_aload_n dX0_reduce_44 rfl rfl ?_
  refine G_getI fl_X0_41 (gisa_sl ha0) (gisa_sk ha0) rfl dX0_reduce_45 ?_
  refine G_aload_n dX0_reduce_48 rfl rfl ?_
  refine G_getI fl_X0_33 (gisa_sl ha0) (gisa_sk ha0) rfl dX0_reduce_49 ?_
  refine G_aload_n dX0_reduce_52 rfl rfl ?_
  refine G_getR fl_X0_30 (gisa_sl ha0) (gisa_sk ha0) rfl (gisa_r5 _ ha0) dX0_reduce_53 ?_
  obtain ⟨r11, hr12, h⟩ := gB_some h
  refine G_cV (mj := gX0_reduceSide) (As := [.int (r9.1 a0 7), .int (r9.1 a0 6), .ref (a0 + 22)]) (rest := []) ml_X0_89 vX0_reduceSide (gisa_sl ha0) (gisa_sk ha0) (by decide) rfl rfl rfl (Nat.le_of_ble_eq_true rfl) (by decide) (Nat.le_refl _) (Nat.le_refl _) dX0_reduce_56 (q_X0_reduceSide ha0 (Or.inr rfl) hr12) ?_
  refine G_aload_n dX0_reduce_59 rfl rfl ?_
  refine G_iconst (v := 0) dX0_reduce_60 rfl ?_
  refine G_putI fl_X0_93 (gisa_sl ha0) (gisa_sk ha0) rfl rfl ⟨rfl, rfl⟩ dX0_reduce_61 ?_
  refine G_mI fun I13 eI13 => ?_
  replace h := gL_some eI13 h
  refine G_iconst (v := 0) dX0_reduce_64 rfl ?_
  refine S_istore [some (.ref a0), some (.long y1), none, some (.long y3), none, some (.long y5), none, some (.long y7), none, some (.int (0 : Int32))] dX0_reduce_65 (by decide) rfl ?_
  exact q_X0_reduce_67  ha0 gFu _ _ h
def p_X0_condemns_16 (I : gIt) (J : gJt) (a0 : Nat) (y1 : Int64) : Nat → Int64 → Int64 → Int32 → Option Int32
  | 0, _, _, _ => none
  | n + 1, y3, y5, x7 =>
    if x7 < 0 then
    if (I a0 10) = 0 then
    if (lg_cmp y3 y5) ≤ 0 then
    some (0 : Int32)
    else
    some (1 : Int32)
    else
    if 0 ≤ (lg_cmp y3 y5) then
    some (0 : Int32)
    else
    some (1 : Int32)
    else
    gck (gin x7 32) (
    gL (((y3 * y1) + (J ((a0 + 21)) (x7).toNatClampNeg))) fun u7 =>
    gck (gin x7 32) (
    gL (((y5 * y1) + (J ((a0 + 22)) (x7).toNatClampNeg))) fun u9 =>
    p_X0_condemns_16 I J a0 y1 n u7 u9 (x7 + (-1 : Int32))))
def p_X0_condemns (I : gIt) (J : gJt) (a0 : Nat) (y1 : Int64) : Option Int32 :=
  gL ((gmin (I a0 9) (31 : Int32))) fun z1 =>
  p_X0_condemns_16 I J a0 y1 gFu (0 : Int64) (0 : Int64) z1
set_option maxRecDepth 20000 in
theorem q_X0_condemns_16 {l : Launch} {v : Int32} {w : Bool} {I : gIt} {J : gJt} {a0 : Nat} {y1 : Int64} (ha0 : gisa a0) : ∀ (n : Nat) (y3 : Int64) (y5 : Int64) (x7 : Int32), p_X0_condemns_16 I J a0 y1 n y3 y5 x7 = some v → G l gX0_condemns 3 0 0 (fun v' S' I' J' R' => v' = some (.int v) ∧ S' = gS0 ∧ I' = I ∧ J' = J ∧ R' = gR0 w) 0 0 16 [some (.ref a0), some (.long y1), none, some (.long y3), none, some (.long y5), none, some (.int x7)] [] gS0 I J (gR0 w) := by
  intro n
  induction n with
  | zero => intro _ _ _ h; cases h
  | succ n ih =>
    intro y3 y5 x7 h
    rw [p_X0_condemns_16] at h
    refine G_iload dX0_condemns_16 rfl ?_
    refine G_if_lt 53 dX0_condemns_18 (by decide) (fun c2 => ?_) (fun c2 => ?_)
    · replace h := git c2 h
      refine G_aload_n dX0_condemns_53 rfl rfl ?_
      refine G_getI fl_X0_50 (gisa_sl ha0) (gisa_sk ha0) rfl dX0_condemns_54 ?_
      refine G_if_eq 75 dX0_condemns_57 (by decide) (fun c3 => ?_) (fun c3 => ?_)
      · replace h := git c3 h
        refine G_lload_n dX0_condemns_75 rfl rfl ?_
        refine G_lload dX0_condemns_76 rfl ?_
        refine G_lcmp dX0_condemns_78 ?_
        refine G_if_le 86 dX0_condemns_79 (by decide) (fun c4 => ?_) (fun c4 => ?_)
        · replace h := git c4 h
          refine G_iconst (v := 0) dX0_condemns_86 rfl ?_
          refine G_zret rfl (Or.inl rfl) (Nat.le_refl _) (Nat.le_refl _) dX0_condemns_87 ?_
          cases h
          exact ⟨rfl, rfl, rfl, rfl, rfl⟩
        · replace h := gif c4 h
          refine G_iconst (v := 1) dX0_condemns_82 rfl ?_
          refine G_goto 87 dX0_condemns_83 (by decide) ?_
          refine G_zret rfl (Or.inr rfl) (Nat.le_refl _) (Nat.le_refl _) dX0_condemns_87 ?_
          cases h
          exact ⟨rfl, rfl, rfl, rfl, rfl⟩
      · replace h := gif c3 h
        refine G_lload_n dX0_condemns_60 rfl rfl ?_
        refine G_lload dX0_condemns_61 rfl ?_
        refine G_lcmp dX0_condemns_63 ?_
        refine G_if_ge 71 dX0_condemns_64 (by decide) (fun c5 => ?_) (fun c5 => ?_)
        · replace h := git c5 h
          refine G_iconst (v := 0) dX0_condemns_71 rfl ?_
          refine G_goto 87 dX0_condemns_72 (by decide) ?_
          refine G_zret rfl (Or.inl rfl) (Nat.le_refl _) (Nat.le_refl _) dX0_condemns_87 ?_
          cases h
          exact ⟨rfl, rfl, rfl, rfl, rfl⟩
        · replace h := gif c5 h
          refine G_iconst (v := 1) dX0_condemns_67 rfl ?_
          refine G_goto 87 dX0_condemns_68 (by decide) ?_
          refine G_zret rfl (Or.inr rfl) (Nat.le_refl _) (Nat.le_refl _) dX0_condemns_87 ?_
          cases h
          exact ⟨rfl, rfl, rfl, rfl, rfl⟩
    · replace h := gif c2 h
      refine G_lload_n dX0_condemns_21 rfl rfl ?_
      refine G_lload_n dX0_condemns_22 rfl rfl ?_
      refine G_lmul dX0_condemns_23 ?_
      refine G_aload_n dX0_condemns_24 rfl rfl ?_
      refine G_getR fl_X0_27 (gisa_sl ha0) (gisa_sk ha0) rfl (gisa_r4 _ ha0) dX0_condemns_25 ?_
      refine G_iload dX0_condemns_28 rfl ?_
      obtain ⟨b6, h⟩ := gck_some h
      refine G_lald (gisa_l4 ha0) (gisa_s4 ha0) (gin_in b6) dX0_condemns_30 ?_
      refine G_ladd dX0_condemns_31 ?_
      refine G_nJ fun u7 eu7 => ?_
      replace h := gL_some eu7 h
      refine S_lstore_n [some (.ref a0), some (.long y1), none, some (.long u7), none, some (.long y5), none, some (.int x7)] dX0_condemns_32 rfl (by decide) rfl ?_
      refine G_lload dX0_condemns_33 rfl ?_
      refine G_lload_n dX0_condemns_35 rfl rfl ?_
      refine G_lmul dX0_condemns_36 ?_
      refine G_aload_n dX0_condemns_37 rfl rfl ?_
      refine G_getR fl_X0_30 (gisa_sl ha0) (gisa_sk ha0) rfl (gisa_r5 _ ha0) dX0_condemns_38 ?_
      refine G_iload dX0_condemns_41 rfl ?_
      obtain ⟨b8, h⟩ := gck_some h
      refine G_lald (gisa_l5 ha0) (gisa_s5 ha0) (gin_in b8) dX0_condemns_43 ?_
      refine G_ladd dX0_condemns_44 ?_
      refine G_nJ fun u9 eu9 => ?_
      replace h := gL_some eu9 h
      refine S_lstore [some (.ref a0), some (.long y1), none, some (.long u7), none, some (.long u9), none, some (.int x7)] dX0_condemns_45 (by decide) rfl ?_
      refine S_iinc (v := (-1 : Int32)) [some (.ref a0), some (.long y1), none, some (.long u7), none, some (.long u9), none, some (.int (x7 + (-1 : Int32)))] dX0_condemns_47 rfl rfl (by decide) rfl ?_
      refine G_goto 16 dX0_condemns_50 (by decide) ?_
      exact ih _ _ _ h
set_option maxRecDepth 20000 in
theorem q_X0_condemns {l : Launch} {I : gIt} {J : gJt} {w : Bool} {a0 : Nat} {y1 : Int64} {v : Int32} (ha0 : gisa a0) (h : p_X0_condemns I J a0 y1 = some v) : Cn l gX0_condemns 3 0 0 [.ref a0, .long y1] gS0 I J (gR0 w) (fun v' S' I' J' R' => v' = some (.int v) ∧ S' = gS0 ∧ I' = I ∧ J' = J ∧ R' = gR0 w) := by
  refine Cn.of [some (.ref a0), some (.long y1), none, none, none, none, none, none] (by decide) rfl (Nat.le_of_ble_eq_true rfl) ?_
  rw [p_X0_condemns] at h
  refine G_lconst (v := 0) dX0_condemns_0 rfl ?_
  refine S_lstore_n [some (.ref a0), some (.long y1), none, some (.long (0 : Int64)), none, none, none, none] dX0_condemns_1 rfl (by decide) rfl ?_
  refine G_lconst (v := 0) dX0_condemns_2 rfl ?_
  refine S_lstore [some (.ref a0), some (.long y1), none, some (.long (0 : Int64)), none, some (.long (0 : Int64)), none, none] dX0_condemns_3 (by decide) rfl ?_
  refine G_aload_n dX0_condemns_5 rfl rfl ?_
  refine G_getI fl_X0_93 (gisa_sl ha0) (gisa_sk ha0) rfl dX0_condemns_6 ?_
  refine G_bipush (v := 31) dX0_condemns_9 rfl ?_
  refine G_mmin ml_X0_120 (by decide) (Nat.le_of_ble_eq_true rfl) (Nat.le_refl _) (Nat.le_refl _) dX0_condemns_11 ?_
  refine G_nI fun z1 ez1 => ?_
  replace h := gL_some ez1 h
  refine S_istore [some (.ref a0), some (.long y1), none, some (.long (0 : Int64)), none, some (.long (0 : Int64)), none, some (.int z1)] dX0_condemns_14 (by decide) rfl ?_
  exact q_X0_condemns_16  ha0 gFu _ _ _ h
def p_X1_listLiving_7 (x1 : Int32) (x2 : Int32) : Nat → gIt → gJt → Int32 → Option (Int32 × gIt × gJt)
  | 0, _, _, _ => none
  | n + 1, I, J, x3 =>
    if (I 1 7) ≤ x3 then
    some ((1 : Int32), I, J)
    else
    if (16 : Int32) ≤ x3 then
    some ((1 : Int32), I, J)
    else
    if ((gushr x1 x3) &&& (1 : Int32)) = 0 then
    p_X1_listLiving_7 x1 x2 n I J (x3 + (1 : Int32))
    else
    gck (gin x3 16) (
    gB (p_X6_livesAt I (I 78 10) (x2 - (I 2 (x3).toNatClampNeg))) fun r6 =>
    if (4 : Int32) ≤ (I 78 9) then
    some ((0 : Int32), I, J)
    else
    if 0 < r6 then
    gck (gin (I 78 9) 4) (
    gL (gu2 I 81 ((I 78 9)).toNatClampNeg x3) fun I11 =>
    gck (gin x3 16) (
    gL ((x2 - (I11 2 (x3).toNatClampNeg))) fun z13 =>
    gck (gin (I11 78 9) 4) (
    gL (gu2 I11 79 ((I11 78 9)).toNatClampNeg z13) fun I15 =>
    gck (gin (I15 78 9) 4) (
    gL (gu2 I15 80 ((I15 78 9)).toNatClampNeg r6) fun I17 =>
    gL (((J 78 12) * (Int32.toInt64 r6))) fun u18 =>
    gL (gu2 J 78 12 u18) fun J19 =>
    gL (((I17 78 9) + (1 : Int32))) fun z20 =>
    gL (gu2 I17 78 9 z20) fun I21 =>
    p_X1_listLiving_7 x1 x2 n I21 J19 (x3 + (1 : Int32))))))
    else
    some ((0 : Int32), I, J))
def p_X1_listLiving (I : gIt) (J : gJt) (x1 : Int32) (x2 : Int32) : Option (Int32 × gIt × gJt) :=
  gL (gu2 I 78 9 (0 : Int32)) fun I1 =>
  p_X1_listLiving_7 x1 x2 gFu I1 J (0 : Int32)
set_option maxRecDepth 20000 in
theorem q_X1_listLiving_7 {l : Launch} {v : (Int32 × gIt × gJt)} {w : Bool} {x1 : Int32} {x2 : Int32} : ∀ (n : Nat) (I : gIt) (J : gJt) (x3 : Int32), p_X1_listLiving_7 x1 x2 n I J x3 = some v → G l gX1_listLiving 3 0 0 (fun v' S' I' J' R' => v' = some (.int v.1) ∧ S' = gS0 ∧ I' = v.2.1 ∧ J' = v.2.2 ∧ R' = gR0 w) 0 0 7 [some (.ref 78), some (.int x1), some (.int x2), some (.int x3), none] [] gS0 I J (gR0 w) := by
  intro n
  induction n with
  | zero => intro _ _ _ h; cases h
  | succ n ih =>
    intro I J x3 h
    rw [p_X1_listLiving_7] at h
    refine G_iload_n dX1_listLiving_7 rfl rfl ?_
    refine G_aload_n dX1_listLiving_8 rfl rfl ?_
    refine G_getR fl_X1_27 sl_78 sk_78 rfl (rr_78_0 _) dX1_listLiving_9 ?_
    refine G_getI fl_X1_110 sl_1 sk_1 rfl dX1_listLiving_12 ?_
    refine G_icmp_ge 143 dX1_listLiving_15 (by decide) (fun c2 => ?_) (fun c2 => ?_)
    · replace h := git c2 h
      refine G_iconst (v := 1) dX1_listLiving_143 rfl ?_
      refine G_zret rfl (Or.inr rfl) (Nat.le_refl _) (Nat.le_refl _) dX1_listLiving_144 ?_
      cases h
      exact ⟨rfl, rfl, rfl, rfl, rfl⟩
    · replace h := gif c2 h
      refine G_iload_n dX1_listLiving_18 rfl rfl ?_
      refine G_bipush (v := 16) dX1_listLiving_19 rfl ?_
      refine G_icmp_ge 143 dX1_listLiving_21 (by decide) (fun c3 => ?_) (fun c3 => ?_)
      · replace h := git c3 h
        refine G_iconst (v := 1) dX1_listLiving_143 rfl ?_
        refine G_zret rfl (Or.inr rfl) (Nat.le_refl _) (Nat.le_refl _) dX1_listLiving_144 ?_
        cases h
        exact ⟨rfl, rfl, rfl, rfl, rfl⟩
      · replace h := gif c3 h
        refine G_iload_n dX1_listLiving_24 rfl rfl ?_
        refine G_iload_n dX1_listLiving_25 rfl rfl ?_
        refine G_ushr dX1_listLiving_26 ?_
        refine G_iconst (v := 1) dX1_listLiving_27 rfl ?_
        refine G_iand dX1_listLiving_28 ?_
        refine G_if_ne 35 dX1_listLiving_29 (by decide) (fun c4 => ?_) (fun c4 => ?_)
        · replace h := gif c4 h
          refine G_aload_n dX1_listLiving_35 rfl rfl ?_
          refine G_getR fl_X1_31 sl_78 sk_78 rfl (rr_78_1 _) dX1_listLiving_36 ?_
          refine G_aload_n dX1_listLiving_39 rfl rfl ?_
          refine G_getI fl_X1_69 sl_78 sk_78 rfl dX1_listLiving_40 ?_
          refine G_iload_n dX1_listLiving_43 rfl rfl ?_
          refine G_aload_n dX1_listLiving_44 rfl rfl ?_
          refine G_getR fl_X1_27 sl_78 sk_78 rfl (rr_78_0 _) dX1_listLiving_45 ?_
          refine G_getR fl_X1_70 sl_1 sk_1 rfl (rr_1_0 _) dX1_listLiving_48 ?_
          refine G_iload_n dX1_listLiving_51 rfl rfl ?_
          obtain ⟨b5, h⟩ := gck_some h
          refine G_iald sl_2 ss_2 (gin_in b5) dX1_listLiving_52 ?_
          refine G_isub dX1_listLiving_53 ?_
          obtain ⟨r6, hr7, h⟩ := gB_some h
          refine G_cV (mj := gX6_livesAt) (As := [.int (I 78 10), .int (x2 - (I 2 (x3).toNatClampNeg))]) (rest := []) ml_X1_76 vX6_livesAt sl_9 sk_9 (by decide) rfl rfl rfl (Nat.le_of_ble_eq_true rfl) (by decide) (Nat.le_refl _) (Nat.le_refl _) dX1_listLiving_54 (q_X6_livesAt hr7) ?_
          refine S_istore [some (.ref 78), some (.int x1), some (.int x2), some (.int x3), some (.int r6)] dX1_listLiving_57 (by decide) rfl ?_
          refine G_aload_n dX1_listLiving_59 rfl rfl ?_
          refine G_getI fl_X1_94 sl_78 sk_78 rfl dX1_listLiving_60 ?_
          refine G_iconst (v := 4) dX1_listLiving_63 rfl ?_
          refine G_icmp_ge 72 dX1_listLiving_64 (by decide) (fun c8 => ?_) (fun c8 => ?_)
          · replace h := git c8 h
            refine G_iconst (v := 0) dX1_listLiving_72 rfl ?_
            refine G_zret rfl (Or.inl rfl) (Nat.le_refl _) (Nat.le_refl _) dX1_listLiving_73 ?_
            cases h
            exact ⟨rfl, rfl, rfl, rfl, rfl⟩
          · replace h := gif c8 h
            refine G_iload dX1_listLiving_67 rfl ?_
            refine G_if_gt 74 dX1_listLiving_69 (by decide) (fun c9 => ?_) (fun c9 => ?_)
            · replace h := git c9 h
              refine G_aload_n dX1_listLiving_74 rfl rfl ?_
              refine G_getR fl_X1_18 sl_78 sk_78 rfl (rr_78_6 _) dX1_listLiving_75 ?_
              refine G_aload_n dX1_listLiving_78 rfl rfl ?_
              refine G_getI fl_X1_94 sl_78 sk_78 rfl dX1_listLiving_79 ?_
              refine G_iload_n dX1_listLiving_82 rfl rfl ?_
              obtain ⟨b10, h⟩ := gck_some h
              refine G_iast sl_81 ss_81 (gin_in b10) dX1_listLiving_83 ?_
              refine G_mI fun I11 eI11 => ?_
              replace h := gL_some eI11 h
              refine G_aload_n dX1_listLiving_84 rfl rfl ?_
              refine G_getR fl_X1_9 sl_78 sk_78 rfl (rr_78_4 _) dX1_listLiving_85 ?_
              refine G_aload_n dX1_listLiving_88 rfl rfl ?_
              refine G_getI fl_X1_94 sl_78 sk_78 rfl dX1_listLiving_89 ?_
              refine G_iload_n dX1_listLiving_92 rfl rfl ?_
              refine G_aload_n dX1_listLiving_93 rfl rfl ?_
              refine G_getR fl_X1_27 sl_78 sk_78 rfl (rr_78_0 _) dX1_listLiving_94 ?_
              refine G_getR fl_X1_70 sl_1 sk_1 rfl (rr_1_0 _) dX1_listLiving_97 ?_
              refine G_iload_n dX1_listLiving_100 rfl rfl ?_
              obtain ⟨b12, h⟩ := gck_some h
              refine G_iald sl_2 ss_2 (gin_in b12) dX1_listLiving_101 ?_
              refine G_isub dX1_listLiving_102 ?_
              refine G_nI fun z13 ez13 => ?_
              replace h := gL_some ez13 h
              obtain ⟨b14, h⟩ := gck_some h
              refine G_iast sl_79 ss_79 (gin_in b14) dX1_listLiving_103 ?_
              refine G_mI fun I15 eI15 => ?_
              replace h := gL_some eI15 h
              refine G_aload_n dX1_listLiving_104 rfl rfl ?_
              refine G_getR fl_X1_15 sl_78 sk_78 rfl (rr_78_5 _) dX1_listLiving_105 ?_
              refine G_aload_n dX1_listLiving_108 rfl rfl ?_
              refine G_getI fl_X1_94 sl_78 sk_78 rfl dX1_listLiving_109 ?_
              refine G_iload dX1_listLiving_112 rfl ?_
              obtain ⟨b16, h⟩ := gck_some h
              refine G_iast sl_80 ss_80 (gin_in b16) dX1_listLiving_114 ?_
              refine G_mI fun I17 eI17 => ?_
              replace h := gL_some eI17 h
              refine G_aload_n dX1_listLiving_115 rfl rfl ?_
              refine G_dup dX1_listLiving_116 rfl ?_
              refine G_getJ fl_X1_82 sl_78 sk_78 rfl dX1_listLiving_117 ?_
              refine G_iload dX1_listLiving_120 rfl ?_
              refine G_i2l dX1_listLiving_122 ?_
              refine G_lmul dX1_listLiving_123 ?_
              refine G_nJ fun u18 eu18 => ?_
              replace h := gL_some eu18 h
              refine G_putJ fl_X1_82 sl_78 sk_78 rfl rfl dX1_listLiving_124 ?_
              refine G_mJ fun J19 eJ19 => ?_
              replace h := gL_some eJ19 h
              refine G_aload_n dX1_listLiving_127 rfl rfl ?_
              refine G_dup dX1_listLiving_128 rfl ?_
              refine G_getI fl_X1_94 sl_78 sk_78 rfl dX1_listLiving_129 ?_
              refine G_iconst (v := 1) dX1_listLiving_132 rfl ?_
              refine G_iadd dX1_listLiving_133 ?_
              refine G_nI fun z20 ez20 => ?_
              replace h := gL_some ez20 h
              refine G_putI fl_X1_94 sl_78 sk_78 rfl rfl ⟨rfl, rfl⟩ dX1_listLiving_134 ?_
              refine G_mI fun I21 eI21 => ?_
              replace h := gL_some eI21 h
              refine S_iinc (v := (1 : Int32)) [some (.ref 78), some (.int x1), some (.int x2), some (.int (x3 + (1 : Int32))), some (.int r6)] dX1_listLiving_137 rfl rfl (by decide) rfl ?_
              refine G_goto 7 dX1_listLiving_140 (by decide) ?_
              refine G_sub [some (.ref 78), some (.int x1), some (.int x2), some (.int (x3 + (1 : Int32))), none] ⟨rfl, rfl, rfl, rfl, trivial⟩ ?_
              exact ih _ _ _ h
            · replace h := gif c9 h
              refine G_iconst (v := 0) dX1_listLiving_72 rfl ?_
              refine G_zret rfl (Or.inl rfl) (Nat.le_refl _) (Nat.le_refl _) dX1_listLiving_73 ?_
              cases h
              exact ⟨rfl, rfl, rfl, rfl, rfl⟩
        · replace h := git c4 h
          refine G_goto 137 dX1_listLiving_32 (by decide) ?_
          refine S_iinc (v := (1 : Int32)) [some (.ref 78), some (.int x1), some (.int x2), some (.int (x3 + (1 : Int32))), none] dX1_listLiving_137 rfl rfl (by decide) rfl ?_
          refine G_goto 7 dX1_listLiving_140 (by decide) ?_
          exact ih _ _ _ h
set_option maxRecDepth 20000 in
theorem q_X1_listLiving {l : Launch} {I : gIt} {J : gJt} {w : Bool} {x1 : Int32} {x2 : Int32} {v : (Int32 × gIt × gJt)} (h : p_X1_listLiving I J x1 x2 = some v) : Cn l gX1_listLiving 3 0 0 [.ref 78, .int x1, .int x2] gS0 I J (gR0 w) (fun v' S' I' J' R' => v' = some (.int v.1) ∧ S' = gS0 ∧ I' = v.2.1 ∧ J' = v.2.2 ∧ R' = gR0 w) := by
  refine Cn.of [some (.ref 78), some (.int x1), some (.int x2), none, none] (by decide) rfl (Nat.le_of_ble_eq_true rfl) ?_
  rw [p_X1_listLiving] at h
  refine G_aload_n dX1_listLiving_0 rfl rfl ?_
  refine G_iconst (v := 0) dX1_listLiving_1 rfl ?_
  refine G_putI fl_X1_94 sl_78 sk_78 rfl rfl ⟨rfl, rfl⟩ dX1_listLiving_2 ?_
  refine G_mI fun I1 eI1 => ?_
  replace h := gL_some eI1 h
  refine G_iconst (v := 0) dX1_listLiving_5 rfl ?_
  refine S_istore_n [some (.ref 78), some (.int x1), some (.int x2), some (.int (0 : Int32)), none] dX1_listLiving_6 rfl (by decide) rfl ?_
  exact q_X1_listLiving_7   gFu _ _ _ h
def p_X1_personsOf_4 (I : gIt) (x1 : Int32) : Nat → Int32 → Int32 → Option Int32
  | 0, _, _ => none
  | n + 1, x2, x3 =>
    if (I 78 9) ≤ x3 then
    some x2
    else
    if (4 : Int32) ≤ x3 then
    some x2
    else
    if ((gushr x1 x3) &&& (1 : Int32)) = (1 : Int32) then
    gck (gin x3 4) (
    gL ((x2 ||| (gshl (1 : Int32) (I 81 (x3).toNatClampNeg)))) fun z5 =>
    p_X1_personsOf_4 I x1 n z5 (x3 + (1 : Int32)))
    else
    p_X1_personsOf_4 I x1 n x2 (x3 + (1 : Int32))
def p_X1_personsOf (I : gIt) (x1 : Int32) : Option Int32 :=
  p_X1_personsOf_4 I x1 gFu (0 : Int32) (0 : Int32)
set_option maxRecDepth 20000 in
theorem q_X1_personsOf_4 {l : Launch} {v : Int32} {J : gJt} {w : Bool} {I : gIt} {x1 : Int32} : ∀ (n : Nat) (x2 : Int32) (x3 : Int32), p_X1_personsOf_4 I x1 n x2 x3 = some v → G l gX1_personsOf 2 0 0 (fun v' S' I' J' R' => v' = some (.int v) ∧ S' = gS0 ∧ I' = I ∧ J' = J ∧ R' = gR0 w) 0 0 4 [some (.ref 78), some (.int x1), some (.int x2), some (.int x3)] [] gS0 I J (gR0 w) := by
  intro n
  induction n with
  | zero => intro _ _ h; cases h
  | succ n ih =>
    intro x2 x3 h
    rw [p_X1_personsOf_4] at h
    refine G_iload_n dX1_personsOf_4 rfl rfl ?_
    refine G_aload_n dX1_personsOf_5 rfl rfl ?_
    refine G_getI fl_X1_94 sl_78 sk_78 rfl dX1_personsOf_6 ?_
    refine G_icmp_ge 43 dX1_personsOf_9 (by decide) (fun c1 => ?_) (fun c1 => ?_)
    · replace h := git c1 h
      refine G_iload_n dX1_personsOf_43 rfl rfl ?_
      refine G_iret rfl (Nat.le_refl _) (Nat.le_refl _) dX1_personsOf_44 ?_
      cases h
      exact ⟨rfl, rfl, rfl, rfl, rfl⟩
    · replace h := gif c1 h
      refine G_iload_n dX1_personsOf_12 rfl rfl ?_
      refine G_iconst (v := 4) dX1_personsOf_13 rfl ?_
      refine G_icmp_ge 43 dX1_personsOf_14 (by decide) (fun c2 => ?_) (fun c2 => ?_)
      · replace h := git c2 h
        refine G_iload_n dX1_personsOf_43 rfl rfl ?_
        refine G_iret rfl (Nat.le_refl _) (Nat.le_refl _) dX1_personsOf_44 ?_
        cases h
        exact ⟨rfl, rfl, rfl, rfl, rfl⟩
      · replace h := gif c2 h
        refine G_iload_n dX1_personsOf_17 rfl rfl ?_
        refine G_iload_n dX1_personsOf_18 rfl rfl ?_
        refine G_ushr dX1_personsOf_19 ?_
        refine G_iconst (v := 1) dX1_personsOf_20 rfl ?_
        refine G_iand dX1_personsOf_21 ?_
        refine G_iconst (v := 1) dX1_personsOf_22 rfl ?_
        refine G_icmp_ne 37 dX1_personsOf_23 (by decide) (fun c3 => ?_) (fun c3 => ?_)
        · replace h := gif c3 h
          refine S_iinc (v := (1 : Int32)) [some (.ref 78), some (.int x1), some (.int x2), some (.int (x3 + (1 : Int32)))] dX1_personsOf_37 rfl rfl (by decide) rfl ?_
          refine G_goto 4 dX1_personsOf_40 (by decide) ?_
          exact ih _ _ h
        · replace h := git c3 h
          refine G_iload_n dX1_personsOf_26 rfl rfl ?_
          refine G_iconst (v := 1) dX1_personsOf_27 rfl ?_
          refine G_aload_n dX1_personsOf_28 rfl rfl ?_
          refine G_getR fl_X1_18 sl_78 sk_78 rfl (rr_78_6 _) dX1_personsOf_29 ?_
          refine G_iload_n dX1_personsOf_32 rfl rfl ?_
          obtain ⟨b4, h⟩ := gck_some h
          refine G_iald sl_81 ss_81 (gin_in b4) dX1_personsOf_33 ?_
          refine G_shl dX1_personsOf_34 ?_
          refine G_ior dX1_personsOf_35 ?_
          refine G_nI fun z5 ez5 => ?_
          replace h := gL_some ez5 h
          refine S_istore_n [some (.ref 78), some (.int x1), some (.int z5), some (.int x3)] dX1_personsOf_36 rfl (by decide) rfl ?_
          refine S_iinc (v := (1 : Int32)) [some (.ref 78), some (.int x1), some (.int z5), some (.int (x3 + (1 : Int32)))] dX1_personsOf_37 rfl rfl (by decide) rfl ?_
          refine G_goto 4 dX1_personsOf_40 (by decide) ?_
          exact ih _ _ h
set_option maxRecDepth 20000 in
theorem q_X1_personsOf {l : Launch} {I : gIt} {J : gJt} {w : Bool} {x1 : Int32} {v : Int32} (h : p_X1_personsOf I x1 = some v) : Cn l gX1_personsOf 2 0 0 [.ref 78, .int x1] gS0 I J (gR0 w) (fun v' S' I' J' R' => v' = some (.int v) ∧ S' = gS0 ∧ I' = I ∧ J' = J ∧ R' = gR0 w) := by
  refine Cn.of [some (.ref 78), some (.int x1), none, none] (by decide) rfl (Nat.le_of_ble_eq_true rfl) ?_
  rw [p_X1_personsOf] at h
  refine G_iconst (v := 0) dX1_personsOf_0 rfl ?_
  refine S_istore_n [some (.ref 78), some (.int x1), some (.int (0 : Int32)), none] dX1_personsOf_1 rfl (by decide) rfl ?_
  refine G_iconst (v := 0) dX1_personsOf_2 rfl ?_
  refine S_istore_n [some (.ref 78), some (.int x1), some (.int (0 : Int32)), some (.int (0 : Int32))] dX1_personsOf_3 rfl (by decide) rfl ?_
  exact q_X1_personsOf_4   gFu _ _ h
def p_X3_give (I : gIt) (x1 : Int32) (x2 : Int32) : Option gIt :=
  gL ((gmin x2 (I 76 1))) fun z1 =>
  gck (gin x1 16) (
  gL (((I 77 (x1).toNatClampNeg) + z1)) fun z3 =>
  gck (gin x1 16) (
  gL (gu2 I 77 (x1).toNatClampNeg z3) fun I5 =>
  gL (((I5 76 1) - z1)) fun z6 =>
  gL (gu2 I5 76 1 z6) fun I7 =>
  some I7))
set_option maxRecDepth 20000 in
theorem q_X3_give {l : Launch} {I : gIt} {J : gJt} {w : Bool} {x1 : Int32} {x2 : Int32} {v : gIt} (h : p_X3_give I x1 x2 = some v) : Cn l gX3_give 3 0 0 [.ref 76, .int x1, .int x2] gS0 I J (gR0 w) (fun v' S' I' J' R' => v' = none ∧ S' = gS0 ∧ I' = v ∧ J' = J ∧ R' = gR0 w) := by
  refine Cn.of [some (.ref 76), some (.int x1), some (.int x2), none] (by decide) rfl (Nat.le_of_ble_eq_true rfl) ?_
  rw [p_X3_give] at h
  refine G_iload_n dX3_give_0 rfl rfl ?_
  refine G_aload_n dX3_give_1 rfl rfl ?_
  refine G_getI fl_X3_21 sl_76 sk_76 rfl dX3_give_2 ?_
  refine G_mmin ml_X3_61 (by decide) (Nat.le_of_ble_eq_true rfl) (Nat.le_refl _) (Nat.le_refl _) dX3_give_5 ?_
  refine G_nI fun z1 ez1 => ?_
  replace h := gL_some ez1 h
  refine S_istore_n [some (.ref 76), some (.int x1), some (.int x2), some (.int z1)] dX3_give_8 rfl (by decide) rfl ?_
  refine G_aload_n dX3_give_9 rfl rfl ?_
  refine G_getR fl_X3_9 sl_76 sk_76 rfl (rr_76_0 _) dX3_give_10 ?_
  refine G_iload_n dX3_give_13 rfl rfl ?_
  refine G_dup2 dX3_give_14 rfl rfl ?_
  obtain ⟨b2, h⟩ := gck_some h
  refine G_iald sl_77 ss_77 (gin_in b2) dX3_give_15 ?_
  refine G_iload_n dX3_give_16 rfl rfl ?_
  refine G_iadd dX3_give_17 ?_
  refine G_nI fun z3 ez3 => ?_
  replace h := gL_some ez3 h
  obtain ⟨b4, h⟩ := gck_some h
  refine G_iast sl_77 ss_77 (gin_in b4) dX3_give_18 ?_
  refine G_mI fun I5 eI5 => ?_
  replace h := gL_some eI5 h
  refine G_aload_n dX3_give_19 rfl rfl ?_
  refine G_dup dX3_give_20 rfl ?_
  refine G_getI fl_X3_21 sl_76 sk_76 rfl dX3_give_21 ?_
  refine G_iload_n dX3_give_24 rfl rfl ?_
  refine G_isub dX3_give_25 ?_
  refine G_nI fun z6 ez6 => ?_
  replace h := gL_some ez6 h
  refine G_putI fl_X3_21 sl_76 sk_76 rfl rfl ⟨rfl, rfl⟩ dX3_give_26 ?_
  refine G_mI fun I7 eI7 => ?_
  replace h := gL_some eI7 h
  refine G_vret rfl (Nat.le_refl _) (Nat.le_refl _) dX3_give_29 ?_
  cases h
  exact ⟨rfl, rfl, rfl, rfl, rfl⟩
def p_X3_giveShare_103 (a1 : Nat) (x2 : Int32) (x4 : Int32) (x5 : Int32) (x6 : Int32) (x7 : Int32) (x8 : Int32) (x9 : Int32) : Nat → gIt → Int32 → Option gIt
  | 0, _, _ => none
  | n + 1, I, x10 =>
    if (16 : Int32) ≤ x10 then
    some I
    else
    if ((gushr x7 x10) &&& (1 : Int32)) = (1 : Int32) then
    gB (p_X3_give I x10 x9) fun r25 =>
    p_X3_giveShare_103 a1 x2 x4 x5 x6 x7 x8 x9 n r25 (x10 + (1 : Int32))
    else
    p_X3_giveShare_103 a1 x2 x4 x5 x6 x7 x8 x9 n I (x10 + (1 : Int32))
def p_X3_giveShare (I : gIt) (a1 : Nat) (x2 : Int32) (x4 : Int32) : Option gIt :=
  if x2 < 0 then
  some I
  else
  if (nI 32) ≤ x2 then
  some I
  else
  gck (gin x2 32) (
  if 0 < (I ((a1 + 4)) (x2).toNatClampNeg) then
  gck (gin x2 32) (
  gL ((I ((a1 + 3)) (x2).toNatClampNeg)) fun z6 =>
  gB (α := Int32) (
  if z6 < (16 : Int32) then
  some (0 : Int32)
  else
  some (1 : Int32)) fun ph7 =>
  gB (α := Int32) (
  if ph7 = 0 then
  some (gshl (1 : Int32) z6)
  else
  gB (p_X5_childrenOf I (z6 - (16 : Int32))) fun r28 =>
  some r28) fun ph11 =>
  gL ((x4 &&& ph11)) fun z15 =>
  gB (p_J6_bitCount_0f7a4 z15) fun r16 =>
  if r16 = 0 then
  some I
  else
  gck (gin x2 32) (
  gck (decide (¬ (I ((a1 + 4)) (x2).toNatClampNeg) = 0)) (
  gck (decide (¬ r16 = 0)) (
  gL ((((I a1 5) / (I ((a1 + 4)) (x2).toNatClampNeg)) / r16)) fun z22 =>
  p_X3_giveShare_103 a1 x2 x4 z6 ph7 z15 r16 z22 gFu I (0 : Int32)))))
  else
  some I)
set_option maxRecDepth 20000 in
theorem q_X3_giveShare_103 {l : Launch} {v : gIt} {J : gJt} {w : Bool} {a1 : Nat} {x2 : Int32} {x4 : Int32} {x5 : Int32} {x6 : Int32} {x7 : Int32} {x8 : Int32} {x9 : Int32} (ha1 : gset a1) : ∀ (n : Nat) (I : gIt) (x10 : Int32), p_X3_giveShare_103 a1 x2 x4 x5 x6 x7 x8 x9 n I x10 = some v → G l gX3_giveShare 4 0 0 (fun v' S' I' J' R' => v' = none ∧ S' = gS0 ∧ I' = v ∧ J' = J ∧ R' = gR0 w) 0 0 103 [some (.ref 76), some (.ref a1), some (.int x2), some (.ref 74), some (.int x4), some (.int x5), some (.int x6), some (.int x7), some (.int x8), some (.int x9), some (.int x10)] [] gS0 I J (gR0 w) := by
  intro n
  induction n with
  | zero => intro _ _ h; cases h
  | succ n ih =>
    intro I x10 h
    rw [p_X3_giveShare_103] at h
    refine G_iload dX3_giveShare_103 rfl ?_
    refine G_bipush (v := 16) dX3_giveShare_105 rfl ?_
    refine G_icmp_ge 135 dX3_giveShare_107 (by decide) (fun c23 => ?_) (fun c23 => ?_)
    · replace h := git c23 h
      refine G_vret rfl (Nat.le_refl _) (Nat.le_refl _) dX3_giveShare_135 ?_
      cases h
      exact ⟨rfl, rfl, rfl, rfl, rfl⟩
    · replace h := gif c23 h
      refine G_iload dX3_giveShare_110 rfl ?_
      refine G_iload dX3_giveShare_112 rfl ?_
      refine G_ushr dX3_giveShare_114 ?_
      refine G_iconst (v := 1) dX3_giveShare_115 rfl ?_
      refine G_iand dX3_giveShare_116 ?_
      refine G_iconst (v := 1) dX3_giveShare_117 rfl ?_
      refine G_icmp_ne 129 dX3_giveShare_118 (by decide) (fun c24 => ?_) (fun c24 => ?_)
      · replace h := gif c24 h
        refine S_iinc (v := (1 : Int32)) [some (.ref 76), some (.ref a1), some (.int x2), some (.ref 74), some (.int x4), some (.int x5), some (.int x6), some (.int x7), some (.int x8), some (.int x9), some (.int (x10 + (1 : Int32)))] dX3_giveShare_129 rfl rfl (by decide) rfl ?_
        refine G_goto 103 dX3_giveShare_132 (by decide) ?_
        exact ih _ _ h
      · replace h := git c24 h
        refine G_aload_n dX3_giveShare_121 rfl rfl ?_
        refine G_iload dX3_giveShare_122 rfl ?_
        refine G_iload dX3_giveShare_124 rfl ?_
        obtain ⟨r25, hr26, h⟩ := gB_some h
        refine G_cV (mj := gX3_give) (As := [.int x10, .int x9]) (rest := []) ml_X3_57 vX3_give sl_76 sk_76 (by decide) rfl rfl rfl (Nat.le_of_ble_eq_true rfl) (by decide) (Nat.le_refl _) (Nat.le_refl _) dX3_giveShare_126 (q_X3_give hr26) ?_
        refine S_iinc (v := (1 : Int32)) [some (.ref 76), some (.ref a1), some (.int x2), some (.ref 74), some (.int x4), some (.int x5), some (.int x6), some (.int x7), some (.int x8), some (.int x9), some (.int (x10 + (1 : Int32)))] dX3_giveShare_129 rfl rfl (by decide) rfl ?_
        refine G_goto 103 dX3_giveShare_132 (by decide) ?_
        exact ih _ _ h
set_option maxRecDepth 20000 in
theorem q_X3_giveShare {l : Launch} {I : gIt} {J : gJt} {w : Bool} {a1 : Nat} {x2 : Int32} {x4 : Int32} {v : gIt} (ha1 : gset a1) (h : p_X3_giveShare I a1 x2 x4 = some v) : Cn l gX3_giveShare 4 0 0 [.ref 76, .ref a1, .int x2, .ref 74, .int x4] gS0 I J (gR0 w) (fun v' S' I' J' R' => v' = none ∧ S' = gS0 ∧ I' = v ∧ J' = J ∧ R' = gR0 w) := by
  refine Cn.of [some (.ref 76), some (.ref a1), some (.int x2), some (.ref 74), some (.int x4), none, none, none, none, none, none] (by decide) rfl (Nat.le_of_ble_eq_true rfl) ?_
  rw [p_X3_giveShare] at h
  refine G_iload_n dX3_giveShare_0 rfl rfl ?_
  refine G_if_lt 22 dX3_giveShare_1 (by decide) (fun c1 => ?_) (fun c1 => ?_)
  · replace h := git c1 h
    refine G_vret rfl (Nat.le_refl _) (Nat.le_refl _) dX3_giveShare_22 ?_
    cases h
    exact ⟨rfl, rfl, rfl, rfl, rfl⟩
  · replace h := gif c1 h
    refine G_iload_n dX3_giveShare_4 rfl rfl ?_
    refine G_aload_n dX3_giveShare_5 rfl rfl ?_
    refine G_getR fl_X3_43 (gset_sl ha1) (gset_sk ha1) rfl (gset_r2 _ ha1) dX3_giveShare_6 ?_
    refine G_alen (gset_l2 ha1) (gset_s2 ha1) (by decide) (by decide) dX3_giveShare_9 ?_
    refine G_icmp_ge 22 dX3_giveShare_10 (by decide) (fun c2 => ?_) (fun c2 => ?_)
    · replace h := git c2 h
      refine G_vret rfl (Nat.le_refl _) (Nat.le_refl _) dX3_giveShare_22 ?_
      cases h
      exact ⟨rfl, rfl, rfl, rfl, rfl⟩
    · replace h := gif c2 h
      refine G_aload_n dX3_giveShare_13 rfl rfl ?_
      refine G_getR fl_X3_46 (gset_sl ha1) (gset_sk ha1) rfl (gset_r3 _ ha1) dX3_giveShare_14 ?_
      refine G_iload_n dX3_giveShare_17 rfl rfl ?_
      obtain ⟨b3, h⟩ := gck_some h
      refine G_iald (gset_l3 ha1) (gset_s3 ha1) (gin_in b3) dX3_giveShare_18 ?_
      refine G_if_gt 23 dX3_giveShare_19 (by decide) (fun c4 => ?_) (fun c4 => ?_)
      · replace h := git c4 h
        refine G_aload_n dX3_giveShare_23 rfl rfl ?_
        refine G_getR fl_X3_43 (gset_sl ha1) (gset_sk ha1) rfl (gset_r2 _ ha1) dX3_giveShare_24 ?_
        refine G_iload_n dX3_giveShare_27 rfl rfl ?_
        obtain ⟨b5, h⟩ := gck_some h
        refine G_iald (gset_l2 ha1) (gset_s2 ha1) (gin_in b5) dX3_giveShare_28 ?_
        refine G_nI fun z6 ez6 => ?_
        replace h := gL_some ez6 h
        refine S_istore [some (.ref 76), some (.ref a1), some (.int x2), some (.ref 74), some (.int x4), some (.int z6), none, none, none, none, none] dX3_giveShare_29 (by decide) rfl ?_
        refine G_iload dX3_giveShare_31 rfl ?_
        refine G_bipush (v := 16) dX3_giveShare_33 rfl ?_
        obtain ⟨ph7, t8, r9⟩ := gB_some h
        have jn10 : G l gX3_giveShare 4 0 0 (fun v' S' I' J' R' => v' = none ∧ S' = gS0 ∧ I' = v ∧ J' = J ∧ R' = gR0 w) 0 0 43 [some (.ref 76), some (.ref a1), some (.int x2), some (.ref 74), some (.int x4), some (.int z6), none, none, none, none, none] [.int ph7] gS0 I J (gR0 w) := by
          refine S_istore [some (.ref 76), some (.ref a1), some (.int x2), some (.ref 74), some (.int x4), some (.int z6), some (.int ph7), none, none, none, none] dX3_giveShare_43 (by decide) rfl ?_
          refine G_iload dX3_giveShare_45 rfl ?_
          refine G_iload dX3_giveShare_47 rfl ?_
          obtain ⟨ph11, t12, r13⟩ := gB_some r9
          have jn14 : G l gX3_giveShare 4 0 0 (fun v' S' I' J' R' => v' = none ∧ S' = gS0 ∧ I' = v ∧ J' = J ∧ R' = gR0 w) 0 0 68 [some (.ref 76), some (.ref a1), some (.int x2), some (.ref 74), some (.int x4), some (.int z6), some (.int ph7), none, none, none, none] [.int ph11, .int x4] gS0 I J (gR0 w) := by
            refine G_iand dX3_giveShare_68 ?_
            refine G_nI fun z15 ez15 => ?_
            replace r13 := gL_some ez15 r13
            refine S_istore [some (.ref 76), some (.ref a1), some (.int x2), some (.ref 74), some (.int x4), some (.int z6), some (.int ph7), some (.int z15), none, none, none] dX3_giveShare_69 (by decide) rfl ?_
            refine G_iload dX3_giveShare_71 rfl ?_
            obtain ⟨r16, hr17, r13⟩ := gB_some r13
            refine G_cS (mj := gJ6_bitCount_0f7a4) (As := [.int z15]) (rest := []) ml_X3_52 vJ6_bitCount_0f7a4 rfl rfl (Nat.le_of_ble_eq_true rfl) (by decide) (Nat.le_refl _) (Nat.le_refl _) dX3_giveShare_73 (q_J6_bitCount_0f7a4 hr17) ?_
            refine S_istore [some (.ref 76), some (.ref a1), some (.int x2), some (.ref 74), some (.int x4), some (.int z6), some (.int ph7), some (.int z15), some (.int r16), none, none] dX3_giveShare_76 (by decide) rfl ?_
            refine G_iload dX3_giveShare_78 rfl ?_
            refine G_if_ne 84 dX3_giveShare_80 (by decide) (fun c18 => ?_) (fun c18 => ?_)
            · replace r13 := gif c18 r13
              refine G_aload_n dX3_giveShare_84 rfl rfl ?_
              refine G_getI fl_X3_15 (gset_sl ha1) (gset_sk ha1) rfl dX3_giveShare_85 ?_
              refine G_aload_n dX3_giveShare_88 rfl rfl ?_
              refine G_getR fl_X3_46 (gset_sl ha1) (gset_sk ha1) rfl (gset_r3 _ ha1) dX3_giveShare_89 ?_
              refine G_iload_n dX3_giveShare_92 rfl rfl ?_
              obtain ⟨b19, r13⟩ := gck_some r13
              refine G_iald (gset_l3 ha1) (gset_s3 ha1) (gin_in b19) dX3_giveShare_93 ?_
              obtain ⟨b20, r13⟩ := gck_some r13
              refine G_idiv dX3_giveShare_94 (of_decide_eq_true b20) ?_
              refine G_iload dX3_giveShare_95 rfl ?_
              obtain ⟨b21, r13⟩ := gck_some r13
              refine G_idiv dX3_giveShare_97 (of_decide_eq_true b21) ?_
              refine G_nI fun z22 ez22 => ?_
              replace r13 := gL_some ez22 r13
              refine S_istore [some (.ref 76), some (.ref a1), some (.int x2), some (.ref 74), some (.int x4), some (.int z6), some (.int ph7), some (.int z15), some (.int r16), some (.int z22), none] dX3_giveShare_98 (by decide) rfl ?_
              refine G_iconst (v := 0) dX3_giveShare_100 rfl ?_
              refine S_istore [some (.ref 76), some (.ref a1), some (.int x2), some (.ref 74), some (.int x4), some (.int z6), some (.int ph7), some (.int z15), some (.int r16), some (.int z22), some (.int (0 : Int32))] dX3_giveShare_101 (by decide) rfl ?_
              exact q_X3_giveShare_103  ha1 gFu _ _ r13
            · replace r13 := git c18 r13
              refine G_vret rfl (Nat.le_refl _) (Nat.le_refl _) dX3_giveShare_83 ?_
              cases r13
              exact ⟨rfl, rfl, rfl, rfl, rfl⟩
          refine G_if_eq 64 dX3_giveShare_49 (by decide) (fun c27 => ?_) (fun c27 => ?_)
          · replace t12 := git c27 t12
            refine G_iconst (v := 1) dX3_giveShare_64 rfl ?_
            refine G_iload dX3_giveShare_65 rfl ?_
            refine G_shl dX3_giveShare_67 ?_
            cases t12
            exact jn14
          · replace t12 := gif c27 t12
            refine G_aload_n dX3_giveShare_52 rfl rfl ?_
            refine G_iload dX3_giveShare_53 rfl ?_
            refine G_bipush (v := 16) dX3_giveShare_55 rfl ?_
            refine G_isub dX3_giveShare_57 ?_
            obtain ⟨r28, hr29, t12⟩ := gB_some t12
            refine G_cV (mj := gX5_childrenOf) (As := [.int (z6 - (16 : Int32))]) (rest := [.int x4]) ml_X3_49 vX5_childrenOf sl_74 sk_74 (by decide) rfl rfl rfl (Nat.le_of_ble_eq_true rfl) (by decide) (Nat.le_refl _) (Nat.le_refl _) dX3_giveShare_58 (q_X5_childrenOf hr29) ?_
            refine G_goto 68 dX3_giveShare_61 (by decide) ?_
            cases t12
            exact jn14
        refine G_icmp_lt 42 dX3_giveShare_35 (by decide) (fun c30 => ?_) (fun c30 => ?_)
        · replace t8 := git c30 t8
          refine G_iconst (v := 0) dX3_giveShare_42 rfl ?_
          cases t8
          exact jn10
        · replace t8 := gif c30 t8
          refine G_iconst (v := 1) dX3_giveShare_38 rfl ?_
          refine G_goto 43 dX3_giveShare_39 (by decide) ?_
          cases t8
          exact jn10
      · replace h := gif c4 h
        refine G_vret rfl (Nat.le_refl _) (Nat.le_refl _) dX3_giveShare_22 ?_
        cases h
        exact ⟨rfl, rfl, rfl, rfl, rfl⟩
def p_X3_divide_64 (a1 : Nat) (x3 : Int32) (x4 : Int32) : Nat → gIt → Int32 → Option gIt
  | 0, _, _ => none
  | n + 1, I, x5 =>
    gck (gin x4 8) (
    if (I ((a1 + 1)) (x4).toNatClampNeg) ≤ x5 then
    some I
    else
    gB (p_X3_giveShare I a1 x5 x3) fun r14 =>
    p_X3_divide_64 a1 x3 x4 n r14 (x5 + (1 : Int32)))
def p_X3_divide_3 (a1 : Nat) (x3 : Int32) : Nat → gIt → Int32 → Option gIt
  | 0, _, _ => none
  | n + 1, I, x4 =>
    if (16 : Int32) ≤ x4 then
    gL ((I a1 5)) fun z2 =>
    gL (gu2 I 76 1 z2) fun I3 =>
    gB (p_X5_factsOf I3 x3) fun r4 =>
    gB (p_X9_firstHolding I3 a1 r4) fun r6 =>
    if r6 < 0 then
    some I3
    else
    if r6 < (8 : Int32) then
    gB (p_X9_shareFrom I3 a1 r6) fun r10 =>
    p_X3_divide_64 a1 x3 r6 gFu I3 r10
    else
    some I3
    else
    gck (gin x4 16) (
    gL (gu2 I 77 (x4).toNatClampNeg (0 : Int32)) fun I17 =>
    p_X3_divide_3 a1 x3 n I17 (x4 + (1 : Int32)))
def p_X3_divide (I : gIt) (a1 : Nat) (x3 : Int32) : Option gIt :=
  p_X3_divide_3 a1 x3 gFu I (0 : Int32)
set_option maxRecDepth 20000 in
theorem q_X3_divide_64 {l : Launch} {v : gIt} {J : gJt} {w : Bool} {a1 : Nat} {x3 : Int32} {x4 : Int32} (ha1 : gset a1) : ∀ (n : Nat) (I : gIt) (x5 : Int32), p_X3_divide_64 a1 x3 x4 n I x5 = some v → G l gX3_divide 5 0 0 (fun v' S' I' J' R' => v' = none ∧ S' = gS0 ∧ I' = v ∧ J' = J ∧ R' = gR0 w) 0 0 64 [some (.ref 76), some (.ref a1), some (.ref 74), some (.int x3), some (.int x4), some (.int x5)] [] gS0 I J (gR0 w) := by
  intro n
  induction n with
  | zero => intro _ _ h; cases h
  | succ n ih =>
    intro I x5 h
    rw [p_X3_divide_64] at h
    refine G_iload dX3_divide_64 rfl ?_
    refine G_aload_n dX3_divide_66 rfl rfl ?_
    refine G_getR fl_X3_36 (gset_sl ha1) (gset_sk ha1) rfl (gset_r0 _ ha1) dX3_divide_67 ?_
    refine G_iload dX3_divide_70 rfl ?_
    obtain ⟨b12, h⟩ := gck_some h
    refine G_iald (gset_l0 ha1) (gset_s0 ha1) (gin_in b12) dX3_divide_72 ?_
    refine G_icmp_ge 91 dX3_divide_73 (by decide) (fun c13 => ?_) (fun c13 => ?_)
    · replace h := git c13 h
      refine G_vret rfl (Nat.le_refl _) (Nat.le_refl _) dX3_divide_91 ?_
      cases h
      exact ⟨rfl, rfl, rfl, rfl, rfl⟩
    · replace h := gif c13 h
      refine G_aload_n dX3_divide_76 rfl rfl ?_
      refine G_aload_n dX3_divide_77 rfl rfl ?_
      refine G_iload dX3_divide_78 rfl ?_
      refine G_aload_n dX3_divide_80 rfl rfl ?_
      refine G_iload_n dX3_divide_81 rfl rfl ?_
      obtain ⟨r14, hr15, h⟩ := gB_some h
      refine G_cV (mj := gX3_giveShare) (As := [.ref a1, .int x5, .ref 74, .int x3]) (rest := []) ml_X3_39 vX3_giveShare sl_76 sk_76 (by decide) rfl rfl rfl (Nat.le_of_ble_eq_true rfl) (by decide) (Nat.le_refl _) (Nat.le_refl _) dX3_divide_82 (q_X3_giveShare ha1 hr15) ?_
      refine S_iinc (v := (1 : Int32)) [some (.ref 76), some (.ref a1), some (.ref 74), some (.int x3), some (.int x4), some (.int (x5 + (1 : Int32)))] dX3_divide_85 rfl rfl (by decide) rfl ?_
      refine G_goto 64 dX3_divide_88 (by decide) ?_
      exact ih _ _ h
set_option maxRecDepth 20000 in
theorem q_X3_divide_3 {l : Launch} {v : gIt} {J : gJt} {w : Bool} {a1 : Nat} {x3 : Int32} (ha1 : gset a1) : ∀ (n : Nat) (I : gIt) (x4 : Int32), p_X3_divide_3 a1 x3 n I x4 = some v → G l gX3_divide 5 0 0 (fun v' S' I' J' R' => v' = none ∧ S' = gS0 ∧ I' = v ∧ J' = J ∧ R' = gR0 w) 0 0 3 [some (.ref 76), some (.ref a1), some (.ref 74), some (.int x3), some (.int x4), none] [] gS0 I J (gR0 w) := by
  intro n
  induction n with
  | zero => intro _ _ h; cases h
  | succ n ih =>
    intro I x4 h
    rw [p_X3_divide_3] at h
    refine G_iload dX3_divide_3 rfl ?_
    refine G_bipush (v := 16) dX3_divide_5 rfl ?_
    refine G_icmp_ge 24 dX3_divide_7 (by decide) (fun c1 => ?_) (fun c1 => ?_)
    · replace h := git c1 h
      refine G_aload_n dX3_divide_24 rfl rfl ?_
      refine G_aload_n dX3_divide_25 rfl rfl ?_
      refine G_getI fl_X3_15 (gset_sl ha1) (gset_sk ha1) rfl dX3_divide_26 ?_
      refine G_nI fun z2 ez2 => ?_
      replace h := gL_some ez2 h
      refine G_putI fl_X3_21 sl_76 sk_76 rfl rfl ⟨rfl, rfl⟩ dX3_divide_29 ?_
      refine G_mI fun I3 eI3 => ?_
      replace h := gL_some eI3 h
      refine G_aload_n dX3_divide_32 rfl rfl ?_
      refine G_aload_n dX3_divide_33 rfl rfl ?_
      refine G_iload_n dX3_divide_34 rfl rfl ?_
      obtain ⟨r4, hr5, h⟩ := gB_some h
      refine G_cV (mj := gX5_factsOf) (As := [.int x3]) (rest := [.ref a1]) ml_X3_24 vX5_factsOf sl_74 sk_74 (by decide) rfl rfl rfl (Nat.le_of_ble_eq_true rfl) (by decide) (Nat.le_refl _) (Nat.le_refl _) dX3_divide_35 (q_X5_factsOf hr5) ?_
      obtain ⟨r6, hr7, h⟩ := gB_some h
      refine G_cV (mj := gX9_firstHolding) (As := [.int r4]) (rest := []) ml_X3_30 vX9_firstHolding (gset_sl ha1) (gset_sk ha1) (by decide) rfl rfl rfl (Nat.le_of_ble_eq_true rfl) (by decide) (Nat.le_refl _) (Nat.le_refl _) dX3_divide_38 (q_X9_firstHolding ha1 hr7) ?_
      refine S_istore [some (.ref 76), some (.ref a1), some (.ref 74), some (.int x3), some (.int r6), none] dX3_divide_41 (by decide) rfl ?_
      refine G_iload dX3_divide_43 rfl ?_
      refine G_if_lt 55 dX3_divide_45 (by decide) (fun c8 => ?_) (fun c8 => ?_)
      · replace h := git c8 h
        refine G_vret rfl (Nat.le_refl _) (Nat.le_refl _) dX3_divide_55 ?_
        cases h
        exact ⟨rfl, rfl, rfl, rfl, rfl⟩
      · replace h := gif c8 h
        refine G_iload dX3_divide_48 rfl ?_
        refine G_bipush (v := 8) dX3_divide_50 rfl ?_
        refine G_icmp_lt 56 dX3_divide_52 (by decide) (fun c9 => ?_) (fun c9 => ?_)
        · replace h := git c9 h
          refine G_aload_n dX3_divide_56 rfl rfl ?_
          refine G_iload dX3_divide_57 rfl ?_
          obtain ⟨r10, hr11, h⟩ := gB_some h
          refine G_cV (mj := gX9_shareFrom) (As := [.int r6]) (rest := []) ml_X3_33 vX9_shareFrom (gset_sl ha1) (gset_sk ha1) (by decide) rfl rfl rfl (Nat.le_of_ble_eq_true rfl) (by decide) (Nat.le_refl _) (Nat.le_refl _) dX3_divide_59 (q_X9_shareFrom ha1 hr11) ?_
          refine S_istore [some (.ref 76), some (.ref a1), some (.ref 74), some (.int x3), some (.int r6), some (.int r10)] dX3_divide_62 (by decide) rfl ?_
          exact q_X3_divide_64  ha1 gFu _ _ h
        · replace h := gif c9 h
          refine G_vret rfl (Nat.le_refl _) (Nat.le_refl _) dX3_divide_55 ?_
          cases h
          exact ⟨rfl, rfl, rfl, rfl, rfl⟩
    · replace h := gif c1 h
      refine G_aload_n dX3_divide_10 rfl rfl ?_
      refine G_getR fl_X3_9 sl_76 sk_76 rfl (rr_76_0 _) dX3_divide_11 ?_
      refine G_iload dX3_divide_14 rfl ?_
      refine G_iconst (v := 0) dX3_divide_16 rfl ?_
      obtain ⟨b16, h⟩ := gck_some h
      refine G_iast sl_77 ss_77 (gin_in b16) dX3_divide_17 ?_
      refine G_mI fun I17 eI17 => ?_
      replace h := gL_some eI17 h
      refine S_iinc (v := (1 : Int32)) [some (.ref 76), some (.ref a1), some (.ref 74), some (.int x3), some (.int (x4 + (1 : Int32))), none] dX3_divide_18 rfl rfl (by decide) rfl ?_
      refine G_goto 3 dX3_divide_21 (by decide) ?_
      exact ih _ _ h
set_option maxRecDepth 20000 in
theorem q_X3_divide {l : Launch} {I : gIt} {J : gJt} {w : Bool} {a1 : Nat} {x3 : Int32} {v : gIt} (ha1 : gset a1) (h : p_X3_divide I a1 x3 = some v) : Cn l gX3_divide 5 0 0 [.ref 76, .ref a1, .ref 74, .int x3] gS0 I J (gR0 w) (fun v' S' I' J' R' => v' = none ∧ S' = gS0 ∧ I' = v ∧ J' = J ∧ R' = gR0 w) := by
  refine Cn.of [some (.ref 76), some (.ref a1), some (.ref 74), some (.int x3), none, none] (by decide) rfl (Nat.le_of_ble_eq_true rfl) ?_
  rw [p_X3_divide] at h
  refine G_iconst (v := 0) dX3_divide_0 rfl ?_
  refine S_istore [some (.ref 76), some (.ref a1), some (.ref 74), some (.int x3), some (.int (0 : Int32)), none] dX3_divide_1 (by decide) rfl ?_
  exact q_X3_divide_3  ha1 gFu _ _ h
def p_X3_givenTo (I : gIt) (x1 : Int32) : Option Int32 :=
  if x1 < 0 then
  some (0 : Int32)
  else
  if (16 : Int32) ≤ x1 then
  some (0 : Int32)
  else
  gck (gin x1 16) (
  some (I 77 (x1).toNatClampNeg))
set_option maxRecDepth 20000 in
theorem q_X3_givenTo {l : Launch} {I : gIt} {J : gJt} {w : Bool} {x1 : Int32} {v : Int32} (h : p_X3_givenTo I x1 = some v) : Cn l gX3_givenTo 2 0 0 [.ref 76, .int x1] gS0 I J (gR0 w) (fun v' S' I' J' R' => v' = some (.int v) ∧ S' = gS0 ∧ I' = I ∧ J' = J ∧ R' = gR0 w) := by
  refine Cn.of [some (.ref 76), some (.int x1)] (by decide) rfl (Nat.le_of_ble_eq_true rfl) ?_
  rw [p_X3_givenTo] at h
  refine G_iload_n dX3_givenTo_0 rfl rfl ?_
  refine G_if_lt 19 dX3_givenTo_1 (by decide) (fun c1 => ?_) (fun c1 => ?_)
  · replace h := git c1 h
    refine G_iconst (v := 0) dX3_givenTo_19 rfl ?_
    refine G_iret rfl (Nat.le_refl _) (Nat.le_refl _) dX3_givenTo_20 ?_
    cases h
    exact ⟨rfl, rfl, rfl, rfl, rfl⟩
  · replace h := gif c1 h
    refine G_iload_n dX3_givenTo_4 rfl rfl ?_
    refine G_bipush (v := 16) dX3_givenTo_5 rfl ?_
    refine G_icmp_ge 19 dX3_givenTo_7 (by decide) (fun c2 => ?_) (fun c2 => ?_)
    · replace h := git c2 h
      refine G_iconst (v := 0) dX3_givenTo_19 rfl ?_
      refine G_iret rfl (Nat.le_refl _) (Nat.le_refl _) dX3_givenTo_20 ?_
      cases h
      exact ⟨rfl, rfl, rfl, rfl, rfl⟩
    · replace h := gif c2 h
      refine G_aload_n dX3_givenTo_10 rfl rfl ?_
      refine G_getR fl_X3_9 sl_76 sk_76 rfl (rr_76_0 _) dX3_givenTo_11 ?_
      refine G_iload_n dX3_givenTo_14 rfl rfl ?_
      obtain ⟨b3, h⟩ := gck_some h
      refine G_iald sl_77 ss_77 (gin_in b3) dX3_givenTo_15 ?_
      refine G_goto 20 dX3_givenTo_16 (by decide) ?_
      refine G_iret rfl (Nat.le_refl _) (Nat.le_refl _) dX3_givenTo_20 ?_
      cases h
      exact ⟨rfl, rfl, rfl, rfl, rfl⟩
def p_X1_reckon_143 (J : gJt) (a1 : Nat) (x2 : Int32) (x3 : Int32) (x4 : Int32) (x5 : Int32) : Nat → gIt → Int32 → Option (Int32 × gIt × gJt)
  | 0, _, _ => none
  | n + 1, I, x6 =>
    if (gshl (1 : Int32) (I 78 9)) ≤ x6 then
    some ((1 : Int32), I, J)
    else
    if (nI 16) ≤ x6 then
    some ((1 : Int32), I, J)
    else
    gB (p_X1_personsOf I x6) fun r25 =>
    gB (p_X3_divide I a1 r25) fun r27 =>
    gB (p_X3_givenTo r27 x2) fun r29 =>
    gck (gin x6 16) (
    gL (gu2 r27 83 (x6).toNatClampNeg r29) fun I32 =>
    p_X1_reckon_143 J a1 x2 x3 x4 x5 n I32 (x6 + (1 : Int32)))
def p_X1_reckon (I : gIt) (J : gJt) (a1 : Nat) (x2 : Int32) (x3 : Int32) (x4 : Int32) : Option (Int32 × gIt × gJt) :=
  gB (p_X5_learn I x3) fun r1 =>
  gL ((r1 a1 6)) fun z3 =>
  gB (p_X7_has r1 z3) fun r4 =>
  if r4 = 0 then
  some ((0 : Int32), r1, J)
  else
  if (((r1 74 1) &&& ((r1 74 2) ^^^ (-1 : Int32))) &&& (gshl (1 : Int32) z3)) = 0 then
  some ((0 : Int32), r1, J)
  else
  gL ((r1 a1 7)) fun z8 =>
  gL (gu2 r1 78 10 z8) fun I9 =>
  gck (gin z3 16) (
  gL ((x4 - (I9 2 (z3).toNatClampNeg))) fun z11 =>
  gL (gu2 I9 78 11 z11) fun I12 =>
  gB (p_X6_livesAt I12 (I12 78 10) (I12 78 11)) fun r13 =>
  gL ((Int32.toInt64 r13)) fun u15 =>
  gL (gu2 J 78 12 u15) fun J16 =>
  if (lg_cmp (J16 78 12) (0 : Int64)) ≤ 0 then
  some ((0 : Int32), I12, J16)
  else
  gB (p_X5_namedIn I12 a1) fun r18 =>
  gB (p_X1_listLiving I12 J16 (r18 &&& ((I12 74 2) ^^^ (-1 : Int32))) x4) fun r20 =>
  if r20.1 = 0 then
  some ((0 : Int32), r20.2.1, r20.2.2)
  else
  p_X1_reckon_143 r20.2.2 a1 x2 x3 x4 z3 gFu r20.2.1 (0 : Int32))
set_option maxRecDepth 20000 in
theorem q_X1_reckon_143 {l : Launch} {v : (Int32 × gIt × gJt)} {w : Bool} {J : gJt} {a1 : Nat} {x2 : Int32} {x3 : Int32} {x4 : Int32} {x5 : Int32} (ha1 : gset a1) : ∀ (n : Nat) (I : gIt) (x6 : Int32), p_X1_reckon_143 J a1 x2 x3 x4 x5 n I x6 = some v → G l gX1_reckon 6 0 0 (fun v' S' I' J' R' => v' = some (.int v.1) ∧ S' = gS0 ∧ I' = v.2.1 ∧ J' = v.2.2 ∧ R' = gR0 w) 0 0 143 [some (.ref 78), some (.ref a1), some (.int x2), some (.int x3), some (.int x4), some (.int x5), some (.int x6)] [] gS0 I J (gR0 w) := by
  intro n
  induction n with
  | zero => intro _ _ h; cases h
  | succ n ih =>
    intro I x6 h
    rw [p_X1_reckon_143] at h
    refine G_iload dX1_reckon_143 rfl ?_
    refine G_iconst (v := 1) dX1_reckon_145 rfl ?_
    refine G_aload_n dX1_reckon_146 rfl rfl ?_
    refine G_getI fl_X1_94 sl_78 sk_78 rfl dX1_reckon_147 ?_
    refine G_shl dX1_reckon_150 ?_
    refine G_icmp_ge 203 dX1_reckon_151 (by decide) (fun c23 => ?_) (fun c23 => ?_)
    · replace h := git c23 h
      refine G_iconst (v := 1) dX1_reckon_203 rfl ?_
      refine G_zret rfl (Or.inr rfl) (Nat.le_refl _) (Nat.le_refl _) dX1_reckon_204 ?_
      cases h
      exact ⟨rfl, rfl, rfl, rfl, rfl⟩
    · replace h := gif c23 h
      refine G_iload dX1_reckon_154 rfl ?_
      refine G_aload_n dX1_reckon_156 rfl rfl ?_
      refine G_getR fl_X1_24 sl_78 sk_78 rfl (rr_78_8 _) dX1_reckon_157 ?_
      refine G_alen sl_83 ss_83 (by decide) (by decide) dX1_reckon_160 ?_
      refine G_icmp_ge 203 dX1_reckon_161 (by decide) (fun c24 => ?_) (fun c24 => ?_)
      · replace h := git c24 h
        refine G_iconst (v := 1) dX1_reckon_203 rfl ?_
        refine G_zret rfl (Or.inr rfl) (Nat.le_refl _) (Nat.le_refl _) dX1_reckon_204 ?_
        cases h
        exact ⟨rfl, rfl, rfl, rfl, rfl⟩
      · replace h := gif c24 h
        refine G_aload_n dX1_reckon_164 rfl rfl ?_
        refine G_getR fl_X1_39 sl_78 sk_78 rfl (rr_78_3 _) dX1_reckon_165 ?_
        refine G_aload_n dX1_reckon_168 rfl rfl ?_
        refine G_aload_n dX1_reckon_169 rfl rfl ?_
        refine G_getR fl_X1_35 sl_78 sk_78 rfl (rr_78_2 _) dX1_reckon_170 ?_
        refine G_aload_n dX1_reckon_173 rfl rfl ?_
        refine G_iload dX1_reckon_174 rfl ?_
        obtain ⟨r25, hr26, h⟩ := gB_some h
        refine G_cV (mj := gX1_personsOf) (As := [.int x6]) (rest := [.ref 74, .ref a1, .ref 76]) ml_X1_97 vX1_personsOf sl_78 sk_78 (by decide) rfl rfl rfl (Nat.le_of_ble_eq_true rfl) (by decide) (Nat.le_refl _) (Nat.le_refl _) dX1_reckon_176 (q_X1_personsOf hr26) ?_
        obtain ⟨r27, hr28, h⟩ := gB_some h
        refine G_cV (mj := gX3_divide) (As := [.ref a1, .ref 74, .int r25]) (rest := []) ml_X1_101 vX3_divide sl_76 sk_76 (by decide) rfl rfl rfl (Nat.le_of_ble_eq_true rfl) (by decide) (Nat.le_refl _) (Nat.le_refl _) dX1_reckon_179 (q_X3_divide ha1 hr28) ?_
        refine G_aload_n dX1_reckon_182 rfl rfl ?_
        refine G_getR fl_X1_24 sl_78 sk_78 rfl (rr_78_8 _) dX1_reckon_183 ?_
        refine G_iload dX1_reckon_186 rfl ?_
        refine G_aload_n dX1_reckon_188 rfl rfl ?_
        refine G_getR fl_X1_39 sl_78 sk_78 rfl (rr_78_3 _) dX1_reckon_189 ?_
        refine G_iload_n dX1_reckon_192 rfl rfl ?_
        obtain ⟨r29, hr30, h⟩ := gB_some h
        refine G_cV (mj := gX3_givenTo) (As := [.int x2]) (rest := [.int x6, .ref 83]) ml_X1_107 vX3_givenTo sl_76 sk_76 (by decide) rfl rfl rfl (Nat.le_of_ble_eq_true rfl) (by decide) (Nat.le_refl _) (Nat.le_refl _) dX1_reckon_193 (q_X3_givenTo hr30) ?_
        obtain ⟨b31, h⟩ := gck_some h
        refine G_iast sl_83 ss_83 (gin_in b31) dX1_reckon_196 ?_
        refine G_mI fun I32 eI32 => ?_
        replace h := gL_some eI32 h
        refine S_iinc (v := (1 : Int32)) [some (.ref 78), some (.ref a1), some (.int x2), some (.int x3), some (.int x4), some (.int x5), some (.int (x6 + (1 : Int32)))] dX1_reckon_197 rfl rfl (by decide) rfl ?_
        refine G_goto 143 dX1_reckon_200 (by decide) ?_
        exact ih _ _ h
set_option maxRecDepth 20000 in
theorem q_X1_reckon {l : Launch} {I : gIt} {J : gJt} {w : Bool} {a1 : Nat} {x2 : Int32} {x3 : Int32} {x4 : Int32} {v : (Int32 × gIt × gJt)} (ha1 : gset a1) (h : p_X1_reckon I J a1 x2 x3 x4 = some v) : Cn l gX1_reckon 6 0 0 [.ref 78, .ref a1, .int x2, .int x3, .int x4] gS0 I J (gR0 w) (fun v' S' I' J' R' => v' = some (.int v.1) ∧ S' = gS0 ∧ I' = v.2.1 ∧ J' = v.2.2 ∧ R' = gR0 w) := by
  refine Cn.of [some (.ref 78), some (.ref a1), some (.int x2), some (.int x3), some (.int x4), none, none] (by decide) rfl (Nat.le_of_ble_eq_true rfl) ?_
  rw [p_X1_reckon] at h
  refine G_aload_n dX1_reckon_0 rfl rfl ?_
  refine G_getR fl_X1_35 sl_78 sk_78 rfl (rr_78_2 _) dX1_reckon_1 ?_
  refine G_aload_n dX1_reckon_4 rfl rfl ?_
  refine G_getR fl_X1_27 sl_78 sk_78 rfl (rr_78_0 _) dX1_reckon_5 ?_
  refine G_iload_n dX1_reckon_8 rfl rfl ?_
  obtain ⟨r1, hr2, h⟩ := gB_some h
  refine G_cV (mj := gX5_learn) (As := [.ref 1, .int x3]) (rest := []) ml_X1_43 vX5_learn sl_74 sk_74 (by decide) rfl rfl rfl (Nat.le_of_ble_eq_true rfl) (by decide) (Nat.le_refl _) (Nat.le_refl _) dX1_reckon_9 (q_X5_learn hr2) ?_
  refine G_aload_n dX1_reckon_12 rfl rfl ?_
  refine G_getI fl_X1_49 (gset_sl ha1) (gset_sk ha1) rfl dX1_reckon_13 ?_
  refine G_nI fun z3 ez3 => ?_
  replace h := gL_some ez3 h
  refine S_istore [some (.ref 78), some (.ref a1), some (.int x2), some (.int x3), some (.int x4), some (.int z3), none] dX1_reckon_16 (by decide) rfl ?_
  refine G_aload_n dX1_reckon_18 rfl rfl ?_
  refine G_getR fl_X1_27 sl_78 sk_78 rfl (rr_78_0 _) dX1_reckon_19 ?_
  refine G_iload dX1_reckon_22 rfl ?_
  obtain ⟨r4, hr5, h⟩ := gB_some h
  refine G_cV (mj := gX7_has) (As := [.int z3]) (rest := []) ml_X1_55 vX7_has sl_1 sk_1 (by decide) rfl rfl rfl (Nat.le_of_ble_eq_true rfl) (by decide) (Nat.le_refl _) (Nat.le_refl _) dX1_reckon_24 (q_X7_has hr5) ?_
  refine G_if_eq 55 dX1_reckon_27 (by decide) (fun c6 => ?_) (fun c6 => ?_)
  · replace h := git c6 h
    refine G_iconst (v := 0) dX1_reckon_55 rfl ?_
    refine G_zret rfl (Or.inl rfl) (Nat.le_refl _) (Nat.le_refl _) dX1_reckon_56 ?_
    cases h
    exact ⟨rfl, rfl, rfl, rfl, rfl⟩
  · replace h := gif c6 h
    refine G_aload_n dX1_reckon_30 rfl rfl ?_
    refine G_getR fl_X1_35 sl_78 sk_78 rfl (rr_78_2 _) dX1_reckon_31 ?_
    refine G_getI fl_X1_60 sl_74 sk_74 rfl dX1_reckon_34 ?_
    refine G_aload_n dX1_reckon_37 rfl rfl ?_
    refine G_getR fl_X1_35 sl_78 sk_78 rfl (rr_78_2 _) dX1_reckon_38 ?_
    refine G_getI fl_X1_63 sl_74 sk_74 rfl dX1_reckon_41 ?_
    refine G_iconst (v := -1) dX1_reckon_44 rfl ?_
    refine G_ixor dX1_reckon_45 ?_
    refine G_iand dX1_reckon_46 ?_
    refine G_iconst (v := 1) dX1_reckon_47 rfl ?_
    refine G_iload dX1_reckon_48 rfl ?_
    refine G_shl dX1_reckon_50 ?_
    refine G_iand dX1_reckon_51 ?_
    refine G_if_ne 57 dX1_reckon_52 (by decide) (fun c7 => ?_) (fun c7 => ?_)
    · replace h := gif c7 h
      refine G_aload_n dX1_reckon_57 rfl rfl ?_
      refine G_aload_n dX1_reckon_58 rfl rfl ?_
      refine G_getI fl_X1_66 (gset_sl ha1) (gset_sk ha1) rfl dX1_reckon_59 ?_
      refine G_nI fun z8 ez8 => ?_
      replace h := gL_some ez8 h
      refine G_putI fl_X1_69 sl_78 sk_78 rfl rfl ⟨rfl, rfl⟩ dX1_reckon_62 ?_
      refine G_mI fun I9 eI9 => ?_
      replace h := gL_some eI9 h
      refine G_aload_n dX1_reckon_65 rfl rfl ?_
      refine G_iload dX1_reckon_66 rfl ?_
      refine G_aload_n dX1_reckon_68 rfl rfl ?_
      refine G_getR fl_X1_27 sl_78 sk_78 rfl (rr_78_0 _) dX1_reckon_69 ?_
      refine G_getR fl_X1_70 sl_1 sk_1 rfl (rr_1_0 _) dX1_reckon_72 ?_
      refine G_iload dX1_reckon_75 rfl ?_
      obtain ⟨b10, h⟩ := gck_some h
      refine G_iald sl_2 ss_2 (gin_in b10) dX1_reckon_77 ?_
      refine G_isub dX1_reckon_78 ?_
      refine G_nI fun z11 ez11 => ?_
      replace h := gL_some ez11 h
      refine G_putI fl_X1_73 sl_78 sk_78 rfl rfl ⟨rfl, rfl⟩ dX1_reckon_79 ?_
      refine G_mI fun I12 eI12 => ?_
      replace h := gL_some eI12 h
      refine G_aload_n dX1_reckon_82 rfl rfl ?_
      refine G_aload_n dX1_reckon_83 rfl rfl ?_
      refine G_getR fl_X1_31 sl_78 sk_78 rfl (rr_78_1 _) dX1_reckon_84 ?_
      refine G_aload_n dX1_reckon_87 rfl rfl ?_
      refine G_getI fl_X1_69 sl_78 sk_78 rfl dX1_reckon_88 ?_
      refine G_aload_n dX1_reckon_91 rfl rfl ?_
      refine G_getI fl_X1_73 sl_78 sk_78 rfl dX1_reckon_92 ?_
      obtain ⟨r13, hr14, h⟩ := gB_some h
      refine G_cV (mj := gX6_livesAt) (As := [.int (I12 78 10), .int (I12 78 11)]) (rest := [.ref 78]) ml_X1_76 vX6_livesAt sl_9 sk_9 (by decide) rfl rfl rfl (Nat.le_of_ble_eq_true rfl) (by decide) (Nat.le_refl _) (Nat.le_refl _) dX1_reckon_95 (q_X6_livesAt hr14) ?_
      refine G_i2l dX1_reckon_98 ?_
      refine G_nJ fun u15 eu15 => ?_
      replace h := gL_some eu15 h
      refine G_putJ fl_X1_82 sl_78 sk_78 rfl rfl dX1_reckon_99 ?_
      refine G_mJ fun J16 eJ16 => ?_
      replace h := gL_some eJ16 h
      refine G_aload_n dX1_reckon_102 rfl rfl ?_
      refine G_getJ fl_X1_82 sl_78 sk_78 rfl dX1_reckon_103 ?_
      refine G_lconst (v := 0) dX1_reckon_106 rfl ?_
      refine G_lcmp dX1_reckon_107 ?_
      refine G_if_le 138 dX1_reckon_108 (by decide) (fun c17 => ?_) (fun c17 => ?_)
      · replace h := git c17 h
        refine G_iconst (v := 0) dX1_reckon_138 rfl ?_
        refine G_zret rfl (Or.inl rfl) (Nat.le_refl _) (Nat.le_refl _) dX1_reckon_139 ?_
        cases h
        exact ⟨rfl, rfl, rfl, rfl, rfl⟩
      · replace h := gif c17 h
        refine G_aload_n dX1_reckon_111 rfl rfl ?_
        refine G_aload_n dX1_reckon_112 rfl rfl ?_
        refine G_getR fl_X1_35 sl_78 sk_78 rfl (rr_78_2 _) dX1_reckon_113 ?_
        refine G_aload_n dX1_reckon_116 rfl rfl ?_
        obtain ⟨r18, hr19, h⟩ := gB_some h
        refine G_cV (mj := gX5_namedIn) (As := [.ref a1]) (rest := [.ref 78]) ml_X1_86 vX5_namedIn sl_74 sk_74 (by decide) rfl rfl rfl (Nat.le_of_ble_eq_true rfl) (by decide) (Nat.le_refl _) (Nat.le_refl _) dX1_reckon_117 (q_X5_namedIn ha1 hr19) ?_
        refine G_aload_n dX1_reckon_120 rfl rfl ?_
        refine G_getR fl_X1_35 sl_78 sk_78 rfl (rr_78_2 _) dX1_reckon_121 ?_
        refine G_getI fl_X1_63 sl_74 sk_74 rfl dX1_reckon_124 ?_
        refine G_iconst (v := -1) dX1_reckon_127 rfl ?_
        refine G_ixor dX1_reckon_128 ?_
        refine G_iand dX1_reckon_129 ?_
        refine G_iload dX1_reckon_130 rfl ?_
        obtain ⟨r20, hr21, h⟩ := gB_some h
        refine G_cV (mj := gX1_listLiving) (As := [.int (r18 &&& ((I12 74 2) ^^^ (-1 : Int32))), .int x4]) (rest := []) ml_X1_90 vX1_listLiving sl_78 sk_78 (by decide) rfl rfl rfl (Nat.le_of_ble_eq_true rfl) (by decide) (Nat.le_refl _) (Nat.le_refl _) dX1_reckon_132 (q_X1_listLiving hr21) ?_
        refine G_if_ne 140 dX1_reckon_135 (by decide) (fun c22 => ?_) (fun c22 => ?_)
        · replace h := gif c22 h
          refine G_iconst (v := 0) dX1_reckon_140 rfl ?_
          refine S_istore [some (.ref 78), some (.ref a1), some (.int x2), some (.int x3), some (.int x4), some (.int z3), some (.int (0 : Int32))] dX1_reckon_141 (by decide) rfl ?_
          exact q_X1_reckon_143  ha1 gFu _ _ h
        · replace h := git c22 h
          refine G_iconst (v := 0) dX1_reckon_138 rfl ?_
          refine G_zret rfl (Or.inl rfl) (Nat.le_refl _) (Nat.le_refl _) dX1_reckon_139 ?_
          cases h
          exact ⟨rfl, rfl, rfl, rfl, rfl⟩
    · replace h := git c7 h
      refine G_iconst (v := 0) dX1_reckon_55 rfl ?_
      refine G_zret rfl (Or.inl rfl) (Nat.le_refl _) (Nat.le_refl _) dX1_reckon_56 ?_
      cases h
      exact ⟨rfl, rfl, rfl, rfl, rfl⟩
def p_X1_enterYear_2 (x1 : Int32) : Nat → gIt → Int32 → Option (Int64 × gIt)
  | 0, _, _ => none
  | n + 1, I, x2 =>
    if (I 78 9) ≤ x2 then
    gB (p_X6_livesAt I (I 78 10) ((I 78 11) + x1)) fun r2 =>
    gB (p_X6_livesAt I (I 78 10) (((I 78 11) + x1) + (1 : Int32))) fun r4 =>
    some ((Int32.toInt64 (r2 - r4)), I)
    else
    if (4 : Int32) ≤ x2 then
    gB (p_X6_livesAt I (I 78 10) ((I 78 11) + x1)) fun r7 =>
    gB (p_X6_livesAt I (I 78 10) (((I 78 11) + x1) + (1 : Int32))) fun r9 =>
    some ((Int32.toInt64 (r7 - r9)), I)
    else
    gck (gin x2 4) (
    gB (p_X6_livesAt I (I 78 10) (((I 79 (x2).toNatClampNeg) + x1) + (1 : Int32))) fun r12 =>
    gck (gin x2 4) (
    gL (gu2 I 82 (x2).toNatClampNeg r12) fun I15 =>
    p_X1_enterYear_2 x1 n I15 (x2 + (1 : Int32))))
def p_X1_enterYear (I : gIt) (x1 : Int32) : Option (Int64 × gIt) :=
  p_X1_enterYear_2 x1 gFu I (0 : Int32)
set_option maxRecDepth 20000 in
theorem q_X1_enterYear_2 {l : Launch} {v : (Int64 × gIt)} {J : gJt} {w : Bool} {x1 : Int32} : ∀ (n : Nat) (I : gIt) (x2 : Int32), p_X1_enterYear_2 x1 n I x2 = some v → G l gX1_enterYear 3 0 0 (fun v' S' I' J' R' => v' = some (.long v.1) ∧ S' = gS0 ∧ I' = v.2 ∧ J' = J ∧ R' = gR0 w) 0 0 2 [some (.ref 78), some (.int x1), some (.int x2)] [] gS0 I J (gR0 w) := by
  intro n
  induction n with
  | zero => intro _ _ h; cases h
  | succ n ih =>
    intro I x2 h
    rw [p_X1_enterYear_2] at h
    refine G_iload_n dX1_enterYear_2 rfl rfl ?_
    refine G_aload_n dX1_enterYear_3 rfl rfl ?_
    refine G_getI fl_X1_94 sl_78 sk_78 rfl dX1_enterYear_4 ?_
    refine G_icmp_ge 48 dX1_enterYear_7 (by decide) (fun c1 => ?_) (fun c1 => ?_)
    · replace h := git c1 h
      refine G_aload_n dX1_enterYear_48 rfl rfl ?_
      refine G_getR fl_X1_31 sl_78 sk_78 rfl (rr_78_1 _) dX1_enterYear_49 ?_
      refine G_aload_n dX1_enterYear_52 rfl rfl ?_
      refine G_getI fl_X1_69 sl_78 sk_78 rfl dX1_enterYear_53 ?_
      refine G_aload_n dX1_enterYear_56 rfl rfl ?_
      refine G_getI fl_X1_73 sl_78 sk_78 rfl dX1_enterYear_57 ?_
      refine G_iload_n dX1_enterYear_60 rfl rfl ?_
      refine G_iadd dX1_enterYear_61 ?_
      obtain ⟨r2, hr3, h⟩ := gB_some h
      refine G_cV (mj := gX6_livesAt) (As := [.int (I 78 10), .int ((I 78 11) + x1)]) (rest := []) ml_X1_76 vX6_livesAt sl_9 sk_9 (by decide) rfl rfl rfl (Nat.le_of_ble_eq_true rfl) (by decide) (Nat.le_refl _) (Nat.le_refl _) dX1_enterYear_62 (q_X6_livesAt hr3) ?_
      refine G_aload_n dX1_enterYear_65 rfl rfl ?_
      refine G_getR fl_X1_31 sl_78 sk_78 rfl (rr_78_1 _) dX1_enterYear_66 ?_
      refine G_aload_n dX1_enterYear_69 rfl rfl ?_
      refine G_getI fl_X1_69 sl_78 sk_78 rfl dX1_enterYear_70 ?_
      refine G_aload_n dX1_enterYear_73 rfl rfl ?_
      refine G_getI fl_X1_73 sl_78 sk_78 rfl dX1_enterYear_74 ?_
      refine G_iload_n dX1_enterYear_77 rfl rfl ?_
      refine G_iadd dX1_enterYear_78 ?_
      refine G_iconst (v := 1) dX1_enterYear_79 rfl ?_
      refine G_iadd dX1_enterYear_80 ?_
      obtain ⟨r4, hr5, h⟩ := gB_some h
      refine G_cV (mj := gX6_livesAt) (As := [.int (I 78 10), .int (((I 78 11) + x1) + (1 : Int32))]) (rest := [.int r2]) ml_X1_76 vX6_livesAt sl_9 sk_9 (by decide) rfl rfl rfl (Nat.le_of_ble_eq_true rfl) (by decide) (Nat.le_refl _) (Nat.le_refl _) dX1_enterYear_81 (q_X6_livesAt hr5) ?_
      refine G_isub dX1_enterYear_84 ?_
      refine G_i2l dX1_enterYear_85 ?_
      refine G_lret rfl (Nat.le_refl _) (Nat.le_refl _) dX1_enterYear_86 ?_
      cases h
      exact ⟨rfl, rfl, rfl, rfl, rfl⟩
    · replace h := gif c1 h
      refine G_iload_n dX1_enterYear_10 rfl rfl ?_
      refine G_iconst (v := 4) dX1_enterYear_11 rfl ?_
      refine G_icmp_ge 48 dX1_enterYear_12 (by decide) (fun c6 => ?_) (fun c6 => ?_)
      · replace h := git c6 h
        refine G_aload_n dX1_enterYear_48 rfl rfl ?_
        refine G_getR fl_X1_31 sl_78 sk_78 rfl (rr_78_1 _) dX1_enterYear_49 ?_
        refine G_aload_n dX1_enterYear_52 rfl rfl ?_
        refine G_getI fl_X1_69 sl_78 sk_78 rfl dX1_enterYear_53 ?_
        refine G_aload_n dX1_enterYear_56 rfl rfl ?_
        refine G_getI fl_X1_73 sl_78 sk_78 rfl dX1_enterYear_57 ?_
        refine G_iload_n dX1_enterYear_60 rfl rfl ?_
        refine G_iadd dX1_enterYear_61 ?_
        obtain ⟨r7, hr8, h⟩ := gB_some h
        refine G_cV (mj := gX6_livesAt) (As := [.int (I 78 10), .int ((I 78 11) + x1)]) (rest := []) ml_X1_76 vX6_livesAt sl_9 sk_9 (by decide) rfl rfl rfl (Nat.le_of_ble_eq_true rfl) (by decide) (Nat.le_refl _) (Nat.le_refl _) dX1_enterYear_62 (q_X6_livesAt hr8) ?_
        refine G_aload_n dX1_enterYear_65 rfl rfl ?_
        refine G_getR fl_X1_31 sl_78 sk_78 rfl (rr_78_1 _) dX1_enterYear_66 ?_
        refine G_aload_n dX1_enterYear_69 rfl rfl ?_
        refine G_getI fl_X1_69 sl_78 sk_78 rfl dX1_enterYear_70 ?_
        refine G_aload_n dX1_enterYear_73 rfl rfl ?_
        refine G_getI fl_X1_73 sl_78 sk_78 rfl dX1_enterYear_74 ?_
        refine G_iload_n dX1_enterYear_77 rfl rfl ?_
        refine G_iadd dX1_enterYear_78 ?_
        refine G_iconst (v := 1) dX1_enterYear_79 rfl ?_
        refine G_iadd dX1_enterYear_80 ?_
        obtain ⟨r9, hr10, h⟩ := gB_some h
        refine G_cV (mj := gX6_livesAt) (As := [.int (I 78 10), .int (((I 78 11) + x1) + (1 : Int32))]) (rest := [.int r7]) ml_X1_76 vX6_livesAt sl_9 sk_9 (by decide) rfl rfl rfl (Nat.le_of_ble_eq_true rfl) (by decide) (Nat.le_refl _) (Nat.le_refl _) dX1_enterYear_81 (q_X6_livesAt hr10) ?_
        refine G_isub dX1_enterYear_84 ?_
        refine G_i2l dX1_enterYear_85 ?_
        refine G_lret rfl (Nat.le_refl _) (Nat.le_refl _) dX1_enterYear_86 ?_
        cases h
        exact ⟨rfl, rfl, rfl, rfl, rfl⟩
      · replace h := gif c6 h
        refine G_aload_n dX1_enterYear_15 rfl rfl ?_
        refine G_getR fl_X1_21 sl_78 sk_78 rfl (rr_78_7 _) dX1_enterYear_16 ?_
        refine G_iload_n dX1_enterYear_19 rfl rfl ?_
        refine G_aload_n dX1_enterYear_20 rfl rfl ?_
        refine G_getR fl_X1_31 sl_78 sk_78 rfl (rr_78_1 _) dX1_enterYear_21 ?_
        refine G_aload_n dX1_enterYear_24 rfl rfl ?_
        refine G_getI fl_X1_69 sl_78 sk_78 rfl dX1_enterYear_25 ?_
        refine G_aload_n dX1_enterYear_28 rfl rfl ?_
        refine G_getR fl_X1_9 sl_78 sk_78 rfl (rr_78_4 _) dX1_enterYear_29 ?_
        refine G_iload_n dX1_enterYear_32 rfl rfl ?_
        obtain ⟨b11, h⟩ := gck_some h
        refine G_iald sl_79 ss_79 (gin_in b11) dX1_enterYear_33 ?_
        refine G_iload_n dX1_enterYear_34 rfl rfl ?_
        refine G_iadd dX1_enterYear_35 ?_
        refine G_iconst (v := 1) dX1_enterYear_36 rfl ?_
        refine G_iadd dX1_enterYear_37 ?_
        obtain ⟨r12, hr13, h⟩ := gB_some h
        refine G_cV (mj := gX6_livesAt) (As := [.int (I 78 10), .int (((I 79 (x2).toNatClampNeg) + x1) + (1 : Int32))]) (rest := [.int x2, .ref 82]) ml_X1_76 vX6_livesAt sl_9 sk_9 (by decide) rfl rfl rfl (Nat.le_of_ble_eq_true rfl) (by decide) (Nat.le_refl _) (Nat.le_refl _) dX1_enterYear_38 (q_X6_livesAt hr13) ?_
        obtain ⟨b14, h⟩ := gck_some h
        refine G_iast sl_82 ss_82 (gin_in b14) dX1_enterYear_41 ?_
        refine G_mI fun I15 eI15 => ?_
        replace h := gL_some eI15 h
        refine S_iinc (v := (1 : Int32)) [some (.ref 78), some (.int x1), some (.int (x2 + (1 : Int32)))] dX1_enterYear_42 rfl rfl (by decide) rfl ?_
        refine G_goto 2 dX1_enterYear_45 (by decide) ?_
        exact ih _ _ h
set_option maxRecDepth 20000 in
theorem q_X1_enterYear {l : Launch} {I : gIt} {J : gJt} {w : Bool} {x1 : Int32} {v : (Int64 × gIt)} (h : p_X1_enterYear I x1 = some v) : Cn l gX1_enterYear 3 0 0 [.ref 78, .int x1] gS0 I J (gR0 w) (fun v' S' I' J' R' => v' = some (.long v.1) ∧ S' = gS0 ∧ I' = v.2 ∧ J' = J ∧ R' = gR0 w) := by
  refine Cn.of [some (.ref 78), some (.int x1), none] (by decide) rfl (Nat.le_of_ble_eq_true rfl) ?_
  rw [p_X1_enterYear] at h
  refine G_iconst (v := 0) dX1_enterYear_0 rfl ?_
  refine S_istore_n [some (.ref 78), some (.int x1), some (.int (0 : Int32))] dX1_enterYear_1 rfl (by decide) rfl ?_
  exact q_X1_enterYear_2   gFu _ _ h
def p_X1_weightOf_6 (I : gIt) (x1 : Int32) (y2 : Int64) : Nat → Int64 → Int32 → Option Int64
  | 0, _, _ => none
  | n + 1, y4, x6 =>
    if (I 78 9) ≤ x6 then
    some y4
    else
    if (4 : Int32) ≤ x6 then
    some y4
    else
    if ((gushr x1 x6) &&& (1 : Int32)) = (1 : Int32) then
    gck (gin x6 4) (
    gL ((y4 * (Int32.toInt64 (I 82 (x6).toNatClampNeg)))) fun u8 =>
    p_X1_weightOf_6 I x1 y2 n u8 (x6 + (1 : Int32)))
    else
    gck (gin x6 4) (
    gck (gin x6 4) (
    gL ((y4 * (Int32.toInt64 ((I 80 (x6).toNatClampNeg) - (I 82 (x6).toNatClampNeg))))) fun u6 =>
    p_X1_weightOf_6 I x1 y2 n u6 (x6 + (1 : Int32))))
def p_X1_weightOf (I : gIt) (x1 : Int32) (y2 : Int64) : Option Int64 :=
  p_X1_weightOf_6 I x1 y2 gFu y2 (0 : Int32)
set_option maxRecDepth 20000 in
theorem q_X1_weightOf_6 {l : Launch} {v : Int64} {J : gJt} {w : Bool} {I : gIt} {x1 : Int32} {y2 : Int64} : ∀ (n : Nat) (y4 : Int64) (x6 : Int32), p_X1_weightOf_6 I x1 y2 n y4 x6 = some v → G l gX1_weightOf 2 0 0 (fun v' S' I' J' R' => v' = some (.long v) ∧ S' = gS0 ∧ I' = I ∧ J' = J ∧ R' = gR0 w) 0 0 6 [some (.ref 78), some (.int x1), some (.long y2), none, some (.long y4), none, some (.int x6)] [] gS0 I J (gR0 w) := by
  intro n
  induction n with
  | zero => intro _ _ h; cases h
  | succ n ih =>
    intro y4 x6 h
    rw [p_X1_weightOf_6] at h
    refine G_iload dX1_weightOf_6 rfl ?_
    refine G_aload_n dX1_weightOf_8 rfl rfl ?_
    refine G_getI fl_X1_94 sl_78 sk_78 rfl dX1_weightOf_9 ?_
    refine G_icmp_ge 69 dX1_weightOf_12 (by decide) (fun c1 => ?_) (fun c1 => ?_)
    · replace h := git c1 h
      refine G_lload dX1_weightOf_69 rfl ?_
      refine G_lret rfl (Nat.le_refl _) (Nat.le_refl _) dX1_weightOf_71 ?_
      cases h
      exact ⟨rfl, rfl, rfl, rfl, rfl⟩
    · replace h := gif c1 h
      refine G_iload dX1_weightOf_15 rfl ?_
      refine G_iconst (v := 4) dX1_weightOf_17 rfl ?_
      refine G_icmp_ge 69 dX1_weightOf_18 (by decide) (fun c2 => ?_) (fun c2 => ?_)
      · replace h := git c2 h
        refine G_lload dX1_weightOf_69 rfl ?_
        refine G_lret rfl (Nat.le_refl _) (Nat.le_refl _) dX1_weightOf_71 ?_
        cases h
        exact ⟨rfl, rfl, rfl, rfl, rfl⟩
      · replace h := gif c2 h
        refine G_lload dX1_weightOf_21 rfl ?_
        refine G_iload_n dX1_weightOf_23 rfl rfl ?_
        refine G_iload dX1_weightOf_24 rfl ?_
        refine G_ushr dX1_weightOf_26 ?_
        refine G_iconst (v := 1) dX1_weightOf_27 rfl ?_
        refine G_iand dX1_weightOf_28 ?_
        refine G_iconst (v := 1) dX1_weightOf_29 rfl ?_
        refine G_icmp_ne 44 dX1_weightOf_30 (by decide) (fun c3 => ?_) (fun c3 => ?_)
        · replace h := gif c3 h
          refine G_aload_n dX1_weightOf_44 rfl rfl ?_
          refine G_getR fl_X1_15 sl_78 sk_78 rfl (rr_78_5 _) dX1_weightOf_45 ?_
          refine G_iload dX1_weightOf_48 rfl ?_
          obtain ⟨b4, h⟩ := gck_some h
          refine G_iald sl_80 ss_80 (gin_in b4) dX1_weightOf_50 ?_
          refine G_aload_n dX1_weightOf_51 rfl rfl ?_
          refine G_getR fl_X1_21 sl_78 sk_78 rfl (rr_78_7 _) dX1_weightOf_52 ?_
          refine G_iload dX1_weightOf_55 rfl ?_
          obtain ⟨b5, h⟩ := gck_some h
          refine G_iald sl_82 ss_82 (gin_in b5) dX1_weightOf_57 ?_
          refine G_isub dX1_weightOf_58 ?_
          refine G_i2l dX1_weightOf_59 ?_
          refine G_lmul dX1_weightOf_60 ?_
          refine G_nJ fun u6 eu6 => ?_
          replace h := gL_some eu6 h
          refine S_lstore [some (.ref 78), some (.int x1), some (.long y2), none, some (.long u6), none, some (.int x6)] dX1_weightOf_61 (by decide) rfl ?_
          refine S_iinc (v := (1 : Int32)) [some (.ref 78), some (.int x1), some (.long y2), none, some (.long u6), none, some (.int (x6 + (1 : Int32)))] dX1_weightOf_63 rfl rfl (by decide) rfl ?_
          refine G_goto 6 dX1_weightOf_66 (by decide) ?_
          exact ih _ _ h
        · replace h := git c3 h
          refine G_aload_n dX1_weightOf_33 rfl rfl ?_
          refine G_getR fl_X1_21 sl_78 sk_78 rfl (rr_78_7 _) dX1_weightOf_34 ?_
          refine G_iload dX1_weightOf_37 rfl ?_
          obtain ⟨b7, h⟩ := gck_some h
          refine G_iald sl_82 ss_82 (gin_in b7) dX1_weightOf_39 ?_
          refine G_i2l dX1_weightOf_40 ?_
          refine G_goto 60 dX1_weightOf_41 (by decide) ?_
          refine G_lmul dX1_weightOf_60 ?_
          refine G_nJ fun u8 eu8 => ?_
          replace h := gL_some eu8 h
          refine S_lstore [some (.ref 78), some (.int x1), some (.long y2), none, some (.long u8), none, some (.int x6)] dX1_weightOf_61 (by decide) rfl ?_
          refine S_iinc (v := (1 : Int32)) [some (.ref 78), some (.int x1), some (.long y2), none, some (.long u8), none, some (.int (x6 + (1 : Int32)))] dX1_weightOf_63 rfl rfl (by decide) rfl ?_
          refine G_goto 6 dX1_weightOf_66 (by decide) ?_
          exact ih _ _ h
set_option maxRecDepth 20000 in
theorem q_X1_weightOf {l : Launch} {I : gIt} {J : gJt} {w : Bool} {x1 : Int32} {y2 : Int64} {v : Int64} (h : p_X1_weightOf I x1 y2 = some v) : Cn l gX1_weightOf 2 0 0 [.ref 78, .int x1, .long y2] gS0 I J (gR0 w) (fun v' S' I' J' R' => v' = some (.long v) ∧ S' = gS0 ∧ I' = I ∧ J' = J ∧ R' = gR0 w) := by
  refine Cn.of [some (.ref 78), some (.int x1), some (.long y2), none, none, none, none] (by decide) rfl (Nat.le_of_ble_eq_true rfl) ?_
  rw [p_X1_weightOf] at h
  refine G_lload_n dX1_weightOf_0 rfl rfl ?_
  refine S_lstore [some (.ref 78), some (.int x1), some (.long y2), none, some (.long y2), none, none] dX1_weightOf_1 (by decide) rfl ?_
  refine G_iconst (v := 0) dX1_weightOf_3 rfl ?_
  refine S_istore [some (.ref 78), some (.int x1), some (.long y2), none, some (.long y2), none, some (.int (0 : Int32))] dX1_weightOf_4 (by decide) rfl ?_
  exact q_X1_weightOf_6   gFu _ _ h
def p_X1_hopeful_20 (K4 : gIt → Int64 → Int32 → Option (Int64 × gIt)) (I : gIt) (x3 : Int32) (y4 : Int64) : Nat → Int64 → Int32 → Option (Int64 × gIt)
  | 0, _, _ => none
  | n + 1, y1, x6 =>
    if (gshl (1 : Int32) (I 78 9)) ≤ x6 then
    K4 I y1 (x3 + (1 : Int32))
    else
    if (nI 16) ≤ x6 then
    K4 I y1 (x3 + (1 : Int32))
    else
    gck (gin x6 16) (
    if (I 83 (x6).toNatClampNeg) ≤ 0 then
    gL ((y1 + (0 : Int64))) fun u8 =>
    p_X1_hopeful_20 K4 I x3 y4 n u8 (x6 + (1 : Int32))
    else
    gB (p_X1_weightOf I x6 y4) fun r9 =>
    gL ((y1 + r9)) fun u11 =>
    p_X1_hopeful_20 K4 I x3 y4 n u11 (x6 + (1 : Int32)))
def p_X1_hopeful_4 : Nat → gIt → Int64 → Int32 → Option (Int64 × gIt)
  | 0, _, _, _ => none
  | n + 1, I, y1, x3 =>
    if (110 : Int32) ≤ x3 then
    some (y1, I)
    else
    gB (p_X1_enterYear I x3) fun r2 =>
    p_X1_hopeful_20 (fun I y1 x3 => p_X1_hopeful_4 n I y1 x3) r2.2 x3 r2.1 gFu y1 (0 : Int32)
def p_X1_hopeful (I : gIt) : Option (Int64 × gIt) :=
  p_X1_hopeful_4 gFu I (0 : Int64) (0 : Int32)
set_option maxRecDepth 20000 in
theorem q_X1_hopeful_20 {l : Launch} {v : (Int64 × gIt)} {J : gJt} {w : Bool} {K4 : gIt → Int64 → Int32 → Option (Int64 × gIt)} {I : gIt} {x3 : Int32} {y4 : Int64} (hK4 : ∀ (I : gIt) (y1 : Int64) (x3 : Int32), K4 I y1 x3 = some v → G l gX1_hopeful 4 0 0 (fun v' S' I' J' R' => v' = some (.long v.1) ∧ S' = gS0 ∧ I' = v.2 ∧ J' = J ∧ R' = gR0 w) 0 0 4 [some (.ref 78), some (.long y1), none, some (.int x3), none, none, none] [] gS0 I J (gR0 w)) : ∀ (n : Nat) (y1 : Int64) (x6 : Int32), p_X1_hopeful_20 K4 I x3 y4 n y1 x6 = some v → G l gX1_hopeful 4 0 0 (fun v' S' I' J' R' => v' = some (.long v.1) ∧ S' = gS0 ∧ I' = v.2 ∧ J' = J ∧ R' = gR0 w) 0 0 20 [some (.ref 78), some (.long y1), none, some (.int x3), some (.long y4), none, some (.int x6)] [] gS0 I J (gR0 w) := by
  intro n
  induction n with
  | zero => intro _ _ h; cases h
  | succ n ih =>
    intro y1 x6 h
    rw [p_X1_hopeful_20] at h
    refine G_iload dX1_hopeful_20 rfl ?_
    refine G_iconst (v := 1) dX1_hopeful_22 rfl ?_
    refine G_aload_n dX1_hopeful_23 rfl rfl ?_
    refine G_getI fl_X1_94 sl_78 sk_78 rfl dX1_hopeful_24 ?_
    refine G_shl dX1_hopeful_27 ?_
    refine G_icmp_ge 72 dX1_hopeful_28 (by decide) (fun c4 => ?_) (fun c4 => ?_)
    · replace h := git c4 h
      refine S_iinc (v := (1 : Int32)) [some (.ref 78), some (.long y1), none, some (.int (x3 + (1 : Int32))), some (.long y4), none, some (.int x6)] dX1_hopeful_72 rfl rfl (by decide) rfl ?_
      refine G_goto 4 dX1_hopeful_75 (by decide) ?_
      refine G_sub [some (.ref 78), some (.long y1), none, some (.int (x3 + (1 : Int32))), none, none, none] ⟨rfl, rfl, rfl, trivial⟩ ?_
      exact hK4 _ _ _ h
    · replace h := gif c4 h
      refine G_iload dX1_hopeful_31 rfl ?_
      refine G_aload_n dX1_hopeful_33 rfl rfl ?_
      refine G_getR fl_X1_24 sl_78 sk_78 rfl (rr_78_8 _) dX1_hopeful_34 ?_
      refine G_alen sl_83 ss_83 (by decide) (by decide) dX1_hopeful_37 ?_
      refine G_icmp_ge 72 dX1_hopeful_38 (by decide) (fun c5 => ?_) (fun c5 => ?_)
      · replace h := git c5 h
        refine S_iinc (v := (1 : Int32)) [some (.ref 78), some (.long y1), none, some (.int (x3 + (1 : Int32))), some (.long y4), none, some (.int x6)] dX1_hopeful_72 rfl rfl (by decide) rfl ?_
        refine G_goto 4 dX1_hopeful_75 (by decide) ?_
        refine G_sub [some (.ref 78), some (.long y1), none, some (.int (x3 + (1 : Int32))), none, none, none] ⟨rfl, rfl, rfl, trivial⟩ ?_
        exact hK4 _ _ _ h
      · replace h := gif c5 h
        refine G_lload_n dX1_hopeful_41 rfl rfl ?_
        refine G_aload_n dX1_hopeful_42 rfl rfl ?_
        refine G_getR fl_X1_24 sl_78 sk_78 rfl (rr_78_8 _) dX1_hopeful_43 ?_
        refine G_iload dX1_hopeful_46 rfl ?_
        obtain ⟨b6, h⟩ := gck_some h
        refine G_iald sl_83 ss_83 (gin_in b6) dX1_hopeful_48 ?_
        refine G_if_le 63 dX1_hopeful_49 (by decide) (fun c7 => ?_) (fun c7 => ?_)
        · replace h := git c7 h
          refine G_lconst (v := 0) dX1_hopeful_63 rfl ?_
          refine G_ladd dX1_hopeful_64 ?_
          refine G_nJ fun u8 eu8 => ?_
          replace h := gL_some eu8 h
          refine S_lstore_n [some (.ref 78), some (.long u8), none, some (.int x3), some (.long y4), none, some (.int x6)] dX1_hopeful_65 rfl (by decide) rfl ?_
          refine S_iinc (v := (1 : Int32)) [some (.ref 78), some (.long u8), none, some (.int x3), some (.long y4), none, some (.int (x6 + (1 : Int32)))] dX1_hopeful_66 rfl rfl (by decide) rfl ?_
          refine G_goto 20 dX1_hopeful_69 (by decide) ?_
          exact ih _ _ h
        · replace h := gif c7 h
          refine G_aload_n dX1_hopeful_52 rfl rfl ?_
          refine G_iload dX1_hopeful_53 rfl ?_
          refine G_lload dX1_hopeful_55 rfl ?_
          obtain ⟨r9, hr10, h⟩ := gB_some h
          refine G_cV (mj := gX1_weightOf) (As := [.int x6, .long y4]) (rest := [.long y1]) ml_X1_117 vX1_weightOf sl_78 sk_78 (by decide) rfl rfl rfl (Nat.le_of_ble_eq_true rfl) (by decide) (Nat.le_refl _) (Nat.le_refl _) dX1_hopeful_57 (q_X1_weightOf hr10) ?_
          refine G_goto 64 dX1_hopeful_60 (by decide) ?_
          refine G_ladd dX1_hopeful_64 ?_
          refine G_nJ fun u11 eu11 => ?_
          replace h := gL_some eu11 h
          refine S_lstore_n [some (.ref 78), some (.long u11), none, some (.int x3), some (.long y4), none, some (.int x6)] dX1_hopeful_65 rfl (by decide) rfl ?_
          refine S_iinc (v := (1 : Int32)) [some (.ref 78), some (.long u11), none, some (.int x3), some (.long y4), none, some (.int (x6 + (1 : Int32)))] dX1_hopeful_66 rfl rfl (by decide) rfl ?_
          refine G_goto 20 dX1_hopeful_69 (by decide) ?_
          exact ih _ _ h
set_option maxRecDepth 20000 in
theorem q_X1_hopeful_4 {l : Launch} {v : (Int64 × gIt)} {J : gJt} {w : Bool} : ∀ (n : Nat) (I : gIt) (y1 : Int64) (x3 : Int32), p_X1_hopeful_4 n I y1 x3 = some v → G l gX1_hopeful 4 0 0 (fun v' S' I' J' R' => v' = some (.long v.1) ∧ S' = gS0 ∧ I' = v.2 ∧ J' = J ∧ R' = gR0 w) 0 0 4 [some (.ref 78), some (.long y1), none, some (.int x3), none, none, none] [] gS0 I J (gR0 w) := by
  intro n
  induction n with
  | zero => intro _ _ _ h; cases h
  | succ n ih =>
    intro I y1 x3 h
    rw [p_X1_hopeful_4] at h
    refine G_iload_n dX1_hopeful_4 rfl rfl ?_
    refine G_bipush (v := 110) dX1_hopeful_5 rfl ?_
    refine G_icmp_ge 78 dX1_hopeful_7 (by decide) (fun c1 => ?_) (fun c1 => ?_)
    · replace h := git c1 h
      refine G_lload_n dX1_hopeful_78 rfl rfl ?_
      refine G_lret rfl (Nat.le_refl _) (Nat.le_refl _) dX1_hopeful_79 ?_
      cases h
      exact ⟨rfl, rfl, rfl, rfl, rfl⟩
    · replace h := gif c1 h
      refine G_aload_n dX1_hopeful_10 rfl rfl ?_
      refine G_iload_n dX1_hopeful_11 rfl rfl ?_
      obtain ⟨r2, hr3, h⟩ := gB_some h
      refine G_cV (mj := gX1_enterYear) (As := [.int x3]) (rest := []) ml_X1_113 vX1_enterYear sl_78 sk_78 (by decide) rfl rfl rfl (Nat.le_of_ble_eq_true rfl) (by decide) (Nat.le_refl _) (Nat.le_refl _) dX1_hopeful_12 (q_X1_enterYear hr3) ?_
      refine S_lstore [some (.ref 78), some (.long y1), none, some (.int x3), some (.long r2.1), none, none] dX1_hopeful_15 (by decide) rfl ?_
      refine G_iconst (v := 0) dX1_hopeful_17 rfl ?_
      refine S_istore [some (.ref 78), some (.long y1), none, some (.int x3), some (.long r2.1), none, some (.int (0 : Int32))] dX1_hopeful_18 (by decide) rfl ?_
      exact q_X1_hopeful_20 (fun I' y1' x3' hq => ih I' y1' x3' hq)  gFu _ _ h
set_option maxRecDepth 20000 in
theorem q_X1_hopeful {l : Launch} {I : gIt} {J : gJt} {w : Bool} {v : (Int64 × gIt)} (h : p_X1_hopeful I = some v) : Cn l gX1_hopeful 4 0 0 [.ref 78] gS0 I J (gR0 w) (fun v' S' I' J' R' => v' = some (.long v.1) ∧ S' = gS0 ∧ I' = v.2 ∧ J' = J ∧ R' = gR0 w) := by
  refine Cn.of [some (.ref 78), none, none, none, none, none, none] (by decide) rfl (Nat.le_of_ble_eq_true rfl) ?_
  rw [p_X1_hopeful] at h
  refine G_lconst (v := 0) dX1_hopeful_0 rfl ?_
  refine S_lstore_n [some (.ref 78), some (.long (0 : Int64)), none, none, none, none, none] dX1_hopeful_1 rfl (by decide) rfl ?_
  refine G_iconst (v := 0) dX1_hopeful_2 rfl ?_
  refine S_istore_n [some (.ref 78), some (.long (0 : Int64)), none, some (.int (0 : Int32)), none, none, none] dX1_hopeful_3 rfl (by decide) rfl ?_
  exact q_X1_hopeful_4   gFu _ _ _ h
def p_X1_worthNow_43 (K22 : gIt → Int64 → Int64 → Int32 → Option (Int64 × gIt)) (I : gIt) (J : gJt) (y1 : Int64) (y3 : Int64) (x5 : Int32) (y6 : Int64) : Nat → Int64 → Int32 → Option (Int64 × gIt)
  | 0, _, _ => none
  | n + 1, y8, x10 =>
    if (gshl (1 : Int32) (I 78 9)) ≤ x10 then
    gB (p_X6_discounted I y3) fun r6 =>
    gck (decide (¬ (J 78 12) = 0)) (
    gL ((y1 + (((y8 / (J 78 12)) * r6) / (1000000 : Int64)))) fun u10 =>
    K22 I u10 r6 (x5 + (1 : Int32)))
    else
    if (nI 16) ≤ x10 then
    gB (p_X6_discounted I y3) fun r12 =>
    gck (decide (¬ (J 78 12) = 0)) (
    gL ((y1 + (((y8 / (J 78 12)) * r12) / (1000000 : Int64)))) fun u16 =>
    K22 I u16 r12 (x5 + (1 : Int32)))
    else
    gB (p_X1_weightOf I x10 y6) fun r17 =>
    gck (gin x10 16) (
    gL ((y8 + (r17 * (Int32.toInt64 (I 83 (x10).toNatClampNeg))))) fun u20 =>
    p_X1_worthNow_43 K22 I J y1 y3 x5 y6 n u20 (x10 + (1 : Int32)))
def p_X1_worthNow_22 (J : gJt) : Nat → gIt → Int64 → Int64 → Int32 → Option (Int64 × gIt)
  | 0, _, _, _, _ => none
  | n + 1, I, y1, y3, x5 =>
    if (110 : Int32) ≤ x5 then
    some (y1, I)
    else
    gB (p_X1_enterYear I x5) fun r3 =>
    p_X1_worthNow_43 (fun I y1 y3 x5 => p_X1_worthNow_22 J n I y1 y3 x5) r3.2 J y1 y3 x5 r3.1 gFu (0 : Int64) (0 : Int32)
def p_X1_worthNow (I : gIt) (J : gJt) : Option (Int64 × gIt) :=
  if 0 < (lg_cmp (J 78 12) (0 : Int64)) then
  p_X1_worthNow_22 J gFu I (0 : Int64) (1000000 : Int64) (0 : Int32)
  else
  some ((-1 : Int64), I)
set_option maxRecDepth 20000 in
theorem q_X1_worthNow_43 {l : Launch} {v : (Int64 × gIt)} {w : Bool} {K22 : gIt → Int64 → Int64 → Int32 → Option (Int64 × gIt)} {I : gIt} {J : gJt} {y1 : Int64} {y3 : Int64} {x5 : Int32} {y6 : Int64} (hK22 : ∀ (I : gIt) (y1 : Int64) (y3 : Int64) (x5 : Int32), K22 I y1 y3 x5 = some v → G l gX1_worthNow 4 0 0 (fun v' S' I' J' R' => v' = some (.long v.1) ∧ S' = gS0 ∧ I' = v.2 ∧ J' = J ∧ R' = gR0 w) 0 0 22 [some (.ref 78), some (.long y1), none, some (.long y3), none, some (.int x5), none, none, none, none, none] [] gS0 I J (gR0 w)) : ∀ (n : Nat) (y8 : Int64) (x10 : Int32), p_X1_worthNow_43 K22 I J y1 y3 x5 y6 n y8 x10 = some v → G l gX1_worthNow 4 0 0 (fun v' S' I' J' R' => v' = some (.long v.1) ∧ S' = gS0 ∧ I' = v.2 ∧ J' = J ∧ R' = gR0 w) 0 0 43 [some (.ref 78), some (.long y1), none, some (.long y3), none, some (.int x5), some (.long y6), none, some (.long y8), none, some (.int x10)] [] gS0 I J (gR0 w) := by
  intro n
  induction n with
  | zero => intro _ _ h; cases h
  | succ n ih =>
    intro y8 x10 h
    rw [p_X1_worthNow_43] at h
    refine G_iload dX1_worthNow_43 rfl ?_
    refine G_iconst (v := 1) dX1_worthNow_45 rfl ?_
    refine G_aload_n dX1_worthNow_46 rfl rfl ?_
    refine G_getI fl_X1_94 sl_78 sk_78 rfl dX1_worthNow_47 ?_
    refine G_shl dX1_worthNow_50 ?_
    refine G_icmp_ge 92 dX1_worthNow_51 (by decide) (fun c5 => ?_) (fun c5 => ?_)
    · replace h := git c5 h
      refine G_aload_n dX1_worthNow_92 rfl rfl ?_
      refine G_getR fl_X1_31 sl_78 sk_78 rfl (rr_78_1 _) dX1_worthNow_93 ?_
      refine G_lload_n dX1_worthNow_96 rfl rfl ?_
      obtain ⟨r6, hr7, h⟩ := gB_some h
      refine G_cV (mj := gX6_discounted) (As := [.long y3]) (rest := []) ml_X1_125 vX6_discounted sl_9 sk_9 (by decide) rfl rfl rfl (Nat.le_of_ble_eq_true rfl) (by decide) (Nat.le_refl _) (Nat.le_refl _) dX1_worthNow_97 (q_X6_discounted hr7) ?_
      refine S_lstore_n [some (.ref 78), some (.long y1), none, some (.long r6), none, some (.int x5), some (.long y6), none, some (.long y8), none, some (.int x10)] dX1_worthNow_100 rfl (by decide) rfl ?_
      refine G_lload_n dX1_worthNow_101 rfl rfl ?_
      refine G_lload dX1_worthNow_102 rfl ?_
      refine G_aload_n dX1_worthNow_104 rfl rfl ?_
      refine G_getJ fl_X1_82 sl_78 sk_78 rfl dX1_worthNow_105 ?_
      obtain ⟨b8, h⟩ := gck_some h
      refine G_ldiv dX1_worthNow_108 (of_decide_eq_true b8) ?_
      refine G_lload_n dX1_worthNow_109 rfl rfl ?_
      refine G_lmul dX1_worthNow_110 ?_
      refine G_ldc2 dX1_worthNow_111 kc_X1_123 ?_
      refine G_ldiv dX1_worthNow_114 (by decide) ?_
      refine G_ladd dX1_worthNow_115 ?_
      refine G_nJ fun u10 eu10 => ?_
      replace h := gL_some eu10 h
      refine S_lstore_n [some (.ref 78), some (.long u10), none, some (.long r6), none, some (.int x5), some (.long y6), none, some (.long y8), none, some (.int x10)] dX1_worthNow_116 rfl (by decide) rfl ?_
      refine S_iinc (v := (1 : Int32)) [some (.ref 78), some (.long u10), none, some (.long r6), none, some (.int (x5 + (1 : Int32))), some (.long y6), none, some (.long y8), none, some (.int x10)] dX1_worthNow_117 rfl rfl (by decide) rfl ?_
      refine G_goto 22 dX1_worthNow_120 (by decide) ?_
      refine G_sub [some (.ref 78), some (.long u10), none, some (.long r6), none, some (.int (x5 + (1 : Int32))), none, none, none, none, none] ⟨rfl, rfl, rfl, rfl, trivial⟩ ?_
      exact hK22 _ _ _ _ h
    · replace h := gif c5 h
      refine G_iload dX1_worthNow_54 rfl ?_
      refine G_aload_n dX1_worthNow_56 rfl rfl ?_
      refine G_getR fl_X1_24 sl_78 sk_78 rfl (rr_78_8 _) dX1_worthNow_57 ?_
      refine G_alen sl_83 ss_83 (by decide) (by decide) dX1_worthNow_60 ?_
      refine G_icmp_ge 92 dX1_worthNow_61 (by decide) (fun c11 => ?_) (fun c11 => ?_)
      · replace h := git c11 h
        refine G_aload_n dX1_worthNow_92 rfl rfl ?_
        refine G_getR fl_X1_31 sl_78 sk_78 rfl (rr_78_1 _) dX1_worthNow_93 ?_
        refine G_lload_n dX1_worthNow_96 rfl rfl ?_
        obtain ⟨r12, hr13, h⟩ := gB_some h
        refine G_cV (mj := gX6_discounted) (As := [.long y3]) (rest := []) ml_X1_125 vX6_discounted sl_9 sk_9 (by decide) rfl rfl rfl (Nat.le_of_ble_eq_true rfl) (by decide) (Nat.le_refl _) (Nat.le_refl _) dX1_worthNow_97 (q_X6_discounted hr13) ?_
        refine S_lstore_n [some (.ref 78), some (.long y1), none, some (.long r12), none, some (.int x5), some (.long y6), none, some (.long y8), none, some (.int x10)] dX1_worthNow_100 rfl (by decide) rfl ?_
        refine G_lload_n dX1_worthNow_101 rfl rfl ?_
        refine G_lload dX1_worthNow_102 rfl ?_
        refine G_aload_n dX1_worthNow_104 rfl rfl ?_
        refine G_getJ fl_X1_82 sl_78 sk_78 rfl dX1_worthNow_105 ?_
        obtain ⟨b14, h⟩ := gck_some h
        refine G_ldiv dX1_worthNow_108 (of_decide_eq_true b14) ?_
        refine G_lload_n dX1_worthNow_109 rfl rfl ?_
        refine G_lmul dX1_worthNow_110 ?_
        refine G_ldc2 dX1_worthNow_111 kc_X1_123 ?_
        refine G_ldiv dX1_worthNow_114 (by decide) ?_
        refine G_ladd dX1_worthNow_115 ?_
        refine G_nJ fun u16 eu16 => ?_
        replace h := gL_some eu16 h
        refine S_lstore_n [some (.ref 78), some (.long u16), none, some (.long r12), none, some (.int x5), some (.long y6), none, some (.long y8), none, some (.int x10)] dX1_worthNow_116 rfl (by decide) rfl ?_
        refine S_iinc (v := (1 : Int32)) [some (.ref 78), some (.long u16), none, some (.long r12), none, some (.int (x5 + (1 : Int32))), some (.long y6), none, some (.long y8), none, some (.int x10)] dX1_worthNow_117 rfl rfl (by decide) rfl ?_
        refine G_goto 22 dX1_worthNow_120 (by decide) ?_
        refine G_sub [some (.ref 78), some (.long u16), none, some (.long r12), none, some (.int (x5 + (1 : Int32))), none, none, none, none, none] ⟨rfl, rfl, rfl, rfl, trivial⟩ ?_
        exact hK22 _ _ _ _ h
      · replace h := gif c11 h
        refine G_lload dX1_worthNow_64 rfl ?_
        refine G_aload_n dX1_worthNow_66 rfl rfl ?_
        refine G_iload dX1_worthNow_67 rfl ?_
        refine G_lload dX1_worthNow_69 rfl ?_
        obtain ⟨r17, hr18, h⟩ := gB_some h
        refine G_cV (mj := gX1_weightOf) (As := [.int x10, .long y6]) (rest := [.long y8]) ml_X1_117 vX1_weightOf sl_78 sk_78 (by decide) rfl rfl rfl (Nat.le_of_ble_eq_true rfl) (by decide) (Nat.le_refl _) (Nat.le_refl _) dX1_worthNow_71 (q_X1_weightOf hr18) ?_
        refine G_aload_n dX1_worthNow_74 rfl rfl ?_
        refine G_getR fl_X1_24 sl_78 sk_78 rfl (rr_78_8 _) dX1_worthNow_75 ?_
        refine G_iload dX1_worthNow_78 rfl ?_
        obtain ⟨b19, h⟩ := gck_some h
        refine G_iald sl_83 ss_83 (gin_in b19) dX1_worthNow_80 ?_
        refine G_i2l dX1_worthNow_81 ?_
        refine G_lmul dX1_worthNow_82 ?_
        refine G_ladd dX1_worthNow_83 ?_
        refine G_nJ fun u20 eu20 => ?_
        replace h := gL_some eu20 h
        refine S_lstore [some (.ref 78), some (.long y1), none, some (.long y3), none, some (.int x5), some (.long y6), none, some (.long u20), none, some (.int x10)] dX1_worthNow_84 (by decide) rfl ?_
        refine S_iinc (v := (1 : Int32)) [some (.ref 78), some (.long y1), none, some (.long y3), none, some (.int x5), some (.long y6), none, some (.long u20), none, some (.int (x10 + (1 : Int32)))] dX1_worthNow_86 rfl rfl (by decide) rfl ?_
        refine G_goto 43 dX1_worthNow_89 (by decide) ?_
        exact ih _ _ h
set_option maxRecDepth 20000 in
theorem q_X1_worthNow_22 {l : Launch} {v : (Int64 × gIt)} {w : Bool} {J : gJt} : ∀ (n : Nat) (I : gIt) (y1 : Int64) (y3 : Int64) (x5 : Int32), p_X1_worthNow_22 J n I y1 y3 x5 = some v → G l gX1_worthNow 4 0 0 (fun v' S' I' J' R' => v' = some (.long v.1) ∧ S' = gS0 ∧ I' = v.2 ∧ J' = J ∧ R' = gR0 w) 0 0 22 [some (.ref 78), some (.long y1), none, some (.long y3), none, some (.int x5), none, none, none, none, none] [] gS0 I J (gR0 w) := by
  intro n
  induction n with
  | zero => intro _ _ _ _ h; cases h
  | succ n ih =>
    intro I y1 y3 x5 h
    rw [p_X1_worthNow_22] at h
    refine G_iload dX1_worthNow_22 rfl ?_
    refine G_bipush (v := 110) dX1_worthNow_24 rfl ?_
    refine G_icmp_ge 123 dX1_worthNow_26 (by decide) (fun c2 => ?_) (fun c2 => ?_)
    · replace h := git c2 h
      refine G_lload_n dX1_worthNow_123 rfl rfl ?_
      refine G_lret rfl (Nat.le_refl _) (Nat.le_refl _) dX1_worthNow_124 ?_
      cases h
      exact ⟨rfl, rfl, rfl, rfl, rfl⟩
    · replace h := gif c2 h
      refine G_aload_n dX1_worthNow_29 rfl rfl ?_
      refine G_iload dX1_worthNow_30 rfl ?_
      obtain ⟨r3, hr4, h⟩ := gB_some h
      refine G_cV (mj := gX1_enterYear) (As := [.int x5]) (rest := []) ml_X1_113 vX1_enterYear sl_78 sk_78 (by decide) rfl rfl rfl (Nat.le_of_ble_eq_true rfl) (by decide) (Nat.le_refl _) (Nat.le_refl _) dX1_worthNow_32 (q_X1_enterYear hr4) ?_
      refine S_lstore [some (.ref 78), some (.long y1), none, some (.long y3), none, some (.int x5), some (.long r3.1), none, none, none, none] dX1_worthNow_35 (by decide) rfl ?_
      refine G_lconst (v := 0) dX1_worthNow_37 rfl ?_
      refine S_lstore [some (.ref 78), some (.long y1), none, some (.long y3), none, some (.int x5), some (.long r3.1), none, some (.long (0 : Int64)), none, none] dX1_worthNow_38 (by decide) rfl ?_
      refine G_iconst (v := 0) dX1_worthNow_40 rfl ?_
      refine S_istore [some (.ref 78), some (.long y1), none, some (.long y3), none, some (.int x5), some (.long r3.1), none, some (.long (0 : Int64)), none, some (.int (0 : Int32))] dX1_worthNow_41 (by decide) rfl ?_
      exact q_X1_worthNow_43 (fun I' y1' y3' x5' hq => ih I' y1' y3' x5' hq)  gFu _ _ h
set_option maxRecDepth 20000 in
theorem q_X1_worthNow {l : Launch} {I : gIt} {J : gJt} {w : Bool} {v : (Int64 × gIt)} (h : p_X1_worthNow I J = some v) : Cn l gX1_worthNow 4 0 0 [.ref 78] gS0 I J (gR0 w) (fun v' S' I' J' R' => v' = some (.long v.1) ∧ S' = gS0 ∧ I' = v.2 ∧ J' = J ∧ R' = gR0 w) := by
  refine Cn.of [some (.ref 78), none, none, none, none, none, none, none, none, none, none] (by decide) rfl (Nat.le_of_ble_eq_true rfl) ?_
  rw [p_X1_worthNow] at h
  refine G_aload_n dX1_worthNow_0 rfl rfl ?_
  refine G_getJ fl_X1_82 sl_78 sk_78 rfl dX1_worthNow_1 ?_
  refine G_lconst (v := 0) dX1_worthNow_4 rfl ?_
  refine G_lcmp dX1_worthNow_5 ?_
  refine G_if_gt 13 dX1_worthNow_6 (by decide) (fun c1 => ?_) (fun c1 => ?_)
  · replace h := git c1 h
    refine G_lconst (v := 0) dX1_worthNow_13 rfl ?_
    refine S_lstore_n [some (.ref 78), some (.long (0 : Int64)), none, none, none, none, none, none, none, none, none] dX1_worthNow_14 rfl (by decide) rfl ?_
    refine G_ldc2 dX1_worthNow_15 kc_X1_123 ?_
    refine S_lstore_n [some (.ref 78), some (.long (0 : Int64)), none, some (.long (1000000 : Int64)), none, none, none, none, none, none, none] dX1_worthNow_18 rfl (by decide) rfl ?_
    refine G_iconst (v := 0) dX1_worthNow_19 rfl ?_
    refine S_istore [some (.ref 78), some (.long (0 : Int64)), none, some (.long (1000000 : Int64)), none, some (.int (0 : Int32)), none, none, none, none, none] dX1_worthNow_20 (by decide) rfl ?_
    exact q_X1_worthNow_22   gFu _ _ _ _ h
  · replace h := gif c1 h
    refine G_ldc2 dX1_worthNow_9 kc_X1_121 ?_
    refine G_lret rfl (Nat.le_refl _) (Nat.le_refl _) dX1_worthNow_12 ?_
    cases h
    exact ⟨rfl, rfl, rfl, rfl, rfl⟩
def p_X4_hasFallen (I : gIt) (a1 : Nat) : Option Int32 :=
  if ((gushr (I 74 2) (I a1 6)) &&& (1 : Int32)) = (1 : Int32) then
  some (1 : Int32)
  else
  some (0 : Int32)
set_option maxRecDepth 20000 in
theorem q_X4_hasFallen {l : Launch} {I : gIt} {J : gJt} {w : Bool} {a1 : Nat} {v : Int32} (ha1 : gset a1) (h : p_X4_hasFallen I a1 = some v) : Cn l gX4_hasFallen 2 0 0 [.ref 101, .ref a1] gS0 I J (gR0 w) (fun v' S' I' J' R' => v' = some (.int v) ∧ S' = gS0 ∧ I' = I ∧ J' = J ∧ R' = gR0 w) := by
  refine Cn.of [some (.ref 101), some (.ref a1)] (by decide) rfl (Nat.le_of_ble_eq_true rfl) ?_
  rw [p_X4_hasFallen] at h
  refine G_aload_n dX4_hasFallen_0 rfl rfl ?_
  refine G_ifnull dX4_hasFallen_1 ?_
  refine G_aload_n dX4_hasFallen_4 rfl rfl ?_
  refine G_getR fl_X4_19 sl_101 sk_101 rfl (rr_101_1 _) dX4_hasFallen_5 ?_
  refine G_getI fl_X4_62 sl_74 sk_74 rfl dX4_hasFallen_8 ?_
  refine G_aload_n dX4_hasFallen_11 rfl rfl ?_
  refine G_getI fl_X4_67 (gset_sl ha1) (gset_sk ha1) rfl dX4_hasFallen_12 ?_
  refine G_ushr dX4_hasFallen_15 ?_
  refine G_iconst (v := 1) dX4_hasFallen_16 rfl ?_
  refine G_iand dX4_hasFallen_17 ?_
  refine G_iconst (v := 1) dX4_hasFallen_18 rfl ?_
  refine G_icmp_ne 26 dX4_hasFallen_19 (by decide) (fun c1 => ?_) (fun c1 => ?_)
  · replace h := gif c1 h
    refine G_iconst (v := 0) dX4_hasFallen_26 rfl ?_
    refine G_zret rfl (Or.inl rfl) (Nat.le_refl _) (Nat.le_refl _) dX4_hasFallen_27 ?_
    cases h
    exact ⟨rfl, rfl, rfl, rfl, rfl⟩
  · replace h := git c1 h
    refine G_iconst (v := 1) dX4_hasFallen_22 rfl ?_
    refine G_goto 27 dX4_hasFallen_23 (by decide) ?_
    refine G_zret rfl (Or.inr rfl) (Nat.le_refl _) (Nat.le_refl _) dX4_hasFallen_27 ?_
    cases h
    exact ⟨rfl, rfl, rfl, rfl, rfl⟩
def p_X4_gather_18 (x1 : Int32) (x3 : Int32) (x4 : Int32) : Nat → gIt → Int32 → Option gIt
  | 0, _, _ => none
  | n + 1, I, x5 =>
    if (I 84 10) ≤ x5 then
    some I
    else
    if (40 : Int32) ≤ x5 then
    some I
    else
    gck (gin x5 40) (
    gL ((I 86 (x5).toNatClampNeg)) fun z7 =>
    gck (gin x5 40) (
    gL (gu2 I 102 (x5).toNatClampNeg (-1 : Int32)) fun I9 =>
    gck (gin x5 40) (
    if (I9 88 (x5).toNatClampNeg) = x1 then
    gck (gin x5 40) (
    if (I9 94 (x5).toNatClampNeg) = (-1 : Int32) then
    if z7 < 0 then
    p_X4_gather_18 x1 x3 x4 n I9 (x5 + (1 : Int32))
    else
    if x3 ≤ z7 then
    p_X4_gather_18 x1 x3 x4 n I9 (x5 + (1 : Int32))
    else
    if (nI 10) ≤ z7 then
    p_X4_gather_18 x1 x3 x4 n I9 (x5 + (1 : Int32))
    else
    gck (gin z7 10) (
    gB (p_X4_hasFallen I9 (14 + 6 * (z7).toNatClampNeg)) fun r18 =>
    if r18 = 0 then
    gB (p_X8_partsReached I9 x5 x4) fun r21 =>
    gck (gin x5 40) (
    gL (gu2 I9 102 (x5).toNatClampNeg r21) fun I24 =>
    gL (((I24 101 4) + (1 : Int32))) fun z25 =>
    gL (gu2 I24 101 4 z25) fun I26 =>
    gck (gin x5 40) (
    gL (((I26 101 5) + (I26 87 (x5).toNatClampNeg))) fun z28 =>
    gL (gu2 I26 101 5 z28) fun I29 =>
    gL (((I29 101 6) ||| (gshl (1 : Int32) z7))) fun z30 =>
    gL (gu2 I29 101 6 z30) fun I31 =>
    p_X4_gather_18 x1 x3 x4 n I31 (x5 + (1 : Int32))))
    else
    p_X4_gather_18 x1 x3 x4 n I9 (x5 + (1 : Int32)))
    else
    p_X4_gather_18 x1 x3 x4 n I9 (x5 + (1 : Int32)))
    else
    p_X4_gather_18 x1 x3 x4 n I9 (x5 + (1 : Int32)))))
def p_X4_gather (I : gIt) (x1 : Int32) (x3 : Int32) (x4 : Int32) : Option gIt :=
  gL (gu2 I 101 4 (0 : Int32)) fun I1 =>
  gL (gu2 I1 101 5 (0 : Int32)) fun I2 =>
  gL (gu2 I2 101 6 (0 : Int32)) fun I3 =>
  p_X4_gather_18 x1 x3 x4 gFu I3 (0 : Int32)
set_option maxRecDepth 20000 in
theorem q_X4_gather_18 {l : Launch} {v : gIt} {J : gJt} {w : Bool} {x1 : Int32} {x3 : Int32} {x4 : Int32} : ∀ (n : Nat) (I : gIt) (x5 : Int32), p_X4_gather_18 x1 x3 x4 n I x5 = some v → G l gX4_gather 5 0 0 (fun v' S' I' J' R' => v' = none ∧ S' = gS0 ∧ I' = v ∧ J' = J ∧ R' = gR0 w) 0 0 18 [some (.ref 101), some (.int x1), some (.ref 13), some (.int x3), some (.int x4), some (.int x5), none] [] gS0 I J (gR0 w) := by
  intro n
  induction n with
  | zero => intro _ _ h; cases h
  | succ n ih =>
    intro I x5 h
    rw [p_X4_gather_18] at h
    refine G_iload dX4_gather_18 rfl ?_
    refine G_aload_n dX4_gather_20 rfl rfl ?_
    refine G_getR fl_X4_15 sl_101 sk_101 rfl (rr_101_0 _) dX4_gather_21 ?_
    refine G_getI fl_X4_37 sl_84 sk_84 rfl dX4_gather_24 ?_
    refine G_icmp_ge 186 dX4_gather_27 (by decide) (fun c4 => ?_) (fun c4 => ?_)
    · replace h := git c4 h
      refine G_vret rfl (Nat.le_refl _) (Nat.le_refl _) dX4_gather_186 ?_
      cases h
      exact ⟨rfl, rfl, rfl, rfl, rfl⟩
    · replace h := gif c4 h
      refine G_iload dX4_gather_30 rfl ?_
      refine G_bipush (v := 40) dX4_gather_32 rfl ?_
      refine G_icmp_ge 186 dX4_gather_34 (by decide) (fun c5 => ?_) (fun c5 => ?_)
      · replace h := git c5 h
        refine G_vret rfl (Nat.le_refl _) (Nat.le_refl _) dX4_gather_186 ?_
        cases h
        exact ⟨rfl, rfl, rfl, rfl, rfl⟩
      · replace h := gif c5 h
        refine G_aload_n dX4_gather_37 rfl rfl ?_
        refine G_getR fl_X4_15 sl_101 sk_101 rfl (rr_101_0 _) dX4_gather_38 ?_
        refine G_getR fl_X4_42 sl_84 sk_84 rfl (rr_84_1 _) dX4_gather_41 ?_
        refine G_iload dX4_gather_44 rfl ?_
        obtain ⟨b6, h⟩ := gck_some h
        refine G_iald sl_86 ss_86 (gin_in b6) dX4_gather_46 ?_
        refine G_nI fun z7 ez7 => ?_
        replace h := gL_some ez7 h
        refine S_istore [some (.ref 101), some (.int x1), some (.ref 13), some (.int x3), some (.int x4), some (.int x5), some (.int z7)] dX4_gather_47 (by decide) rfl ?_
        refine G_aload_n dX4_gather_49 rfl rfl ?_
        refine G_getR fl_X4_9 sl_101 sk_101 rfl (rr_101_3 _) dX4_gather_50 ?_
        refine G_iload dX4_gather_53 rfl ?_
        refine G_iconst (v := -1) dX4_gather_55 rfl ?_
        obtain ⟨b8, h⟩ := gck_some h
        refine G_iast sl_102 ss_102 (gin_in b8) dX4_gather_56 ?_
        refine G_mI fun I9 eI9 => ?_
        replace h := gL_some eI9 h
        refine G_aload_n dX4_gather_57 rfl rfl ?_
        refine G_getR fl_X4_15 sl_101 sk_101 rfl (rr_101_0 _) dX4_gather_58 ?_
        refine G_getR fl_X4_45 sl_84 sk_84 rfl (rr_84_3 _) dX4_gather_61 ?_
        refine G_iload dX4_gather_64 rfl ?_
        obtain ⟨b10, h⟩ := gck_some h
        refine G_iald sl_88 ss_88 (gin_in b10) dX4_gather_66 ?_
        refine G_iload_n dX4_gather_67 rfl rfl ?_
        refine G_icmp_ne 180 dX4_gather_68 (by decide) (fun c11 => ?_) (fun c11 => ?_)
        · replace h := gif c11 h
          refine S_iinc (v := (1 : Int32)) [some (.ref 101), some (.int x1), some (.ref 13), some (.int x3), some (.int x4), some (.int (x5 + (1 : Int32))), some (.int z7)] dX4_gather_180 rfl rfl (by decide) rfl ?_
          refine G_goto 18 dX4_gather_183 (by decide) ?_
          refine G_sub [some (.ref 101), some (.int x1), some (.ref 13), some (.int x3), some (.int x4), some (.int (x5 + (1 : Int32))), none] ⟨rfl, rfl, rfl, rfl, rfl, rfl, trivial⟩ ?_
          exact ih _ _ h
        · replace h := git c11 h
          refine G_aload_n dX4_gather_71 rfl rfl ?_
          refine G_getR fl_X4_15 sl_101 sk_101 rfl (rr_101_0 _) dX4_gather_72 ?_
          refine G_getR fl_X4_48 sl_84 sk_84 rfl (rr_84_9 _) dX4_gather_75 ?_
          refine G_iload dX4_gather_78 rfl ?_
          obtain ⟨b12, h⟩ := gck_some h
          refine G_iald sl_94 ss_94 (gin_in b12) dX4_gather_80 ?_
          refine G_iconst (v := -1) dX4_gather_81 rfl ?_
          refine G_icmp_eq 88 dX4_gather_82 (by decide) (fun c13 => ?_) (fun c13 => ?_)
          · replace h := git c13 h
            refine G_iload dX4_gather_88 rfl ?_
            refine G_if_lt 180 dX4_gather_90 (by decide) (fun c14 => ?_) (fun c14 => ?_)
            · replace h := git c14 h
              refine S_iinc (v := (1 : Int32)) [some (.ref 101), some (.int x1), some (.ref 13), some (.int x3), some (.int x4), some (.int (x5 + (1 : Int32))), some (.int z7)] dX4_gather_180 rfl rfl (by decide) rfl ?_
              refine G_goto 18 dX4_gather_183 (by decide) ?_
              refine G_sub [some (.ref 101), some (.int x1), some (.ref 13), some (.int x3), some (.int x4), some (.int (x5 + (1 : Int32))), none] ⟨rfl, rfl, rfl, rfl, rfl, rfl, trivial⟩ ?_
              exact ih _ _ h
            · replace h := gif c14 h
              refine G_iload dX4_gather_93 rfl ?_
              refine G_iload_n dX4_gather_95 rfl rfl ?_
              refine G_icmp_ge 180 dX4_gather_96 (by decide) (fun c15 => ?_) (fun c15 => ?_)
              · replace h := git c15 h
                refine S_iinc (v := (1 : Int32)) [some (.ref 101), some (.int x1), some (.ref 13), some (.int x3), some (.int x4), some (.int (x5 + (1 : Int32))), some (.int z7)] dX4_gather_180 rfl rfl (by decide) rfl ?_
                refine G_goto 18 dX4_gather_183 (by decide) ?_
                refine G_sub [some (.ref 101), some (.int x1), some (.ref 13), some (.int x3), some (.int x4), some (.int (x5 + (1 : Int32))), none] ⟨rfl, rfl, rfl, rfl, rfl, rfl, trivial⟩ ?_
                exact ih _ _ h
              · replace h := gif c15 h
                refine G_iload dX4_gather_99 rfl ?_
                refine G_aload_n dX4_gather_101 rfl rfl ?_
                refine G_alen sl_13 ss_13 (by decide) (by decide) dX4_gather_102 ?_
                refine G_icmp_ge 180 dX4_gather_103 (by decide) (fun c16 => ?_) (fun c16 => ?_)
                · replace h := git c16 h
                  refine S_iinc (v := (1 : Int32)) [some (.ref 101), some (.int x1), some (.ref 13), some (.int x3), some (.int x4), some (.int (x5 + (1 : Int32))), some (.int z7)] dX4_gather_180 rfl rfl (by decide) rfl ?_
                  refine G_goto 18 dX4_gather_183 (by decide) ?_
                  refine G_sub [some (.ref 101), some (.int x1), some (.ref 13), some (.int x3), some (.int x4), some (.int (x5 + (1 : Int32))), none] ⟨rfl, rfl, rfl, rfl, rfl, rfl, trivial⟩ ?_
                  exact ih _ _ h
                · replace h := gif c16 h
                  refine G_aload_n dX4_gather_106 rfl rfl ?_
                  refine G_aload_n dX4_gather_107 rfl rfl ?_
                  refine G_iload dX4_gather_108 rfl ?_
                  obtain ⟨b17, h⟩ := gck_some h
                  refine G_aald sl_13 ss_13 (gin_in b17) (gset_ar _ (gin_lt b17)) dX4_gather_110 ?_
                  obtain ⟨r18, hr19, h⟩ := gB_some h
                  refine G_cV (mj := gX4_hasFallen) (As := [.ref (14 + 6 * (z7).toNatClampNeg)]) (rest := []) ml_X4_51 vX4_hasFallen sl_101 sk_101 (by decide) rfl rfl rfl (Nat.le_of_ble_eq_true rfl) (by decide) (Nat.le_refl _) (Nat.le_refl _) dX4_gather_111 (q_X4_hasFallen (gset_of (gin_lt b17)) hr19) ?_
                  refine G_if_eq 120 dX4_gather_114 (by decide) (fun c20 => ?_) (fun c20 => ?_)
                  · replace h := git c20 h
                    refine G_aload_n dX4_gather_120 rfl rfl ?_
                    refine G_getR fl_X4_9 sl_101 sk_101 rfl (rr_101_3 _) dX4_gather_121 ?_
                    refine G_iload dX4_gather_124 rfl ?_
                    refine G_aload_n dX4_gather_126 rfl rfl ?_
                    refine G_getR fl_X4_15 sl_101 sk_101 rfl (rr_101_0 _) dX4_gather_127 ?_
                    refine G_iload dX4_gather_130 rfl ?_
                    refine G_iload dX4_gather_132 rfl ?_
                    obtain ⟨r21, hr22, h⟩ := gB_some h
                    refine G_cV (mj := gX8_partsReached) (As := [.int x5, .int x4]) (rest := [.int x5, .ref 102]) ml_X4_55 vX8_partsReached sl_84 sk_84 (by decide) rfl rfl rfl (Nat.le_of_ble_eq_true rfl) (by decide) (Nat.le_refl _) (Nat.le_refl _) dX4_gather_134 (q_X8_partsReached hr22) ?_
                    obtain ⟨b23, h⟩ := gck_some h
                    refine G_iast sl_102 ss_102 (gin_in b23) dX4_gather_137 ?_
                    refine G_mI fun I24 eI24 => ?_
                    replace h := gL_some eI24 h
                    refine G_aload_n dX4_gather_138 rfl rfl ?_
                    refine G_dup dX4_gather_139 rfl ?_
                    refine G_getI fl_X4_27 sl_101 sk_101 rfl dX4_gather_140 ?_
                    refine G_iconst (v := 1) dX4_gather_143 rfl ?_
                    refine G_iadd dX4_gather_144 ?_
                    refine G_nI fun z25 ez25 => ?_
                    replace h := gL_some ez25 h
                    refine G_putI fl_X4_27 sl_101 sk_101 rfl rfl ⟨rfl, rfl⟩ dX4_gather_145 ?_
                    refine G_mI fun I26 eI26 => ?_
                    replace h := gL_some eI26 h
                    refine G_aload_n dX4_gather_148 rfl rfl ?_
                    refine G_dup dX4_gather_149 rfl ?_
                    refine G_getI fl_X4_31 sl_101 sk_101 rfl dX4_gather_150 ?_
                    refine G_aload_n dX4_gather_153 rfl rfl ?_
                    refine G_getR fl_X4_15 sl_101 sk_101 rfl (rr_101_0 _) dX4_gather_154 ?_
                    refine G_getR fl_X4_59 sl_84 sk_84 rfl (rr_84_2 _) dX4_gather_157 ?_
                    refine G_iload dX4_gather_160 rfl ?_
                    obtain ⟨b27, h⟩ := gck_some h
                    refine G_iald sl_87 ss_87 (gin_in b27) dX4_gather_162 ?_
                    refine G_iadd dX4_gather_163 ?_
                    refine G_nI fun z28 ez28 => ?_
                    replace h := gL_some ez28 h
                    refine G_putI fl_X4_31 sl_101 sk_101 rfl rfl ⟨rfl, rfl⟩ dX4_gather_164 ?_
                    refine G_mI fun I29 eI29 => ?_
                    replace h := gL_some eI29 h
                    refine G_aload_n dX4_gather_167 rfl rfl ?_
                    refine G_dup dX4_gather_168 rfl ?_
                    refine G_getI fl_X4_34 sl_101 sk_101 rfl dX4_gather_169 ?_
                    refine G_iconst (v := 1) dX4_gather_172 rfl ?_
                    refine G_iload dX4_gather_173 rfl ?_
                    refine G_shl dX4_gather_175 ?_
                    refine G_ior dX4_gather_176 ?_
                    refine G_nI fun z30 ez30 => ?_
                    replace h := gL_some ez30 h
                    refine G_putI fl_X4_34 sl_101 sk_101 rfl rfl ⟨rfl, rfl⟩ dX4_gather_177 ?_
                    refine G_mI fun I31 eI31 => ?_
                    replace h := gL_some eI31 h
                    refine S_iinc (v := (1 : Int32)) [some (.ref 101), some (.int x1), some (.ref 13), some (.int x3), some (.int x4), some (.int (x5 + (1 : Int32))), some (.int z7)] dX4_gather_180 rfl rfl (by decide) rfl ?_
                    refine G_goto 18 dX4_gather_183 (by decide) ?_
                    refine G_sub [some (.ref 101), some (.int x1), some (.ref 13), some (.int x3), some (.int x4), some (.int (x5 + (1 : Int32))), none] ⟨rfl, rfl, rfl, rfl, rfl, rfl, trivial⟩ ?_
                    exact ih _ _ h
                  · replace h := gif c20 h
                    refine G_goto 180 dX4_gather_117 (by decide) ?_
                    refine S_iinc (v := (1 : Int32)) [some (.ref 101), some (.int x1), some (.ref 13), some (.int x3), some (.int x4), some (.int (x5 + (1 : Int32))), some (.int z7)] dX4_gather_180 rfl rfl (by decide) rfl ?_
                    refine G_goto 18 dX4_gather_183 (by decide) ?_
                    refine G_sub [some (.ref 101), some (.int x1), some (.ref 13), some (.int x3), some (.int x4), some (.int (x5 + (1 : Int32))), none] ⟨rfl, rfl, rfl, rfl, rfl, rfl, trivial⟩ ?_
                    exact ih _ _ h
          · replace h := gif c13 h
            refine G_goto 180 dX4_gather_85 (by decide) ?_
            refine S_iinc (v := (1 : Int32)) [some (.ref 101), some (.int x1), some (.ref 13), some (.int x3), some (.int x4), some (.int (x5 + (1 : Int32))), some (.int z7)] dX4_gather_180 rfl rfl (by decide) rfl ?_
            refine G_goto 18 dX4_gather_183 (by decide) ?_
            refine G_sub [some (.ref 101), some (.int x1), some (.ref 13), some (.int x3), some (.int x4), some (.int (x5 + (1 : Int32))), none] ⟨rfl, rfl, rfl, rfl, rfl, rfl, trivial⟩ ?_
            exact ih _ _ h
set_option maxRecDepth 20000 in
theorem q_X4_gather {l : Launch} {I : gIt} {J : gJt} {w : Bool} {x1 : Int32} {x3 : Int32} {x4 : Int32} {v : gIt} (h : p_X4_gather I x1 x3 x4 = some v) : Cn l gX4_gather 5 0 0 [.ref 101, .int x1, .ref 13, .int x3, .int x4] gS0 I J (gR0 w) (fun v' S' I' J' R' => v' = none ∧ S' = gS0 ∧ I' = v ∧ J' = J ∧ R' = gR0 w) := by
  refine Cn.of [some (.ref 101), some (.int x1), some (.ref 13), some (.int x3), some (.int x4), none, none] (by decide) rfl (Nat.le_of_ble_eq_true rfl) ?_
  rw [p_X4_gather] at h
  refine G_aload_n dX4_gather_0 rfl rfl ?_
  refine G_iconst (v := 0) dX4_gather_1 rfl ?_
  refine G_putI fl_X4_27 sl_101 sk_101 rfl rfl ⟨rfl, rfl⟩ dX4_gather_2 ?_
  refine G_mI fun I1 eI1 => ?_
  replace h := gL_some eI1 h
  refine G_aload_n dX4_gather_5 rfl rfl ?_
  refine G_iconst (v := 0) dX4_gather_6 rfl ?_
  refine G_putI fl_X4_31 sl_101 sk_101 rfl rfl ⟨rfl, rfl⟩ dX4_gather_7 ?_
  refine G_mI fun I2 eI2 => ?_
  replace h := gL_some eI2 h
  refine G_aload_n dX4_gather_10 rfl rfl ?_
  refine G_iconst (v := 0) dX4_gather_11 rfl ?_
  refine G_putI fl_X4_34 sl_101 sk_101 rfl rfl ⟨rfl, rfl⟩ dX4_gather_12 ?_
  refine G_mI fun I3 eI3 => ?_
  replace h := gL_some eI3 h
  refine G_iconst (v := 0) dX4_gather_15 rfl ?_
  refine S_istore [some (.ref 101), some (.int x1), some (.ref 13), some (.int x3), some (.int x4), some (.int (0 : Int32)), none] dX4_gather_16 (by decide) rfl ?_
  exact q_X4_gather_18   gFu _ _ h
def p_X4_doubtfulOnes_8 (I : gIt) (x2 : Int32) : Nat → Int32 → Int32 → Int32 → Option Int32
  | 0, _, _, _ => none
  | n + 1, x3, x4, x5 =>
    if x2 ≤ x5 then
    some ((x3 &&& ((I 74 2) ^^^ (-1 : Int32))) &&& (x4 ^^^ (-1 : Int32)))
    else
    if (nI 10) ≤ x5 then
    some ((x3 &&& ((I 74 2) ^^^ (-1 : Int32))) &&& (x4 ^^^ (-1 : Int32)))
    else
    gck (gin x5 10) (
    if ((gushr (I 101 6) x5) &&& (1 : Int32)) = (1 : Int32) then
    gB (p_X5_namedIn I (14 + 6 * (x5).toNatClampNeg)) fun r5 =>
    gL ((x3 ||| r5)) fun z7 =>
    gL ((x4 ||| (gshl (1 : Int32) (I ((14 + 6 * (x5).toNatClampNeg)) 6)))) fun z8 =>
    p_X4_doubtfulOnes_8 I x2 n z7 z8 (x5 + (1 : Int32))
    else
    p_X4_doubtfulOnes_8 I x2 n x3 x4 (x5 + (1 : Int32)))
def p_X4_doubtfulOnes (I : gIt) (x2 : Int32) : Option Int32 :=
  p_X4_doubtfulOnes_8 I x2 gFu (0 : Int32) (0 : Int32) (0 : Int32)
set_option maxRecDepth 20000 in
theorem q_X4_doubtfulOnes_8 {l : Launch} {v : Int32} {J : gJt} {w : Bool} {I : gIt} {x2 : Int32} : ∀ (n : Nat) (x3 : Int32) (x4 : Int32) (x5 : Int32), p_X4_doubtfulOnes_8 I x2 n x3 x4 x5 = some v → G l gX4_doubtfulOnes 3 0 0 (fun v' S' I' J' R' => v' = some (.int v) ∧ S' = gS0 ∧ I' = I ∧ J' = J ∧ R' = gR0 w) 0 0 8 [some (.ref 101), some (.ref 13), some (.int x2), some (.int x3), some (.int x4), some (.int x5), none] [] gS0 I J (gR0 w) := by
  intro n
  induction n with
  | zero => intro _ _ _ h; cases h
  | succ n ih =>
    intro x3 x4 x5 h
    rw [p_X4_doubtfulOnes_8] at h
    refine G_iload dX4_doubtfulOnes_8 rfl ?_
    refine G_iload_n dX4_doubtfulOnes_10 rfl rfl ?_
    refine G_icmp_ge 75 dX4_doubtfulOnes_11 (by decide) (fun c1 => ?_) (fun c1 => ?_)
    · replace h := git c1 h
      refine G_iload_n dX4_doubtfulOnes_75 rfl rfl ?_
      refine G_aload_n dX4_doubtfulOnes_76 rfl rfl ?_
      refine G_getR fl_X4_19 sl_101 sk_101 rfl (rr_101_1 _) dX4_doubtfulOnes_77 ?_
      refine G_getI fl_X4_62 sl_74 sk_74 rfl dX4_doubtfulOnes_80 ?_
      refine G_iconst (v := -1) dX4_doubtfulOnes_83 rfl ?_
      refine G_ixor dX4_doubtfulOnes_84 ?_
      refine G_iand dX4_doubtfulOnes_85 ?_
      refine G_iload dX4_doubtfulOnes_86 rfl ?_
      refine G_iconst (v := -1) dX4_doubtfulOnes_88 rfl ?_
      refine G_ixor dX4_doubtfulOnes_89 ?_
      refine G_iand dX4_doubtfulOnes_90 ?_
      refine G_iret rfl (Nat.le_refl _) (Nat.le_refl _) dX4_doubtfulOnes_91 ?_
      cases h
      exact ⟨rfl, rfl, rfl, rfl, rfl⟩
    · replace h := gif c1 h
      refine G_iload dX4_doubtfulOnes_14 rfl ?_
      refine G_aload_n dX4_doubtfulOnes_16 rfl rfl ?_
      refine G_alen sl_13 ss_13 (by decide) (by decide) dX4_doubtfulOnes_17 ?_
      refine G_icmp_ge 75 dX4_doubtfulOnes_18 (by decide) (fun c2 => ?_) (fun c2 => ?_)
      · replace h := git c2 h
        refine G_iload_n dX4_doubtfulOnes_75 rfl rfl ?_
        refine G_aload_n dX4_doubtfulOnes_76 rfl rfl ?_
        refine G_getR fl_X4_19 sl_101 sk_101 rfl (rr_101_1 _) dX4_doubtfulOnes_77 ?_
        refine G_getI fl_X4_62 sl_74 sk_74 rfl dX4_doubtfulOnes_80 ?_
        refine G_iconst (v := -1) dX4_doubtfulOnes_83 rfl ?_
        refine G_ixor dX4_doubtfulOnes_84 ?_
        refine G_iand dX4_doubtfulOnes_85 ?_
        refine G_iload dX4_doubtfulOnes_86 rfl ?_
        refine G_iconst (v := -1) dX4_doubtfulOnes_88 rfl ?_
        refine G_ixor dX4_doubtfulOnes_89 ?_
        refine G_iand dX4_doubtfulOnes_90 ?_
        refine G_iret rfl (Nat.le_refl _) (Nat.le_refl _) dX4_doubtfulOnes_91 ?_
        cases h
        exact ⟨rfl, rfl, rfl, rfl, rfl⟩
      · replace h := gif c2 h
        refine G_aload_n dX4_doubtfulOnes_21 rfl rfl ?_
        refine G_iload dX4_doubtfulOnes_22 rfl ?_
        obtain ⟨b3, h⟩ := gck_some h
        refine G_aald sl_13 ss_13 (gin_in b3) (gset_ar _ (gin_lt b3)) dX4_doubtfulOnes_24 ?_
        refine S_astore [some (.ref 101), some (.ref 13), some (.int x2), some (.int x3), some (.int x4), some (.int x5), some (.ref (14 + 6 * (x5).toNatClampNeg))] dX4_doubtfulOnes_25 (by decide) rfl ?_
        refine G_aload dX4_doubtfulOnes_27 rfl ?_
        refine G_ifnull dX4_doubtfulOnes_29 ?_
        refine G_aload_n dX4_doubtfulOnes_32 rfl rfl ?_
        refine G_getI fl_X4_34 sl_101 sk_101 rfl dX4_doubtfulOnes_33 ?_
        refine G_iload dX4_doubtfulOnes_36 rfl ?_
        refine G_ushr dX4_doubtfulOnes_38 ?_
        refine G_iconst (v := 1) dX4_doubtfulOnes_39 rfl ?_
        refine G_iand dX4_doubtfulOnes_40 ?_
        refine G_iconst (v := 1) dX4_doubtfulOnes_41 rfl ?_
        refine G_icmp_ne 69 dX4_doubtfulOnes_42 (by decide) (fun c4 => ?_) (fun c4 => ?_)
        · replace h := gif c4 h
          refine S_iinc (v := (1 : Int32)) [some (.ref 101), some (.ref 13), some (.int x2), some (.int x3), some (.int x4), some (.int (x5 + (1 : Int32))), some (.ref (14 + 6 * (x5).toNatClampNeg))] dX4_doubtfulOnes_69 rfl rfl (by decide) rfl ?_
          refine G_goto 8 dX4_doubtfulOnes_72 (by decide) ?_
          refine G_sub [some (.ref 101), some (.ref 13), some (.int x2), some (.int x3), some (.int x4), some (.int (x5 + (1 : Int32))), none] ⟨rfl, rfl, rfl, rfl, rfl, rfl, trivial⟩ ?_
          exact ih _ _ _ h
        · replace h := git c4 h
          refine G_iload_n dX4_doubtfulOnes_45 rfl rfl ?_
          refine G_aload_n dX4_doubtfulOnes_46 rfl rfl ?_
          refine G_getR fl_X4_19 sl_101 sk_101 rfl (rr_101_1 _) dX4_doubtfulOnes_47 ?_
          refine G_aload dX4_doubtfulOnes_50 rfl ?_
          obtain ⟨r5, hr6, h⟩ := gB_some h
          refine G_cV (mj := gX5_namedIn) (As := [.ref (14 + 6 * (x5).toNatClampNeg)]) (rest := [.int x3]) ml_X4_96 vX5_namedIn sl_74 sk_74 (by decide) rfl rfl rfl (Nat.le_of_ble_eq_true rfl) (by decide) (Nat.le_refl _) (Nat.le_refl _) dX4_doubtfulOnes_52 (q_X5_namedIn (gset_of (gin_lt b3)) hr6) ?_
          refine G_ior dX4_doubtfulOnes_55 ?_
          refine G_nI fun z7 ez7 => ?_
          replace h := gL_some ez7 h
          refine S_istore_n [some (.ref 101), some (.ref 13), some (.int x2), some (.int z7), some (.int x4), some (.int x5), some (.ref (14 + 6 * (x5).toNatClampNeg))] dX4_doubtfulOnes_56 rfl (by decide) rfl ?_
          refine G_iload dX4_doubtfulOnes_57 rfl ?_
          refine G_iconst (v := 1) dX4_doubtfulOnes_59 rfl ?_
          refine G_aload dX4_doubtfulOnes_60 rfl ?_
          refine G_getI fl_X4_67 (gset_sl (gset_of (gin_lt b3))) (gset_sk (gset_of (gin_lt b3))) rfl dX4_doubtfulOnes_62 ?_
          refine G_shl dX4_doubtfulOnes_65 ?_
          refine G_ior dX4_doubtfulOnes_66 ?_
          refine G_nI fun z8 ez8 => ?_
          replace h := gL_some ez8 h
          refine S_istore [some (.ref 101), some (.ref 13), some (.int x2), some (.int z7), some (.int z8), some (.int x5), some (.ref (14 + 6 * (x5).toNatClampNeg))] dX4_doubtfulOnes_67 (by decide) rfl ?_
          refine S_iinc (v := (1 : Int32)) [some (.ref 101), some (.ref 13), some (.int x2), some (.int z7), some (.int z8), some (.int (x5 + (1 : Int32))), some (.ref (14 + 6 * (x5).toNatClampNeg))] dX4_doubtfulOnes_69 rfl rfl (by decide) rfl ?_
          refine G_goto 8 dX4_doubtfulOnes_72 (by decide) ?_
          refine G_sub [some (.ref 101), some (.ref 13), some (.int x2), some (.int z7), some (.int z8), some (.int (x5 + (1 : Int32))), none] ⟨rfl, rfl, rfl, rfl, rfl, rfl, trivial⟩ ?_
          exact ih _ _ _ h
set_option maxRecDepth 20000 in
theorem q_X4_doubtfulOnes {l : Launch} {I : gIt} {J : gJt} {w : Bool} {x2 : Int32} {v : Int32} (h : p_X4_doubtfulOnes I x2 = some v) : Cn l gX4_doubtfulOnes 3 0 0 [.ref 101, .ref 13, .int x2] gS0 I J (gR0 w) (fun v' S' I' J' R' => v' = some (.int v) ∧ S' = gS0 ∧ I' = I ∧ J' = J ∧ R' = gR0 w) := by
  refine Cn.of [some (.ref 101), some (.ref 13), some (.int x2), none, none, none, none] (by decide) rfl (Nat.le_of_ble_eq_true rfl) ?_
  rw [p_X4_doubtfulOnes] at h
  refine G_iconst (v := 0) dX4_doubtfulOnes_0 rfl ?_
  refine S_istore_n [some (.ref 101), some (.ref 13), some (.int x2), some (.int (0 : Int32)), none, none, none] dX4_doubtfulOnes_1 rfl (by decide) rfl ?_
  refine G_iconst (v := 0) dX4_doubtfulOnes_2 rfl ?_
  refine S_istore [some (.ref 101), some (.ref 13), some (.int x2), some (.int (0 : Int32)), some (.int (0 : Int32)), none, none] dX4_doubtfulOnes_3 (by decide) rfl ?_
  refine G_iconst (v := 0) dX4_doubtfulOnes_5 rfl ?_
  refine S_istore [some (.ref 101), some (.ref 13), some (.int x2), some (.int (0 : Int32)), some (.int (0 : Int32)), some (.int (0 : Int32)), none] dX4_doubtfulOnes_6 (by decide) rfl ?_
  exact q_X4_doubtfulOnes_8   gFu _ _ _ h
def p_X4_broughtBy_72 (K6 : gIt → Int32 → Int32 → Option (Int32 × gIt)) (I : gIt) (x1 : Int32) (x3 : Int32) (x5 : Int32) (a6 : Nat) : Nat → Int32 → Int32 → Option (Int32 × gIt)
  | 0, _, _ => none
  | n + 1, x4, x7 =>
    if (I 84 10) ≤ x7 then
    K6 I x4 (x5 + (1 : Int32))
    else
    if (40 : Int32) ≤ x7 then
    K6 I x4 (x5 + (1 : Int32))
    else
    gck (gin x7 40) (
    if (I 86 (x7).toNatClampNeg) = x5 then
    gck (gin x7 40) (
    if (I 102 (x7).toNatClampNeg) = (-1 : Int32) then
    p_X4_broughtBy_72 K6 I x1 x3 x5 a6 n x4 (x7 + (1 : Int32))
    else
    gck (gin x7 40) (
    gB (p_X3_givenTo I (I 85 (x7).toNatClampNeg)) fun r16 =>
    gck (gin x7 40) (
    gL ((x4 + ((r16 * (I 102 (x7).toNatClampNeg)) / (1000 : Int32)))) fun z20 =>
    p_X4_broughtBy_72 K6 I x1 x3 x5 a6 n z20 (x7 + (1 : Int32)))))
    else
    p_X4_broughtBy_72 K6 I x1 x3 x5 a6 n x4 (x7 + (1 : Int32)))
def p_X4_broughtBy_6 (x1 : Int32) (x3 : Int32) : Nat → gIt → Int32 → Int32 → Option (Int32 × gIt)
  | 0, _, _, _ => none
  | n + 1, I, x4, x5 =>
    if x3 ≤ x5 then
    some (x4, I)
    else
    if (nI 10) ≤ x5 then
    some (x4, I)
    else
    gck (gin x5 10) (
    if ((gushr (I 101 6) x5) &&& (1 : Int32)) = 0 then
    p_X4_broughtBy_6 x1 x3 n I x4 (x5 + (1 : Int32))
    else
    gB (p_X5_namedIn I (14 + 6 * (x5).toNatClampNeg)) fun r5 =>
    gB (p_X3_divide I (14 + 6 * (x5).toNatClampNeg) (x1 &&& r5)) fun r7 =>
    p_X4_broughtBy_72 (fun I x4 x5 => p_X4_broughtBy_6 x1 x3 n I x4 x5) r7 x1 x3 x5 (14 + 6 * (x5).toNatClampNeg) gFu x4 (0 : Int32))
def p_X4_broughtBy (I : gIt) (x1 : Int32) (x3 : Int32) : Option (Int32 × gIt) :=
  p_X4_broughtBy_6 x1 x3 gFu I (0 : Int32) (0 : Int32)
set_option maxRecDepth 20000 in
theorem q_X4_broughtBy_72 {l : Launch} {v : (Int32 × gIt)} {J : gJt} {w : Bool} {K6 : gIt → Int32 → Int32 → Option (Int32 × gIt)} {I : gIt} {x1 : Int32} {x3 : Int32} {x5 : Int32} {a6 : Nat} (hK6 : ∀ (I : gIt) (x4 : Int32) (x5 : Int32), K6 I x4 x5 = some v → G l gX4_broughtBy 6 0 0 (fun v' S' I' J' R' => v' = some (.int v.1) ∧ S' = gS0 ∧ I' = v.2 ∧ J' = J ∧ R' = gR0 w) 0 0 6 [some (.ref 101), some (.int x1), some (.ref 13), some (.int x3), some (.int x4), some (.int x5), none, none] [] gS0 I J (gR0 w)) (ha6 : gset a6) : ∀ (n : Nat) (x4 : Int32) (x7 : Int32), p_X4_broughtBy_72 K6 I x1 x3 x5 a6 n x4 x7 = some v → G l gX4_broughtBy 6 0 0 (fun v' S' I' J' R' => v' = some (.int v.1) ∧ S' = gS0 ∧ I' = v.2 ∧ J' = J ∧ R' = gR0 w) 0 0 72 [some (.ref 101), some (.int x1), some (.ref 13), some (.int x3), some (.int x4), some (.int x5), some (.ref a6), some (.int x7)] [] gS0 I J (gR0 w) := by
  intro n
  induction n with
  | zero => intro _ _ h; cases h
  | succ n ih =>
    intro x4 x7 h
    rw [p_X4_broughtBy_72] at h
    refine G_iload dX4_broughtBy_72 rfl ?_
    refine G_aload_n dX4_broughtBy_74 rfl rfl ?_
    refine G_getR fl_X4_15 sl_101 sk_101 rfl (rr_101_0 _) dX4_broughtBy_75 ?_
    refine G_getI fl_X4_37 sl_84 sk_84 rfl dX4_broughtBy_78 ?_
    refine G_icmp_ge 157 dX4_broughtBy_81 (by decide) (fun c9 => ?_) (fun c9 => ?_)
    · replace h := git c9 h
      refine S_iinc (v := (1 : Int32)) [some (.ref 101), some (.int x1), some (.ref 13), some (.int x3), some (.int x4), some (.int (x5 + (1 : Int32))), some (.ref a6), some (.int x7)] dX4_broughtBy_157 rfl rfl (by decide) rfl ?_
      refine G_goto 6 dX4_broughtBy_160 (by decide) ?_
      refine G_sub [some (.ref 101), some (.int x1), some (.ref 13), some (.int x3), some (.int x4), some (.int (x5 + (1 : Int32))), none, none] ⟨rfl, rfl, rfl, rfl, rfl, rfl, trivial⟩ ?_
      exact hK6 _ _ _ h
    · replace h := gif c9 h
      refine G_iload dX4_broughtBy_84 rfl ?_
      refine G_bipush (v := 40) dX4_broughtBy_86 rfl ?_
      refine G_icmp_ge 157 dX4_broughtBy_88 (by decide) (fun c10 => ?_) (fun c10 => ?_)
      · replace h := git c10 h
        refine S_iinc (v := (1 : Int32)) [some (.ref 101), some (.int x1), some (.ref 13), some (.int x3), some (.int x4), some (.int (x5 + (1 : Int32))), some (.ref a6), some (.int x7)] dX4_broughtBy_157 rfl rfl (by decide) rfl ?_
        refine G_goto 6 dX4_broughtBy_160 (by decide) ?_
        refine G_sub [some (.ref 101), some (.int x1), some (.ref 13), some (.int x3), some (.int x4), some (.int (x5 + (1 : Int32))), none, none] ⟨rfl, rfl, rfl, rfl, rfl, rfl, trivial⟩ ?_
        exact hK6 _ _ _ h
      · replace h := gif c10 h
        refine G_aload_n dX4_broughtBy_91 rfl rfl ?_
        refine G_getR fl_X4_15 sl_101 sk_101 rfl (rr_101_0 _) dX4_broughtBy_92 ?_
        refine G_getR fl_X4_42 sl_84 sk_84 rfl (rr_84_1 _) dX4_broughtBy_95 ?_
        refine G_iload dX4_broughtBy_98 rfl ?_
        obtain ⟨b11, h⟩ := gck_some h
        refine G_iald sl_86 ss_86 (gin_in b11) dX4_broughtBy_100 ?_
        refine G_iload dX4_broughtBy_101 rfl ?_
        refine G_icmp_ne 151 dX4_broughtBy_103 (by decide) (fun c12 => ?_) (fun c12 => ?_)
        · replace h := gif c12 h
          refine S_iinc (v := (1 : Int32)) [some (.ref 101), some (.int x1), some (.ref 13), some (.int x3), some (.int x4), some (.int x5), some (.ref a6), some (.int (x7 + (1 : Int32)))] dX4_broughtBy_151 rfl rfl (by decide) rfl ?_
          refine G_goto 72 dX4_broughtBy_154 (by decide) ?_
          exact ih _ _ h
        · replace h := git c12 h
          refine G_aload_n dX4_broughtBy_106 rfl rfl ?_
          refine G_getR fl_X4_9 sl_101 sk_101 rfl (rr_101_3 _) dX4_broughtBy_107 ?_
          refine G_iload dX4_broughtBy_110 rfl ?_
          obtain ⟨b13, h⟩ := gck_some h
          refine G_iald sl_102 ss_102 (gin_in b13) dX4_broughtBy_112 ?_
          refine G_iconst (v := -1) dX4_broughtBy_113 rfl ?_
          refine G_icmp_eq 151 dX4_broughtBy_114 (by decide) (fun c14 => ?_) (fun c14 => ?_)
          · replace h := git c14 h
            refine S_iinc (v := (1 : Int32)) [some (.ref 101), some (.int x1), some (.ref 13), some (.int x3), some (.int x4), some (.int x5), some (.ref a6), some (.int (x7 + (1 : Int32)))] dX4_broughtBy_151 rfl rfl (by decide) rfl ?_
            refine G_goto 72 dX4_broughtBy_154 (by decide) ?_
            exact ih _ _ h
          · replace h := gif c14 h
            refine G_iload dX4_broughtBy_117 rfl ?_
            refine G_aload_n dX4_broughtBy_119 rfl rfl ?_
            refine G_getR fl_X4_23 sl_101 sk_101 rfl (rr_101_2 _) dX4_broughtBy_120 ?_
            refine G_aload_n dX4_broughtBy_123 rfl rfl ?_
            refine G_getR fl_X4_15 sl_101 sk_101 rfl (rr_101_0 _) dX4_broughtBy_124 ?_
            refine G_getR fl_X4_106 sl_84 sk_84 rfl (rr_84_0 _) dX4_broughtBy_127 ?_
            refine G_iload dX4_broughtBy_130 rfl ?_
            obtain ⟨b15, h⟩ := gck_some h
            refine G_iald sl_85 ss_85 (gin_in b15) dX4_broughtBy_132 ?_
            obtain ⟨r16, hr17, h⟩ := gB_some h
            refine G_cV (mj := gX3_givenTo) (As := [.int (I 85 (x7).toNatClampNeg)]) (rest := [.int x4]) ml_X4_109 vX3_givenTo sl_76 sk_76 (by decide) rfl rfl rfl (Nat.le_of_ble_eq_true rfl) (by decide) (Nat.le_refl _) (Nat.le_refl _) dX4_broughtBy_133 (q_X3_givenTo hr17) ?_
            refine G_aload_n dX4_broughtBy_136 rfl rfl ?_
            refine G_getR fl_X4_9 sl_101 sk_101 rfl (rr_101_3 _) dX4_broughtBy_137 ?_
            refine G_iload dX4_broughtBy_140 rfl ?_
            obtain ⟨b18, h⟩ := gck_some h
            refine G_iald sl_102 ss_102 (gin_in b18) dX4_broughtBy_142 ?_
            refine G_imul dX4_broughtBy_143 ?_
            refine G_sipush (v := 1000) dX4_broughtBy_144 rfl ?_
            refine G_idiv dX4_broughtBy_147 (by decide) ?_
            refine G_iadd dX4_broughtBy_148 ?_
            refine G_nI fun z20 ez20 => ?_
            replace h := gL_some ez20 h
            refine S_istore [some (.ref 101), some (.int x1), some (.ref 13), some (.int x3), some (.int z20), some (.int x5), some (.ref a6), some (.int x7)] dX4_broughtBy_149 (by decide) rfl ?_
            refine S_iinc (v := (1 : Int32)) [some (.ref 101), some (.int x1), some (.ref 13), some (.int x3), some (.int z20), some (.int x5), some (.ref a6), some (.int (x7 + (1 : Int32)))] dX4_broughtBy_151 rfl rfl (by decide) rfl ?_
            refine G_goto 72 dX4_broughtBy_154 (by decide) ?_
            exact ih _ _ h
set_option maxRecDepth 20000 in
theorem q_X4_broughtBy_6 {l : Launch} {v : (Int32 × gIt)} {J : gJt} {w : Bool} {x1 : Int32} {x3 : Int32} : ∀ (n : Nat) (I : gIt) (x4 : Int32) (x5 : Int32), p_X4_broughtBy_6 x1 x3 n I x4 x5 = some v → G l gX4_broughtBy 6 0 0 (fun v' S' I' J' R' => v' = some (.int v.1) ∧ S' = gS0 ∧ I' = v.2 ∧ J' = J ∧ R' = gR0 w) 0 0 6 [some (.ref 101), some (.int x1), some (.ref 13), some (.int x3), some (.int x4), some (.int x5), none, none] [] gS0 I J (gR0 w) := by
  intro n
  induction n with
  | zero => intro _ _ _ h; cases h
  | succ n ih =>
    intro I x4 x5 h
    rw [p_X4_broughtBy_6] at h
    refine G_iload dX4_broughtBy_6 rfl ?_
    refine G_iload_n dX4_broughtBy_8 rfl rfl ?_
    refine G_icmp_ge 163 dX4_broughtBy_9 (by decide) (fun c1 => ?_) (fun c1 => ?_)
    · replace h := git c1 h
      refine G_iload dX4_broughtBy_163 rfl ?_
      refine G_iret rfl (Nat.le_refl _) (Nat.le_refl _) dX4_broughtBy_165 ?_
      cases h
      exact ⟨rfl, rfl, rfl, rfl, rfl⟩
    · replace h := gif c1 h
      refine G_iload dX4_broughtBy_12 rfl ?_
      refine G_aload_n dX4_broughtBy_14 rfl rfl ?_
      refine G_alen sl_13 ss_13 (by decide) (by decide) dX4_broughtBy_15 ?_
      refine G_icmp_ge 163 dX4_broughtBy_16 (by decide) (fun c2 => ?_) (fun c2 => ?_)
      · replace h := git c2 h
        refine G_iload dX4_broughtBy_163 rfl ?_
        refine G_iret rfl (Nat.le_refl _) (Nat.le_refl _) dX4_broughtBy_165 ?_
        cases h
        exact ⟨rfl, rfl, rfl, rfl, rfl⟩
      · replace h := gif c2 h
        refine G_aload_n dX4_broughtBy_19 rfl rfl ?_
        refine G_iload dX4_broughtBy_20 rfl ?_
        obtain ⟨b3, h⟩ := gck_some h
        refine G_aald sl_13 ss_13 (gin_in b3) (gset_ar _ (gin_lt b3)) dX4_broughtBy_22 ?_
        refine S_astore [some (.ref 101), some (.int x1), some (.ref 13), some (.int x3), some (.int x4), some (.int x5), some (.ref (14 + 6 * (x5).toNatClampNeg)), none] dX4_broughtBy_23 (by decide) rfl ?_
        refine G_aload dX4_broughtBy_25 rfl ?_
        refine G_ifnull dX4_broughtBy_27 ?_
        refine G_aload_n dX4_broughtBy_30 rfl rfl ?_
        refine G_getI fl_X4_34 sl_101 sk_101 rfl dX4_broughtBy_31 ?_
        refine G_iload dX4_broughtBy_34 rfl ?_
        refine G_ushr dX4_broughtBy_36 ?_
        refine G_iconst (v := 1) dX4_broughtBy_37 rfl ?_
        refine G_iand dX4_broughtBy_38 ?_
        refine G_if_ne 45 dX4_broughtBy_39 (by decide) (fun c4 => ?_) (fun c4 => ?_)
        · replace h := gif c4 h
          refine G_aload_n dX4_broughtBy_45 rfl rfl ?_
          refine G_getR fl_X4_23 sl_101 sk_101 rfl (rr_101_2 _) dX4_broughtBy_46 ?_
          refine G_aload dX4_broughtBy_49 rfl ?_
          refine G_aload_n dX4_broughtBy_51 rfl rfl ?_
          refine G_getR fl_X4_19 sl_101 sk_101 rfl (rr_101_1 _) dX4_broughtBy_52 ?_
          refine G_iload_n dX4_broughtBy_55 rfl rfl ?_
          refine G_aload_n dX4_broughtBy_56 rfl rfl ?_
          refine G_getR fl_X4_19 sl_101 sk_101 rfl (rr_101_1 _) dX4_broughtBy_57 ?_
          refine G_aload dX4_broughtBy_60 rfl ?_
          obtain ⟨r5, hr6, h⟩ := gB_some h
          refine G_cV (mj := gX5_namedIn) (As := [.ref (14 + 6 * (x5).toNatClampNeg)]) (rest := [.int x1, .ref 74, .ref (14 + 6 * (x5).toNatClampNeg), .ref 76]) ml_X4_96 vX5_namedIn sl_74 sk_74 (by decide) rfl rfl rfl (Nat.le_of_ble_eq_true rfl) (by decide) (Nat.le_refl _) (Nat.le_refl _) dX4_broughtBy_62 (q_X5_namedIn (gset_of (gin_lt b3)) hr6) ?_
          refine G_iand dX4_broughtBy_65 ?_
          obtain ⟨r7, hr8, h⟩ := gB_some h
          refine G_cV (mj := gX3_divide) (As := [.ref (14 + 6 * (x5).toNatClampNeg), .ref 74, .int (x1 &&& r5)]) (rest := []) ml_X4_100 vX3_divide sl_76 sk_76 (by decide) rfl rfl rfl (Nat.le_of_ble_eq_true rfl) (by decide) (Nat.le_refl _) (Nat.le_refl _) dX4_broughtBy_66 (q_X3_divide (gset_of (gin_lt b3)) hr8) ?_
          refine G_iconst (v := 0) dX4_broughtBy_69 rfl ?_
          refine S_istore [some (.ref 101), some (.int x1), some (.ref 13), some (.int x3), some (.int x4), some (.int x5), some (.ref (14 + 6 * (x5).toNatClampNeg)), some (.int (0 : Int32))] dX4_broughtBy_70 (by decide) rfl ?_
          exact q_X4_broughtBy_72 (fun I' x4' x5' hq => ih I' x4' x5' hq) (gset_of (gin_lt b3)) gFu _ _ h
        · replace h := git c4 h
          refine G_goto 157 dX4_broughtBy_42 (by decide) ?_
          refine S_iinc (v := (1 : Int32)) [some (.ref 101), some (.int x1), some (.ref 13), some (.int x3), some (.int x4), some (.int (x5 + (1 : Int32))), some (.ref (14 + 6 * (x5).toNatClampNeg)), none] dX4_broughtBy_157 rfl rfl (by decide) rfl ?_
          refine G_goto 6 dX4_broughtBy_160 (by decide) ?_
          refine G_sub [some (.ref 101), some (.int x1), some (.ref 13), some (.int x3), some (.int x4), some (.int (x5 + (1 : Int32))), none, none] ⟨rfl, rfl, rfl, rfl, rfl, rfl, trivial⟩ ?_
          exact ih _ _ _ h
set_option maxRecDepth 20000 in
theorem q_X4_broughtBy {l : Launch} {I : gIt} {J : gJt} {w : Bool} {x1 : Int32} {x3 : Int32} {v : (Int32 × gIt)} (h : p_X4_broughtBy I x1 x3 = some v) : Cn l gX4_broughtBy 6 0 0 [.ref 101, .int x1, .ref 13, .int x3] gS0 I J (gR0 w) (fun v' S' I' J' R' => v' = some (.int v.1) ∧ S' = gS0 ∧ I' = v.2 ∧ J' = J ∧ R' = gR0 w) := by
  refine Cn.of [some (.ref 101), some (.int x1), some (.ref 13), some (.int x3), none, none, none, none] (by decide) rfl (Nat.le_of_ble_eq_true rfl) ?_
  rw [p_X4_broughtBy] at h
  refine G_iconst (v := 0) dX4_broughtBy_0 rfl ?_
  refine S_istore [some (.ref 101), some (.int x1), some (.ref 13), some (.int x3), some (.int (0 : Int32)), none, none, none] dX4_broughtBy_1 (by decide) rfl ?_
  refine G_iconst (v := 0) dX4_broughtBy_3 rfl ?_
  refine S_istore [some (.ref 101), some (.int x1), some (.ref 13), some (.int x3), some (.int (0 : Int32)), some (.int (0 : Int32)), none, none] dX4_broughtBy_4 (by decide) rfl ?_
  exact q_X4_broughtBy_6   gFu _ _ _ h
def p_X4_tally (I : gIt) (x1 : Int32) : Option gIt :=
  if (I 101 8) = 0 then
  gL (gu2 I 101 7 x1) fun I2 =>
  gL (gu2 I2 101 8 (1 : Int32)) fun I3 =>
  some I3
  else
  if (I 101 7) ≤ x1 then
  if x1 = (I 101 7) then
  gL (((I 101 8) + (1 : Int32))) fun z6 =>
  gL (gu2 I 101 8 z6) fun I7 =>
  some I7
  else
  some I
  else
  gL (gu2 I 101 7 x1) fun I8 =>
  gL (gu2 I8 101 8 (1 : Int32)) fun I9 =>
  some I9
set_option maxRecDepth 20000 in
theorem q_X4_tally {l : Launch} {I : gIt} {J : gJt} {w : Bool} {x1 : Int32} {v : gIt} (h : p_X4_tally I x1 = some v) : Cn l gX4_tally 2 0 0 [.ref 101, .int x1] gS0 I J (gR0 w) (fun v' S' I' J' R' => v' = none ∧ S' = gS0 ∧ I' = v ∧ J' = J ∧ R' = gR0 w) := by
  refine Cn.of [some (.ref 101), some (.int x1)] (by decide) rfl (Nat.le_of_ble_eq_true rfl) ?_
  rw [p_X4_tally] at h
  refine G_aload_n dX4_tally_0 rfl rfl ?_
  refine G_getI fl_X4_85 sl_101 sk_101 rfl dX4_tally_1 ?_
  refine G_if_eq 15 dX4_tally_4 (by decide) (fun c1 => ?_) (fun c1 => ?_)
  · replace h := git c1 h
    refine G_aload_n dX4_tally_15 rfl rfl ?_
    refine G_iload_n dX4_tally_16 rfl rfl ?_
    refine G_putI fl_X4_82 sl_101 sk_101 rfl rfl ⟨rfl, rfl⟩ dX4_tally_17 ?_
    refine G_mI fun I2 eI2 => ?_
    replace h := gL_some eI2 h
    refine G_aload_n dX4_tally_20 rfl rfl ?_
    refine G_iconst (v := 1) dX4_tally_21 rfl ?_
    refine G_putI fl_X4_85 sl_101 sk_101 rfl rfl ⟨rfl, rfl⟩ dX4_tally_22 ?_
    refine G_mI fun I3 eI3 => ?_
    replace h := gL_some eI3 h
    refine G_goto 46 dX4_tally_25 (by decide) ?_
    refine G_vret rfl (Nat.le_refl _) (Nat.le_refl _) dX4_tally_46 ?_
    cases h
    exact ⟨rfl, rfl, rfl, rfl, rfl⟩
  · replace h := gif c1 h
    refine G_iload_n dX4_tally_7 rfl rfl ?_
    refine G_aload_n dX4_tally_8 rfl rfl ?_
    refine G_getI fl_X4_82 sl_101 sk_101 rfl dX4_tally_9 ?_
    refine G_icmp_ge 28 dX4_tally_12 (by decide) (fun c4 => ?_) (fun c4 => ?_)
    · replace h := git c4 h
      refine G_iload_n dX4_tally_28 rfl rfl ?_
      refine G_aload_n dX4_tally_29 rfl rfl ?_
      refine G_getI fl_X4_82 sl_101 sk_101 rfl dX4_tally_30 ?_
      refine G_icmp_ne 46 dX4_tally_33 (by decide) (fun c5 => ?_) (fun c5 => ?_)
      · replace h := gif c5 h
        refine G_vret rfl (Nat.le_refl _) (Nat.le_refl _) dX4_tally_46 ?_
        cases h
        exact ⟨rfl, rfl, rfl, rfl, rfl⟩
      · replace h := git c5 h
        refine G_aload_n dX4_tally_36 rfl rfl ?_
        refine G_dup dX4_tally_37 rfl ?_
        refine G_getI fl_X4_85 sl_101 sk_101 rfl dX4_tally_38 ?_
        refine G_iconst (v := 1) dX4_tally_41 rfl ?_
        refine G_iadd dX4_tally_42 ?_
        refine G_nI fun z6 ez6 => ?_
        replace h := gL_some ez6 h
        refine G_putI fl_X4_85 sl_101 sk_101 rfl rfl ⟨rfl, rfl⟩ dX4_tally_43 ?_
        refine G_mI fun I7 eI7 => ?_
        replace h := gL_some eI7 h
        refine G_vret rfl (Nat.le_refl _) (Nat.le_refl _) dX4_tally_46 ?_
        cases h
        exact ⟨rfl, rfl, rfl, rfl, rfl⟩
    · replace h := gif c4 h
      refine G_aload_n dX4_tally_15 rfl rfl ?_
      refine G_iload_n dX4_tally_16 rfl rfl ?_
      refine G_putI fl_X4_82 sl_101 sk_101 rfl rfl ⟨rfl, rfl⟩ dX4_tally_17 ?_
      refine G_mI fun I8 eI8 => ?_
      replace h := gL_some eI8 h
      refine G_aload_n dX4_tally_20 rfl rfl ?_
      refine G_iconst (v := 1) dX4_tally_21 rfl ?_
      refine G_putI fl_X4_85 sl_101 sk_101 rfl rfl ⟨rfl, rfl⟩ dX4_tally_22 ?_
      refine G_mI fun I9 eI9 => ?_
      replace h := gL_some eI9 h
      refine G_goto 46 dX4_tally_25 (by decide) ?_
      refine G_vret rfl (Nat.le_refl _) (Nat.le_refl _) dX4_tally_46 ?_
      cases h
      exact ⟨rfl, rfl, rfl, rfl, rfl⟩
def p_X4_reckonWorst_38 (x2 : Int32) (x3 : Int32) (x4 : Int32) : Nat → gIt → Int32 → Int32 → Option (Int32 × gIt)
  | 0, _, _, _ => none
  | n + 1, I, x5, x6 =>
    if (gshl (1 : Int32) x4) ≤ x6 then
    some ((1 : Int32), I)
    else
    gB (p_X4_broughtBy I x5 x2) fun r9 =>
    gB (p_X4_tally r9.2 r9.1) fun r11 =>
    gL (((x5 - x3) &&& x3)) fun z13 =>
    p_X4_reckonWorst_38 x2 x3 x4 n r11 z13 (x6 + (1 : Int32))
def p_X4_reckonWorst (I : gIt) (x2 : Int32) : Option (Int32 × gIt) :=
  gB (p_X4_doubtfulOnes I x2) fun r1 =>
  gB (p_J6_bitCount_0f7a4 r1) fun r3 =>
  if r3 ≤ (8 : Int32) then
  gL (gu2 I 101 7 (0 : Int32)) fun I6 =>
  gL (gu2 I6 101 8 (0 : Int32)) fun I7 =>
  p_X4_reckonWorst_38 x2 r1 r3 gFu I7 (0 : Int32) (0 : Int32)
  else
  some ((0 : Int32), I)
set_option maxRecDepth 20000 in
theorem q_X4_reckonWorst_38 {l : Launch} {v : (Int32 × gIt)} {J : gJt} {w : Bool} {x2 : Int32} {x3 : Int32} {x4 : Int32} : ∀ (n : Nat) (I : gIt) (x5 : Int32) (x6 : Int32), p_X4_reckonWorst_38 x2 x3 x4 n I x5 x6 = some v → G l gX4_reckonWorst 7 0 0 (fun v' S' I' J' R' => v' = some (.int v.1) ∧ S' = gS0 ∧ I' = v.2 ∧ J' = J ∧ R' = gR0 w) 0 0 38 [some (.ref 101), some (.ref 13), some (.int x2), some (.int x3), some (.int x4), some (.int x5), some (.int x6)] [] gS0 I J (gR0 w) := by
  intro n
  induction n with
  | zero => intro _ _ _ h; cases h
  | succ n ih =>
    intro I x5 x6 h
    rw [p_X4_reckonWorst_38] at h
    refine G_iload dX4_reckonWorst_38 rfl ?_
    refine G_iconst (v := 1) dX4_reckonWorst_40 rfl ?_
    refine G_iload dX4_reckonWorst_41 rfl ?_
    refine G_shl dX4_reckonWorst_43 ?_
    refine G_icmp_ge 73 dX4_reckonWorst_44 (by decide) (fun c8 => ?_) (fun c8 => ?_)
    · replace h := git c8 h
      refine G_iconst (v := 1) dX4_reckonWorst_73 rfl ?_
      refine G_zret rfl (Or.inr rfl) (Nat.le_refl _) (Nat.le_refl _) dX4_reckonWorst_74 ?_
      cases h
      exact ⟨rfl, rfl, rfl, rfl, rfl⟩
    · replace h := gif c8 h
      refine G_aload_n dX4_reckonWorst_47 rfl rfl ?_
      refine G_aload_n dX4_reckonWorst_48 rfl rfl ?_
      refine G_iload dX4_reckonWorst_49 rfl ?_
      refine G_aload_n dX4_reckonWorst_51 rfl rfl ?_
      refine G_iload_n dX4_reckonWorst_52 rfl rfl ?_
      obtain ⟨r9, hr10, h⟩ := gB_some h
      refine G_cV (mj := gX4_broughtBy) (As := [.int x5, .ref 13, .int x2]) (rest := [.ref 101]) ml_X4_88 vX4_broughtBy sl_101 sk_101 (by decide) rfl rfl rfl (Nat.le_of_ble_eq_true rfl) (by decide) (Nat.le_refl _) (Nat.le_refl _) dX4_reckonWorst_53 (q_X4_broughtBy hr10) ?_
      obtain ⟨r11, hr12, h⟩ := gB_some h
      refine G_cV (mj := gX4_tally) (As := [.int r9.1]) (rest := []) ml_X4_92 vX4_tally sl_101 sk_101 (by decide) rfl rfl rfl (Nat.le_of_ble_eq_true rfl) (by decide) (Nat.le_refl _) (Nat.le_refl _) dX4_reckonWorst_56 (q_X4_tally hr12) ?_
      refine G_iload dX4_reckonWorst_59 rfl ?_
      refine G_iload_n dX4_reckonWorst_61 rfl rfl ?_
      refine G_isub dX4_reckonWorst_62 ?_
      refine G_iload_n dX4_reckonWorst_63 rfl rfl ?_
      refine G_iand dX4_reckonWorst_64 ?_
      refine G_nI fun z13 ez13 => ?_
      replace h := gL_some ez13 h
      refine S_istore [some (.ref 101), some (.ref 13), some (.int x2), some (.int x3), some (.int x4), some (.int z13), some (.int x6)] dX4_reckonWorst_65 (by decide) rfl ?_
      refine S_iinc (v := (1 : Int32)) [some (.ref 101), some (.ref 13), some (.int x2), some (.int x3), some (.int x4), some (.int z13), some (.int (x6 + (1 : Int32)))] dX4_reckonWorst_67 rfl rfl (by decide) rfl ?_
      refine G_goto 38 dX4_reckonWorst_70 (by decide) ?_
      exact ih _ _ _ h
set_option maxRecDepth 20000 in
theorem q_X4_reckonWorst {l : Launch} {I : gIt} {J : gJt} {w : Bool} {x2 : Int32} {v : (Int32 × gIt)} (h : p_X4_reckonWorst I x2 = some v) : Cn l gX4_reckonWorst 7 0 0 [.ref 101, .ref 13, .int x2] gS0 I J (gR0 w) (fun v' S' I' J' R' => v' = some (.int v.1) ∧ S' = gS0 ∧ I' = v.2 ∧ J' = J ∧ R' = gR0 w) := by
  refine Cn.of [some (.ref 101), some (.ref 13), some (.int x2), none, none, none, none] (by decide) rfl (Nat.le_of_ble_eq_true rfl) ?_
  rw [p_X4_reckonWorst] at h
  refine G_aload_n dX4_reckonWorst_0 rfl rfl ?_
  refine G_aload_n dX4_reckonWorst_1 rfl rfl ?_
  refine G_iload_n dX4_reckonWorst_2 rfl rfl ?_
  obtain ⟨r1, hr2, h⟩ := gB_some h
  refine G_cV (mj := gX4_doubtfulOnes) (As := [.ref 13, .int x2]) (rest := []) ml_X4_72 vX4_doubtfulOnes sl_101 sk_101 (by decide) rfl rfl rfl (Nat.le_of_ble_eq_true rfl) (by decide) (Nat.le_refl _) (Nat.le_refl _) dX4_reckonWorst_3 (q_X4_doubtfulOnes hr2) ?_
  refine S_istore_n [some (.ref 101), some (.ref 13), some (.int x2), some (.int r1), none, none, none] dX4_reckonWorst_6 rfl (by decide) rfl ?_
  refine G_iload_n dX4_reckonWorst_7 rfl rfl ?_
  obtain ⟨r3, hr4, h⟩ := gB_some h
  refine G_cS (mj := gJ6_bitCount_0f7a4) (As := [.int r1]) (rest := []) ml_X4_76 vJ6_bitCount_0f7a4 rfl rfl (Nat.le_of_ble_eq_true rfl) (by decide) (Nat.le_refl _) (Nat.le_refl _) dX4_reckonWorst_8 (q_J6_bitCount_0f7a4 hr4) ?_
  refine S_istore [some (.ref 101), some (.ref 13), some (.int x2), some (.int r1), some (.int r3), none, none] dX4_reckonWorst_11 (by decide) rfl ?_
  refine G_iload dX4_reckonWorst_13 rfl ?_
  refine G_bipush (v := 8) dX4_reckonWorst_15 rfl ?_
  refine G_icmp_le 22 dX4_reckonWorst_17 (by decide) (fun c5 => ?_) (fun c5 => ?_)
  · replace h := git c5 h
    refine G_aload_n dX4_reckonWorst_22 rfl rfl ?_
    refine G_iconst (v := 0) dX4_reckonWorst_23 rfl ?_
    refine G_putI fl_X4_82 sl_101 sk_101 rfl rfl ⟨rfl, rfl⟩ dX4_reckonWorst_24 ?_
    refine G_mI fun I6 eI6 => ?_
    replace h := gL_some eI6 h
    refine G_aload_n dX4_reckonWorst_27 rfl rfl ?_
    refine G_iconst (v := 0) dX4_reckonWorst_28 rfl ?_
    refine G_putI fl_X4_85 sl_101 sk_101 rfl rfl ⟨rfl, rfl⟩ dX4_reckonWorst_29 ?_
    refine G_mI fun I7 eI7 => ?_
    replace h := gL_some eI7 h
    refine G_iconst (v := 0) dX4_reckonWorst_32 rfl ?_
    refine S_istore [some (.ref 101), some (.ref 13), some (.int x2), some (.int r1), some (.int r3), some (.int (0 : Int32)), none] dX4_reckonWorst_33 (by decide) rfl ?_
    refine G_iconst (v := 0) dX4_reckonWorst_35 rfl ?_
    refine S_istore [some (.ref 101), some (.ref 13), some (.int x2), some (.int r1), some (.int r3), some (.int (0 : Int32)), some (.int (0 : Int32))] dX4_reckonWorst_36 (by decide) rfl ?_
    exact q_X4_reckonWorst_38   gFu _ _ _ h
  · replace h := gif c5 h
    refine G_iconst (v := 0) dX4_reckonWorst_20 rfl ?_
    refine G_zret rfl (Or.inl rfl) (Nat.le_refl _) (Nat.le_refl _) dX4_reckonWorst_21 ?_
    cases h
    exact ⟨rfl, rfl, rfl, rfl, rfl⟩
