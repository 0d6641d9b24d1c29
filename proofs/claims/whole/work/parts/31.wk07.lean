/-! ===== pure programs and their walks ===== -/
def p_X10_peek (I : gIt) : Option Int32 :=
  if (I 11 3) < 0 then
  some (-1 : Int32)
  else
  if (I 11 2) ≤ (I 11 3) then
  some (-1 : Int32)
  else
  if (100 : Int32) ≤ (I 11 3) then
  some (-1 : Int32)
  else
  gck (gin (I 11 3) 100) (
  some (I 12 ((I 11 3)).toNatClampNeg))
set_option maxRecDepth 20000 in
theorem q_X10_peek {l : Launch} {I : gIt} {J : gJt} {w : Bool} {v : Int32} (h : p_X10_peek I = some v) : Cn l gX10_peek 2 0 0 [.ref 11] gS0 I J (gR0 w) (fun v' S' I' J' R' => v' = some (.int v) ∧ S' = gS0 ∧ I' = I ∧ J' = J ∧ R' = gR0 w) := by
  refine Cn.of [some (.ref 11)] (by decide) rfl (Nat.le_of_ble_eq_true rfl) ?_
  rw [p_X10_peek] at h
  refine G_aload_n dX10_peek_0 rfl rfl ?_
  refine G_getI fl_X10_22 sl_11 sk_11 rfl dX10_peek_1 ?_
  refine G_if_lt 39 dX10_peek_4 (by decide) (fun c1 => ?_) (fun c1 => ?_)
  · replace h := git c1 h
    refine G_iconst (v := -1) dX10_peek_39 rfl ?_
    refine G_iret rfl (Nat.le_refl _) (Nat.le_refl _) dX10_peek_40 ?_
    cases h
    exact ⟨rfl, rfl, rfl, rfl, rfl⟩
  · replace h := gif c1 h
    refine G_aload_n dX10_peek_7 rfl rfl ?_
    refine G_getI fl_X10_22 sl_11 sk_11 rfl dX10_peek_8 ?_
    refine G_aload_n dX10_peek_11 rfl rfl ?_
    refine G_getI fl_X10_19 sl_11 sk_11 rfl dX10_peek_12 ?_
    refine G_icmp_ge 39 dX10_peek_15 (by decide) (fun c2 => ?_) (fun c2 => ?_)
    · replace h := git c2 h
      refine G_iconst (v := -1) dX10_peek_39 rfl ?_
      refine G_iret rfl (Nat.le_refl _) (Nat.le_refl _) dX10_peek_40 ?_
      cases h
      exact ⟨rfl, rfl, rfl, rfl, rfl⟩
    · replace h := gif c2 h
      refine G_aload_n dX10_peek_18 rfl rfl ?_
      refine G_getI fl_X10_22 sl_11 sk_11 rfl dX10_peek_19 ?_
      refine G_bipush (v := 100) dX10_peek_22 rfl ?_
      refine G_icmp_ge 39 dX10_peek_24 (by decide) (fun c3 => ?_) (fun c3 => ?_)
      · replace h := git c3 h
        refine G_iconst (v := -1) dX10_peek_39 rfl ?_
        refine G_iret rfl (Nat.le_refl _) (Nat.le_refl _) dX10_peek_40 ?_
        cases h
        exact ⟨rfl, rfl, rfl, rfl, rfl⟩
      · replace h := gif c3 h
        refine G_aload_n dX10_peek_27 rfl rfl ?_
        refine G_getR fl_X10_9 sl_11 sk_11 rfl (rr_11_0 _) dX10_peek_28 ?_
        refine G_aload_n dX10_peek_31 rfl rfl ?_
        refine G_getI fl_X10_22 sl_11 sk_11 rfl dX10_peek_32 ?_
        obtain ⟨b4, h⟩ := gck_some h
        refine G_iald sl_12 ss_12 (gin_in b4) dX10_peek_35 ?_
        refine G_goto 40 dX10_peek_36 (by decide) ?_
        refine G_iret rfl (Nat.le_refl _) (Nat.le_refl _) dX10_peek_40 ?_
        cases h
        exact ⟨rfl, rfl, rfl, rfl, rfl⟩
def p_X10_refuse (I : gIt) (x1 : Int32) : Option (Int32 × gIt) :=
  gL ((((-1000 : Int32) * x1) - (I 11 3))) fun z1 =>
  gL (gu2 I 11 4 z1) fun I2 =>
  some ((0 : Int32), I2)
set_option maxRecDepth 20000 in
theorem q_X10_refuse {l : Launch} {I : gIt} {J : gJt} {w : Bool} {x1 : Int32} {v : (Int32 × gIt)} (h : p_X10_refuse I x1 = some v) : Cn l gX10_refuse 2 0 0 [.ref 11, .int x1] gS0 I J (gR0 w) (fun v' S' I' J' R' => v' = some (.int v.1) ∧ S' = gS0 ∧ I' = v.2 ∧ J' = J ∧ R' = gR0 w) := by
  refine Cn.of [some (.ref 11), some (.int x1)] (by decide) rfl (Nat.le_of_ble_eq_true rfl) ?_
  rw [p_X10_refuse] at h
  refine G_aload_n dX10_refuse_0 rfl rfl ?_
  refine G_sipush (v := -1000) dX10_refuse_1 rfl ?_
  refine G_iload_n dX10_refuse_4 rfl rfl ?_
  refine G_imul dX10_refuse_5 ?_
  refine G_aload_n dX10_refuse_6 rfl rfl ?_
  refine G_getI fl_X10_22 sl_11 sk_11 rfl dX10_refuse_7 ?_
  refine G_isub dX10_refuse_10 ?_
  refine G_nI fun z1 ez1 => ?_
  replace h := gL_some ez1 h
  refine G_putI fl_X10_25 sl_11 sk_11 rfl rfl ⟨rfl, rfl⟩ dX10_refuse_11 ?_
  refine G_mI fun I2 eI2 => ?_
  replace h := gL_some eI2 h
  refine G_iconst (v := 0) dX10_refuse_14 rfl ?_
  refine G_zret rfl (Or.inl rfl) (Nat.le_refl _) (Nat.le_refl _) dX10_refuse_15 ?_
  cases h
  exact ⟨rfl, rfl, rfl, rfl, rfl⟩
def p_X10_take (I : gIt) (x1 : Int32) : Option (Int32 × gIt) :=
  gB (p_X10_peek I) fun r1 =>
  if r1 = x1 then
  gL (((I 11 3) + (1 : Int32))) fun z4 =>
  gL (gu2 I 11 3 z4) fun I5 =>
  some ((1 : Int32), I5)
  else
  some ((0 : Int32), I)
set_option maxRecDepth 20000 in
theorem q_X10_take {l : Launch} {I : gIt} {J : gJt} {w : Bool} {x1 : Int32} {v : (Int32 × gIt)} (h : p_X10_take I x1 = some v) : Cn l gX10_take 3 0 0 [.ref 11, .int x1] gS0 I J (gR0 w) (fun v' S' I' J' R' => v' = some (.int v.1) ∧ S' = gS0 ∧ I' = v.2 ∧ J' = J ∧ R' = gR0 w) := by
  refine Cn.of [some (.ref 11), some (.int x1)] (by decide) rfl (Nat.le_of_ble_eq_true rfl) ?_
  rw [p_X10_take] at h
  refine G_aload_n dX10_take_0 rfl rfl ?_
  obtain ⟨r1, hr2, h⟩ := gB_some h
  refine G_cV (mj := gX10_peek) (As := []) (rest := []) ml_X10_28 vX10_peek sl_11 sk_11 (by decide) rfl rfl rfl (Nat.le_of_ble_eq_true rfl) (by decide) (Nat.le_refl _) (Nat.le_refl _) dX10_take_1 (q_X10_peek hr2) ?_
  refine G_iload_n dX10_take_4 rfl rfl ?_
  refine G_icmp_eq 10 dX10_take_5 (by decide) (fun c3 => ?_) (fun c3 => ?_)
  · replace h := git c3 h
    refine G_aload_n dX10_take_10 rfl rfl ?_
    refine G_dup dX10_take_11 rfl ?_
    refine G_getI fl_X10_22 sl_11 sk_11 rfl dX10_take_12 ?_
    refine G_iconst (v := 1) dX10_take_15 rfl ?_
    refine G_iadd dX10_take_16 ?_
    refine G_nI fun z4 ez4 => ?_
    replace h := gL_some ez4 h
    refine G_putI fl_X10_22 sl_11 sk_11 rfl rfl ⟨rfl, rfl⟩ dX10_take_17 ?_
    refine G_mI fun I5 eI5 => ?_
    replace h := gL_some eI5 h
    refine G_iconst (v := 1) dX10_take_20 rfl ?_
    refine G_zret rfl (Or.inr rfl) (Nat.le_refl _) (Nat.le_refl _) dX10_take_21 ?_
    cases h
    exact ⟨rfl, rfl, rfl, rfl, rfl⟩
  · replace h := gif c3 h
    refine G_iconst (v := 0) dX10_take_8 rfl ?_
    refine G_zret rfl (Or.inl rfl) (Nat.le_refl _) (Nat.le_refl _) dX10_take_9 ?_
    cases h
    exact ⟨rfl, rfl, rfl, rfl, rfl⟩
def p_X10_atDigit (I : gIt) : Option Int32 :=
  gB (p_X10_peek I) fun r1 =>
  if r1 < (48 : Int32) then
  some (0 : Int32)
  else
  gB (p_X10_peek I) fun r4 =>
  if (57 : Int32) < r4 then
  some (0 : Int32)
  else
  some (1 : Int32)
set_option maxRecDepth 20000 in
theorem q_X10_atDigit {l : Launch} {I : gIt} {J : gJt} {w : Bool} {v : Int32} (h : p_X10_atDigit I = some v) : Cn l gX10_atDigit 3 0 0 [.ref 11] gS0 I J (gR0 w) (fun v' S' I' J' R' => v' = some (.int v) ∧ S' = gS0 ∧ I' = I ∧ J' = J ∧ R' = gR0 w) := by
  refine Cn.of [some (.ref 11)] (by decide) rfl (Nat.le_of_ble_eq_true rfl) ?_
  rw [p_X10_atDigit] at h
  refine G_aload_n dX10_atDigit_0 rfl rfl ?_
  obtain ⟨r1, hr2, h⟩ := gB_some h
  refine G_cV (mj := gX10_peek) (As := []) (rest := []) ml_X10_28 vX10_peek sl_11 sk_11 (by decide) rfl rfl rfl (Nat.le_of_ble_eq_true rfl) (by decide) (Nat.le_refl _) (Nat.le_refl _) dX10_atDigit_1 (q_X10_peek hr2) ?_
  refine G_bipush (v := 48) dX10_atDigit_4 rfl ?_
  refine G_icmp_lt 22 dX10_atDigit_6 (by decide) (fun c3 => ?_) (fun c3 => ?_)
  · replace h := git c3 h
    refine G_iconst (v := 0) dX10_atDigit_22 rfl ?_
    refine G_zret rfl (Or.inl rfl) (Nat.le_refl _) (Nat.le_refl _) dX10_atDigit_23 ?_
    cases h
    exact ⟨rfl, rfl, rfl, rfl, rfl⟩
  · replace h := gif c3 h
    refine G_aload_n dX10_atDigit_9 rfl rfl ?_
    obtain ⟨r4, hr5, h⟩ := gB_some h
    refine G_cV (mj := gX10_peek) (As := []) (rest := []) ml_X10_28 vX10_peek sl_11 sk_11 (by decide) rfl rfl rfl (Nat.le_of_ble_eq_true rfl) (by decide) (Nat.le_refl _) (Nat.le_refl _) dX10_atDigit_10 (q_X10_peek hr5) ?_
    refine G_bipush (v := 57) dX10_atDigit_13 rfl ?_
    refine G_icmp_gt 22 dX10_atDigit_15 (by decide) (fun c6 => ?_) (fun c6 => ?_)
    · replace h := git c6 h
      refine G_iconst (v := 0) dX10_atDigit_22 rfl ?_
      refine G_zret rfl (Or.inl rfl) (Nat.le_refl _) (Nat.le_refl _) dX10_atDigit_23 ?_
      cases h
      exact ⟨rfl, rfl, rfl, rfl, rfl⟩
    · replace h := gif c6 h
      refine G_iconst (v := 1) dX10_atDigit_18 rfl ?_
      refine G_goto 23 dX10_atDigit_19 (by decide) ?_
      refine G_zret rfl (Or.inr rfl) (Nat.le_refl _) (Nat.le_refl _) dX10_atDigit_23 ?_
      cases h
      exact ⟨rfl, rfl, rfl, rfl, rfl⟩
def p_X10_takeDigit (I : gIt) (x1 : Int32) : Option (Int32 × gIt) :=
  gB (p_X10_peek I) fun r1 =>
  gL ((r1 - (48 : Int32))) fun z3 =>
  if z3 < x1 then
  some ((-1 : Int32), I)
  else
  if z3 ≤ (9 : Int32) then
  gL (((I 11 3) + (1 : Int32))) fun z6 =>
  gL (gu2 I 11 3 z6) fun I7 =>
  some (z3, I7)
  else
  some ((-1 : Int32), I)
set_option maxRecDepth 20000 in
theorem q_X10_takeDigit {l : Launch} {I : gIt} {J : gJt} {w : Bool} {x1 : Int32} {v : (Int32 × gIt)} (h : p_X10_takeDigit I x1 = some v) : Cn l gX10_takeDigit 3 0 0 [.ref 11, .int x1] gS0 I J (gR0 w) (fun v' S' I' J' R' => v' = some (.int v.1) ∧ S' = gS0 ∧ I' = v.2 ∧ J' = J ∧ R' = gR0 w) := by
  refine Cn.of [some (.ref 11), some (.int x1), none] (by decide) rfl (Nat.le_of_ble_eq_true rfl) ?_
  rw [p_X10_takeDigit] at h
  refine G_aload_n dX10_takeDigit_0 rfl rfl ?_
  obtain ⟨r1, hr2, h⟩ := gB_some h
  refine G_cV (mj := gX10_peek) (As := []) (rest := []) ml_X10_28 vX10_peek sl_11 sk_11 (by decide) rfl rfl rfl (Nat.le_of_ble_eq_true rfl) (by decide) (Nat.le_refl _) (Nat.le_refl _) dX10_takeDigit_1 (q_X10_peek hr2) ?_
  refine G_bipush (v := 48) dX10_takeDigit_4 rfl ?_
  refine G_isub dX10_takeDigit_6 ?_
  refine G_nI fun z3 ez3 => ?_
  replace h := gL_some ez3 h
  refine S_istore_n [some (.ref 11), some (.int x1), some (.int z3)] dX10_takeDigit_7 rfl (by decide) rfl ?_
  refine G_iload_n dX10_takeDigit_8 rfl rfl ?_
  refine G_iload_n dX10_takeDigit_9 rfl rfl ?_
  refine G_icmp_lt 19 dX10_takeDigit_10 (by decide) (fun c4 => ?_) (fun c4 => ?_)
  · replace h := git c4 h
    refine G_iconst (v := -1) dX10_takeDigit_19 rfl ?_
    refine G_iret rfl (Nat.le_refl _) (Nat.le_refl _) dX10_takeDigit_20 ?_
    cases h
    exact ⟨rfl, rfl, rfl, rfl, rfl⟩
  · replace h := gif c4 h
    refine G_iload_n dX10_takeDigit_13 rfl rfl ?_
    refine G_bipush (v := 9) dX10_takeDigit_14 rfl ?_
    refine G_icmp_le 21 dX10_takeDigit_16 (by decide) (fun c5 => ?_) (fun c5 => ?_)
    · replace h := git c5 h
      refine G_aload_n dX10_takeDigit_21 rfl rfl ?_
      refine G_dup dX10_takeDigit_22 rfl ?_
      refine G_getI fl_X10_22 sl_11 sk_11 rfl dX10_takeDigit_23 ?_
      refine G_iconst (v := 1) dX10_takeDigit_26 rfl ?_
      refine G_iadd dX10_takeDigit_27 ?_
      refine G_nI fun z6 ez6 => ?_
      replace h := gL_some ez6 h
      refine G_putI fl_X10_22 sl_11 sk_11 rfl rfl ⟨rfl, rfl⟩ dX10_takeDigit_28 ?_
      refine G_mI fun I7 eI7 => ?_
      replace h := gL_some eI7 h
      refine G_iload_n dX10_takeDigit_31 rfl rfl ?_
      refine G_iret rfl (Nat.le_refl _) (Nat.le_refl _) dX10_takeDigit_32 ?_
      cases h
      exact ⟨rfl, rfl, rfl, rfl, rfl⟩
    · replace h := gif c5 h
      refine G_iconst (v := -1) dX10_takeDigit_19 rfl ?_
      refine G_iret rfl (Nat.le_refl _) (Nat.le_refl _) dX10_takeDigit_20 ?_
      cases h
      exact ⟨rfl, rfl, rfl, rfl, rfl⟩
def p_X7_has (I : gIt) (x1 : Int32) : Option Int32 :=
  if x1 < 0 then
  some (0 : Int32)
  else
  if (I 1 7) ≤ x1 then
  some (0 : Int32)
  else
  if (16 : Int32) ≤ x1 then
  some (0 : Int32)
  else
  some (1 : Int32)
set_option maxRecDepth 20000 in
theorem q_X7_has {l : Launch} {I : gIt} {J : gJt} {w : Bool} {x1 : Int32} {v : Int32} (h : p_X7_has I x1 = some v) : Cn l gX7_has 2 0 0 [.ref 1, .int x1] gS0 I J (gR0 w) (fun v' S' I' J' R' => v' = some (.int v) ∧ S' = gS0 ∧ I' = I ∧ J' = J ∧ R' = gR0 w) := by
  refine Cn.of [some (.ref 1), some (.int x1)] (by decide) rfl (Nat.le_of_ble_eq_true rfl) ?_
  rw [p_X7_has] at h
  refine G_iload_n dX7_has_0 rfl rfl ?_
  refine G_if_lt 22 dX7_has_1 (by decide) (fun c1 => ?_) (fun c1 => ?_)
  · replace h := git c1 h
    refine G_iconst (v := 0) dX7_has_22 rfl ?_
    refine G_zret rfl (Or.inl rfl) (Nat.le_refl _) (Nat.le_refl _) dX7_has_23 ?_
    cases h
    exact ⟨rfl, rfl, rfl, rfl, rfl⟩
  · replace h := gif c1 h
    refine G_iload_n dX7_has_4 rfl rfl ?_
    refine G_aload_n dX7_has_5 rfl rfl ?_
    refine G_getI fl_X7_33 sl_1 sk_1 rfl dX7_has_6 ?_
    refine G_icmp_ge 22 dX7_has_9 (by decide) (fun c2 => ?_) (fun c2 => ?_)
    · replace h := git c2 h
      refine G_iconst (v := 0) dX7_has_22 rfl ?_
      refine G_zret rfl (Or.inl rfl) (Nat.le_refl _) (Nat.le_refl _) dX7_has_23 ?_
      cases h
      exact ⟨rfl, rfl, rfl, rfl, rfl⟩
    · replace h := gif c2 h
      refine G_iload_n dX7_has_12 rfl rfl ?_
      refine G_bipush (v := 16) dX7_has_13 rfl ?_
      refine G_icmp_ge 22 dX7_has_15 (by decide) (fun c3 => ?_) (fun c3 => ?_)
      · replace h := git c3 h
        refine G_iconst (v := 0) dX7_has_22 rfl ?_
        refine G_zret rfl (Or.inl rfl) (Nat.le_refl _) (Nat.le_refl _) dX7_has_23 ?_
        cases h
        exact ⟨rfl, rfl, rfl, rfl, rfl⟩
      · replace h := gif c3 h
        refine G_iconst (v := 1) dX7_has_18 rfl ?_
        refine G_goto 23 dX7_has_19 (by decide) ?_
        refine G_zret rfl (Or.inr rfl) (Nat.le_refl _) (Nat.le_refl _) dX7_has_23 ?_
        cases h
        exact ⟨rfl, rfl, rfl, rfl, rfl⟩
def p_X7_knownDead (I : gIt) (x1 : Int32) (x2 : Int32) : Option Int32 :=
  gB (p_X7_has I x1) fun r1 =>
  if r1 = 0 then
  some (0 : Int32)
  else
  gck (gin x1 16) (
  if (I 5 (x1).toNatClampNeg) = (-1 : Int32) then
  some (0 : Int32)
  else
  gck (gin x1 16) (
  if x2 < (I 6 (x1).toNatClampNeg) then
  some (0 : Int32)
  else
  some (1 : Int32)))
set_option maxRecDepth 20000 in
theorem q_X7_knownDead {l : Launch} {I : gIt} {J : gJt} {w : Bool} {x1 : Int32} {x2 : Int32} {v : Int32} (h : p_X7_knownDead I x1 x2 = some v) : Cn l gX7_knownDead 3 0 0 [.ref 1, .int x1, .int x2] gS0 I J (gR0 w) (fun v' S' I' J' R' => v' = some (.int v) ∧ S' = gS0 ∧ I' = I ∧ J' = J ∧ R' = gR0 w) := by
  refine Cn.of [some (.ref 1), some (.int x1), some (.int x2)] (by decide) rfl (Nat.le_of_ble_eq_true rfl) ?_
  rw [p_X7_knownDead] at h
  refine G_aload_n dX7_knownDead_0 rfl rfl ?_
  refine G_iload_n dX7_knownDead_1 rfl rfl ?_
  obtain ⟨r1, hr2, h⟩ := gB_some h
  refine G_cV (mj := gX7_has) (As := [.int x1]) (rest := []) ml_X7_37 vX7_has sl_1 sk_1 (by decide) rfl rfl rfl (Nat.le_of_ble_eq_true rfl) (by decide) (Nat.le_refl _) (Nat.le_refl _) dX7_knownDead_2 (q_X7_has hr2) ?_
  refine G_if_eq 32 dX7_knownDead_5 (by decide) (fun c3 => ?_) (fun c3 => ?_)
  · replace h := git c3 h
    refine G_iconst (v := 0) dX7_knownDead_32 rfl ?_
    refine G_zret rfl (Or.inl rfl) (Nat.le_refl _) (Nat.le_refl _) dX7_knownDead_33 ?_
    cases h
    exact ⟨rfl, rfl, rfl, rfl, rfl⟩
  · replace h := gif c3 h
    refine G_aload_n dX7_knownDead_8 rfl rfl ?_
    refine G_getR fl_X7_21 sl_1 sk_1 rfl (rr_1_3 _) dX7_knownDead_9 ?_
    refine G_iload_n dX7_knownDead_12 rfl rfl ?_
    obtain ⟨b4, h⟩ := gck_some h
    refine G_iald sl_5 ss_5 (gin_in b4) dX7_knownDead_13 ?_
    refine G_iconst (v := -1) dX7_knownDead_14 rfl ?_
    refine G_icmp_eq 32 dX7_knownDead_15 (by decide) (fun c5 => ?_) (fun c5 => ?_)
    · replace h := git c5 h
      refine G_iconst (v := 0) dX7_knownDead_32 rfl ?_
      refine G_zret rfl (Or.inl rfl) (Nat.le_refl _) (Nat.le_refl _) dX7_knownDead_33 ?_
      cases h
      exact ⟨rfl, rfl, rfl, rfl, rfl⟩
    · replace h := gif c5 h
      refine G_aload_n dX7_knownDead_18 rfl rfl ?_
      refine G_getR fl_X7_24 sl_1 sk_1 rfl (rr_1_4 _) dX7_knownDead_19 ?_
      refine G_iload_n dX7_knownDead_22 rfl rfl ?_
      obtain ⟨b6, h⟩ := gck_some h
      refine G_iald sl_6 ss_6 (gin_in b6) dX7_knownDead_23 ?_
      refine G_iload_n dX7_knownDead_24 rfl rfl ?_
      refine G_icmp_gt 32 dX7_knownDead_25 (by decide) (fun c7 => ?_) (fun c7 => ?_)
      · replace h := git c7 h
        refine G_iconst (v := 0) dX7_knownDead_32 rfl ?_
        refine G_zret rfl (Or.inl rfl) (Nat.le_refl _) (Nat.le_refl _) dX7_knownDead_33 ?_
        cases h
        exact ⟨rfl, rfl, rfl, rfl, rfl⟩
      · replace h := gif c7 h
        refine G_iconst (v := 1) dX7_knownDead_28 rfl ?_
        refine G_goto 33 dX7_knownDead_29 (by decide) ?_
        refine G_zret rfl (Or.inr rfl) (Nat.le_refl _) (Nat.le_refl _) dX7_knownDead_33 ?_
        cases h
        exact ⟨rfl, rfl, rfl, rfl, rfl⟩
def p_X5_learn_33 (x2 : Int32) : Nat → gIt → Int32 → Option gIt
  | 0, _, _ => none
  | n + 1, I, x3 =>
    if (I 1 7) ≤ x3 then
    some I
    else
    if (16 : Int32) ≤ x3 then
    some I
    else
    gck (gin x3 16) (
    if (I 4 (x3).toNatClampNeg) ≤ x2 then
    gL (((I 74 1) ||| (gshl (1 : Int32) x3))) fun z8 =>
    gL (gu2 I 74 1 z8) fun I9 =>
    gB (p_X7_knownDead I9 x3 x2) fun r10 =>
    gB (α := Int32) (
    if r10 = 0 then
    some (0 : Int32)
    else
    some (gshl (1 : Int32) x3)) fun ph12 =>
    gL (((I9 74 2) ||| ph12)) fun z16 =>
    gL (gu2 I9 74 2 z16) fun I17 =>
    gck (gin x3 16) (
    gL ((I17 3 (x3).toNatClampNeg)) fun z19 =>
    if z19 < 0 then
    p_X5_learn_33 x2 n I17 (x3 + (1 : Int32))
    else
    if (16 : Int32) ≤ z19 then
    p_X5_learn_33 x2 n I17 (x3 + (1 : Int32))
    else
    gck (gin z19 16) (
    gL (((I17 75 (z19).toNatClampNeg) ||| (gshl (1 : Int32) x3))) fun z23 =>
    gck (gin z19 16) (
    gL (gu2 I17 75 (z19).toNatClampNeg z23) fun I25 =>
    p_X5_learn_33 x2 n I25 (x3 + (1 : Int32)))))
    else
    p_X5_learn_33 x2 n I (x3 + (1 : Int32)))
def p_X5_learn_12 (x2 : Int32) : Nat → gIt → Int32 → Option gIt
  | 0, _, _ => none
  | n + 1, I, x3 =>
    if (16 : Int32) ≤ x3 then
    p_X5_learn_33 x2 gFu I (0 : Int32)
    else
    gck (gin x3 16) (
    gL (gu2 I 75 (x3).toNatClampNeg (0 : Int32)) fun I28 =>
    p_X5_learn_12 x2 n I28 (x3 + (1 : Int32)))
def p_X5_learn (I : gIt) (x2 : Int32) : Option gIt :=
  gL (gu2 I 74 1 (0 : Int32)) fun I1 =>
  gL (gu2 I1 74 2 (0 : Int32)) fun I2 =>
  p_X5_learn_12 x2 gFu I2 (0 : Int32)
set_option maxRecDepth 20000 in
theorem q_X5_learn_33 {l : Launch} {v : gIt} {J : gJt} {w : Bool} {x2 : Int32} : ∀ (n : Nat) (I : gIt) (x3 : Int32), p_X5_learn_33 x2 n I x3 = some v → G l gX5_learn 4 0 0 (fun v' S' I' J' R' => v' = none ∧ S' = gS0 ∧ I' = v ∧ J' = J ∧ R' = gR0 w) 0 0 33 [some (.ref 74), some (.ref 1), some (.int x2), some (.int x3), none] [] gS0 I J (gR0 w) := by
  intro n
  induction n with
  | zero => intro _ _ h; cases h
  | succ n ih =>
    intro I x3 h
    rw [p_X5_learn_33] at h
    refine G_iload_n dX5_learn_33 rfl rfl ?_
    refine G_aload_n dX5_learn_34 rfl rfl ?_
    refine G_getI fl_X5_22 sl_1 sk_1 rfl dX5_learn_35 ?_
    refine G_icmp_ge 136 dX5_learn_38 (by decide) (fun c4 => ?_) (fun c4 => ?_)
    · replace h := git c4 h
      refine G_vret rfl (Nat.le_refl _) (Nat.le_refl _) dX5_learn_136 ?_
      cases h
      exact ⟨rfl, rfl, rfl, rfl, rfl⟩
    · replace h := gif c4 h
      refine G_iload_n dX5_learn_41 rfl rfl ?_
      refine G_bipush (v := 16) dX5_learn_42 rfl ?_
      refine G_icmp_ge 136 dX5_learn_44 (by decide) (fun c5 => ?_) (fun c5 => ?_)
      · replace h := git c5 h
        refine G_vret rfl (Nat.le_refl _) (Nat.le_refl _) dX5_learn_136 ?_
        cases h
        exact ⟨rfl, rfl, rfl, rfl, rfl⟩
      · replace h := gif c5 h
        refine G_aload_n dX5_learn_47 rfl rfl ?_
        refine G_getR fl_X5_27 sl_1 sk_1 rfl (rr_1_2 _) dX5_learn_48 ?_
        refine G_iload_n dX5_learn_51 rfl rfl ?_
        obtain ⟨b6, h⟩ := gck_some h
        refine G_iald sl_4 ss_4 (gin_in b6) dX5_learn_52 ?_
        refine G_iload_n dX5_learn_53 rfl rfl ?_
        refine G_icmp_le 60 dX5_learn_54 (by decide) (fun c7 => ?_) (fun c7 => ?_)
        · replace h := git c7 h
          refine G_aload_n dX5_learn_60 rfl rfl ?_
          refine G_dup dX5_learn_61 rfl ?_
          refine G_getI fl_X5_15 sl_74 sk_74 rfl dX5_learn_62 ?_
          refine G_iconst (v := 1) dX5_learn_65 rfl ?_
          refine G_iload_n dX5_learn_66 rfl rfl ?_
          refine G_shl dX5_learn_67 ?_
          refine G_ior dX5_learn_68 ?_
          refine G_nI fun z8 ez8 => ?_
          replace h := gL_some ez8 h
          refine G_putI fl_X5_15 sl_74 sk_74 rfl rfl ⟨rfl, rfl⟩ dX5_learn_69 ?_
          refine G_mI fun I9 eI9 => ?_
          replace h := gL_some eI9 h
          refine G_aload_n dX5_learn_72 rfl rfl ?_
          refine G_dup dX5_learn_73 rfl ?_
          refine G_getI fl_X5_19 sl_74 sk_74 rfl dX5_learn_74 ?_
          refine G_aload_n dX5_learn_77 rfl rfl ?_
          refine G_iload_n dX5_learn_78 rfl rfl ?_
          refine G_iload_n dX5_learn_79 rfl rfl ?_
          obtain ⟨r10, hr11, h⟩ := gB_some h
          refine G_cV (mj := gX7_knownDead) (As := [.int x3, .int x2]) (rest := [.int (I9 74 2), .ref 74]) ml_X5_30 vX7_knownDead sl_1 sk_1 (by decide) rfl rfl rfl (Nat.le_of_ble_eq_true rfl) (by decide) (Nat.le_refl _) (Nat.le_refl _) dX5_learn_80 (q_X7_knownDead hr11) ?_
          obtain ⟨ph12, t13, r14⟩ := gB_some h
          have jn15 : G l gX5_learn 4 0 0 (fun v' S' I' J' R' => v' = none ∧ S' = gS0 ∧ I' = v ∧ J' = J ∧ R' = gR0 w) 0 0 93 [some (.ref 74), some (.ref 1), some (.int x2), some (.int x3), none] [.int ph12, .int (I9 74 2), .ref 74] gS0 I9 J (gR0 w) := by
            refine G_ior dX5_learn_93 ?_
            refine G_nI fun z16 ez16 => ?_
            replace r14 := gL_some ez16 r14
            refine G_putI fl_X5_19 sl_74 sk_74 rfl rfl ⟨rfl, rfl⟩ dX5_learn_94 ?_
            refine G_mI fun I17 eI17 => ?_
            replace r14 := gL_some eI17 r14
            refine G_aload_n dX5_learn_97 rfl rfl ?_
            refine G_getR fl_X5_34 sl_1 sk_1 rfl (rr_1_1 _) dX5_learn_98 ?_
            refine G_iload_n dX5_learn_101 rfl rfl ?_
            obtain ⟨b18, r14⟩ := gck_some r14
            refine G_iald sl_3 ss_3 (gin_in b18) dX5_learn_102 ?_
            refine G_nI fun z19 ez19 => ?_
            replace r14 := gL_some ez19 r14
            refine S_istore [some (.ref 74), some (.ref 1), some (.int x2), some (.int x3), some (.int z19)] dX5_learn_103 (by decide) rfl ?_
            refine G_iload dX5_learn_105 rfl ?_
            refine G_if_lt 130 dX5_learn_107 (by decide) (fun c20 => ?_) (fun c20 => ?_)
            · replace r14 := git c20 r14
              refine S_iinc (v := (1 : Int32)) [some (.ref 74), some (.ref 1), some (.int x2), some (.int (x3 + (1 : Int32))), some (.int z19)] dX5_learn_130 rfl rfl (by decide) rfl ?_
              refine G_goto 33 dX5_learn_133 (by decide) ?_
              refine G_sub [some (.ref 74), some (.ref 1), some (.int x2), some (.int (x3 + (1 : Int32))), none] ⟨rfl, rfl, rfl, rfl, trivial⟩ ?_
              exact ih _ _ r14
            · replace r14 := gif c20 r14
              refine G_iload dX5_learn_110 rfl ?_
              refine G_bipush (v := 16) dX5_learn_112 rfl ?_
              refine G_icmp_ge 130 dX5_learn_114 (by decide) (fun c21 => ?_) (fun c21 => ?_)
              · replace r14 := git c21 r14
                refine S_iinc (v := (1 : Int32)) [some (.ref 74), some (.ref 1), some (.int x2), some (.int (x3 + (1 : Int32))), some (.int z19)] dX5_learn_130 rfl rfl (by decide) rfl ?_
                refine G_goto 33 dX5_learn_133 (by decide) ?_
                refine G_sub [some (.ref 74), some (.ref 1), some (.int x2), some (.int (x3 + (1 : Int32))), none] ⟨rfl, rfl, rfl, rfl, trivial⟩ ?_
                exact ih _ _ r14
              · replace r14 := gif c21 r14
                refine G_aload_n dX5_learn_117 rfl rfl ?_
                refine G_getR fl_X5_9 sl_74 sk_74 rfl (rr_74_0 _) dX5_learn_118 ?_
                refine G_iload dX5_learn_121 rfl ?_
                refine G_dup2 dX5_learn_123 rfl rfl ?_
                obtain ⟨b22, r14⟩ := gck_some r14
                refine G_iald sl_75 ss_75 (gin_in b22) dX5_learn_124 ?_
                refine G_iconst (v := 1) dX5_learn_125 rfl ?_
                refine G_iload_n dX5_learn_126 rfl rfl ?_
                refine G_shl dX5_learn_127 ?_
                refine G_ior dX5_learn_128 ?_
                refine G_nI fun z23 ez23 => ?_
                replace r14 := gL_some ez23 r14
                obtain ⟨b24, r14⟩ := gck_some r14
                refine G_iast sl_75 ss_75 (gin_in b24) dX5_learn_129 ?_
                refine G_mI fun I25 eI25 => ?_
                replace r14 := gL_some eI25 r14
                refine S_iinc (v := (1 : Int32)) [some (.ref 74), some (.ref 1), some (.int x2), some (.int (x3 + (1 : Int32))), some (.int z19)] dX5_learn_130 rfl rfl (by decide) rfl ?_
                refine G_goto 33 dX5_learn_133 (by decide) ?_
                refine G_sub [some (.ref 74), some (.ref 1), some (.int x2), some (.int (x3 + (1 : Int32))), none] ⟨rfl, rfl, rfl, rfl, trivial⟩ ?_
                exact ih _ _ r14
          refine G_if_eq 92 dX5_learn_83 (by decide) (fun c26 => ?_) (fun c26 => ?_)
          · replace t13 := git c26 t13
            refine G_iconst (v := 0) dX5_learn_92 rfl ?_
            cases t13
            exact jn15
          · replace t13 := gif c26 t13
            refine G_iconst (v := 1) dX5_learn_86 rfl ?_
            refine G_iload_n dX5_learn_87 rfl rfl ?_
            refine G_shl dX5_learn_88 ?_
            refine G_goto 93 dX5_learn_89 (by decide) ?_
            cases t13
            exact jn15
        · replace h := gif c7 h
          refine G_goto 130 dX5_learn_57 (by decide) ?_
          refine S_iinc (v := (1 : Int32)) [some (.ref 74), some (.ref 1), some (.int x2), some (.int (x3 + (1 : Int32))), none] dX5_learn_130 rfl rfl (by decide) rfl ?_
          refine G_goto 33 dX5_learn_133 (by decide) ?_
          exact ih _ _ h
set_option maxRecDepth 20000 in
theorem q_X5_learn_12 {l : Launch} {v : gIt} {J : gJt} {w : Bool} {x2 : Int32} : ∀ (n : Nat) (I : gIt) (x3 : Int32), p_X5_learn_12 x2 n I x3 = some v → G l gX5_learn 4 0 0 (fun v' S' I' J' R' => v' = none ∧ S' = gS0 ∧ I' = v ∧ J' = J ∧ R' = gR0 w) 0 0 12 [some (.ref 74), some (.ref 1), some (.int x2), some (.int x3), none] [] gS0 I J (gR0 w) := by
  intro n
  induction n with
  | zero => intro _ _ h; cases h
  | succ n ih =>
    intro I x3 h
    rw [p_X5_learn_12] at h
    refine G_iload_n dX5_learn_12 rfl rfl ?_
    refine G_bipush (v := 16) dX5_learn_13 rfl ?_
    refine G_icmp_ge 31 dX5_learn_15 (by decide) (fun c3 => ?_) (fun c3 => ?_)
    · replace h := git c3 h
      refine G_iconst (v := 0) dX5_learn_31 rfl ?_
      refine S_istore_n [some (.ref 74), some (.ref 1), some (.int x2), some (.int (0 : Int32)), none] dX5_learn_32 rfl (by decide) rfl ?_
      exact q_X5_learn_33   gFu _ _ h
    · replace h := gif c3 h
      refine G_aload_n dX5_learn_18 rfl rfl ?_
      refine G_getR fl_X5_9 sl_74 sk_74 rfl (rr_74_0 _) dX5_learn_19 ?_
      refine G_iload_n dX5_learn_22 rfl rfl ?_
      refine G_iconst (v := 0) dX5_learn_23 rfl ?_
      obtain ⟨b27, h⟩ := gck_some h
      refine G_iast sl_75 ss_75 (gin_in b27) dX5_learn_24 ?_
      refine G_mI fun I28 eI28 => ?_
      replace h := gL_some eI28 h
      refine S_iinc (v := (1 : Int32)) [some (.ref 74), some (.ref 1), some (.int x2), some (.int (x3 + (1 : Int32))), none] dX5_learn_25 rfl rfl (by decide) rfl ?_
      refine G_goto 12 dX5_learn_28 (by decide) ?_
      exact ih _ _ h
set_option maxRecDepth 20000 in
theorem q_X5_learn {l : Launch} {I : gIt} {J : gJt} {w : Bool} {x2 : Int32} {v : gIt} (h : p_X5_learn I x2 = some v) : Cn l gX5_learn 4 0 0 [.ref 74, .ref 1, .int x2] gS0 I J (gR0 w) (fun v' S' I' J' R' => v' = none ∧ S' = gS0 ∧ I' = v ∧ J' = J ∧ R' = gR0 w) := by
  refine Cn.of [some (.ref 74), some (.ref 1), some (.int x2), none, none] (by decide) rfl (Nat.le_of_ble_eq_true rfl) ?_
  rw [p_X5_learn] at h
  refine G_aload_n dX5_learn_0 rfl rfl ?_
  refine G_iconst (v := 0) dX5_learn_1 rfl ?_
  refine G_putI fl_X5_15 sl_74 sk_74 rfl rfl ⟨rfl, rfl⟩ dX5_learn_2 ?_
  refine G_mI fun I1 eI1 => ?_
  replace h := gL_some eI1 h
  refine G_aload_n dX5_learn_5 rfl rfl ?_
  refine G_iconst (v := 0) dX5_learn_6 rfl ?_
  refine G_putI fl_X5_19 sl_74 sk_74 rfl rfl ⟨rfl, rfl⟩ dX5_learn_7 ?_
  refine G_mI fun I2 eI2 => ?_
  replace h := gL_some eI2 h
  refine G_iconst (v := 0) dX5_learn_10 rfl ?_
  refine S_istore_n [some (.ref 74), some (.ref 1), some (.int x2), some (.int (0 : Int32)), none] dX5_learn_11 rfl (by decide) rfl ?_
  exact q_X5_learn_12   gFu _ _ h
def p_X5_namedIn_12 (I : gIt) (a1 : Nat) : Nat → Int32 → Int32 → Option Int32
  | 0, _, _ => none
  | n + 1, x2, x3 =>
    if (16 : Int32) ≤ x3 then
    some (x2 &&& ((gshl (1 : Int32) (I a1 6)) ^^^ (-1 : Int32)))
    else
    if ((gushr (I a1 12) x3) &&& (1 : Int32)) = (1 : Int32) then
    gck (gin x3 16) (
    gL ((x2 ||| (I 75 (x3).toNatClampNeg))) fun z5 =>
    p_X5_namedIn_12 I a1 n z5 (x3 + (1 : Int32)))
    else
    p_X5_namedIn_12 I a1 n x2 (x3 + (1 : Int32))
def p_X5_namedIn (I : gIt) (a1 : Nat) : Option Int32 :=
  gL (((I a1 11) &&& (I 74 1))) fun z1 =>
  p_X5_namedIn_12 I a1 gFu z1 (0 : Int32)
set_option maxRecDepth 20000 in
theorem q_X5_namedIn_12 {l : Launch} {v : Int32} {J : gJt} {w : Bool} {I : gIt} {a1 : Nat} (ha1 : gset a1) : ∀ (n : Nat) (x2 : Int32) (x3 : Int32), p_X5_namedIn_12 I a1 n x2 x3 = some v → G l gX5_namedIn 2 0 0 (fun v' S' I' J' R' => v' = some (.int v) ∧ S' = gS0 ∧ I' = I ∧ J' = J ∧ R' = gR0 w) 0 0 12 [some (.ref 74), some (.ref a1), some (.int x2), some (.int x3)] [] gS0 I J (gR0 w) := by
  intro n
  induction n with
  | zero => intro _ _ h; cases h
  | succ n ih =>
    intro x2 x3 h
    rw [p_X5_namedIn_12] at h
    refine G_iload_n dX5_namedIn_12 rfl rfl ?_
    refine G_bipush (v := 16) dX5_namedIn_13 rfl ?_
    refine G_icmp_ge 45 dX5_namedIn_15 (by decide) (fun c2 => ?_) (fun c2 => ?_)
    · replace h := git c2 h
      refine G_iload_n dX5_namedIn_45 rfl rfl ?_
      refine G_iconst (v := 1) dX5_namedIn_46 rfl ?_
      refine G_aload_n dX5_namedIn_47 rfl rfl ?_
      refine G_getI fl_X5_45 (gset_sl ha1) (gset_sk ha1) rfl dX5_namedIn_48 ?_
      refine G_shl dX5_namedIn_51 ?_
      refine G_iconst (v := -1) dX5_namedIn_52 rfl ?_
      refine G_ixor dX5_namedIn_53 ?_
      refine G_iand dX5_namedIn_54 ?_
      refine G_iret rfl (Nat.le_refl _) (Nat.le_refl _) dX5_namedIn_55 ?_
      cases h
      exact ⟨rfl, rfl, rfl, rfl, rfl⟩
    · replace h := gif c2 h
      refine G_aload_n dX5_namedIn_18 rfl rfl ?_
      refine G_getI fl_X5_42 (gset_sl ha1) (gset_sk ha1) rfl dX5_namedIn_19 ?_
      refine G_iload_n dX5_namedIn_22 rfl rfl ?_
      refine G_ushr dX5_namedIn_23 ?_
      refine G_iconst (v := 1) dX5_namedIn_24 rfl ?_
      refine G_iand dX5_namedIn_25 ?_
      refine G_iconst (v := 1) dX5_namedIn_26 rfl ?_
      refine G_icmp_ne 39 dX5_namedIn_27 (by decide) (fun c3 => ?_) (fun c3 => ?_)
      · replace h := gif c3 h
        refine S_iinc (v := (1 : Int32)) [some (.ref 74), some (.ref a1), some (.int x2), some (.int (x3 + (1 : Int32)))] dX5_namedIn_39 rfl rfl (by decide) rfl ?_
        refine G_goto 12 dX5_namedIn_42 (by decide) ?_
        exact ih _ _ h
      · replace h := git c3 h
        refine G_iload_n dX5_namedIn_30 rfl rfl ?_
        refine G_aload_n dX5_namedIn_31 rfl rfl ?_
        refine G_getR fl_X5_9 sl_74 sk_74 rfl (rr_74_0 _) dX5_namedIn_32 ?_
        refine G_iload_n dX5_namedIn_35 rfl rfl ?_
        obtain ⟨b4, h⟩ := gck_some h
        refine G_iald sl_75 ss_75 (gin_in b4) dX5_namedIn_36 ?_
        refine G_ior dX5_namedIn_37 ?_
        refine G_nI fun z5 ez5 => ?_
        replace h := gL_some ez5 h
        refine S_istore_n [some (.ref 74), some (.ref a1), some (.int z5), some (.int x3)] dX5_namedIn_38 rfl (by decide) rfl ?_
        refine S_iinc (v := (1 : Int32)) [some (.ref 74), some (.ref a1), some (.int z5), some (.int (x3 + (1 : Int32)))] dX5_namedIn_39 rfl rfl (by decide) rfl ?_
        refine G_goto 12 dX5_namedIn_42 (by decide) ?_
        exact ih _ _ h
set_option maxRecDepth 20000 in
theorem q_X5_namedIn {l : Launch} {I : gIt} {J : gJt} {w : Bool} {a1 : Nat} {v : Int32} (ha1 : gset a1) (h : p_X5_namedIn I a1 = some v) : Cn l gX5_namedIn 2 0 0 [.ref 74, .ref a1] gS0 I J (gR0 w) (fun v' S' I' J' R' => v' = some (.int v) ∧ S' = gS0 ∧ I' = I ∧ J' = J ∧ R' = gR0 w) := by
  refine Cn.of [some (.ref 74), some (.ref a1), none, none] (by decide) rfl (Nat.le_of_ble_eq_true rfl) ?_
  rw [p_X5_namedIn] at h
  refine G_aload_n dX5_namedIn_0 rfl rfl ?_
  refine G_getI fl_X5_39 (gset_sl ha1) (gset_sk ha1) rfl dX5_namedIn_1 ?_
  refine G_aload_n dX5_namedIn_4 rfl rfl ?_
  refine G_getI fl_X5_15 sl_74 sk_74 rfl dX5_namedIn_5 ?_
  refine G_iand dX5_namedIn_8 ?_
  refine G_nI fun z1 ez1 => ?_
  replace h := gL_some ez1 h
  refine S_istore_n [some (.ref 74), some (.ref a1), some (.int z1), none] dX5_namedIn_9 rfl (by decide) rfl ?_
  refine G_iconst (v := 0) dX5_namedIn_10 rfl ?_
  refine S_istore_n [some (.ref 74), some (.ref a1), some (.int z1), some (.int (0 : Int32))] dX5_namedIn_11 rfl (by decide) rfl ?_
  exact q_X5_namedIn_12  ha1 gFu _ _ h
def p_X5_factsOf_4 (I : gIt) (x1 : Int32) : Nat → Int32 → Int32 → Option Int32
  | 0, _, _ => none
  | n + 1, x2, x3 =>
    if (16 : Int32) ≤ x3 then
    some x2
    else
    gck (gin x3 16) (
    if ((I 75 (x3).toNatClampNeg) &&& x1) = 0 then
    p_X5_factsOf_4 I x1 n x2 (x3 + (1 : Int32))
    else
    gL ((x2 ||| (gshl (1 : Int32) ((16 : Int32) + x3)))) fun z4 =>
    p_X5_factsOf_4 I x1 n z4 (x3 + (1 : Int32)))
def p_X5_factsOf (I : gIt) (x1 : Int32) : Option Int32 :=
  p_X5_factsOf_4 I x1 gFu x1 (0 : Int32)
set_option maxRecDepth 20000 in
theorem q_X5_factsOf_4 {l : Launch} {v : Int32} {J : gJt} {w : Bool} {I : gIt} {x1 : Int32} : ∀ (n : Nat) (x2 : Int32) (x3 : Int32), p_X5_factsOf_4 I x1 n x2 x3 = some v → G l gX5_factsOf 2 0 0 (fun v' S' I' J' R' => v' = some (.int v) ∧ S' = gS0 ∧ I' = I ∧ J' = J ∧ R' = gR0 w) 0 0 4 [some (.ref 74), some (.int x1), some (.int x2), some (.int x3)] [] gS0 I J (gR0 w) := by
  intro n
  induction n with
  | zero => intro _ _ h; cases h
  | succ n ih =>
    intro x2 x3 h
    rw [p_X5_factsOf_4] at h
    refine G_iload_n dX5_factsOf_4 rfl rfl ?_
    refine G_bipush (v := 16) dX5_factsOf_5 rfl ?_
    refine G_icmp_ge 36 dX5_factsOf_7 (by decide) (fun c1 => ?_) (fun c1 => ?_)
    · replace h := git c1 h
      refine G_iload_n dX5_factsOf_36 rfl rfl ?_
      refine G_iret rfl (Nat.le_refl _) (Nat.le_refl _) dX5_factsOf_37 ?_
      cases h
      exact ⟨rfl, rfl, rfl, rfl, rfl⟩
    · replace h := gif c1 h
      refine G_aload_n dX5_factsOf_10 rfl rfl ?_
      refine G_getR fl_X5_9 sl_74 sk_74 rfl (rr_74_0 _) dX5_factsOf_11 ?_
      refine G_iload_n dX5_factsOf_14 rfl rfl ?_
      obtain ⟨b2, h⟩ := gck_some h
      refine G_iald sl_75 ss_75 (gin_in b2) dX5_factsOf_15 ?_
      refine G_iload_n dX5_factsOf_16 rfl rfl ?_
      refine G_iand dX5_factsOf_17 ?_
      refine G_if_eq 30 dX5_factsOf_18 (by decide) (fun c3 => ?_) (fun c3 => ?_)
      · replace h := git c3 h
        refine S_iinc (v := (1 : Int32)) [some (.ref 74), some (.int x1), some (.int x2), some (.int (x3 + (1 : Int32)))] dX5_factsOf_30 rfl rfl (by decide) rfl ?_
        refine G_goto 4 dX5_factsOf_33 (by decide) ?_
        exact ih _ _ h
      · replace h := gif c3 h
        refine G_iload_n dX5_factsOf_21 rfl rfl ?_
        refine G_iconst (v := 1) dX5_factsOf_22 rfl ?_
        refine G_bipush (v := 16) dX5_factsOf_23 rfl ?_
        refine G_iload_n dX5_factsOf_25 rfl rfl ?_
        refine G_iadd dX5_factsOf_26 ?_
        refine G_shl dX5_factsOf_27 ?_
        refine G_ior dX5_factsOf_28 ?_
        refine G_nI fun z4 ez4 => ?_
        replace h := gL_some ez4 h
        refine S_istore_n [some (.ref 74), some (.int x1), some (.int z4), some (.int x3)] dX5_factsOf_29 rfl (by decide) rfl ?_
        refine S_iinc (v := (1 : Int32)) [some (.ref 74), some (.int x1), some (.int z4), some (.int (x3 + (1 : Int32)))] dX5_factsOf_30 rfl rfl (by decide) rfl ?_
        refine G_goto 4 dX5_factsOf_33 (by decide) ?_
        exact ih _ _ h
set_option maxRecDepth 20000 in
theorem q_X5_factsOf {l : Launch} {I : gIt} {J : gJt} {w : Bool} {x1 : Int32} {v : Int32} (h : p_X5_factsOf I x1 = some v) : Cn l gX5_factsOf 2 0 0 [.ref 74, .int x1] gS0 I J (gR0 w) (fun v' S' I' J' R' => v' = some (.int v) ∧ S' = gS0 ∧ I' = I ∧ J' = J ∧ R' = gR0 w) := by
  refine Cn.of [some (.ref 74), some (.int x1), none, none] (by decide) rfl (Nat.le_of_ble_eq_true rfl) ?_
  rw [p_X5_factsOf] at h
  refine G_iload_n dX5_factsOf_0 rfl rfl ?_
  refine S_istore_n [some (.ref 74), some (.int x1), some (.int x1), none] dX5_factsOf_1 rfl (by decide) rfl ?_
  refine G_iconst (v := 0) dX5_factsOf_2 rfl ?_
  refine S_istore_n [some (.ref 74), some (.int x1), some (.int x1), some (.int (0 : Int32))] dX5_factsOf_3 rfl (by decide) rfl ?_
  exact q_X5_factsOf_4   gFu _ _ h
def p_J6_bitCount_0f7a4 (x0 : Int32) : Option Int32 :=
  gL ((x0 - ((gushr x0 (1 : Int32)) &&& (1431655765 : Int32)))) fun z1 =>
  gL (((z1 &&& (858993459 : Int32)) + ((gushr z1 (2 : Int32)) &&& (858993459 : Int32)))) fun z2 =>
  gL (((z2 + (gushr z2 (4 : Int32))) &&& (252645135 : Int32))) fun z3 =>
  gL ((z3 + (gushr z3 (8 : Int32)))) fun z4 =>
  gL ((z4 + (gushr z4 (16 : Int32)))) fun z5 =>
  some (z5 &&& (63 : Int32))
set_option maxRecDepth 20000 in
theorem q_J6_bitCount_0f7a4 {l : Launch} {I : gIt} {J : gJt} {w : Bool} {x0 : Int32} {v : Int32} (h : p_J6_bitCount_0f7a4 x0 = some v) : Cn l gJ6_bitCount_0f7a4 2 0 0 [.int x0] gS0 I J (gR0 w) (fun v' S' I' J' R' => v' = some (.int v) ∧ S' = gS0 ∧ I' = I ∧ J' = J ∧ R' = gR0 w) := by
  refine Cn.of [some (.int x0)] (by decide) rfl (Nat.le_of_ble_eq_true rfl) ?_
  rw [p_J6_bitCount_0f7a4] at h
  refine G_iload_n dJ6_bitCount_0f7a4_0 rfl rfl ?_
  refine G_iload_n dJ6_bitCount_0f7a4_1 rfl rfl ?_
  refine G_iconst (v := 1) dJ6_bitCount_0f7a4_2 rfl ?_
  refine G_ushr dJ6_bitCount_0f7a4_3 ?_
  refine G_ldcw dJ6_bitCount_0f7a4_4 kc_J6_265 ?_
  refine G_iand dJ6_bitCount_0f7a4_7 ?_
  refine G_isub dJ6_bitCount_0f7a4_8 ?_
  refine G_nI fun z1 ez1 => ?_
  replace h := gL_some ez1 h
  refine S_istore_n [some (.int z1)] dJ6_bitCount_0f7a4_9 rfl (by decide) rfl ?_
  refine G_iload_n dJ6_bitCount_0f7a4_10 rfl rfl ?_
  refine G_ldcw dJ6_bitCount_0f7a4_11 kc_J6_266 ?_
  refine G_iand dJ6_bitCount_0f7a4_14 ?_
  refine G_iload_n dJ6_bitCount_0f7a4_15 rfl rfl ?_
  refine G_iconst (v := 2) dJ6_bitCount_0f7a4_16 rfl ?_
  refine G_ushr dJ6_bitCount_0f7a4_17 ?_
  refine G_ldcw dJ6_bitCount_0f7a4_18 kc_J6_266 ?_
  refine G_iand dJ6_bitCount_0f7a4_21 ?_
  refine G_iadd dJ6_bitCount_0f7a4_22 ?_
  refine G_nI fun z2 ez2 => ?_
  replace h := gL_some ez2 h
  refine S_istore_n [some (.int z2)] dJ6_bitCount_0f7a4_23 rfl (by decide) rfl ?_
  refine G_iload_n dJ6_bitCount_0f7a4_24 rfl rfl ?_
  refine G_iload_n dJ6_bitCount_0f7a4_25 rfl rfl ?_
  refine G_iconst (v := 4) dJ6_bitCount_0f7a4_26 rfl ?_
  refine G_ushr dJ6_bitCount_0f7a4_27 ?_
  refine G_iadd dJ6_bitCount_0f7a4_28 ?_
  refine G_ldcw dJ6_bitCount_0f7a4_29 kc_J6_267 ?_
  refine G_iand dJ6_bitCount_0f7a4_32 ?_
  refine G_nI fun z3 ez3 => ?_
  replace h := gL_some ez3 h
  refine S_istore_n [some (.int z3)] dJ6_bitCount_0f7a4_33 rfl (by decide) rfl ?_
  refine G_iload_n dJ6_bitCount_0f7a4_34 rfl rfl ?_
  refine G_iload_n dJ6_bitCount_0f7a4_35 rfl rfl ?_
  refine G_bipush (v := 8) dJ6_bitCount_0f7a4_36 rfl ?_
  refine G_ushr dJ6_bitCount_0f7a4_38 ?_
  refine G_iadd dJ6_bitCount_0f7a4_39 ?_
  refine G_nI fun z4 ez4 => ?_
  replace h := gL_some ez4 h
  refine S_istore_n [some (.int z4)] dJ6_bitCount_0f7a4_40 rfl (by decide) rfl ?_
  refine G_iload_n dJ6_bitCount_0f7a4_41 rfl rfl ?_
  refine G_iload_n dJ6_bitCount_0f7a4_42 rfl rfl ?_
  refine G_bipush (v := 16) dJ6_bitCount_0f7a4_43 rfl ?_
  refine G_ushr dJ6_bitCount_0f7a4_45 ?_
  refine G_iadd dJ6_bitCount_0f7a4_46 ?_
  refine G_nI fun z5 ez5 => ?_
  replace h := gL_some ez5 h
  refine S_istore_n [some (.int z5)] dJ6_bitCount_0f7a4_47 rfl (by decide) rfl ?_
  refine G_iload_n dJ6_bitCount_0f7a4_48 rfl rfl ?_
  refine G_bipush (v := 63) dJ6_bitCount_0f7a4_49 rfl ?_
  refine G_iand dJ6_bitCount_0f7a4_51 ?_
  refine G_iret rfl (Nat.le_refl _) (Nat.le_refl _) dJ6_bitCount_0f7a4_52 ?_
  cases h
  exact ⟨rfl, rfl, rfl, rfl, rfl⟩
def p_X5_childrenOf (I : gIt) (x1 : Int32) : Option Int32 :=
  if x1 < 0 then
  some (0 : Int32)
  else
  if (16 : Int32) ≤ x1 then
  some (0 : Int32)
  else
  gck (gin x1 16) (
  some (I 75 (x1).toNatClampNeg))
set_option maxRecDepth 20000 in
theorem q_X5_childrenOf {l : Launch} {I : gIt} {J : gJt} {w : Bool} {x1 : Int32} {v : Int32} (h : p_X5_childrenOf I x1 = some v) : Cn l gX5_childrenOf 2 0 0 [.ref 74, .int x1] gS0 I J (gR0 w) (fun v' S' I' J' R' => v' = some (.int v) ∧ S' = gS0 ∧ I' = I ∧ J' = J ∧ R' = gR0 w) := by
  refine Cn.of [some (.ref 74), some (.int x1)] (by decide) rfl (Nat.le_of_ble_eq_true rfl) ?_
  rw [p_X5_childrenOf] at h
  refine G_iload_n dX5_childrenOf_0 rfl rfl ?_
  refine G_if_lt 19 dX5_childrenOf_1 (by decide) (fun c1 => ?_) (fun c1 => ?_)
  · replace h := git c1 h
    refine G_iconst (v := 0) dX5_childrenOf_19 rfl ?_
    refine G_iret rfl (Nat.le_refl _) (Nat.le_refl _) dX5_childrenOf_20 ?_
    cases h
    exact ⟨rfl, rfl, rfl, rfl, rfl⟩
  · replace h := gif c1 h
    refine G_iload_n dX5_childrenOf_4 rfl rfl ?_
    refine G_bipush (v := 16) dX5_childrenOf_5 rfl ?_
    refine G_icmp_ge 19 dX5_childrenOf_7 (by decide) (fun c2 => ?_) (fun c2 => ?_)
    · replace h := git c2 h
      refine G_iconst (v := 0) dX5_childrenOf_19 rfl ?_
      refine G_iret rfl (Nat.le_refl _) (Nat.le_refl _) dX5_childrenOf_20 ?_
      cases h
      exact ⟨rfl, rfl, rfl, rfl, rfl⟩
    · replace h := gif c2 h
      refine G_aload_n dX5_childrenOf_10 rfl rfl ?_
      refine G_getR fl_X5_9 sl_74 sk_74 rfl (rr_74_0 _) dX5_childrenOf_11 ?_
      refine G_iload_n dX5_childrenOf_14 rfl rfl ?_
      obtain ⟨b3, h⟩ := gck_some h
      refine G_iald sl_75 ss_75 (gin_in b3) dX5_childrenOf_15 ?_
      refine G_goto 20 dX5_childrenOf_16 (by decide) ?_
      refine G_iret rfl (Nat.le_refl _) (Nat.le_refl _) dX5_childrenOf_20 ?_
      cases h
      exact ⟨rfl, rfl, rfl, rfl, rfl⟩
def p_X2_add (I : gIt) (x1 : Int32) (x2 : Int32) (x3 : Int32) (x4 : Int32) (x5 : Int32) : Option (Int32 × gIt) :=
  if (I 95 5) < 0 then
  some ((-1 : Int32), I)
  else
  if (I 95 5) < (20 : Int32) then
  gL ((I 95 5)) fun z3 =>
  gck (gin z3 20) (
  gL (gu2 I 96 (z3).toNatClampNeg x1) fun I5 =>
  gck (gin z3 20) (
  gL (gu2 I5 97 (z3).toNatClampNeg x2) fun I7 =>
  gck (gin z3 20) (
  gL (gu2 I7 98 (z3).toNatClampNeg x3) fun I9 =>
  gck (gin z3 20) (
  gL (gu2 I9 99 (z3).toNatClampNeg x4) fun I11 =>
  gck (gin z3 20) (
  gL (gu2 I11 100 (z3).toNatClampNeg x5) fun I13 =>
  gL (((I13 95 5) + (1 : Int32))) fun z14 =>
  gL (gu2 I13 95 5 z14) fun I15 =>
  some (z3, I15))))))
  else
  some ((-1 : Int32), I)
set_option maxRecDepth 20000 in
theorem q_X2_add {l : Launch} {I : gIt} {J : gJt} {w : Bool} {x1 : Int32} {x2 : Int32} {x3 : Int32} {x4 : Int32} {x5 : Int32} {v : (Int32 × gIt)} (h : p_X2_add I x1 x2 x3 x4 x5 = some v) : Cn l gX2_add 2 0 0 [.ref 95, .int x1, .int x2, .int x3, .int x4, .int x5] gS0 I J (gR0 w) (fun v' S' I' J' R' => v' = some (.int v.1) ∧ S' = gS0 ∧ I' = v.2 ∧ J' = J ∧ R' = gR0 w) := by
  refine Cn.of [some (.ref 95), some (.int x1), some (.int x2), some (.int x3), some (.int x4), some (.int x5), none] (by decide) rfl (Nat.le_of_ble_eq_true rfl) ?_
  rw [p_X2_add] at h
  refine G_aload_n dX2_add_0 rfl rfl ?_
  refine G_getI fl_X2_27 sl_95 sk_95 rfl dX2_add_1 ?_
  refine G_if_lt 16 dX2_add_4 (by decide) (fun c1 => ?_) (fun c1 => ?_)
  · replace h := git c1 h
    refine G_iconst (v := -1) dX2_add_16 rfl ?_
    refine G_iret rfl (Nat.le_refl _) (Nat.le_refl _) dX2_add_17 ?_
    cases h
    exact ⟨rfl, rfl, rfl, rfl, rfl⟩
  · replace h := gif c1 h
    refine G_aload_n dX2_add_7 rfl rfl ?_
    refine G_getI fl_X2_27 sl_95 sk_95 rfl dX2_add_8 ?_
    refine G_bipush (v := 20) dX2_add_11 rfl ?_
    refine G_icmp_lt 18 dX2_add_13 (by decide) (fun c2 => ?_) (fun c2 => ?_)
    · replace h := git c2 h
      refine G_aload_n dX2_add_18 rfl rfl ?_
      refine G_getI fl_X2_27 sl_95 sk_95 rfl dX2_add_19 ?_
      refine G_nI fun z3 ez3 => ?_
      replace h := gL_some ez3 h
      refine S_istore [some (.ref 95), some (.int x1), some (.int x2), some (.int x3), some (.int x4), some (.int x5), some (.int z3)] dX2_add_22 (by decide) rfl ?_
      refine G_aload_n dX2_add_24 rfl rfl ?_
      refine G_getR fl_X2_9 sl_95 sk_95 rfl (rr_95_0 _) dX2_add_25 ?_
      refine G_iload dX2_add_28 rfl ?_
      refine G_iload_n dX2_add_30 rfl rfl ?_
      obtain ⟨b4, h⟩ := gck_some h
      refine G_iast sl_96 ss_96 (gin_in b4) dX2_add_31 ?_
      refine G_mI fun I5 eI5 => ?_
      replace h := gL_some eI5 h
      refine G_aload_n dX2_add_32 rfl rfl ?_
      refine G_getR fl_X2_15 sl_95 sk_95 rfl (rr_95_1 _) dX2_add_33 ?_
      refine G_iload dX2_add_36 rfl ?_
      refine G_iload_n dX2_add_38 rfl rfl ?_
      obtain ⟨b6, h⟩ := gck_some h
      refine G_iast sl_97 ss_97 (gin_in b6) dX2_add_39 ?_
      refine G_mI fun I7 eI7 => ?_
      replace h := gL_some eI7 h
      refine G_aload_n dX2_add_40 rfl rfl ?_
      refine G_getR fl_X2_18 sl_95 sk_95 rfl (rr_95_2 _) dX2_add_41 ?_
      refine G_iload dX2_add_44 rfl ?_
      refine G_iload_n dX2_add_46 rfl rfl ?_
      obtain ⟨b8, h⟩ := gck_some h
      refine G_iast sl_98 ss_98 (gin_in b8) dX2_add_47 ?_
      refine G_mI fun I9 eI9 => ?_
      replace h := gL_some eI9 h
      refine G_aload_n dX2_add_48 rfl rfl ?_
      refine G_getR fl_X2_21 sl_95 sk_95 rfl (rr_95_3 _) dX2_add_49 ?_
      refine G_iload dX2_add_52 rfl ?_
      refine G_iload dX2_add_54 rfl ?_
      obtain ⟨b10, h⟩ := gck_some h
      refine G_iast sl_99 ss_99 (gin_in b10) dX2_add_56 ?_
      refine G_mI fun I11 eI11 => ?_
      replace h := gL_some eI11 h
      refine G_aload_n dX2_add_57 rfl rfl ?_
      refine G_getR fl_X2_24 sl_95 sk_95 rfl (rr_95_4 _) dX2_add_58 ?_
      refine G_iload dX2_add_61 rfl ?_
      refine G_iload dX2_add_63 rfl ?_
      obtain ⟨b12, h⟩ := gck_some h
      refine G_iast sl_100 ss_100 (gin_in b12) dX2_add_65 ?_
      refine G_mI fun I13 eI13 => ?_
      replace h := gL_some eI13 h
      refine G_aload_n dX2_add_66 rfl rfl ?_
      refine G_dup dX2_add_67 rfl ?_
      refine G_getI fl_X2_27 sl_95 sk_95 rfl dX2_add_68 ?_
      refine G_iconst (v := 1) dX2_add_71 rfl ?_
      refine G_iadd dX2_add_72 ?_
      refine G_nI fun z14 ez14 => ?_
      replace h := gL_some ez14 h
      refine G_putI fl_X2_27 sl_95 sk_95 rfl rfl ⟨rfl, rfl⟩ dX2_add_73 ?_
      refine G_mI fun I15 eI15 => ?_
      replace h := gL_some eI15 h
      refine G_iload dX2_add_76 rfl ?_
      refine G_iret rfl (Nat.le_refl _) (Nat.le_refl _) dX2_add_78 ?_
      cases h
      exact ⟨rfl, rfl, rfl, rfl, rfl⟩
    · replace h := gif c2 h
      refine G_iconst (v := -1) dX2_add_16 rfl ?_
      refine G_iret rfl (Nat.le_refl _) (Nat.le_refl _) dX2_add_17 ?_
      cases h
      exact ⟨rfl, rfl, rfl, rfl, rfl⟩
def p_X2_binds (I : gIt) (x1 : Int32) (x2 : Int32) (x3 : Int32) (x4 : Int32) : Option Int32 :=
  if x1 < 0 then
  some (0 : Int32)
  else
  if (I 95 5) ≤ x1 then
  some (0 : Int32)
  else
  if (20 : Int32) ≤ x1 then
  some (0 : Int32)
  else
  gck (gin x1 20) (
  if (I 96 (x1).toNatClampNeg) = x2 then
  gck (gin x1 20) (
  if (I 97 (x1).toNatClampNeg) = x3 then
  gck (gin x1 20) (
  if x4 < (I 100 (x1).toNatClampNeg) then
  some (0 : Int32)
  else
  some (1 : Int32))
  else
  some (0 : Int32))
  else
  some (0 : Int32))
set_option maxRecDepth 20000 in
theorem q_X2_binds {l : Launch} {I : gIt} {J : gJt} {w : Bool} {x1 : Int32} {x2 : Int32} {x3 : Int32} {x4 : Int32} {v : Int32} (h : p_X2_binds I x1 x2 x3 x4 = some v) : Cn l gX2_binds 2 0 0 [.ref 95, .int x1, .int x2, .int x3, .int x4] gS0 I J (gR0 w) (fun v' S' I' J' R' => v' = some (.int v) ∧ S' = gS0 ∧ I' = I ∧ J' = J ∧ R' = gR0 w) := by
  refine Cn.of [some (.ref 95), some (.int x1), some (.int x2), some (.int x3), some (.int x4)] (by decide) rfl (Nat.le_of_ble_eq_true rfl) ?_
  rw [p_X2_binds] at h
  refine G_iload_n dX2_binds_0 rfl rfl ?_
  refine G_if_lt 53 dX2_binds_1 (by decide) (fun c1 => ?_) (fun c1 => ?_)
  · replace h := git c1 h
    refine G_iconst (v := 0) dX2_binds_53 rfl ?_
    refine G_zret rfl (Or.inl rfl) (Nat.le_refl _) (Nat.le_refl _) dX2_binds_54 ?_
    cases h
    exact ⟨rfl, rfl, rfl, rfl, rfl⟩
  · replace h := gif c1 h
    refine G_iload_n dX2_binds_4 rfl rfl ?_
    refine G_aload_n dX2_binds_5 rfl rfl ?_
    refine G_getI fl_X2_27 sl_95 sk_95 rfl dX2_binds_6 ?_
    refine G_icmp_ge 53 dX2_binds_9 (by decide) (fun c2 => ?_) (fun c2 => ?_)
    · replace h := git c2 h
      refine G_iconst (v := 0) dX2_binds_53 rfl ?_
      refine G_zret rfl (Or.inl rfl) (Nat.le_refl _) (Nat.le_refl _) dX2_binds_54 ?_
      cases h
      exact ⟨rfl, rfl, rfl, rfl, rfl⟩
    · replace h := gif c2 h
      refine G_iload_n dX2_binds_12 rfl rfl ?_
      refine G_bipush (v := 20) dX2_binds_13 rfl ?_
      refine G_icmp_ge 53 dX2_binds_15 (by decide) (fun c3 => ?_) (fun c3 => ?_)
      · replace h := git c3 h
        refine G_iconst (v := 0) dX2_binds_53 rfl ?_
        refine G_zret rfl (Or.inl rfl) (Nat.le_refl _) (Nat.le_refl _) dX2_binds_54 ?_
        cases h
        exact ⟨rfl, rfl, rfl, rfl, rfl⟩
      · replace h := gif c3 h
        refine G_aload_n dX2_binds_18 rfl rfl ?_
        refine G_getR fl_X2_9 sl_95 sk_95 rfl (rr_95_0 _) dX2_binds_19 ?_
        refine G_iload_n dX2_binds_22 rfl rfl ?_
        obtain ⟨b4, h⟩ := gck_some h
        refine G_iald sl_96 ss_96 (gin_in b4) dX2_binds_23 ?_
        refine G_iload_n dX2_binds_24 rfl rfl ?_
        refine G_icmp_ne 53 dX2_binds_25 (by decide) (fun c5 => ?_) (fun c5 => ?_)
        · replace h := gif c5 h
          refine G_iconst (v := 0) dX2_binds_53 rfl ?_
          refine G_zret rfl (Or.inl rfl) (Nat.le_refl _) (Nat.le_refl _) dX2_binds_54 ?_
          cases h
          exact ⟨rfl, rfl, rfl, rfl, rfl⟩
        · replace h := git c5 h
          refine G_aload_n dX2_binds_28 rfl rfl ?_
          refine G_getR fl_X2_15 sl_95 sk_95 rfl (rr_95_1 _) dX2_binds_29 ?_
          refine G_iload_n dX2_binds_32 rfl rfl ?_
          obtain ⟨b6, h⟩ := gck_some h
          refine G_iald sl_97 ss_97 (gin_in b6) dX2_binds_33 ?_
          refine G_iload_n dX2_binds_34 rfl rfl ?_
          refine G_icmp_ne 53 dX2_binds_35 (by decide) (fun c7 => ?_) (fun c7 => ?_)
          · replace h := gif c7 h
            refine G_iconst (v := 0) dX2_binds_53 rfl ?_
            refine G_zret rfl (Or.inl rfl) (Nat.le_refl _) (Nat.le_refl _) dX2_binds_54 ?_
            cases h
            exact ⟨rfl, rfl, rfl, rfl, rfl⟩
          · replace h := git c7 h
            refine G_aload_n dX2_binds_38 rfl rfl ?_
            refine G_getR fl_X2_24 sl_95 sk_95 rfl (rr_95_4 _) dX2_binds_39 ?_
            refine G_iload_n dX2_binds_42 rfl rfl ?_
            obtain ⟨b8, h⟩ := gck_some h
            refine G_iald sl_100 ss_100 (gin_in b8) dX2_binds_43 ?_
            refine G_iload dX2_binds_44 rfl ?_
            refine G_icmp_gt 53 dX2_binds_46 (by decide) (fun c9 => ?_) (fun c9 => ?_)
            · replace h := git c9 h
              refine G_iconst (v := 0) dX2_binds_53 rfl ?_
              refine G_zret rfl (Or.inl rfl) (Nat.le_refl _) (Nat.le_refl _) dX2_binds_54 ?_
              cases h
              exact ⟨rfl, rfl, rfl, rfl, rfl⟩
            · replace h := gif c9 h
              refine G_iconst (v := 1) dX2_binds_49 rfl ?_
              refine G_goto 54 dX2_binds_50 (by decide) ?_
              refine G_zret rfl (Or.inr rfl) (Nat.le_refl _) (Nat.le_refl _) dX2_binds_54 ?_
              cases h
              exact ⟨rfl, rfl, rfl, rfl, rfl⟩
def p_X8_has (I : gIt) (x1 : Int32) : Option Int32 :=
  if x1 < 0 then
  some (0 : Int32)
  else
  if (I 84 10) ≤ x1 then
  some (0 : Int32)
  else
  if (40 : Int32) ≤ x1 then
  some (0 : Int32)
  else
  some (1 : Int32)
set_option maxRecDepth 20000 in
theorem q_X8_has {l : Launch} {I : gIt} {J : gJt} {w : Bool} {x1 : Int32} {v : Int32} (h : p_X8_has I x1 = some v) : Cn l gX8_has 2 0 0 [.ref 84, .int x1] gS0 I J (gR0 w) (fun v' S' I' J' R' => v' = some (.int v) ∧ S' = gS0 ∧ I' = I ∧ J' = J ∧ R' = gR0 w) := by
  refine Cn.of [some (.ref 84), some (.int x1)] (by decide) rfl (Nat.le_of_ble_eq_true rfl) ?_
  rw [p_X8_has] at h
  refine G_iload_n dX8_has_0 rfl rfl ?_
  refine G_if_lt 22 dX8_has_1 (by decide) (fun c1 => ?_) (fun c1 => ?_)
  · replace h := git c1 h
    refine G_iconst (v := 0) dX8_has_22 rfl ?_
    refine G_zret rfl (Or.inl rfl) (Nat.le_refl _) (Nat.le_refl _) dX8_has_23 ?_
    cases h
    exact ⟨rfl, rfl, rfl, rfl, rfl⟩
  · replace h := gif c1 h
    refine G_iload_n dX8_has_4 rfl rfl ?_
    refine G_aload_n dX8_has_5 rfl rfl ?_
    refine G_getI fl_X8_43 sl_84 sk_84 rfl dX8_has_6 ?_
    refine G_icmp_ge 22 dX8_has_9 (by decide) (fun c2 => ?_) (fun c2 => ?_)
    · replace h := git c2 h
      refine G_iconst (v := 0) dX8_has_22 rfl ?_
      refine G_zret rfl (Or.inl rfl) (Nat.le_refl _) (Nat.le_refl _) dX8_has_23 ?_
      cases h
      exact ⟨rfl, rfl, rfl, rfl, rfl⟩
    · replace h := gif c2 h
      refine G_iload_n dX8_has_12 rfl rfl ?_
      refine G_bipush (v := 40) dX8_has_13 rfl ?_
      refine G_icmp_ge 22 dX8_has_15 (by decide) (fun c3 => ?_) (fun c3 => ?_)
      · replace h := git c3 h
        refine G_iconst (v := 0) dX8_has_22 rfl ?_
        refine G_zret rfl (Or.inl rfl) (Nat.le_refl _) (Nat.le_refl _) dX8_has_23 ?_
        cases h
        exact ⟨rfl, rfl, rfl, rfl, rfl⟩
      · replace h := gif c3 h
        refine G_iconst (v := 1) dX8_has_18 rfl ?_
        refine G_goto 23 dX8_has_19 (by decide) ?_
        refine G_zret rfl (Or.inr rfl) (Nat.le_refl _) (Nat.le_refl _) dX8_has_23 ?_
        cases h
        exact ⟨rfl, rfl, rfl, rfl, rfl⟩
def p_X8_binds (I : gIt) (x1 : Int32) (x2 : Int32) (x3 : Int32) : Option Int32 :=
  gB (p_X8_has I x1) fun r1 =>
  if r1 = 0 then
  some (0 : Int32)
  else
  gck (gin x1 40) (
  if (I 85 (x1).toNatClampNeg) = x2 then
  gck (gin x1 40) (
  if (I 86 (x1).toNatClampNeg) = x3 then
  gck (gin x1 40) (
  if (I 94 (x1).toNatClampNeg) = (-1 : Int32) then
  some (1 : Int32)
  else
  some (0 : Int32))
  else
  some (0 : Int32))
  else
  some (0 : Int32))
set_option maxRecDepth 20000 in
theorem q_X8_binds {l : Launch} {I : gIt} {J : gJt} {w : Bool} {x1 : Int32} {x2 : Int32} {x3 : Int32} {v : Int32} (h : p_X8_binds I x1 x2 x3 = some v) : Cn l gX8_binds 3 0 0 [.ref 84, .int x1, .int x2, .int x3] gS0 I J (gR0 w) (fun v' S' I' J' R' => v' = some (.int v) ∧ S' = gS0 ∧ I' = I ∧ J' = J ∧ R' = gR0 w) := by
  refine Cn.of [some (.ref 84), some (.int x1), some (.int x2), some (.int x3)] (by decide) rfl (Nat.le_of_ble_eq_true rfl) ?_
  rw [p_X8_binds] at h
  refine G_aload_n dX8_binds_0 rfl rfl ?_
  refine G_iload_n dX8_binds_1 rfl rfl ?_
  obtain ⟨r1, hr2, h⟩ := gB_some h
  refine G_cV (mj := gX8_has) (As := [.int x1]) (rest := []) ml_X8_51 vX8_has sl_84 sk_84 (by decide) rfl rfl rfl (Nat.le_of_ble_eq_true rfl) (by decide) (Nat.le_refl _) (Nat.le_refl _) dX8_binds_2 (q_X8_has hr2) ?_
  refine G_if_eq 42 dX8_binds_5 (by decide) (fun c3 => ?_) (fun c3 => ?_)
  · replace h := git c3 h
    refine G_iconst (v := 0) dX8_binds_42 rfl ?_
    refine G_zret rfl (Or.inl rfl) (Nat.le_refl _) (Nat.le_refl _) dX8_binds_43 ?_
    cases h
    exact ⟨rfl, rfl, rfl, rfl, rfl⟩
  · replace h := gif c3 h
    refine G_aload_n dX8_binds_8 rfl rfl ?_
    refine G_getR fl_X8_9 sl_84 sk_84 rfl (rr_84_0 _) dX8_binds_9 ?_
    refine G_iload_n dX8_binds_12 rfl rfl ?_
    obtain ⟨b4, h⟩ := gck_some h
    refine G_iald sl_85 ss_85 (gin_in b4) dX8_binds_13 ?_
    refine G_iload_n dX8_binds_14 rfl rfl ?_
    refine G_icmp_ne 42 dX8_binds_15 (by decide) (fun c5 => ?_) (fun c5 => ?_)
    · replace h := gif c5 h
      refine G_iconst (v := 0) dX8_binds_42 rfl ?_
      refine G_zret rfl (Or.inl rfl) (Nat.le_refl _) (Nat.le_refl _) dX8_binds_43 ?_
      cases h
      exact ⟨rfl, rfl, rfl, rfl, rfl⟩
    · replace h := git c5 h
      refine G_aload_n dX8_binds_18 rfl rfl ?_
      refine G_getR fl_X8_15 sl_84 sk_84 rfl (rr_84_1 _) dX8_binds_19 ?_
      refine G_iload_n dX8_binds_22 rfl rfl ?_
      obtain ⟨b6, h⟩ := gck_some h
      refine G_iald sl_86 ss_86 (gin_in b6) dX8_binds_23 ?_
      refine G_iload_n dX8_binds_24 rfl rfl ?_
      refine G_icmp_ne 42 dX8_binds_25 (by decide) (fun c7 => ?_) (fun c7 => ?_)
      · replace h := gif c7 h
        refine G_iconst (v := 0) dX8_binds_42 rfl ?_
        refine G_zret rfl (Or.inl rfl) (Nat.le_refl _) (Nat.le_refl _) dX8_binds_43 ?_
        cases h
        exact ⟨rfl, rfl, rfl, rfl, rfl⟩
      · replace h := git c7 h
        refine G_aload_n dX8_binds_28 rfl rfl ?_
        refine G_getR fl_X8_40 sl_84 sk_84 rfl (rr_84_9 _) dX8_binds_29 ?_
        refine G_iload_n dX8_binds_32 rfl rfl ?_
        obtain ⟨b8, h⟩ := gck_some h
        refine G_iald sl_94 ss_94 (gin_in b8) dX8_binds_33 ?_
        refine G_iconst (v := -1) dX8_binds_34 rfl ?_
        refine G_icmp_ne 42 dX8_binds_35 (by decide) (fun c9 => ?_) (fun c9 => ?_)
        · replace h := gif c9 h
          refine G_iconst (v := 0) dX8_binds_42 rfl ?_
          refine G_zret rfl (Or.inl rfl) (Nat.le_refl _) (Nat.le_refl _) dX8_binds_43 ?_
          cases h
          exact ⟨rfl, rfl, rfl, rfl, rfl⟩
        · replace h := git c9 h
          refine G_iconst (v := 1) dX8_binds_38 rfl ?_
          refine G_goto 43 dX8_binds_39 (by decide) ?_
          refine G_zret rfl (Or.inr rfl) (Nat.le_refl _) (Nat.le_refl _) dX8_binds_43 ?_
          cases h
          exact ⟨rfl, rfl, rfl, rfl, rfl⟩
def p_X8_noticed (I : gIt) (x1 : Int32) (x2 : Int32) : Option Int32 :=
  gck (gin x1 40) (
  if (I 92 (x1).toNatClampNeg) = (-1 : Int32) then
  some (0 : Int32)
  else
  gck (gin x1 40) (
  if x2 < (I 92 (x1).toNatClampNeg) then
  some (0 : Int32)
  else
  some (1 : Int32)))
set_option maxRecDepth 20000 in
theorem q_X8_noticed {l : Launch} {I : gIt} {J : gJt} {w : Bool} {x1 : Int32} {x2 : Int32} {v : Int32} (h : p_X8_noticed I x1 x2 = some v) : Cn l gX8_noticed 2 0 0 [.ref 84, .int x1, .int x2] gS0 I J (gR0 w) (fun v' S' I' J' R' => v' = some (.int v) ∧ S' = gS0 ∧ I' = I ∧ J' = J ∧ R' = gR0 w) := by
  refine Cn.of [some (.ref 84), some (.int x1), some (.int x2)] (by decide) rfl (Nat.le_of_ble_eq_true rfl) ?_
  rw [p_X8_noticed] at h
  refine G_aload_n dX8_noticed_0 rfl rfl ?_
  refine G_getR fl_X8_34 sl_84 sk_84 rfl (rr_84_7 _) dX8_noticed_1 ?_
  refine G_iload_n dX8_noticed_4 rfl rfl ?_
  obtain ⟨b1, h⟩ := gck_some h
  refine G_iald sl_92 ss_92 (gin_in b1) dX8_noticed_5 ?_
  refine G_iconst (v := -1) dX8_noticed_6 rfl ?_
  refine G_icmp_eq 24 dX8_noticed_7 (by decide) (fun c2 => ?_) (fun c2 => ?_)
  · replace h := git c2 h
    refine G_iconst (v := 0) dX8_noticed_24 rfl ?_
    refine G_zret rfl (Or.inl rfl) (Nat.le_refl _) (Nat.le_refl _) dX8_noticed_25 ?_
    cases h
    exact ⟨rfl, rfl, rfl, rfl, rfl⟩
  · replace h := gif c2 h
    refine G_aload_n dX8_noticed_10 rfl rfl ?_
    refine G_getR fl_X8_34 sl_84 sk_84 rfl (rr_84_7 _) dX8_noticed_11 ?_
    refine G_iload_n dX8_noticed_14 rfl rfl ?_
    obtain ⟨b3, h⟩ := gck_some h
    refine G_iald sl_92 ss_92 (gin_in b3) dX8_noticed_15 ?_
    refine G_iload_n dX8_noticed_16 rfl rfl ?_
    refine G_icmp_gt 24 dX8_noticed_17 (by decide) (fun c4 => ?_) (fun c4 => ?_)
    · replace h := git c4 h
      refine G_iconst (v := 0) dX8_noticed_24 rfl ?_
      refine G_zret rfl (Or.inl rfl) (Nat.le_refl _) (Nat.le_refl _) dX8_noticed_25 ?_
      cases h
      exact ⟨rfl, rfl, rfl, rfl, rfl⟩
    · replace h := gif c4 h
      refine G_iconst (v := 1) dX8_noticed_20 rfl ?_
      refine G_goto 25 dX8_noticed_21 (by decide) ?_
      refine G_zret rfl (Or.inr rfl) (Nat.le_refl _) (Nat.le_refl _) dX8_noticed_25 ?_
      cases h
      exact ⟨rfl, rfl, rfl, rfl, rfl⟩
def p_X8_goesAhead (I : gIt) (x1 : Int32) (x2 : Int32) (x3 : Int32) : Option Int32 :=
  gB (p_X8_noticed I x1 x3) fun r1 =>
  gB (p_X8_noticed I x2 x3) fun r3 =>
  if r1 = r3 then
  gB (p_X8_noticed I x1 x3) fun r6 =>
  if r6 = 0 then
  gB (p_X8_noticed I x1 x3) fun r9 =>
  if r9 = 0 then
  if x2 ≤ x1 then
  some (0 : Int32)
  else
  some (1 : Int32)
  else
  gck (gin x1 40) (
  gck (gin x2 40) (
  if (I 93 (x1).toNatClampNeg) = (I 93 (x2).toNatClampNeg) then
  if x2 ≤ x1 then
  some (0 : Int32)
  else
  some (1 : Int32)
  else
  gck (gin x1 40) (
  gck (gin x2 40) (
  if (I 93 (x2).toNatClampNeg) ≤ (I 93 (x1).toNatClampNeg) then
  some (0 : Int32)
  else
  some (1 : Int32)))))
  else
  gck (gin x1 40) (
  gck (gin x2 40) (
  if (I 92 (x1).toNatClampNeg) = (I 92 (x2).toNatClampNeg) then
  gB (p_X8_noticed I x1 x3) fun r23 =>
  if r23 = 0 then
  if x2 ≤ x1 then
  some (0 : Int32)
  else
  some (1 : Int32)
  else
  gck (gin x1 40) (
  gck (gin x2 40) (
  if (I 93 (x1).toNatClampNeg) = (I 93 (x2).toNatClampNeg) then
  if x2 ≤ x1 then
  some (0 : Int32)
  else
  some (1 : Int32)
  else
  gck (gin x1 40) (
  gck (gin x2 40) (
  if (I 93 (x2).toNatClampNeg) ≤ (I 93 (x1).toNatClampNeg) then
  some (0 : Int32)
  else
  some (1 : Int32)))))
  else
  gck (gin x1 40) (
  gck (gin x2 40) (
  if (I 92 (x2).toNatClampNeg) ≤ (I 92 (x1).toNatClampNeg) then
  some (0 : Int32)
  else
  some (1 : Int32)))))
  else
  gB (p_X8_noticed I x1 x3) fun r37 =>
  gck (gbo r37) (
  some r37)
set_option maxRecDepth 20000 in
theorem q_X8_goesAhead {l : Launch} {I : gIt} {J : gJt} {w : Bool} {x1 : Int32} {x2 : Int32} {x3 : Int32} {v : Int32} (h : p_X8_goesAhead I x1 x2 x3 = some v) : Cn l gX8_goesAhead 3 0 0 [.ref 84, .int x1, .int x2, .int x3] gS0 I J (gR0 w) (fun v' S' I' J' R' => v' = some (.int v) ∧ S' = gS0 ∧ I' = I ∧ J' = J ∧ R' = gR0 w) := by
  refine Cn.of [some (.ref 84), some (.int x1), some (.int x2), some (.int x3)] (by decide) rfl (Nat.le_of_ble_eq_true rfl) ?_
  rw [p_X8_goesAhead] at h
  refine G_aload_n dX8_goesAhead_0 rfl rfl ?_
  refine G_iload_n dX8_goesAhead_1 rfl rfl ?_
  refine G_iload_n dX8_goesAhead_2 rfl rfl ?_
  obtain ⟨r1, hr2, h⟩ := gB_some h
  refine G_cV (mj := gX8_noticed) (As := [.int x1, .int x3]) (rest := []) ml_X8_47 vX8_noticed sl_84 sk_84 (by decide) rfl rfl rfl (Nat.le_of_ble_eq_true rfl) (by decide) (Nat.le_refl _) (Nat.le_refl _) dX8_goesAhead_3 (q_X8_noticed hr2) ?_
  refine G_aload_n dX8_goesAhead_6 rfl rfl ?_
  refine G_iload_n dX8_goesAhead_7 rfl rfl ?_
  refine G_iload_n dX8_goesAhead_8 rfl rfl ?_
  obtain ⟨r3, hr4, h⟩ := gB_some h
  refine G_cV (mj := gX8_noticed) (As := [.int x2, .int x3]) (rest := [.int r1]) ml_X8_47 vX8_noticed sl_84 sk_84 (by decide) rfl rfl rfl (Nat.le_of_ble_eq_true rfl) (by decide) (Nat.le_refl _) (Nat.le_refl _) dX8_goesAhead_9 (q_X8_noticed hr4) ?_
  refine G_icmp_eq 22 dX8_goesAhead_12 (by decide) (fun c5 => ?_) (fun c5 => ?_)
  · replace h := git c5 h
    refine G_aload_n dX8_goesAhead_22 rfl rfl ?_
    refine G_iload_n dX8_goesAhead_23 rfl rfl ?_
    refine G_iload_n dX8_goesAhead_24 rfl rfl ?_
    obtain ⟨r6, hr7, h⟩ := gB_some h
    refine G_cV (mj := gX8_noticed) (As := [.int x1, .int x3]) (rest := []) ml_X8_47 vX8_noticed sl_84 sk_84 (by decide) rfl rfl rfl (Nat.le_of_ble_eq_true rfl) (by decide) (Nat.le_refl _) (Nat.le_refl _) dX8_goesAhead_25 (q_X8_noticed hr7) ?_
    refine G_if_eq 67 dX8_goesAhead_28 (by decide) (fun c8 => ?_) (fun c8 => ?_)
    · replace h := git c8 h
      refine G_aload_n dX8_goesAhead_67 rfl rfl ?_
      refine G_iload_n dX8_goesAhead_68 rfl rfl ?_
      refine G_iload_n dX8_goesAhead_69 rfl rfl ?_
      obtain ⟨r9, hr10, h⟩ := gB_some h
      refine G_cV (mj := gX8_noticed) (As := [.int x1, .int x3]) (rest := []) ml_X8_47 vX8_noticed sl_84 sk_84 (by decide) rfl rfl rfl (Nat.le_of_ble_eq_true rfl) (by decide) (Nat.le_refl _) (Nat.le_refl _) dX8_goesAhead_70 (q_X8_noticed hr10) ?_
      refine G_if_eq 112 dX8_goesAhead_73 (by decide) (fun c11 => ?_) (fun c11 => ?_)
      · replace h := git c11 h
        refine G_iload_n dX8_goesAhead_112 rfl rfl ?_
        refine G_iload_n dX8_goesAhead_113 rfl rfl ?_
        refine G_icmp_ge 121 dX8_goesAhead_114 (by decide) (fun c12 => ?_) (fun c12 => ?_)
        · replace h := git c12 h
          refine G_iconst (v := 0) dX8_goesAhead_121 rfl ?_
          refine G_zret rfl (Or.inl rfl) (Nat.le_refl _) (Nat.le_refl _) dX8_goesAhead_122 ?_
          cases h
          exact ⟨rfl, rfl, rfl, rfl, rfl⟩
        · replace h := gif c12 h
          refine G_iconst (v := 1) dX8_goesAhead_117 rfl ?_
          refine G_goto 122 dX8_goesAhead_118 (by decide) ?_
          refine G_zret rfl (Or.inr rfl) (Nat.le_refl _) (Nat.le_refl _) dX8_goesAhead_122 ?_
          cases h
          exact ⟨rfl, rfl, rfl, rfl, rfl⟩
      · replace h := gif c11 h
        refine G_aload_n dX8_goesAhead_76 rfl rfl ?_
        refine G_getR fl_X8_37 sl_84 sk_84 rfl (rr_84_8 _) dX8_goesAhead_77 ?_
        refine G_iload_n dX8_goesAhead_80 rfl rfl ?_
        obtain ⟨b13, h⟩ := gck_some h
        refine G_iald sl_93 ss_93 (gin_in b13) dX8_goesAhead_81 ?_
        refine G_aload_n dX8_goesAhead_82 rfl rfl ?_
        refine G_getR fl_X8_37 sl_84 sk_84 rfl (rr_84_8 _) dX8_goesAhead_83 ?_
        refine G_iload_n dX8_goesAhead_86 rfl rfl ?_
        obtain ⟨b14, h⟩ := gck_some h
        refine G_iald sl_93 ss_93 (gin_in b14) dX8_goesAhead_87 ?_
        refine G_icmp_eq 112 dX8_goesAhead_88 (by decide) (fun c15 => ?_) (fun c15 => ?_)
        · replace h := git c15 h
          refine G_iload_n dX8_goesAhead_112 rfl rfl ?_
          refine G_iload_n dX8_goesAhead_113 rfl rfl ?_
          refine G_icmp_ge 121 dX8_goesAhead_114 (by decide) (fun c16 => ?_) (fun c16 => ?_)
          · replace h := git c16 h
            refine G_iconst (v := 0) dX8_goesAhead_121 rfl ?_
            refine G_zret rfl (Or.inl rfl) (Nat.le_refl _) (Nat.le_refl _) dX8_goesAhead_122 ?_
            cases h
            exact ⟨rfl, rfl, rfl, rfl, rfl⟩
          · replace h := gif c16 h
            refine G_iconst (v := 1) dX8_goesAhead_117 rfl ?_
            refine G_goto 122 dX8_goesAhead_118 (by decide) ?_
            refine G_zret rfl (Or.inr rfl) (Nat.le_refl _) (Nat.le_refl _) dX8_goesAhead_122 ?_
            cases h
            exact ⟨rfl, rfl, rfl, rfl, rfl⟩
        · replace h := gif c15 h
          refine G_aload_n dX8_goesAhead_91 rfl rfl ?_
          refine G_getR fl_X8_37 sl_84 sk_84 rfl (rr_84_8 _) dX8_goesAhead_92 ?_
          refine G_iload_n dX8_goesAhead_95 rfl rfl ?_
          obtain ⟨b17, h⟩ := gck_some h
          refine G_iald sl_93 ss_93 (gin_in b17) dX8_goesAhead_96 ?_
          refine G_aload_n dX8_goesAhead_97 rfl rfl ?_
          refine G_getR fl_X8_37 sl_84 sk_84 rfl (rr_84_8 _) dX8_goesAhead_98 ?_
          refine G_iload_n dX8_goesAhead_101 rfl rfl ?_
          obtain ⟨b18, h⟩ := gck_some h
          refine G_iald sl_93 ss_93 (gin_in b18) dX8_goesAhead_102 ?_
          refine G_icmp_ge 110 dX8_goesAhead_103 (by decide) (fun c19 => ?_) (fun c19 => ?_)
          · replace h := git c19 h
            refine G_iconst (v := 0) dX8_goesAhead_110 rfl ?_
            refine G_zret rfl (Or.inl rfl) (Nat.le_refl _) (Nat.le_refl _) dX8_goesAhead_111 ?_
            cases h
            exact ⟨rfl, rfl, rfl, rfl, rfl⟩
          · replace h := gif c19 h
            refine G_iconst (v := 1) dX8_goesAhead_106 rfl ?_
            refine G_goto 111 dX8_goesAhead_107 (by decide) ?_
            refine G_zret rfl (Or.inr rfl) (Nat.le_refl _) (Nat.le_refl _) dX8_goesAhead_111 ?_
            cases h
            exact ⟨rfl, rfl, rfl, rfl, rfl⟩
    · replace h := gif c8 h
      refine G_aload_n dX8_goesAhead_31 rfl rfl ?_
      refine G_getR fl_X8_34 sl_84 sk_84 rfl (rr_84_7 _) dX8_goesAhead_32 ?_
      refine G_iload_n dX8_goesAhead_35 rfl rfl ?_
      obtain ⟨b20, h⟩ := gck_some h
      refine G_iald sl_92 ss_92 (gin_in b20) dX8_goesAhead_36 ?_
      refine G_aload_n dX8_goesAhead_37 rfl rfl ?_
      refine G_getR fl_X8_34 sl_84 sk_84 rfl (rr_84_7 _) dX8_goesAhead_38 ?_
      refine G_iload_n dX8_goesAhead_41 rfl rfl ?_
      obtain ⟨b21, h⟩ := gck_some h
      refine G_iald sl_92 ss_92 (gin_in b21) dX8_goesAhead_42 ?_
      refine G_icmp_eq 67 dX8_goesAhead_43 (by decide) (fun c22 => ?_) (fun c22 => ?_)
      · replace h := git c22 h
        refine G_aload_n dX8_goesAhead_67 rfl rfl ?_
        refine G_iload_n dX8_goesAhead_68 rfl rfl ?_
        refine G_iload_n dX8_goesAhead_69 rfl rfl ?_
        obtain ⟨r23, hr24, h⟩ := gB_some h
        refine G_cV (mj := gX8_noticed) (As := [.int x1, .int x3]) (rest := []) ml_X8_47 vX8_noticed sl_84 sk_84 (by decide) rfl rfl rfl (Nat.le_of_ble_eq_true rfl) (by decide) (Nat.le_refl _) (Nat.le_refl _) dX8_goesAhead_70 (q_X8_noticed hr24) ?_
        refine G_if_eq 112 dX8_goesAhead_73 (by decide) (fun c25 => ?_) (fun c25 => ?_)
        · replace h := git c25 h
          refine G_iload_n dX8_goesAhead_112 rfl rfl ?_
          refine G_iload_n dX8_goesAhead_113 rfl rfl ?_
          refine G_icmp_ge 121 dX8_goesAhead_114 (by decide) (fun c26 => ?_) (fun c26 => ?_)
          · replace h := git c26 h
            refine G_iconst (v := 0) dX8_goesAhead_121 rfl ?_
            refine G_zret rfl (Or.inl rfl) (Nat.le_refl _) (Nat.le_refl _) dX8_goesAhead_122 ?_
            cases h
            exact ⟨rfl, rfl, rfl, rfl, rfl⟩
          · replace h := gif c26 h
            refine G_iconst (v := 1) dX8_goesAhead_117 rfl ?_
            refine G_goto 122 dX8_goesAhead_118 (by decide) ?_
            refine G_zret rfl (Or.inr rfl) (Nat.le_refl _) (Nat.le_refl _) dX8_goesAhead_122 ?_
            cases h
            exact ⟨rfl, rfl, rfl, rfl, rfl⟩
        · replace h := gif c25 h
          refine G_aload_n dX8_goesAhead_76 rfl rfl ?_
          refine G_getR fl_X8_37 sl_84 sk_84 rfl (rr_84_8 _) dX8_goesAhead_77 ?_
          refine G_iload_n dX8_goesAhead_80 rfl rfl ?_
          obtain ⟨b27, h⟩ := gck_some h
          refine G_iald sl_93 ss_93 (gin_in b27) dX8_goesAhead_81 ?_
          refine G_aload_n dX8_goesAhead_82 rfl rfl ?_
          refine G_getR fl_X8_37 sl_84 sk_84 rfl (rr_84_8 _) dX8_goesAhead_83 ?_
          refine G_iload_n dX8_goesAhead_86 rfl rfl ?_
          obtain ⟨b28, h⟩ := gck_some h
          refine G_iald sl_93 ss_93 (gin_in b28) dX8_goesAhead_87 ?_
          refine G_icmp_eq 112 dX8_goesAhead_88 (by decide) (fun c29 => ?_) (fun c29 => ?_)
          · replace h := git c29 h
            refine G_iload_n dX8_goesAhead_112 rfl rfl ?_
            refine G_iload_n dX8_goesAhead_113 rfl rfl ?_
            refine G_icmp_ge 121 dX8_goesAhead_114 (by decide) (fun c30 => ?_) (fun c30 => ?_)
            · replace h := git c30 h
              refine G_iconst (v := 0) dX8_goesAhead_121 rfl ?_
              refine G_zret rfl (Or.inl rfl) (Nat.le_refl _) (Nat.le_refl _) dX8_goesAhead_122 ?_
              cases h
              exact ⟨rfl, rfl, rfl, rfl, rfl⟩
            · replace h := gif c30 h
              refine G_iconst (v := 1) dX8_goesAhead_117 rfl ?_
              refine G_goto 122 dX8_goesAhead_118 (by decide) ?_
              refine G_zret rfl (Or.inr rfl) (Nat.le_refl _) (Nat.le_refl _) dX8_goesAhead_122 ?_
              cases h
              exact ⟨rfl, rfl, rfl, rfl, rfl⟩
          · replace h := gif c29 h
            refine G_aload_n dX8_goesAhead_91 rfl rfl ?_
            refine G_getR fl_X8_37 sl_84 sk_84 rfl (rr_84_8 _) dX8_goesAhead_92 ?_
            refine G_iload_n dX8_goesAhead_95 rfl rfl ?_
            obtain ⟨b31, h⟩ := gck_some h
            refine G_iald sl_93 ss_93 (gin_in b31) dX8_goesAhead_96 ?_
            refine G_aload_n dX8_goesAhead_97 rfl rfl ?_
            refine G_getR fl_X8_37 sl_84 sk_84 rfl (rr_84_8 _) dX8_goesAhead_98 ?_
            refine G_iload_n dX8_goesAhead_101 rfl rfl ?_
            obtain ⟨b32, h⟩ := gck_some h
            refine G_iald sl_93 ss_93 (gin_in b32) dX8_goesAhead_102 ?_
            refine G_icmp_ge 110 dX8_goesAhead_103 (by decide) (fun c33 => ?_) (fun c33 => ?_)
            · replace h := git c33 h
              refine G_iconst (v := 0) dX8_goesAhead_110 rfl ?_
              refine G_zret rfl (Or.inl rfl) (Nat.le_refl _) (Nat.le_refl _) dX8_goesAhead_111 ?_
              cases h
              exact ⟨rfl, rfl, rfl, rfl, rfl⟩
            · replace h := gif c33 h
              refine G_iconst (v := 1) dX8_goesAhead_106 rfl ?_
              refine G_goto 111 dX8_goesAhead_107 (by decide) ?_
              refine G_zret rfl (Or.inr rfl) (Nat.le_refl _) (Nat.le_refl _) dX8_goesAhead_111 ?_
              cases h
              exact ⟨rfl, rfl, rfl, rfl, rfl⟩
      · replace h := gif c22 h
        refine G_aload_n dX8_goesAhead_46 rfl rfl ?_
        refine G_getR fl_X8_34 sl_84 sk_84 rfl (rr_84_7 _) dX8_goesAhead_47 ?_
        refine G_iload_n dX8_goesAhead_50 rfl rfl ?_
        obtain ⟨b34, h⟩ := gck_some h
        refine G_iald sl_92 ss_92 (gin_in b34) dX8_goesAhead_51 ?_
        refine G_aload_n dX8_goesAhead_52 rfl rfl ?_
        refine G_getR fl_X8_34 sl_84 sk_84 rfl (rr_84_7 _) dX8_goesAhead_53 ?_
        refine G_iload_n dX8_goesAhead_56 rfl rfl ?_
        obtain ⟨b35, h⟩ := gck_some h
        refine G_iald sl_92 ss_92 (gin_in b35) dX8_goesAhead_57 ?_
        refine G_icmp_ge 65 dX8_goesAhead_58 (by decide) (fun c36 => ?_) (fun c36 => ?_)
        · replace h := git c36 h
          refine G_iconst (v := 0) dX8_goesAhead_65 rfl ?_
          refine G_zret rfl (Or.inl rfl) (Nat.le_refl _) (Nat.le_refl _) dX8_goesAhead_66 ?_
          cases h
          exact ⟨rfl, rfl, rfl, rfl, rfl⟩
        · replace h := gif c36 h
          refine G_iconst (v := 1) dX8_goesAhead_61 rfl ?_
          refine G_goto 66 dX8_goesAhead_62 (by decide) ?_
          refine G_zret rfl (Or.inr rfl) (Nat.le_refl _) (Nat.le_refl _) dX8_goesAhead_66 ?_
          cases h
          exact ⟨rfl, rfl, rfl, rfl, rfl⟩
  · replace h := gif c5 h
    refine G_aload_n dX8_goesAhead_15 rfl rfl ?_
    refine G_iload_n dX8_goesAhead_16 rfl rfl ?_
    refine G_iload_n dX8_goesAhead_17 rfl rfl ?_
    obtain ⟨r37, hr38, h⟩ := gB_some h
    refine G_cV (mj := gX8_noticed) (As := [.int x1, .int x3]) (rest := []) ml_X8_47 vX8_noticed sl_84 sk_84 (by decide) rfl rfl rfl (Nat.le_of_ble_eq_true rfl) (by decide) (Nat.le_refl _) (Nat.le_refl _) dX8_goesAhead_18 (q_X8_noticed hr38) ?_
    obtain ⟨b39, h⟩ := gck_some h
    refine G_zret rfl (gbo_or b39) (Nat.le_refl _) (Nat.le_refl _) dX8_goesAhead_21 ?_
    cases h
    exact ⟨rfl, rfl, rfl, rfl, rfl⟩
def p_X8_partsReached_15 (I : gIt) (x1 : Int32) (x2 : Int32) : Nat → Int32 → Int32 → Option Int32
  | 0, _, _ => none
  | n + 1, x3, x4 =>
    if (I 84 10) ≤ x4 then
    gck (gin x1 40) (
    some (gmax (0 : Int32) (gmin (I 87 (x1).toNatClampNeg) ((1000 : Int32) - x3))))
    else
    if (40 : Int32) ≤ x4 then
    gck (gin x1 40) (
    some (gmax (0 : Int32) (gmin (I 87 (x1).toNatClampNeg) ((1000 : Int32) - x3))))
    else
    if x4 = x1 then
    p_X8_partsReached_15 I x1 x2 n x3 (x4 + (1 : Int32))
    else
    gck (gin x1 40) (
    gck (gin x1 40) (
    gB (p_X8_binds I x4 (I 85 (x1).toNatClampNeg) (I 86 (x1).toNatClampNeg)) fun r11 =>
    if r11 = 0 then
    p_X8_partsReached_15 I x1 x2 n x3 (x4 + (1 : Int32))
    else
    gB (p_X8_goesAhead I x4 x1 x2) fun r14 =>
    if r14 = 0 then
    p_X8_partsReached_15 I x1 x2 n x3 (x4 + (1 : Int32))
    else
    gck (gin x4 40) (
    gL ((x3 + (I 87 (x4).toNatClampNeg))) fun z18 =>
    p_X8_partsReached_15 I x1 x2 n z18 (x4 + (1 : Int32)))))
def p_X8_partsReached (I : gIt) (x1 : Int32) (x2 : Int32) : Option Int32 :=
  gB (p_X8_has I x1) fun r1 =>
  if r1 = 0 then
  some (0 : Int32)
  else
  p_X8_partsReached_15 I x1 x2 gFu (0 : Int32) (0 : Int32)
set_option maxRecDepth 20000 in
theorem q_X8_partsReached_15 {l : Launch} {v : Int32} {J : gJt} {w : Bool} {I : gIt} {x1 : Int32} {x2 : Int32} : ∀ (n : Nat) (x3 : Int32) (x4 : Int32), p_X8_partsReached_15 I x1 x2 n x3 x4 = some v → G l gX8_partsReached 4 0 0 (fun v' S' I' J' R' => v' = some (.int v) ∧ S' = gS0 ∧ I' = I ∧ J' = J ∧ R' = gR0 w) 0 0 15 [some (.ref 84), some (.int x1), some (.int x2), some (.int x3), some (.int x4)] [] gS0 I J (gR0 w) := by
  intro n
  induction n with
  | zero => intro _ _ h; cases h
  | succ n ih =>
    intro x3 x4 h
    rw [p_X8_partsReached_15] at h
    refine G_iload dX8_partsReached_15 rfl ?_
    refine G_aload_n dX8_partsReached_17 rfl rfl ?_
    refine G_getI fl_X8_43 sl_84 sk_84 rfl dX8_partsReached_18 ?_
    refine G_icmp_ge 85 dX8_partsReached_21 (by decide) (fun c4 => ?_) (fun c4 => ?_)
    · replace h := git c4 h
      refine G_iconst (v := 0) dX8_partsReached_85 rfl ?_
      refine G_aload_n dX8_partsReached_86 rfl rfl ?_
      refine G_getR fl_X8_18 sl_84 sk_84 rfl (rr_84_2 _) dX8_partsReached_87 ?_
      refine G_iload_n dX8_partsReached_90 rfl rfl ?_
      obtain ⟨b5, h⟩ := gck_some h
      refine G_iald sl_87 ss_87 (gin_in b5) dX8_partsReached_91 ?_
      refine G_sipush (v := 1000) dX8_partsReached_92 rfl ?_
      refine G_iload_n dX8_partsReached_95 rfl rfl ?_
      refine G_isub dX8_partsReached_96 ?_
      refine G_mmin ml_X8_62 (by decide) (Nat.le_of_ble_eq_true rfl) (Nat.le_refl _) (Nat.le_refl _) dX8_partsReached_97 ?_
      refine G_mmax ml_X8_68 (by decide) (Nat.le_of_ble_eq_true rfl) (Nat.le_refl _) (Nat.le_refl _) dX8_partsReached_100 ?_
      refine G_iret rfl (Nat.le_refl _) (Nat.le_refl _) dX8_partsReached_103 ?_
      cases h
      exact ⟨rfl, rfl, rfl, rfl, rfl⟩
    · replace h := gif c4 h
      refine G_iload dX8_partsReached_24 rfl ?_
      refine G_bipush (v := 40) dX8_partsReached_26 rfl ?_
      refine G_icmp_ge 85 dX8_partsReached_28 (by decide) (fun c6 => ?_) (fun c6 => ?_)
      · replace h := git c6 h
        refine G_iconst (v := 0) dX8_partsReached_85 rfl ?_
        refine G_aload_n dX8_partsReached_86 rfl rfl ?_
        refine G_getR fl_X8_18 sl_84 sk_84 rfl (rr_84_2 _) dX8_partsReached_87 ?_
        refine G_iload_n dX8_partsReached_90 rfl rfl ?_
        obtain ⟨b7, h⟩ := gck_some h
        refine G_iald sl_87 ss_87 (gin_in b7) dX8_partsReached_91 ?_
        refine G_sipush (v := 1000) dX8_partsReached_92 rfl ?_
        refine G_iload_n dX8_partsReached_95 rfl rfl ?_
        refine G_isub dX8_partsReached_96 ?_
        refine G_mmin ml_X8_62 (by decide) (Nat.le_of_ble_eq_true rfl) (Nat.le_refl _) (Nat.le_refl _) dX8_partsReached_97 ?_
        refine G_mmax ml_X8_68 (by decide) (Nat.le_of_ble_eq_true rfl) (Nat.le_refl _) (Nat.le_refl _) dX8_partsReached_100 ?_
        refine G_iret rfl (Nat.le_refl _) (Nat.le_refl _) dX8_partsReached_103 ?_
        cases h
        exact ⟨rfl, rfl, rfl, rfl, rfl⟩
      · replace h := gif c6 h
        refine G_iload dX8_partsReached_31 rfl ?_
        refine G_iload_n dX8_partsReached_33 rfl rfl ?_
        refine G_icmp_eq 79 dX8_partsReached_34 (by decide) (fun c8 => ?_) (fun c8 => ?_)
        · replace h := git c8 h
          refine S_iinc (v := (1 : Int32)) [some (.ref 84), some (.int x1), some (.int x2), some (.int x3), some (.int (x4 + (1 : Int32)))] dX8_partsReached_79 rfl rfl (by decide) rfl ?_
          refine G_goto 15 dX8_partsReached_82 (by decide) ?_
          exact ih _ _ h
        · replace h := gif c8 h
          refine G_aload_n dX8_partsReached_37 rfl rfl ?_
          refine G_iload dX8_partsReached_38 rfl ?_
          refine G_aload_n dX8_partsReached_40 rfl rfl ?_
          refine G_getR fl_X8_9 sl_84 sk_84 rfl (rr_84_0 _) dX8_partsReached_41 ?_
          refine G_iload_n dX8_partsReached_44 rfl rfl ?_
          obtain ⟨b9, h⟩ := gck_some h
          refine G_iald sl_85 ss_85 (gin_in b9) dX8_partsReached_45 ?_
          refine G_aload_n dX8_partsReached_46 rfl rfl ?_
          refine G_getR fl_X8_15 sl_84 sk_84 rfl (rr_84_1 _) dX8_partsReached_47 ?_
          refine G_iload_n dX8_partsReached_50 rfl rfl ?_
          obtain ⟨b10, h⟩ := gck_some h
          refine G_iald sl_86 ss_86 (gin_in b10) dX8_partsReached_51 ?_
          obtain ⟨r11, hr12, h⟩ := gB_some h
          refine G_cV (mj := gX8_binds) (As := [.int x4, .int (I 85 (x1).toNatClampNeg), .int (I 86 (x1).toNatClampNeg)]) (rest := []) ml_X8_55 vX8_binds sl_84 sk_84 (by decide) rfl rfl rfl (Nat.le_of_ble_eq_true rfl) (by decide) (Nat.le_refl _) (Nat.le_refl _) dX8_partsReached_52 (q_X8_binds hr12) ?_
          refine G_if_eq 79 dX8_partsReached_55 (by decide) (fun c13 => ?_) (fun c13 => ?_)
          · replace h := git c13 h
            refine S_iinc (v := (1 : Int32)) [some (.ref 84), some (.int x1), some (.int x2), some (.int x3), some (.int (x4 + (1 : Int32)))] dX8_partsReached_79 rfl rfl (by decide) rfl ?_
            refine G_goto 15 dX8_partsReached_82 (by decide) ?_
            exact ih _ _ h
          · replace h := gif c13 h
            refine G_aload_n dX8_partsReached_58 rfl rfl ?_
            refine G_iload dX8_partsReached_59 rfl ?_
            refine G_iload_n dX8_partsReached_61 rfl rfl ?_
            refine G_iload_n dX8_partsReached_62 rfl rfl ?_
            obtain ⟨r14, hr15, h⟩ := gB_some h
            refine G_cV (mj := gX8_goesAhead) (As := [.int x4, .int x1, .int x2]) (rest := []) ml_X8_59 vX8_goesAhead sl_84 sk_84 (by decide) rfl rfl rfl (Nat.le_of_ble_eq_true rfl) (by decide) (Nat.le_refl _) (Nat.le_refl _) dX8_partsReached_63 (q_X8_goesAhead hr15) ?_
            refine G_if_eq 79 dX8_partsReached_66 (by decide) (fun c16 => ?_) (fun c16 => ?_)
            · replace h := git c16 h
              refine S_iinc (v := (1 : Int32)) [some (.ref 84), some (.int x1), some (.int x2), some (.int x3), some (.int (x4 + (1 : Int32)))] dX8_partsReached_79 rfl rfl (by decide) rfl ?_
              refine G_goto 15 dX8_partsReached_82 (by decide) ?_
              exact ih _ _ h
            · replace h := gif c16 h
              refine G_iload_n dX8_partsReached_69 rfl rfl ?_
              refine G_aload_n dX8_partsReached_70 rfl rfl ?_
              refine G_getR fl_X8_18 sl_84 sk_84 rfl (rr_84_2 _) dX8_partsReached_71 ?_
              refine G_iload dX8_partsReached_74 rfl ?_
              obtain ⟨b17, h⟩ := gck_some h
              refine G_iald sl_87 ss_87 (gin_in b17) dX8_partsReached_76 ?_
              refine G_iadd dX8_partsReached_77 ?_
              refine G_nI fun z18 ez18 => ?_
              replace h := gL_some ez18 h
              refine S_istore_n [some (.ref 84), some (.int x1), some (.int x2), some (.int z18), some (.int x4)] dX8_partsReached_78 rfl (by decide) rfl ?_
              refine S_iinc (v := (1 : Int32)) [some (.ref 84), some (.int x1), some (.int x2), some (.int z18), some (.int (x4 + (1 : Int32)))] dX8_partsReached_79 rfl rfl (by decide) rfl ?_
              refine G_goto 15 dX8_partsReached_82 (by decide) ?_
              exact ih _ _ h
set_option maxRecDepth 20000 in
theorem q_X8_partsReached {l : Launch} {I : gIt} {J : gJt} {w : Bool} {x1 : Int32} {x2 : Int32} {v : Int32} (h : p_X8_partsReached I x1 x2 = some v) : Cn l gX8_partsReached 4 0 0 [.ref 84, .int x1, .int x2] gS0 I J (gR0 w) (fun v' S' I' J' R' => v' = some (.int v) ∧ S' = gS0 ∧ I' = I ∧ J' = J ∧ R' = gR0 w) := by
  refine Cn.of [some (.ref 84), some (.int x1), some (.int x2), none, none] (by decide) rfl (Nat.le_of_ble_eq_true rfl) ?_
  rw [p_X8_partsReached] at h
  refine G_aload_n dX8_partsReached_0 rfl rfl ?_
  refine G_iload_n dX8_partsReached_1 rfl rfl ?_
  obtain ⟨r1, hr2, h⟩ := gB_some h
  refine G_cV (mj := gX8_has) (As := [.int x1]) (rest := []) ml_X8_51 vX8_has sl_84 sk_84 (by decide) rfl rfl rfl (Nat.le_of_ble_eq_true rfl) (by decide) (Nat.le_refl _) (Nat.le_refl _) dX8_partsReached_2 (q_X8_has hr2) ?_
  refine G_if_ne 10 dX8_partsReached_5 (by decide) (fun c3 => ?_) (fun c3 => ?_)
  · replace h := gif c3 h
    refine G_iconst (v := 0) dX8_partsReached_10 rfl ?_
    refine S_istore_n [some (.ref 84), some (.int x1), some (.int x2), some (.int (0 : Int32)), none] dX8_partsReached_11 rfl (by decide) rfl ?_
    refine G_iconst (v := 0) dX8_partsReached_12 rfl ?_
    refine S_istore [some (.ref 84), some (.int x1), some (.int x2), some (.int (0 : Int32)), some (.int (0 : Int32))] dX8_partsReached_13 (by decide) rfl ?_
    exact q_X8_partsReached_15   gFu _ _ h
  · replace h := git c3 h
    refine G_iconst (v := 0) dX8_partsReached_8 rfl ?_
    refine G_iret rfl (Nat.le_refl _) (Nat.le_refl _) dX8_partsReached_9 ?_
    cases h
    exact ⟨rfl, rfl, rfl, rfl, rfl⟩
def p_X7_add (I : gIt) (x1 : Int32) (x2 : Int32) (x3 : Int32) : Option (Int32 × gIt) :=
  if (I 1 7) < 0 then
  some ((-1 : Int32), I)
  else
  if (I 1 7) < (16 : Int32) then
  gL ((I 1 7)) fun z3 =>
  gck (gin z3 16) (
  gL (gu2 I 2 (z3).toNatClampNeg x1) fun I5 =>
  gck (gin z3 16) (
  gL (gu2 I5 3 (z3).toNatClampNeg x2) fun I7 =>
  gck (gin z3 16) (
  gL (gu2 I7 4 (z3).toNatClampNeg x3) fun I9 =>
  gck (gin z3 16) (
  gL (gu2 I9 5 (z3).toNatClampNeg (-1 : Int32)) fun I11 =>
  gck (gin z3 16) (
  gL (gu2 I11 6 (z3).toNatClampNeg (-1 : Int32)) fun I13 =>
  gck (gin z3 16) (
  gL (gu2 I13 7 (z3).toNatClampNeg (-1 : Int32)) fun I15 =>
  gck (gin z3 16) (
  gL (gu2 I15 8 (z3).toNatClampNeg (-1 : Int32)) fun I17 =>
  gL (((I17 1 7) + (1 : Int32))) fun z18 =>
  gL (gu2 I17 1 7 z18) fun I19 =>
  some (z3, I19))))))))
  else
  some ((-1 : Int32), I)
set_option maxRecDepth 20000 in
theorem q_X7_add {l : Launch} {I : gIt} {J : gJt} {w : Bool} {x1 : Int32} {x2 : Int32} {x3 : Int32} {v : (Int32 × gIt)} (h : p_X7_add I x1 x2 x3 = some v) : Cn l gX7_add 2 0 0 [.ref 1, .int x1, .int x2, .int x3] gS0 I J (gR0 w) (fun v' S' I' J' R' => v' = some (.int v.1) ∧ S' = gS0 ∧ I' = v.2 ∧ J' = J ∧ R' = gR0 w) := by
  refine Cn.of [some (.ref 1), some (.int x1), some (.int x2), some (.int x3), none] (by decide) rfl (Nat.le_of_ble_eq_true rfl) ?_
  rw [p_X7_add] at h
  refine G_aload_n dX7_add_0 rfl rfl ?_
  refine G_getI fl_X7_33 sl_1 sk_1 rfl dX7_add_1 ?_
  refine G_if_lt 16 dX7_add_4 (by decide) (fun c1 => ?_) (fun c1 => ?_)
  · replace h := git c1 h
    refine G_iconst (v := -1) dX7_add_16 rfl ?_
    refine G_iret rfl (Nat.le_refl _) (Nat.le_refl _) dX7_add_17 ?_
    cases h
    exact ⟨rfl, rfl, rfl, rfl, rfl⟩
  · replace h := gif c1 h
    refine G_aload_n dX7_add_7 rfl rfl ?_
    refine G_getI fl_X7_33 sl_1 sk_1 rfl dX7_add_8 ?_
    refine G_bipush (v := 16) dX7_add_11 rfl ?_
    refine G_icmp_lt 18 dX7_add_13 (by decide) (fun c2 => ?_) (fun c2 => ?_)
    · replace h := git c2 h
      refine G_aload_n dX7_add_18 rfl rfl ?_
      refine G_getI fl_X7_33 sl_1 sk_1 rfl dX7_add_19 ?_
      refine G_nI fun z3 ez3 => ?_
      replace h := gL_some ez3 h
      refine S_istore [some (.ref 1), some (.int x1), some (.int x2), some (.int x3), some (.int z3)] dX7_add_22 (by decide) rfl ?_
      refine G_aload_n dX7_add_24 rfl rfl ?_
      refine G_getR fl_X7_9 sl_1 sk_1 rfl (rr_1_0 _) dX7_add_25 ?_
      refine G_iload dX7_add_28 rfl ?_
      refine G_iload_n dX7_add_30 rfl rfl ?_
      obtain ⟨b4, h⟩ := gck_some h
      refine G_iast sl_2 ss_2 (gin_in b4) dX7_add_31 ?_
      refine G_mI fun I5 eI5 => ?_
      replace h := gL_some eI5 h
      refine G_aload_n dX7_add_32 rfl rfl ?_
      refine G_getR fl_X7_15 sl_1 sk_1 rfl (rr_1_1 _) dX7_add_33 ?_
      refine G_iload dX7_add_36 rfl ?_
      refine G_iload_n dX7_add_38 rfl rfl ?_
      obtain ⟨b6, h⟩ := gck_some h
      refine G_iast sl_3 ss_3 (gin_in b6) dX7_add_39 ?_
      refine G_mI fun I7 eI7 => ?_
      replace h := gL_some eI7 h
      refine G_aload_n dX7_add_40 rfl rfl ?_
      refine G_getR fl_X7_18 sl_1 sk_1 rfl (rr_1_2 _) dX7_add_41 ?_
      refine G_iload dX7_add_44 rfl ?_
      refine G_iload_n dX7_add_46 rfl rfl ?_
      obtain ⟨b8, h⟩ := gck_some h
      refine G_iast sl_4 ss_4 (gin_in b8) dX7_add_47 ?_
      refine G_mI fun I9 eI9 => ?_
      replace h := gL_some eI9 h
      refine G_aload_n dX7_add_48 rfl rfl ?_
      refine G_getR fl_X7_21 sl_1 sk_1 rfl (rr_1_3 _) dX7_add_49 ?_
      refine G_iload dX7_add_52 rfl ?_
      refine G_iconst (v := -1) dX7_add_54 rfl ?_
      obtain ⟨b10, h⟩ := gck_some h
      refine G_iast sl_5 ss_5 (gin_in b10) dX7_add_55 ?_
      refine G_mI fun I11 eI11 => ?_
      replace h := gL_some eI11 h
      refine G_aload_n dX7_add_56 rfl rfl ?_
      refine G_getR fl_X7_24 sl_1 sk_1 rfl (rr_1_4 _) dX7_add_57 ?_
      refine G_iload dX7_add_60 rfl ?_
      refine G_iconst (v := -1) dX7_add_62 rfl ?_
      obtain ⟨b12, h⟩ := gck_some h
      refine G_iast sl_6 ss_6 (gin_in b12) dX7_add_63 ?_
      refine G_mI fun I13 eI13 => ?_
      replace h := gL_some eI13 h
      refine G_aload_n dX7_add_64 rfl rfl ?_
      refine G_getR fl_X7_27 sl_1 sk_1 rfl (rr_1_5 _) dX7_add_65 ?_
      refine G_iload dX7_add_68 rfl ?_
      refine G_iconst (v := -1) dX7_add_70 rfl ?_
      obtain ⟨b14, h⟩ := gck_some h
      refine G_iast sl_7 ss_7 (gin_in b14) dX7_add_71 ?_
      refine G_mI fun I15 eI15 => ?_
      replace h := gL_some eI15 h
      refine G_aload_n dX7_add_72 rfl rfl ?_
      refine G_getR fl_X7_30 sl_1 sk_1 rfl (rr_1_6 _) dX7_add_73 ?_
      refine G_iload dX7_add_76 rfl ?_
      refine G_iconst (v := -1) dX7_add_78 rfl ?_
      obtain ⟨b16, h⟩ := gck_some h
      refine G_iast sl_8 ss_8 (gin_in b16) dX7_add_79 ?_
      refine G_mI fun I17 eI17 => ?_
      replace h := gL_some eI17 h
      refine G_aload_n dX7_add_80 rfl rfl ?_
      refine G_dup dX7_add_81 rfl ?_
      refine G_getI fl_X7_33 sl_1 sk_1 rfl dX7_add_82 ?_
      refine G_iconst (v := 1) dX7_add_85 rfl ?_
      refine G_iadd dX7_add_86 ?_
      refine G_nI fun z18 ez18 => ?_
      replace h := gL_some ez18 h
      refine G_putI fl_X7_33 sl_1 sk_1 rfl rfl ⟨rfl, rfl⟩ dX7_add_87 ?_
      refine G_mI fun I19 eI19 => ?_
      replace h := gL_some eI19 h
      refine G_iload dX7_add_90 rfl ?_
      refine G_iret rfl (Nat.le_refl _) (Nat.le_refl _) dX7_add_92 ?_
      cases h
      exact ⟨rfl, rfl, rfl, rfl, rfl⟩
    · replace h := gif c2 h
      refine G_iconst (v := -1) dX7_add_16 rfl ?_
      refine G_iret rfl (Nat.le_refl _) (Nat.le_refl _) dX7_add_17 ?_
      cases h
      exact ⟨rfl, rfl, rfl, rfl, rfl⟩
def p_X7_survivorsOf_5 (I : gIt) (x1 : Int32) (x2 : Int32) : Nat → Int32 → Int32 → Option Int32
  | 0, _, _ => none
  | n + 1, x3, x4 =>
    if (I 1 7) ≤ x4 then
    some x3
    else
    if (16 : Int32) ≤ x4 then
    some x3
    else
    gB (p_X7_knownDead I x4 x2) fun r3 =>
    gB (α := Int32) (
    if r3 = 0 then
    some (1 : Int32)
    else
    gck (gin x4 16) (
    if (I 5 (x4).toNatClampNeg) ≤ x1 then
    some (0 : Int32)
    else
    some (1 : Int32))) fun ph5 =>
    gck (gin x4 16) (
    if x1 < (I 2 (x4).toNatClampNeg) then
    p_X7_survivorsOf_5 I x1 x2 n x3 (x4 + (1 : Int32))
    else
    if ph5 = 0 then
    p_X7_survivorsOf_5 I x1 x2 n x3 (x4 + (1 : Int32))
    else
    gL ((x3 ||| (gshl (1 : Int32) x4))) fun z12 =>
    p_X7_survivorsOf_5 I x1 x2 n z12 (x4 + (1 : Int32)))
def p_X7_survivorsOf (I : gIt) (x1 : Int32) (x2 : Int32) : Option Int32 :=
  p_X7_survivorsOf_5 I x1 x2 gFu (0 : Int32) (0 : Int32)
set_option maxRecDepth 20000 in
theorem q_X7_survivorsOf_5 {l : Launch} {v : Int32} {J : gJt} {w : Bool} {I : gIt} {x1 : Int32} {x2 : Int32} : ∀ (n : Nat) (x3 : Int32) (x4 : Int32), p_X7_survivorsOf_5 I x1 x2 n x3 x4 = some v → G l gX7_survivorsOf 4 0 0 (fun v' S' I' J' R' => v' = some (.int v) ∧ S' = gS0 ∧ I' = I ∧ J' = J ∧ R' = gR0 w) 0 0 5 [some (.ref 1), some (.int x1), some (.int x2), some (.int x3), some (.int x4), none] [] gS0 I J (gR0 w) := by
  intro n
  induction n with
  | zero => intro _ _ h; cases h
  | succ n ih =>
    intro x3 x4 h
    rw [p_X7_survivorsOf_5] at h
    refine G_iload dX7_survivorsOf_5 rfl ?_
    refine G_aload_n dX7_survivorsOf_7 rfl rfl ?_
    refine G_getI fl_X7_33 sl_1 sk_1 rfl dX7_survivorsOf_8 ?_
    refine G_icmp_ge 78 dX7_survivorsOf_11 (by decide) (fun c1 => ?_) (fun c1 => ?_)
    · replace h := git c1 h
      refine G_iload_n dX7_survivorsOf_78 rfl rfl ?_
      refine G_iret rfl (Nat.le_refl _) (Nat.le_refl _) dX7_survivorsOf_79 ?_
      cases h
      exact ⟨rfl, rfl, rfl, rfl, rfl⟩
    · replace h := gif c1 h
      refine G_iload dX7_survivorsOf_14 rfl ?_
      refine G_bipush (v := 16) dX7_survivorsOf_16 rfl ?_
      refine G_icmp_ge 78 dX7_survivorsOf_18 (by decide) (fun c2 => ?_) (fun c2 => ?_)
      · replace h := git c2 h
        refine G_iload_n dX7_survivorsOf_78 rfl rfl ?_
        refine G_iret rfl (Nat.le_refl _) (Nat.le_refl _) dX7_survivorsOf_79 ?_
        cases h
        exact ⟨rfl, rfl, rfl, rfl, rfl⟩
      · replace h := gif c2 h
        refine G_aload_n dX7_survivorsOf_21 rfl rfl ?_
        refine G_iload dX7_survivorsOf_22 rfl ?_
        refine G_iload_n dX7_survivorsOf_24 rfl rfl ?_
        obtain ⟨r3, hr4, h⟩ := gB_some h
        refine G_cV (mj := gX7_knownDead) (As := [.int x4, .int x2]) (rest := []) ml_X7_41 vX7_knownDead sl_1 sk_1 (by decide) rfl rfl rfl (Nat.le_of_ble_eq_true rfl) (by decide) (Nat.le_refl _) (Nat.le_refl _) dX7_survivorsOf_25 (q_X7_knownDead hr4) ?_
        obtain ⟨ph5, t6, r7⟩ := gB_some h
        have jn8 : G l gX7_survivorsOf 4 0 0 (fun v' S' I' J' R' => v' = some (.int v) ∧ S' = gS0 ∧ I' = I ∧ J' = J ∧ R' = gR0 w) 0 0 47 [some (.ref 1), some (.int x1), some (.int x2), some (.int x3), some (.int x4), none] [.int ph5] gS0 I J (gR0 w) := by
          refine S_istore [some (.ref 1), some (.int x1), some (.int x2), some (.int x3), some (.int x4), some (.int ph5)] dX7_survivorsOf_47 (by decide) rfl ?_
          refine G_aload_n dX7_survivorsOf_49 rfl rfl ?_
          refine G_getR fl_X7_9 sl_1 sk_1 rfl (rr_1_0 _) dX7_survivorsOf_50 ?_
          refine G_iload dX7_survivorsOf_53 rfl ?_
          obtain ⟨b9, r7⟩ := gck_some r7
          refine G_iald sl_2 ss_2 (gin_in b9) dX7_survivorsOf_55 ?_
          refine G_iload_n dX7_survivorsOf_56 rfl rfl ?_
          refine G_icmp_gt 72 dX7_survivorsOf_57 (by decide) (fun c10 => ?_) (fun c10 => ?_)
          · replace r7 := git c10 r7
            refine S_iinc (v := (1 : Int32)) [some (.ref 1), some (.int x1), some (.int x2), some (.int x3), some (.int (x4 + (1 : Int32))), some (.int ph5)] dX7_survivorsOf_72 rfl rfl (by decide) rfl ?_
            refine G_goto 5 dX7_survivorsOf_75 (by decide) ?_
            refine G_sub [some (.ref 1), some (.int x1), some (.int x2), some (.int x3), some (.int (x4 + (1 : Int32))), none] ⟨rfl, rfl, rfl, rfl, rfl, trivial⟩ ?_
            exact ih _ _ r7
          · replace r7 := gif c10 r7
            refine G_iload dX7_survivorsOf_60 rfl ?_
            refine G_if_eq 72 dX7_survivorsOf_62 (by decide) (fun c11 => ?_) (fun c11 => ?_)
            · replace r7 := git c11 r7
              refine S_iinc (v := (1 : Int32)) [some (.ref 1), some (.int x1), some (.int x2), some (.int x3), some (.int (x4 + (1 : Int32))), some (.int ph5)] dX7_survivorsOf_72 rfl rfl (by decide) rfl ?_
              refine G_goto 5 dX7_survivorsOf_75 (by decide) ?_
              refine G_sub [some (.ref 1), some (.int x1), some (.int x2), some (.int x3), some (.int (x4 + (1 : Int32))), none] ⟨rfl, rfl, rfl, rfl, rfl, trivial⟩ ?_
              exact ih _ _ r7
            · replace r7 := gif c11 r7
              refine G_iload_n dX7_survivorsOf_65 rfl rfl ?_
              refine G_iconst (v := 1) dX7_survivorsOf_66 rfl ?_
              refine G_iload dX7_survivorsOf_67 rfl ?_
              refine G_shl dX7_survivorsOf_69 ?_
              refine G_ior dX7_survivorsOf_70 ?_
              refine G_nI fun z12 ez12 => ?_
              replace r7 := gL_some ez12 r7
              refine S_istore_n [some (.ref 1), some (.int x1), some (.int x2), some (.int z12), some (.int x4), some (.int ph5)] dX7_survivorsOf_71 rfl (by decide) rfl ?_
              refine S_iinc (v := (1 : Int32)) [some (.ref 1), some (.int x1), some (.int x2), some (.int z12), some (.int (x4 + (1 : Int32))), some (.int ph5)] dX7_survivorsOf_72 rfl rfl (by decide) rfl ?_
              refine G_goto 5 dX7_survivorsOf_75 (by decide) ?_
              refine G_sub [some (.ref 1), some (.int x1), some (.int x2), some (.int z12), some (.int (x4 + (1 : Int32))), none] ⟨rfl, rfl, rfl, rfl, rfl, trivial⟩ ?_
              exact ih _ _ r7
        refine G_if_eq 42 dX7_survivorsOf_28 (by decide) (fun c13 => ?_) (fun c13 => ?_)
        · replace t6 := git c13 t6
          refine G_iconst (v := 1) dX7_survivorsOf_42 rfl ?_
          refine G_goto 47 dX7_survivorsOf_43 (by decide) ?_
          cases t6
          exact jn8
        · replace t6 := gif c13 t6
          refine G_aload_n dX7_survivorsOf_31 rfl rfl ?_
          refine G_getR fl_X7_21 sl_1 sk_1 rfl (rr_1_3 _) dX7_survivorsOf_32 ?_
          refine G_iload dX7_survivorsOf_35 rfl ?_
          obtain ⟨b14, t6⟩ := gck_some t6
          refine G_iald sl_5 ss_5 (gin_in b14) dX7_survivorsOf_37 ?_
          refine G_iload_n dX7_survivorsOf_38 rfl rfl ?_
          refine G_icmp_le 46 dX7_survivorsOf_39 (by decide) (fun c15 => ?_) (fun c15 => ?_)
          · replace t6 := git c15 t6
            refine G_iconst (v := 0) dX7_survivorsOf_46 rfl ?_
            cases t6
            exact jn8
          · replace t6 := gif c15 t6
            refine G_iconst (v := 1) dX7_survivorsOf_42 rfl ?_
            refine G_goto 47 dX7_survivorsOf_43 (by decide) ?_
            cases t6
            exact jn8
set_option maxRecDepth 20000 in
theorem q_X7_survivorsOf {l : Launch} {I : gIt} {J : gJt} {w : Bool} {x1 : Int32} {x2 : Int32} {v : Int32} (h : p_X7_survivorsOf I x1 x2 = some v) : Cn l gX7_survivorsOf 4 0 0 [.ref 1, .int x1, .int x2] gS0 I J (gR0 w) (fun v' S' I' J' R' => v' = some (.int v) ∧ S' = gS0 ∧ I' = I ∧ J' = J ∧ R' = gR0 w) := by
  refine Cn.of [some (.ref 1), some (.int x1), some (.int x2), none, none, none] (by decide) rfl (Nat.le_of_ble_eq_true rfl) ?_
  rw [p_X7_survivorsOf] at h
  refine G_iconst (v := 0) dX7_survivorsOf_0 rfl ?_
  refine S_istore_n [some (.ref 1), some (.int x1), some (.int x2), some (.int (0 : Int32)), none, none] dX7_survivorsOf_1 rfl (by decide) rfl ?_
  refine G_iconst (v := 0) dX7_survivorsOf_2 rfl ?_
  refine S_istore [some (.ref 1), some (.int x1), some (.int x2), some (.int (0 : Int32)), some (.int (0 : Int32)), none] dX7_survivorsOf_3 (by decide) rfl ?_
  exact q_X7_survivorsOf_5   gFu _ _ h
def p_X7_addPaper (I : gIt) (x1 : Int32) (x2 : Int32) : Option gIt :=
  gB (p_X7_has I x1) fun r1 =>
  if r1 = 0 then
  some I
  else
  gck (gin x1 16) (
  gB (α := gIt) (
  if (I 7 (x1).toNatClampNeg) = (-1 : Int32) then
  gck (gin x1 16) (
  gL (gu2 I 7 (x1).toNatClampNeg x2) fun I17 =>
  some I17)
  else
  gck (gin x1 16) (
  if (I 7 (x1).toNatClampNeg) ≤ x2 then
  some I
  else
  gck (gin x1 16) (
  gL (gu2 I 7 (x1).toNatClampNeg x2) fun I21 =>
  some I21))) fun ph5 =>
  gck (gin x1 16) (
  gL ((gmax (ph5 8 (x1).toNatClampNeg) x2)) fun z10 =>
  gck (gin x1 16) (
  gL (gu2 ph5 8 (x1).toNatClampNeg z10) fun I12 =>
  gL (((I12 1 8) + (1 : Int32))) fun z13 =>
  gL (gu2 I12 1 8 z13) fun I14 =>
  some I14)))
set_option maxRecDepth 20000 in
theorem q_X7_addPaper {l : Launch} {I : gIt} {J : gJt} {w : Bool} {x1 : Int32} {x2 : Int32} {v : gIt} (h : p_X7_addPaper I x1 x2 = some v) : Cn l gX7_addPaper 3 0 0 [.ref 1, .int x1, .int x2] gS0 I J (gR0 w) (fun v' S' I' J' R' => v' = none ∧ S' = gS0 ∧ I' = v ∧ J' = J ∧ R' = gR0 w) := by
  refine Cn.of [some (.ref 1), some (.int x1), some (.int x2)] (by decide) rfl (Nat.le_of_ble_eq_true rfl) ?_
  rw [p_X7_addPaper] at h
  refine G_aload_n dX7_addPaper_0 rfl rfl ?_
  refine G_iload_n dX7_addPaper_1 rfl rfl ?_
  obtain ⟨r1, hr2, h⟩ := gB_some h
  refine G_cV (mj := gX7_has) (As := [.int x1]) (rest := []) ml_X7_37 vX7_has sl_1 sk_1 (by decide) rfl rfl rfl (Nat.le_of_ble_eq_true rfl) (by decide) (Nat.le_refl _) (Nat.le_refl _) dX7_addPaper_2 (q_X7_has hr2) ?_
  refine G_if_ne 9 dX7_addPaper_5 (by decide) (fun c3 => ?_) (fun c3 => ?_)
  · replace h := gif c3 h
    refine G_aload_n dX7_addPaper_9 rfl rfl ?_
    refine G_getR fl_X7_27 sl_1 sk_1 rfl (rr_1_5 _) dX7_addPaper_10 ?_
    refine G_iload_n dX7_addPaper_13 rfl rfl ?_
    obtain ⟨b4, h⟩ := gck_some h
    refine G_iald sl_7 ss_7 (gin_in b4) dX7_addPaper_14 ?_
    refine G_iconst (v := -1) dX7_addPaper_15 rfl ?_
    obtain ⟨ph5, t6, r7⟩ := gB_some h
    have jn8 : G l gX7_addPaper 3 0 0 (fun v' S' I' J' R' => v' = none ∧ S' = gS0 ∧ I' = v ∧ J' = J ∧ R' = gR0 w) 0 0 36 [some (.ref 1), some (.int x1), some (.int x2)] [] gS0 ph5 J (gR0 w) := by
      refine G_aload_n dX7_addPaper_36 rfl rfl ?_
      refine G_getR fl_X7_30 sl_1 sk_1 rfl (rr_1_6 _) dX7_addPaper_37 ?_
      refine G_iload_n dX7_addPaper_40 rfl rfl ?_
      refine G_aload_n dX7_addPaper_41 rfl rfl ?_
      refine G_getR fl_X7_30 sl_1 sk_1 rfl (rr_1_6 _) dX7_addPaper_42 ?_
      refine G_iload_n dX7_addPaper_45 rfl rfl ?_
      obtain ⟨b9, r7⟩ := gck_some r7
      refine G_iald sl_8 ss_8 (gin_in b9) dX7_addPaper_46 ?_
      refine G_iload_n dX7_addPaper_47 rfl rfl ?_
      refine G_mmax ml_X7_45 (by decide) (Nat.le_of_ble_eq_true rfl) (Nat.le_refl _) (Nat.le_refl _) dX7_addPaper_48 ?_
      refine G_nI fun z10 ez10 => ?_
      replace r7 := gL_some ez10 r7
      obtain ⟨b11, r7⟩ := gck_some r7
      refine G_iast sl_8 ss_8 (gin_in b11) dX7_addPaper_51 ?_
      refine G_mI fun I12 eI12 => ?_
      replace r7 := gL_some eI12 r7
      refine G_aload_n dX7_addPaper_52 rfl rfl ?_
      refine G_dup dX7_addPaper_53 rfl ?_
      refine G_getI fl_X7_51 sl_1 sk_1 rfl dX7_addPaper_54 ?_
      refine G_iconst (v := 1) dX7_addPaper_57 rfl ?_
      refine G_iadd dX7_addPaper_58 ?_
      refine G_nI fun z13 ez13 => ?_
      replace r7 := gL_some ez13 r7
      refine G_putI fl_X7_51 sl_1 sk_1 rfl rfl ⟨rfl, rfl⟩ dX7_addPaper_59 ?_
      refine G_mI fun I14 eI14 => ?_
      replace r7 := gL_some eI14 r7
      refine G_vret rfl (Nat.le_refl _) (Nat.le_refl _) dX7_addPaper_62 ?_
      cases r7
      exact ⟨rfl, rfl, rfl, rfl, rfl⟩
    refine G_icmp_eq 29 dX7_addPaper_16 (by decide) (fun c15 => ?_) (fun c15 => ?_)
    · replace t6 := git c15 t6
      refine G_aload_n dX7_addPaper_29 rfl rfl ?_
      refine G_getR fl_X7_27 sl_1 sk_1 rfl (rr_1_5 _) dX7_addPaper_30 ?_
      refine G_iload_n dX7_addPaper_33 rfl rfl ?_
      refine G_iload_n dX7_addPaper_34 rfl rfl ?_
      obtain ⟨b16, t6⟩ := gck_some t6
      refine G_iast sl_7 ss_7 (gin_in b16) dX7_addPaper_35 ?_
      refine G_mI fun I17 eI17 => ?_
      replace t6 := gL_some eI17 t6
      cases t6
      exact jn8
    · replace t6 := gif c15 t6
      refine G_iload_n dX7_addPaper_19 rfl rfl ?_
      refine G_aload_n dX7_addPaper_20 rfl rfl ?_
      refine G_getR fl_X7_27 sl_1 sk_1 rfl (rr_1_5 _) dX7_addPaper_21 ?_
      refine G_iload_n dX7_addPaper_24 rfl rfl ?_
      obtain ⟨b18, t6⟩ := gck_some t6
      refine G_iald sl_7 ss_7 (gin_in b18) dX7_addPaper_25 ?_
      refine G_icmp_ge 36 dX7_addPaper_26 (by decide) (fun c19 => ?_) (fun c19 => ?_)
      · replace t6 := git c19 t6
        cases t6
        exact jn8
      · replace t6 := gif c19 t6
        refine G_aload_n dX7_addPaper_29 rfl rfl ?_
        refine G_getR fl_X7_27 sl_1 sk_1 rfl (rr_1_5 _) dX7_addPaper_30 ?_
        refine G_iload_n dX7_addPaper_33 rfl rfl ?_
        refine G_iload_n dX7_addPaper_34 rfl rfl ?_
        obtain ⟨b20, t6⟩ := gck_some t6
        refine G_iast sl_7 ss_7 (gin_in b20) dX7_addPaper_35 ?_
        refine G_mI fun I21 eI21 => ?_
        replace t6 := gL_some eI21 t6
        cases t6
        exact jn8
  · replace h := git c3 h
    refine G_vret rfl (Nat.le_refl _) (Nat.le_refl _) dX7_addPaper_8 ?_
    cases h
    exact ⟨rfl, rfl, rfl, rfl, rfl⟩
def p_X7_isFalse (I : gIt) (x1 : Int32) : Option Int32 :=
  gB (p_X7_has I x1) fun r1 =>
  if r1 = 0 then
  some (0 : Int32)
  else
  gck (gin x1 16) (
  if (I 7 (x1).toNatClampNeg) = (-1 : Int32) then
  some (0 : Int32)
  else
  gck (gin x1 16) (
  gck (gin x1 16) (
  if (I 7 (x1).toNatClampNeg) < (I 2 (x1).toNatClampNeg) then
  some (1 : Int32)
  else
  gck (gin x1 16) (
  if (I 5 (x1).toNatClampNeg) = (-1 : Int32) then
  some (0 : Int32)
  else
  gck (gin x1 16) (
  gck (gin x1 16) (
  if (I 8 (x1).toNatClampNeg) ≤ (I 5 (x1).toNatClampNeg) then
  some (0 : Int32)
  else
  some (1 : Int32)))))))
set_option maxRecDepth 20000 in
theorem q_X7_isFalse {l : Launch} {I : gIt} {J : gJt} {w : Bool} {x1 : Int32} {v : Int32} (h : p_X7_isFalse I x1 = some v) : Cn l gX7_isFalse 3 0 0 [.ref 1, .int x1] gS0 I J (gR0 w) (fun v' S' I' J' R' => v' = some (.int v) ∧ S' = gS0 ∧ I' = I ∧ J' = J ∧ R' = gR0 w) := by
  refine Cn.of [some (.ref 1), some (.int x1)] (by decide) rfl (Nat.le_of_ble_eq_true rfl) ?_
  rw [p_X7_isFalse] at h
  refine G_aload_n dX7_isFalse_0 rfl rfl ?_
  refine G_iload_n dX7_isFalse_1 rfl rfl ?_
  obtain ⟨r1, hr2, h⟩ := gB_some h
  refine G_cV (mj := gX7_has) (As := [.int x1]) (rest := []) ml_X7_37 vX7_has sl_1 sk_1 (by decide) rfl rfl rfl (Nat.le_of_ble_eq_true rfl) (by decide) (Nat.le_refl _) (Nat.le_refl _) dX7_isFalse_2 (q_X7_has hr2) ?_
  refine G_if_eq 18 dX7_isFalse_5 (by decide) (fun c3 => ?_) (fun c3 => ?_)
  · replace h := git c3 h
    refine G_iconst (v := 0) dX7_isFalse_18 rfl ?_
    refine G_zret rfl (Or.inl rfl) (Nat.le_refl _) (Nat.le_refl _) dX7_isFalse_19 ?_
    cases h
    exact ⟨rfl, rfl, rfl, rfl, rfl⟩
  · replace h := gif c3 h
    refine G_aload_n dX7_isFalse_8 rfl rfl ?_
    refine G_getR fl_X7_27 sl_1 sk_1 rfl (rr_1_5 _) dX7_isFalse_9 ?_
    refine G_iload_n dX7_isFalse_12 rfl rfl ?_
    obtain ⟨b4, h⟩ := gck_some h
    refine G_iald sl_7 ss_7 (gin_in b4) dX7_isFalse_13 ?_
    refine G_iconst (v := -1) dX7_isFalse_14 rfl ?_
    refine G_icmp_ne 20 dX7_isFalse_15 (by decide) (fun c5 => ?_) (fun c5 => ?_)
    · replace h := gif c5 h
      refine G_aload_n dX7_isFalse_20 rfl rfl ?_
      refine G_getR fl_X7_27 sl_1 sk_1 rfl (rr_1_5 _) dX7_isFalse_21 ?_
      refine G_iload_n dX7_isFalse_24 rfl rfl ?_
      obtain ⟨b6, h⟩ := gck_some h
      refine G_iald sl_7 ss_7 (gin_in b6) dX7_isFalse_25 ?_
      refine G_aload_n dX7_isFalse_26 rfl rfl ?_
      refine G_getR fl_X7_9 sl_1 sk_1 rfl (rr_1_0 _) dX7_isFalse_27 ?_
      refine G_iload_n dX7_isFalse_30 rfl rfl ?_
      obtain ⟨b7, h⟩ := gck_some h
      refine G_iald sl_2 ss_2 (gin_in b7) dX7_isFalse_31 ?_
      refine G_icmp_lt 60 dX7_isFalse_32 (by decide) (fun c8 => ?_) (fun c8 => ?_)
      · replace h := git c8 h
        refine G_iconst (v := 1) dX7_isFalse_60 rfl ?_
        refine G_goto 65 dX7_isFalse_61 (by decide) ?_
        refine G_zret rfl (Or.inr rfl) (Nat.le_refl _) (Nat.le_refl _) dX7_isFalse_65 ?_
        cases h
        exact ⟨rfl, rfl, rfl, rfl, rfl⟩
      · replace h := gif c8 h
        refine G_aload_n dX7_isFalse_35 rfl rfl ?_
        refine G_getR fl_X7_21 sl_1 sk_1 rfl (rr_1_3 _) dX7_isFalse_36 ?_
        refine G_iload_n dX7_isFalse_39 rfl rfl ?_
        obtain ⟨b9, h⟩ := gck_some h
        refine G_iald sl_5 ss_5 (gin_in b9) dX7_isFalse_40 ?_
        refine G_iconst (v := -1) dX7_isFalse_41 rfl ?_
        refine G_icmp_eq 64 dX7_isFalse_42 (by decide) (fun c10 => ?_) (fun c10 => ?_)
        · replace h := git c10 h
          refine G_iconst (v := 0) dX7_isFalse_64 rfl ?_
          refine G_zret rfl (Or.inl rfl) (Nat.le_refl _) (Nat.le_refl _) dX7_isFalse_65 ?_
          cases h
          exact ⟨rfl, rfl, rfl, rfl, rfl⟩
        · replace h := gif c10 h
          refine G_aload_n dX7_isFalse_45 rfl rfl ?_
          refine G_getR fl_X7_30 sl_1 sk_1 rfl (rr_1_6 _) dX7_isFalse_46 ?_
          refine G_iload_n dX7_isFalse_49 rfl rfl ?_
          obtain ⟨b11, h⟩ := gck_some h
          refine G_iald sl_8 ss_8 (gin_in b11) dX7_isFalse_50 ?_
          refine G_aload_n dX7_isFalse_51 rfl rfl ?_
          refine G_getR fl_X7_21 sl_1 sk_1 rfl (rr_1_3 _) dX7_isFalse_52 ?_
          refine G_iload_n dX7_isFalse_55 rfl rfl ?_
          obtain ⟨b12, h⟩ := gck_some h
          refine G_iald sl_5 ss_5 (gin_in b12) dX7_isFalse_56 ?_
          refine G_icmp_le 64 dX7_isFalse_57 (by decide) (fun c13 => ?_) (fun c13 => ?_)
          · replace h := git c13 h
            refine G_iconst (v := 0) dX7_isFalse_64 rfl ?_
            refine G_zret rfl (Or.inl rfl) (Nat.le_refl _) (Nat.le_refl _) dX7_isFalse_65 ?_
            cases h
            exact ⟨rfl, rfl, rfl, rfl, rfl⟩
          · replace h := gif c13 h
            refine G_iconst (v := 1) dX7_isFalse_60 rfl ?_
            refine G_goto 65 dX7_isFalse_61 (by decide) ?_
            refine G_zret rfl (Or.inr rfl) (Nat.le_refl _) (Nat.le_refl _) dX7_isFalse_65 ?_
            cases h
            exact ⟨rfl, rfl, rfl, rfl, rfl⟩
    · replace h := git c5 h
      refine G_iconst (v := 0) dX7_isFalse_18 rfl ?_
      refine G_zret rfl (Or.inl rfl) (Nat.le_refl _) (Nat.le_refl _) dX7_isFalse_19 ?_
      cases h
      exact ⟨rfl, rfl, rfl, rfl, rfl⟩
def p_X8_add (I : gIt) (x1 : Int32) (x2 : Int32) (x3 : Int32) (x4 : Int32) : Option (Int32 × gIt) :=
  if (I 84 10) < 0 then
  some ((-1 : Int32), I)
  else
  if (I 84 10) < (40 : Int32) then
  gL ((I 84 10)) fun z3 =>
  gck (gin z3 40) (
  gL (gu2 I 85 (z3).toNatClampNeg x1) fun I5 =>
  gck (gin z3 40) (
  gL (gu2 I5 86 (z3).toNatClampNeg x2) fun I7 =>
  gck (gin z3 40) (
  gL (gu2 I7 88 (z3).toNatClampNeg x3) fun I9 =>
  gck (gin z3 40) (
  gL (gu2 I9 91 (z3).toNatClampNeg x4) fun I11 =>
  gck (gin z3 40) (
  gL (gu2 I11 92 (z3).toNatClampNeg (-1 : Int32)) fun I13 =>
  gck (gin z3 40) (
  gL (gu2 I13 93 (z3).toNatClampNeg (-1 : Int32)) fun I15 =>
  gck (gin z3 40) (
  gL (gu2 I15 94 (z3).toNatClampNeg (-1 : Int32)) fun I17 =>
  gL (((I17 84 10) + (1 : Int32))) fun z18 =>
  gL (gu2 I17 84 10 z18) fun I19 =>
  some (z3, I19))))))))
  else
  some ((-1 : Int32), I)
set_option maxRecDepth 20000 in
theorem q_X8_add {l : Launch} {I : gIt} {J : gJt} {w : Bool} {x1 : Int32} {x2 : Int32} {x3 : Int32} {x4 : Int32} {v : (Int32 × gIt)} (h : p_X8_add I x1 x2 x3 x4 = some v) : Cn l gX8_add 2 0 0 [.ref 84, .int x1, .int x2, .int x3, .int x4] gS0 I J (gR0 w) (fun v' S' I' J' R' => v' = some (.int v.1) ∧ S' = gS0 ∧ I' = v.2 ∧ J' = J ∧ R' = gR0 w) := by
  refine Cn.of [some (.ref 84), some (.int x1), some (.int x2), some (.int x3), some (.int x4), none] (by decide) rfl (Nat.le_of_ble_eq_true rfl) ?_
  rw [p_X8_add] at h
  refine G_aload_n dX8_add_0 rfl rfl ?_
  refine G_getI fl_X8_43 sl_84 sk_84 rfl dX8_add_1 ?_
  refine G_if_lt 16 dX8_add_4 (by decide) (fun c1 => ?_) (fun c1 => ?_)
  · replace h := git c1 h
    refine G_iconst (v := -1) dX8_add_16 rfl ?_
    refine G_iret rfl (Nat.le_refl _) (Nat.le_refl _) dX8_add_17 ?_
    cases h
    exact ⟨rfl, rfl, rfl, rfl, rfl⟩
  · replace h := gif c1 h
    refine G_aload_n dX8_add_7 rfl rfl ?_
    refine G_getI fl_X8_43 sl_84 sk_84 rfl dX8_add_8 ?_
    refine G_bipush (v := 40) dX8_add_11 rfl ?_
    refine G_icmp_lt 18 dX8_add_13 (by decide) (fun c2 => ?_) (fun c2 => ?_)
    · replace h := git c2 h
      refine G_aload_n dX8_add_18 rfl rfl ?_
      refine G_getI fl_X8_43 sl_84 sk_84 rfl dX8_add_19 ?_
      refine G_nI fun z3 ez3 => ?_
      replace h := gL_some ez3 h
      refine S_istore [some (.ref 84), some (.int x1), some (.int x2), some (.int x3), some (.int x4), some (.int z3)] dX8_add_22 (by decide) rfl ?_
      refine G_aload_n dX8_add_24 rfl rfl ?_
      refine G_getR fl_X8_9 sl_84 sk_84 rfl (rr_84_0 _) dX8_add_25 ?_
      refine G_iload dX8_add_28 rfl ?_
      refine G_iload_n dX8_add_30 rfl rfl ?_
      obtain ⟨b4, h⟩ := gck_some h
      refine G_iast sl_85 ss_85 (gin_in b4) dX8_add_31 ?_
      refine G_mI fun I5 eI5 => ?_
      replace h := gL_some eI5 h
      refine G_aload_n dX8_add_32 rfl rfl ?_
      refine G_getR fl_X8_15 sl_84 sk_84 rfl (rr_84_1 _) dX8_add_33 ?_
      refine G_iload dX8_add_36 rfl ?_
      refine G_iload_n dX8_add_38 rfl rfl ?_
      obtain ⟨b6, h⟩ := gck_some h
      refine G_iast sl_86 ss_86 (gin_in b6) dX8_add_39 ?_
      refine G_mI fun I7 eI7 => ?_
      replace h := gL_some eI7 h
      refine G_aload_n dX8_add_40 rfl rfl ?_
      refine G_getR fl_X8_21 sl_84 sk_84 rfl (rr_84_3 _) dX8_add_41 ?_
      refine G_iload dX8_add_44 rfl ?_
      refine G_iload_n dX8_add_46 rfl rfl ?_
      obtain ⟨b8, h⟩ := gck_some h
      refine G_iast sl_88 ss_88 (gin_in b8) dX8_add_47 ?_
      refine G_mI fun I9 eI9 => ?_
      replace h := gL_some eI9 h
      refine G_aload_n dX8_add_48 rfl rfl ?_
      refine G_getR fl_X8_31 sl_84 sk_84 rfl (rr_84_6 _) dX8_add_49 ?_
      refine G_iload dX8_add_52 rfl ?_
      refine G_iload dX8_add_54 rfl ?_
      obtain ⟨b10, h⟩ := gck_some h
      refine G_iast sl_91 ss_91 (gin_in b10) dX8_add_56 ?_
      refine G_mI fun I11 eI11 => ?_
      replace h := gL_some eI11 h
      refine G_aload_n dX8_add_57 rfl rfl ?_
      refine G_getR fl_X8_34 sl_84 sk_84 rfl (rr_84_7 _) dX8_add_58 ?_
      refine G_iload dX8_add_61 rfl ?_
      refine G_iconst (v := -1) dX8_add_63 rfl ?_
      obtain ⟨b12, h⟩ := gck_some h
      refine G_iast sl_92 ss_92 (gin_in b12) dX8_add_64 ?_
      refine G_mI fun I13 eI13 => ?_
      replace h := gL_some eI13 h
      refine G_aload_n dX8_add_65 rfl rfl ?_
      refine G_getR fl_X8_37 sl_84 sk_84 rfl (rr_84_8 _) dX8_add_66 ?_
      refine G_iload dX8_add_69 rfl ?_
      refine G_iconst (v := -1) dX8_add_71 rfl ?_
      obtain ⟨b14, h⟩ := gck_some h
      refine G_iast sl_93 ss_93 (gin_in b14) dX8_add_72 ?_
      refine G_mI fun I15 eI15 => ?_
      replace h := gL_some eI15 h
      refine G_aload_n dX8_add_73 rfl rfl ?_
      refine G_getR fl_X8_40 sl_84 sk_84 rfl (rr_84_9 _) dX8_add_74 ?_
      refine G_iload dX8_add_77 rfl ?_
      refine G_iconst (v := -1) dX8_add_79 rfl ?_
      obtain ⟨b16, h⟩ := gck_some h
      refine G_iast sl_94 ss_94 (gin_in b16) dX8_add_80 ?_
      refine G_mI fun I17 eI17 => ?_
      replace h := gL_some eI17 h
      refine G_aload_n dX8_add_81 rfl rfl ?_
      refine G_dup dX8_add_82 rfl ?_
      refine G_getI fl_X8_43 sl_84 sk_84 rfl dX8_add_83 ?_
      refine G_iconst (v := 1) dX8_add_86 rfl ?_
      refine G_iadd dX8_add_87 ?_
      refine G_nI fun z18 ez18 => ?_
      replace h := gL_some ez18 h
      refine G_putI fl_X8_43 sl_84 sk_84 rfl rfl ⟨rfl, rfl⟩ dX8_add_88 ?_
      refine G_mI fun I19 eI19 => ?_
      replace h := gL_some eI19 h
      refine G_iload dX8_add_91 rfl ?_
      refine G_iret rfl (Nat.le_refl _) (Nat.le_refl _) dX8_add_93 ?_
      cases h
      exact ⟨rfl, rfl, rfl, rfl, rfl⟩
    · replace h := gif c2 h
      refine G_iconst (v := -1) dX8_add_16 rfl ?_
      refine G_iret rfl (Nat.le_refl _) (Nat.le_refl _) dX8_add_17 ?_
      cases h
      exact ⟨rfl, rfl, rfl, rfl, rfl⟩
def p_X10_letter (I : gIt) : Option Int32 :=
  gB (p_X10_peek I) fun r1 =>
  gL ((r1 - (97 : Int32))) fun z3 =>
  if z3 < 0 then
  some (-1 : Int32)
  else
  if (16 : Int32) ≤ z3 then
  some (-1 : Int32)
  else
  some z3
set_option maxRecDepth 20000 in
theorem q_X10_letter {l : Launch} {I : gIt} {J : gJt} {w : Bool} {v : Int32} (h : p_X10_letter I = some v) : Cn l gX10_letter 3 0 0 [.ref 11] gS0 I J (gR0 w) (fun v' S' I' J' R' => v' = some (.int v) ∧ S' = gS0 ∧ I' = I ∧ J' = J ∧ R' = gR0 w) := by
  refine Cn.of [some (.ref 11), none] (by decide) rfl (Nat.le_of_ble_eq_true rfl) ?_
  rw [p_X10_letter] at h
  refine G_aload_n dX10_letter_0 rfl rfl ?_
  obtain ⟨r1, hr2, h⟩ := gB_some h
  refine G_cV (mj := gX10_peek) (As := []) (rest := []) ml_X10_28 vX10_peek sl_11 sk_11 (by decide) rfl rfl rfl (Nat.le_of_ble_eq_true rfl) (by decide) (Nat.le_refl _) (Nat.le_refl _) dX10_letter_1 (q_X10_peek hr2) ?_
  refine G_bipush (v := 97) dX10_letter_4 rfl ?_
  refine G_isub dX10_letter_6 ?_
  refine G_nI fun z3 ez3 => ?_
  replace h := gL_some ez3 h
  refine S_istore_n [some (.ref 11), some (.int z3)] dX10_letter_7 rfl (by decide) rfl ?_
  refine G_iload_n dX10_letter_8 rfl rfl ?_
  refine G_if_lt 22 dX10_letter_9 (by decide) (fun c4 => ?_) (fun c4 => ?_)
  · replace h := git c4 h
    refine G_iconst (v := -1) dX10_letter_22 rfl ?_
    refine G_iret rfl (Nat.le_refl _) (Nat.le_refl _) dX10_letter_23 ?_
    cases h
    exact ⟨rfl, rfl, rfl, rfl, rfl⟩
  · replace h := gif c4 h
    refine G_iload_n dX10_letter_12 rfl rfl ?_
    refine G_bipush (v := 16) dX10_letter_13 rfl ?_
    refine G_icmp_ge 22 dX10_letter_15 (by decide) (fun c5 => ?_) (fun c5 => ?_)
    · replace h := git c5 h
      refine G_iconst (v := -1) dX10_letter_22 rfl ?_
      refine G_iret rfl (Nat.le_refl _) (Nat.le_refl _) dX10_letter_23 ?_
      cases h
      exact ⟨rfl, rfl, rfl, rfl, rfl⟩
    · replace h := gif c5 h
      refine G_iload_n dX10_letter_18 rfl rfl ?_
      refine G_goto 23 dX10_letter_19 (by decide) ?_
      refine G_iret rfl (Nat.le_refl _) (Nat.le_refl _) dX10_letter_23 ?_
      cases h
      exact ⟨rfl, rfl, rfl, rfl, rfl⟩
def p_X10_append_3 (x1 : Int32) : Nat → gIt → Int32 → Option gIt
  | 0, _, _ => none
  | n + 1, I, x2 =>
    if x2 < 0 then
    some I
    else
    if (100 : Int32) ≤ (I 11 1) then
    some I
    else
    gL (((gushr x1 x2) &&& (255 : Int32))) fun z3 =>
    gck (gin (I 11 1) 100) (
    gL (gu2 I 12 ((I 11 1)).toNatClampNeg z3) fun I5 =>
    gL (((I5 11 1) + (1 : Int32))) fun z6 =>
    gL (gu2 I5 11 1 z6) fun I7 =>
    p_X10_append_3 x1 n I7 (x2 + (-8 : Int32)))
def p_X10_append (I : gIt) (x1 : Int32) : Option gIt :=
  p_X10_append_3 x1 gFu I (24 : Int32)
set_option maxRecDepth 20000 in
theorem q_X10_append_3 {l : Launch} {v : gIt} {J : gJt} {w : Bool} {x1 : Int32} : ∀ (n : Nat) (I : gIt) (x2 : Int32), p_X10_append_3 x1 n I x2 = some v → G l gX10_append 2 0 0 (fun v' S' I' J' R' => v' = none ∧ S' = gS0 ∧ I' = v ∧ J' = J ∧ R' = gR0 w) 0 0 3 [some (.ref 11), some (.int x1), some (.int x2)] [] gS0 I J (gR0 w) := by
  intro n
  induction n with
  | zero => intro _ _ h; cases h
  | succ n ih =>
    intro I x2 h
    rw [p_X10_append_3] at h
    refine G_iload_n dX10_append_3 rfl rfl ?_
    refine G_if_lt 48 dX10_append_4 (by decide) (fun c1 => ?_) (fun c1 => ?_)
    · replace h := git c1 h
      refine G_vret rfl (Nat.le_refl _) (Nat.le_refl _) dX10_append_48 ?_
      cases h
      exact ⟨rfl, rfl, rfl, rfl, rfl⟩
    · replace h := gif c1 h
      refine G_aload_n dX10_append_7 rfl rfl ?_
      refine G_getI fl_X10_15 sl_11 sk_11 rfl dX10_append_8 ?_
      refine G_bipush (v := 100) dX10_append_11 rfl ?_
      refine G_icmp_ge 48 dX10_append_13 (by decide) (fun c2 => ?_) (fun c2 => ?_)
      · replace h := git c2 h
        refine G_vret rfl (Nat.le_refl _) (Nat.le_refl _) dX10_append_48 ?_
        cases h
        exact ⟨rfl, rfl, rfl, rfl, rfl⟩
      · replace h := gif c2 h
        refine G_aload_n dX10_append_16 rfl rfl ?_
        refine G_getR fl_X10_9 sl_11 sk_11 rfl (rr_11_0 _) dX10_append_17 ?_
        refine G_aload_n dX10_append_20 rfl rfl ?_
        refine G_getI fl_X10_15 sl_11 sk_11 rfl dX10_append_21 ?_
        refine G_iload_n dX10_append_24 rfl rfl ?_
        refine G_iload_n dX10_append_25 rfl rfl ?_
        refine G_ushr dX10_append_26 ?_
        refine G_sipush (v := 255) dX10_append_27 rfl ?_
        refine G_iand dX10_append_30 ?_
        refine G_nI fun z3 ez3 => ?_
        replace h := gL_some ez3 h
        obtain ⟨b4, h⟩ := gck_some h
        refine G_iast sl_12 ss_12 (gin_in b4) dX10_append_31 ?_
        refine G_mI fun I5 eI5 => ?_
        replace h := gL_some eI5 h
        refine G_aload_n dX10_append_32 rfl rfl ?_
        refine G_dup dX10_append_33 rfl ?_
        refine G_getI fl_X10_15 sl_11 sk_11 rfl dX10_append_34 ?_
        refine G_iconst (v := 1) dX10_append_37 rfl ?_
        refine G_iadd dX10_append_38 ?_
        refine G_nI fun z6 ez6 => ?_
        replace h := gL_some ez6 h
        refine G_putI fl_X10_15 sl_11 sk_11 rfl rfl ⟨rfl, rfl⟩ dX10_append_39 ?_
        refine G_mI fun I7 eI7 => ?_
        replace h := gL_some eI7 h
        refine S_iinc (v := (-8 : Int32)) [some (.ref 11), some (.int x1), some (.int (x2 + (-8 : Int32)))] dX10_append_42 rfl rfl (by decide) rfl ?_
        refine G_goto 3 dX10_append_45 (by decide) ?_
        exact ih _ _ h
set_option maxRecDepth 20000 in
theorem q_X10_append {l : Launch} {I : gIt} {J : gJt} {w : Bool} {x1 : Int32} {v : gIt} (h : p_X10_append I x1 = some v) : Cn l gX10_append 2 0 0 [.ref 11, .int x1] gS0 I J (gR0 w) (fun v' S' I' J' R' => v' = none ∧ S' = gS0 ∧ I' = v ∧ J' = J ∧ R' = gR0 w) := by
  refine Cn.of [some (.ref 11), some (.int x1), none] (by decide) rfl (Nat.le_of_ble_eq_true rfl) ?_
  rw [p_X10_append] at h
  refine G_bipush (v := 24) dX10_append_0 rfl ?_
  refine S_istore_n [some (.ref 11), some (.int x1), some (.int (24 : Int32))] dX10_append_2 rfl (by decide) rfl ?_
  exact q_X10_append_3   gFu _ _ h
def p_X10_open (I : gIt) (x1 : Int32) : Option gIt :=
  gL (gu2 I 11 2 x1) fun I1 =>
  gL (gu2 I1 11 3 (0 : Int32)) fun I2 =>
  gL (gu2 I2 11 4 (0 : Int32)) fun I3 =>
  some I3
set_option maxRecDepth 20000 in
theorem q_X10_open {l : Launch} {I : gIt} {J : gJt} {w : Bool} {x1 : Int32} {v : gIt} (h : p_X10_open I x1 = some v) : Cn l gX10_open 2 0 0 [.ref 11, .int x1] gS0 I J (gR0 w) (fun v' S' I' J' R' => v' = none ∧ S' = gS0 ∧ I' = v ∧ J' = J ∧ R' = gR0 w) := by
  refine Cn.of [some (.ref 11), some (.int x1)] (by decide) rfl (Nat.le_of_ble_eq_true rfl) ?_
  rw [p_X10_open] at h
  refine G_aload_n dX10_open_0 rfl rfl ?_
  refine G_iload_n dX10_open_1 rfl rfl ?_
  refine G_putI fl_X10_19 sl_11 sk_11 rfl rfl ⟨rfl, rfl⟩ dX10_open_2 ?_
  refine G_mI fun I1 eI1 => ?_
  replace h := gL_some eI1 h
  refine G_aload_n dX10_open_5 rfl rfl ?_
  refine G_iconst (v := 0) dX10_open_6 rfl ?_
  refine G_putI fl_X10_22 sl_11 sk_11 rfl rfl ⟨rfl, rfl⟩ dX10_open_7 ?_
  refine G_mI fun I2 eI2 => ?_
  replace h := gL_some eI2 h
  refine G_aload_n dX10_open_10 rfl rfl ?_
  refine G_iconst (v := 0) dX10_open_11 rfl ?_
  refine G_putI fl_X10_25 sl_11 sk_11 rfl rfl ⟨rfl, rfl⟩ dX10_open_12 ?_
  refine G_mI fun I3 eI3 => ?_
  replace h := gL_some eI3 h
  refine G_vret rfl (Nat.le_refl _) (Nat.le_refl _) dX10_open_15 ?_
  cases h
  exact ⟨rfl, rfl, rfl, rfl, rfl⟩
