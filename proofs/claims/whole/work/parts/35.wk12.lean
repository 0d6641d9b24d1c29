/-! ===== pure programs and their walks ===== -/
def p_X12_lies (y0 : Int64) (y2 : Int64) (y4 : Int64) : Option Int32 :=
  if (lg_cmp y0 y2) < 0 then
  some (0 : Int32)
  else
  if 0 < (lg_cmp y0 y4) then
  some (0 : Int32)
  else
  some (1 : Int32)
set_option maxRecDepth 20000 in
theorem q_X12_lies {l : Launch} {I : gIt} {J : gJt} {w : Bool} {y0 : Int64} {y2 : Int64} {y4 : Int64} {v : Int32} (h : p_X12_lies y0 y2 y4 = some v) : Cn l gX12_lies 2 0 0 [.long y0, .long y2, .long y4] gS0 I J (gR0 w) (fun v' S' I' J' R' => v' = some (.int v) ∧ S' = gS0 ∧ I' = I ∧ J' = J ∧ R' = gR0 w) := by
  refine Cn.of [some (.long y0), none, some (.long y2), none, some (.long y4), none] (by decide) rfl (Nat.le_of_ble_eq_true rfl) ?_
  rw [p_X12_lies] at h
  refine G_lload_n dX12_lies_0 rfl rfl ?_
  refine G_lload_n dX12_lies_1 rfl rfl ?_
  refine G_lcmp dX12_lies_2 ?_
  refine G_if_lt 17 dX12_lies_3 (by decide) (fun c1 => ?_) (fun c1 => ?_)
  · replace h := git c1 h
    refine G_iconst (v := 0) dX12_lies_17 rfl ?_
    refine G_zret rfl (Or.inl rfl) (Nat.le_refl _) (Nat.le_refl _) dX12_lies_18 ?_
    cases h
    exact ⟨rfl, rfl, rfl, rfl, rfl⟩
  · replace h := gif c1 h
    refine G_lload_n dX12_lies_6 rfl rfl ?_
    refine G_lload dX12_lies_7 rfl ?_
    refine G_lcmp dX12_lies_9 ?_
    refine G_if_gt 17 dX12_lies_10 (by decide) (fun c2 => ?_) (fun c2 => ?_)
    · replace h := git c2 h
      refine G_iconst (v := 0) dX12_lies_17 rfl ?_
      refine G_zret rfl (Or.inl rfl) (Nat.le_refl _) (Nat.le_refl _) dX12_lies_18 ?_
      cases h
      exact ⟨rfl, rfl, rfl, rfl, rfl⟩
    · replace h := gif c2 h
      refine G_iconst (v := 1) dX12_lies_13 rfl ?_
      refine G_goto 18 dX12_lies_14 (by decide) ?_
      refine G_zret rfl (Or.inr rfl) (Nat.le_refl _) (Nat.le_refl _) dX12_lies_18 ?_
      cases h
      exact ⟨rfl, rfl, rfl, rfl, rfl⟩
def p_X12_has (x0 : Int32) (x1 : Int32) : Option Int32 :=
  if ((gshr x0 x1) &&& (1 : Int32)) = (1 : Int32) then
  some (1 : Int32)
  else
  some (0 : Int32)
set_option maxRecDepth 20000 in
theorem q_X12_has {l : Launch} {I : gIt} {J : gJt} {w : Bool} {x0 : Int32} {x1 : Int32} {v : Int32} (h : p_X12_has x0 x1 = some v) : Cn l gX12_has 2 0 0 [.int x0, .int x1] gS0 I J (gR0 w) (fun v' S' I' J' R' => v' = some (.int v) ∧ S' = gS0 ∧ I' = I ∧ J' = J ∧ R' = gR0 w) := by
  refine Cn.of [some (.int x0), some (.int x1)] (by decide) rfl (Nat.le_of_ble_eq_true rfl) ?_
  rw [p_X12_has] at h
  refine G_iload_n dX12_has_0 rfl rfl ?_
  refine G_iload_n dX12_has_1 rfl rfl ?_
  refine G_shr dX12_has_2 ?_
  refine G_iconst (v := 1) dX12_has_3 rfl ?_
  refine G_iand dX12_has_4 ?_
  refine G_iconst (v := 1) dX12_has_5 rfl ?_
  refine G_icmp_ne 13 dX12_has_6 (by decide) (fun c1 => ?_) (fun c1 => ?_)
  · replace h := gif c1 h
    refine G_iconst (v := 0) dX12_has_13 rfl ?_
    refine G_zret rfl (Or.inl rfl) (Nat.le_refl _) (Nat.le_refl _) dX12_has_14 ?_
    cases h
    exact ⟨rfl, rfl, rfl, rfl, rfl⟩
  · replace h := git c1 h
    refine G_iconst (v := 1) dX12_has_9 rfl ?_
    refine G_goto 14 dX12_has_10 (by decide) ?_
    refine G_zret rfl (Or.inr rfl) (Nat.le_refl _) (Nat.le_refl _) dX12_has_14 ?_
    cases h
    exact ⟨rfl, rfl, rfl, rfl, rfl⟩
def p_X12_isYear (x0 : Int32) : Option Int32 :=
  gB (p_X12_lies (Int32.toInt64 x0) (1700 : Int64) (1999 : Int64)) fun r1 =>
  gck (gbo r1) (
  some r1)
set_option maxRecDepth 20000 in
theorem q_X12_isYear {l : Launch} {I : gIt} {J : gJt} {w : Bool} {x0 : Int32} {v : Int32} (h : p_X12_isYear x0 = some v) : Cn l gX12_isYear 3 0 0 [.int x0] gS0 I J (gR0 w) (fun v' S' I' J' R' => v' = some (.int v) ∧ S' = gS0 ∧ I' = I ∧ J' = J ∧ R' = gR0 w) := by
  refine Cn.of [some (.int x0)] (by decide) rfl (Nat.le_of_ble_eq_true rfl) ?_
  rw [p_X12_isYear] at h
  refine G_iload_n dX12_isYear_0 rfl rfl ?_
  refine G_i2l dX12_isYear_1 ?_
  refine G_ldc2 dX12_isYear_2 kc_X12_152 ?_
  refine G_ldc2 dX12_isYear_5 kc_X12_154 ?_
  obtain ⟨r1, hr2, h⟩ := gB_some h
  refine G_cS (mj := gX12_lies) (As := [.long (Int32.toInt64 x0), .long (1700 : Int64), .long (1999 : Int64)]) (rest := []) ml_X12_156 vX12_lies rfl rfl (Nat.le_of_ble_eq_true rfl) (by decide) (Nat.le_refl _) (Nat.le_refl _) dX12_isYear_8 (q_X12_lies hr2) ?_
  obtain ⟨b3, h⟩ := gck_some h
  refine G_zret rfl (gbo_or b3) (Nat.le_refl _) (Nat.le_refl _) dX12_isYear_11 ?_
  cases h
  exact ⟨rfl, rfl, rfl, rfl, rfl⟩
def p_X12_now (I : gIt) (x1 : Int32) : Option (Int32 × gIt) :=
  gB (p_X12_lies (Int32.toInt64 x1) (Int32.toInt64 (I 149 2)) (1999 : Int64)) fun r1 =>
  if r1 = 0 then
  some ((0 : Int32), I)
  else
  gL (gu2 I 149 2 x1) fun I4 =>
  some ((1 : Int32), I4)
set_option maxRecDepth 20000 in
theorem q_X12_now {l : Launch} {I : gIt} {J : gJt} {w : Bool} {x1 : Int32} {v : (Int32 × gIt)} (h : p_X12_now I x1 = some v) : Cn l gX12_now 3 0 0 [.ref 149, .int x1] gS0 I J (gR0 w) (fun v' S' I' J' R' => v' = some (.int v.1) ∧ S' = gS0 ∧ I' = v.2 ∧ J' = J ∧ R' = gR0 w) := by
  refine Cn.of [some (.ref 149), some (.int x1)] (by decide) rfl (Nat.le_of_ble_eq_true rfl) ?_
  rw [p_X12_now] at h
  refine G_iload_n dX12_now_0 rfl rfl ?_
  refine G_i2l dX12_now_1 ?_
  refine G_aload_n dX12_now_2 rfl rfl ?_
  refine G_getI fl_X12_13 sl_149 sk_149 rfl dX12_now_3 ?_
  refine G_i2l dX12_now_6 ?_
  refine G_ldc2 dX12_now_7 kc_X12_154 ?_
  obtain ⟨r1, hr2, h⟩ := gB_some h
  refine G_cS (mj := gX12_lies) (As := [.long (Int32.toInt64 x1), .long (Int32.toInt64 (I 149 2)), .long (1999 : Int64)]) (rest := []) ml_X12_156 vX12_lies rfl rfl (Nat.le_of_ble_eq_true rfl) (by decide) (Nat.le_refl _) (Nat.le_refl _) dX12_now_10 (q_X12_lies hr2) ?_
  refine G_if_ne 18 dX12_now_13 (by decide) (fun c3 => ?_) (fun c3 => ?_)
  · replace h := gif c3 h
    refine G_aload_n dX12_now_18 rfl rfl ?_
    refine G_iload_n dX12_now_19 rfl rfl ?_
    refine G_putI fl_X12_13 sl_149 sk_149 rfl rfl ⟨rfl, rfl⟩ dX12_now_20 ?_
    refine G_mI fun I4 eI4 => ?_
    replace h := gL_some eI4 h
    refine G_iconst (v := 1) dX12_now_23 rfl ?_
    refine G_zret rfl (Or.inr rfl) (Nat.le_refl _) (Nat.le_refl _) dX12_now_24 ?_
    cases h
    exact ⟨rfl, rfl, rfl, rfl, rfl⟩
  · replace h := git c3 h
    refine G_iconst (v := 0) dX12_now_16 rfl ?_
    refine G_zret rfl (Or.inl rfl) (Nat.le_refl _) (Nat.le_refl _) dX12_now_17 ?_
    cases h
    exact ⟨rfl, rfl, rfl, rfl, rfl⟩
def p_X12_isPerson (I : gIt) (x1 : Int32) : Option Int32 :=
  gB (p_X12_lies (Int32.toInt64 x1) (0 : Int64) (Int32.toInt64 ((I 149 3) - (1 : Int32)))) fun r1 =>
  gck (gbo r1) (
  some r1)
set_option maxRecDepth 20000 in
theorem q_X12_isPerson {l : Launch} {I : gIt} {J : gJt} {w : Bool} {x1 : Int32} {v : Int32} (h : p_X12_isPerson I x1 = some v) : Cn l gX12_isPerson 3 0 0 [.ref 149, .int x1] gS0 I J (gR0 w) (fun v' S' I' J' R' => v' = some (.int v) ∧ S' = gS0 ∧ I' = I ∧ J' = J ∧ R' = gR0 w) := by
  refine Cn.of [some (.ref 149), some (.int x1)] (by decide) rfl (Nat.le_of_ble_eq_true rfl) ?_
  rw [p_X12_isPerson] at h
  refine G_iload_n dX12_isPerson_0 rfl rfl ?_
  refine G_i2l dX12_isPerson_1 ?_
  refine G_lconst (v := 0) dX12_isPerson_2 rfl ?_
  refine G_aload_n dX12_isPerson_3 rfl rfl ?_
  refine G_getI fl_X12_160 sl_149 sk_149 rfl dX12_isPerson_4 ?_
  refine G_iconst (v := 1) dX12_isPerson_7 rfl ?_
  refine G_isub dX12_isPerson_8 ?_
  refine G_i2l dX12_isPerson_9 ?_
  obtain ⟨r1, hr2, h⟩ := gB_some h
  refine G_cS (mj := gX12_lies) (As := [.long (Int32.toInt64 x1), .long (0 : Int64), .long (Int32.toInt64 ((I 149 3) - (1 : Int32)))]) (rest := []) ml_X12_156 vX12_lies rfl rfl (Nat.le_of_ble_eq_true rfl) (by decide) (Nat.le_refl _) (Nat.le_refl _) dX12_isPerson_10 (q_X12_lies hr2) ?_
  obtain ⟨b3, h⟩ := gck_some h
  refine G_zret rfl (gbo_or b3) (Nat.le_refl _) (Nat.le_refl _) dX12_isPerson_13 ?_
  cases h
  exact ⟨rfl, rfl, rfl, rfl, rfl⟩
def p_X12_person (I : gIt) (x1 : Int32) (x2 : Int32) : Option (Int32 × gIt) :=
  if (I 149 3) = (16 : Int32) then
  some ((-1 : Int32), I)
  else
  gB (p_X12_lies (Int32.toInt64 x1) (1600 : Int64) (Int32.toInt64 (I 149 2))) fun r2 =>
  if r2 = 0 then
  some ((-1 : Int32), I)
  else
  if x2 = (-1 : Int32) then
  gck (gin (I 149 3) 16) (
  gL (gu2 I 151 ((I 149 3)).toNatClampNeg x1) fun I7 =>
  gck (gin (I7 149 3) 16) (
  gL (gu2 I7 152 ((I7 149 3)).toNatClampNeg x2) fun I9 =>
  gL ((I9 149 2)) fun z10 =>
  gck (gin (I9 149 3) 16) (
  gL (gu2 I9 153 ((I9 149 3)).toNatClampNeg z10) fun I12 =>
  gck (gin (I12 149 3) 16) (
  gL (gu2 I12 154 ((I12 149 3)).toNatClampNeg (-1 : Int32)) fun I14 =>
  gL (((I14 149 3) + (1 : Int32))) fun z15 =>
  gL (gu2 I14 149 3 z15) fun I16 =>
  some (((I16 149 3) - (1 : Int32)), I16)))))
  else
  gB (p_X12_isPerson I x2) fun r17 =>
  if r17 = 0 then
  some ((-1 : Int32), I)
  else
  gck (gin x2 16) (
  if (I 151 (x2).toNatClampNeg) ≤ x1 then
  gck (gin (I 149 3) 16) (
  gL (gu2 I 151 ((I 149 3)).toNatClampNeg x1) fun I23 =>
  gck (gin (I23 149 3) 16) (
  gL (gu2 I23 152 ((I23 149 3)).toNatClampNeg x2) fun I25 =>
  gL ((I25 149 2)) fun z26 =>
  gck (gin (I25 149 3) 16) (
  gL (gu2 I25 153 ((I25 149 3)).toNatClampNeg z26) fun I28 =>
  gck (gin (I28 149 3) 16) (
  gL (gu2 I28 154 ((I28 149 3)).toNatClampNeg (-1 : Int32)) fun I30 =>
  gL (((I30 149 3) + (1 : Int32))) fun z31 =>
  gL (gu2 I30 149 3 z31) fun I32 =>
  some (((I32 149 3) - (1 : Int32)), I32)))))
  else
  some ((-1 : Int32), I))
set_option maxRecDepth 20000 in
theorem q_X12_person {l : Launch} {I : gIt} {J : gJt} {w : Bool} {x1 : Int32} {x2 : Int32} {v : (Int32 × gIt)} (h : p_X12_person I x1 x2 = some v) : Cn l gX12_person 4 0 0 [.ref 149, .int x1, .int x2] gS0 I J (gR0 w) (fun v' S' I' J' R' => v' = some (.int v.1) ∧ S' = gS0 ∧ I' = v.2 ∧ J' = J ∧ R' = gR0 w) := by
  refine Cn.of [some (.ref 149), some (.int x1), some (.int x2)] (by decide) rfl (Nat.le_of_ble_eq_true rfl) ?_
  rw [p_X12_person] at h
  refine G_aload_n dX12_person_0 rfl rfl ?_
  refine G_getI fl_X12_160 sl_149 sk_149 rfl dX12_person_1 ?_
  refine G_bipush (v := 16) dX12_person_4 rfl ?_
  refine G_icmp_eq 48 dX12_person_6 (by decide) (fun c1 => ?_) (fun c1 => ?_)
  · replace h := git c1 h
    refine G_iconst (v := -1) dX12_person_48 rfl ?_
    refine G_iret rfl (Nat.le_refl _) (Nat.le_refl _) dX12_person_49 ?_
    cases h
    exact ⟨rfl, rfl, rfl, rfl, rfl⟩
  · replace h := gif c1 h
    refine G_iload_n dX12_person_9 rfl rfl ?_
    refine G_i2l dX12_person_10 ?_
    refine G_ldc2 dX12_person_11 kc_X12_163 ?_
    refine G_aload_n dX12_person_14 rfl rfl ?_
    refine G_getI fl_X12_13 sl_149 sk_149 rfl dX12_person_15 ?_
    refine G_i2l dX12_person_18 ?_
    obtain ⟨r2, hr3, h⟩ := gB_some h
    refine G_cS (mj := gX12_lies) (As := [.long (Int32.toInt64 x1), .long (1600 : Int64), .long (Int32.toInt64 (I 149 2))]) (rest := []) ml_X12_156 vX12_lies rfl rfl (Nat.le_of_ble_eq_true rfl) (by decide) (Nat.le_refl _) (Nat.le_refl _) dX12_person_19 (q_X12_lies hr3) ?_
    refine G_if_eq 48 dX12_person_22 (by decide) (fun c4 => ?_) (fun c4 => ?_)
    · replace h := git c4 h
      refine G_iconst (v := -1) dX12_person_48 rfl ?_
      refine G_iret rfl (Nat.le_refl _) (Nat.le_refl _) dX12_person_49 ?_
      cases h
      exact ⟨rfl, rfl, rfl, rfl, rfl⟩
    · replace h := gif c4 h
      refine G_iload_n dX12_person_25 rfl rfl ?_
      refine G_iconst (v := -1) dX12_person_26 rfl ?_
      refine G_icmp_eq 50 dX12_person_27 (by decide) (fun c5 => ?_) (fun c5 => ?_)
      · replace h := git c5 h
        refine G_aload_n dX12_person_50 rfl rfl ?_
        refine G_getR fl_X12_20 sl_149 sk_149 rfl (rr_149_10 _) dX12_person_51 ?_
        refine G_aload_n dX12_person_54 rfl rfl ?_
        refine G_getI fl_X12_160 sl_149 sk_149 rfl dX12_person_55 ?_
        refine G_iload_n dX12_person_58 rfl rfl ?_
        obtain ⟨b6, h⟩ := gck_some h
        refine G_iast sl_151 ss_151 (gin_in b6) dX12_person_59 ?_
        refine G_mI fun I7 eI7 => ?_
        replace h := gL_some eI7 h
        refine G_aload_n dX12_person_60 rfl rfl ?_
        refine G_getR fl_X12_24 sl_149 sk_149 rfl (rr_149_11 _) dX12_person_61 ?_
        refine G_aload_n dX12_person_64 rfl rfl ?_
        refine G_getI fl_X12_160 sl_149 sk_149 rfl dX12_person_65 ?_
        refine G_iload_n dX12_person_68 rfl rfl ?_
        obtain ⟨b8, h⟩ := gck_some h
        refine G_iast sl_152 ss_152 (gin_in b8) dX12_person_69 ?_
        refine G_mI fun I9 eI9 => ?_
        replace h := gL_some eI9 h
        refine G_aload_n dX12_person_70 rfl rfl ?_
        refine G_getR fl_X12_27 sl_149 sk_149 rfl (rr_149_12 _) dX12_person_71 ?_
        refine G_aload_n dX12_person_74 rfl rfl ?_
        refine G_getI fl_X12_160 sl_149 sk_149 rfl dX12_person_75 ?_
        refine G_aload_n dX12_person_78 rfl rfl ?_
        refine G_getI fl_X12_13 sl_149 sk_149 rfl dX12_person_79 ?_
        refine G_nI fun z10 ez10 => ?_
        replace h := gL_some ez10 h
        obtain ⟨b11, h⟩ := gck_some h
        refine G_iast sl_153 ss_153 (gin_in b11) dX12_person_82 ?_
        refine G_mI fun I12 eI12 => ?_
        replace h := gL_some eI12 h
        refine G_aload_n dX12_person_83 rfl rfl ?_
        refine G_getR fl_X12_30 sl_149 sk_149 rfl (rr_149_13 _) dX12_person_84 ?_
        refine G_aload_n dX12_person_87 rfl rfl ?_
        refine G_getI fl_X12_160 sl_149 sk_149 rfl dX12_person_88 ?_
        refine G_iconst (v := -1) dX12_person_91 rfl ?_
        obtain ⟨b13, h⟩ := gck_some h
        refine G_iast sl_154 ss_154 (gin_in b13) dX12_person_92 ?_
        refine G_mI fun I14 eI14 => ?_
        replace h := gL_some eI14 h
        refine G_aload_n dX12_person_93 rfl rfl ?_
        refine G_dup dX12_person_94 rfl ?_
        refine G_getI fl_X12_160 sl_149 sk_149 rfl dX12_person_95 ?_
        refine G_iconst (v := 1) dX12_person_98 rfl ?_
        refine G_iadd dX12_person_99 ?_
        refine G_nI fun z15 ez15 => ?_
        replace h := gL_some ez15 h
        refine G_putI fl_X12_160 sl_149 sk_149 rfl rfl ⟨rfl, rfl⟩ dX12_person_100 ?_
        refine G_mI fun I16 eI16 => ?_
        replace h := gL_some eI16 h
        refine G_aload_n dX12_person_103 rfl rfl ?_
        refine G_getI fl_X12_160 sl_149 sk_149 rfl dX12_person_104 ?_
        refine G_iconst (v := 1) dX12_person_107 rfl ?_
        refine G_isub dX12_person_108 ?_
        refine G_iret rfl (Nat.le_refl _) (Nat.le_refl _) dX12_person_109 ?_
        cases h
        exact ⟨rfl, rfl, rfl, rfl, rfl⟩
      · replace h := gif c5 h
        refine G_aload_n dX12_person_30 rfl rfl ?_
        refine G_iload_n dX12_person_31 rfl rfl ?_
        obtain ⟨r17, hr18, h⟩ := gB_some h
        refine G_cV (mj := gX12_isPerson) (As := [.int x2]) (rest := []) ml_X12_165 vX12_isPerson sl_149 sk_149 (by decide) rfl rfl rfl (Nat.le_of_ble_eq_true rfl) (by decide) (Nat.le_refl _) (Nat.le_refl _) dX12_person_32 (q_X12_isPerson hr18) ?_
        refine G_if_eq 48 dX12_person_35 (by decide) (fun c19 => ?_) (fun c19 => ?_)
        · replace h := git c19 h
          refine G_iconst (v := -1) dX12_person_48 rfl ?_
          refine G_iret rfl (Nat.le_refl _) (Nat.le_refl _) dX12_person_49 ?_
          cases h
          exact ⟨rfl, rfl, rfl, rfl, rfl⟩
        · replace h := gif c19 h
          refine G_iload_n dX12_person_38 rfl rfl ?_
          refine G_aload_n dX12_person_39 rfl rfl ?_
          refine G_getR fl_X12_20 sl_149 sk_149 rfl (rr_149_10 _) dX12_person_40 ?_
          refine G_iload_n dX12_person_43 rfl rfl ?_
          obtain ⟨b20, h⟩ := gck_some h
          refine G_iald sl_151 ss_151 (gin_in b20) dX12_person_44 ?_
          refine G_icmp_ge 50 dX12_person_45 (by decide) (fun c21 => ?_) (fun c21 => ?_)
          · replace h := git c21 h
            refine G_aload_n dX12_person_50 rfl rfl ?_
            refine G_getR fl_X12_20 sl_149 sk_149 rfl (rr_149_10 _) dX12_person_51 ?_
            refine G_aload_n dX12_person_54 rfl rfl ?_
            refine G_getI fl_X12_160 sl_149 sk_149 rfl dX12_person_55 ?_
            refine G_iload_n dX12_person_58 rfl rfl ?_
            obtain ⟨b22, h⟩ := gck_some h
            refine G_iast sl_151 ss_151 (gin_in b22) dX12_person_59 ?_
            refine G_mI fun I23 eI23 => ?_
            replace h := gL_some eI23 h
            refine G_aload_n dX12_person_60 rfl rfl ?_
            refine G_getR fl_X12_24 sl_149 sk_149 rfl (rr_149_11 _) dX12_person_61 ?_
            refine G_aload_n dX12_person_64 rfl rfl ?_
            refine G_getI fl_X12_160 sl_149 sk_149 rfl dX12_person_65 ?_
            refine G_iload_n dX12_person_68 rfl rfl ?_
            obtain ⟨b24, h⟩ := gck_some h
            refine G_iast sl_152 ss_152 (gin_in b24) dX12_person_69 ?_
            refine G_mI fun I25 eI25 => ?_
            replace h := gL_some eI25 h
            refine G_aload_n dX12_person_70 rfl rfl ?_
            refine G_getR fl_X12_27 sl_149 sk_149 rfl (rr_149_12 _) dX12_person_71 ?_
            refine G_aload_n dX12_person_74 rfl rfl ?_
            refine G_getI fl_X12_160 sl_149 sk_149 rfl dX12_person_75 ?_
            refine G_aload_n dX12_person_78 rfl rfl ?_
            refine G_getI fl_X12_13 sl_149 sk_149 rfl dX12_person_79 ?_
            refine G_nI fun z26 ez26 => ?_
            replace h := gL_some ez26 h
            obtain ⟨b27, h⟩ := gck_some h
            refine G_iast sl_153 ss_153 (gin_in b27) dX12_person_82 ?_
            refine G_mI fun I28 eI28 => ?_
            replace h := gL_some eI28 h
            refine G_aload_n dX12_person_83 rfl rfl ?_
            refine G_getR fl_X12_30 sl_149 sk_149 rfl (rr_149_13 _) dX12_person_84 ?_
            refine G_aload_n dX12_person_87 rfl rfl ?_
            refine G_getI fl_X12_160 sl_149 sk_149 rfl dX12_person_88 ?_
            refine G_iconst (v := -1) dX12_person_91 rfl ?_
            obtain ⟨b29, h⟩ := gck_some h
            refine G_iast sl_154 ss_154 (gin_in b29) dX12_person_92 ?_
            refine G_mI fun I30 eI30 => ?_
            replace h := gL_some eI30 h
            refine G_aload_n dX12_person_93 rfl rfl ?_
            refine G_dup dX12_person_94 rfl ?_
            refine G_getI fl_X12_160 sl_149 sk_149 rfl dX12_person_95 ?_
            refine G_iconst (v := 1) dX12_person_98 rfl ?_
            refine G_iadd dX12_person_99 ?_
            refine G_nI fun z31 ez31 => ?_
            replace h := gL_some ez31 h
            refine G_putI fl_X12_160 sl_149 sk_149 rfl rfl ⟨rfl, rfl⟩ dX12_person_100 ?_
            refine G_mI fun I32 eI32 => ?_
            replace h := gL_some eI32 h
            refine G_aload_n dX12_person_103 rfl rfl ?_
            refine G_getI fl_X12_160 sl_149 sk_149 rfl dX12_person_104 ?_
            refine G_iconst (v := 1) dX12_person_107 rfl ?_
            refine G_isub dX12_person_108 ?_
            refine G_iret rfl (Nat.le_refl _) (Nat.le_refl _) dX12_person_109 ?_
            cases h
            exact ⟨rfl, rfl, rfl, rfl, rfl⟩
          · replace h := gif c21 h
            refine G_iconst (v := -1) dX12_person_48 rfl ?_
            refine G_iret rfl (Nat.le_refl _) (Nat.le_refl _) dX12_person_49 ?_
            cases h
            exact ⟨rfl, rfl, rfl, rfl, rfl⟩
def p_X12_dies (I : gIt) (x1 : Int32) (x2 : Int32) : Option (Int32 × gIt) :=
  gB (p_X12_isPerson I x1) fun r1 =>
  if r1 = 0 then
  some ((0 : Int32), I)
  else
  gck (gin x1 16) (
  if (I 154 (x1).toNatClampNeg) = (-1 : Int32) then
  gck (gin x1 16) (
  gB (p_X12_lies (Int32.toInt64 x2) (Int32.toInt64 (I 151 (x1).toNatClampNeg)) (Int32.toInt64 (I 149 2))) fun r7 =>
  if r7 = 0 then
  some ((0 : Int32), I)
  else
  gck (gin x1 16) (
  gL (gu2 I 154 (x1).toNatClampNeg x2) fun I11 =>
  gL ((I11 149 2)) fun z12 =>
  gck (gin x1 16) (
  gL (gu2 I11 155 (x1).toNatClampNeg z12) fun I14 =>
  some ((1 : Int32), I14))))
  else
  some ((0 : Int32), I))
set_option maxRecDepth 20000 in
theorem q_X12_dies {l : Launch} {I : gIt} {J : gJt} {w : Bool} {x1 : Int32} {x2 : Int32} {v : (Int32 × gIt)} (h : p_X12_dies I x1 x2 = some v) : Cn l gX12_dies 4 0 0 [.ref 149, .int x1, .int x2] gS0 I J (gR0 w) (fun v' S' I' J' R' => v' = some (.int v.1) ∧ S' = gS0 ∧ I' = v.2 ∧ J' = J ∧ R' = gR0 w) := by
  refine Cn.of [some (.ref 149), some (.int x1), some (.int x2)] (by decide) rfl (Nat.le_of_ble_eq_true rfl) ?_
  rw [p_X12_dies] at h
  refine G_aload_n dX12_dies_0 rfl rfl ?_
  refine G_iload_n dX12_dies_1 rfl rfl ?_
  obtain ⟨r1, hr2, h⟩ := gB_some h
  refine G_cV (mj := gX12_isPerson) (As := [.int x1]) (rest := []) ml_X12_165 vX12_isPerson sl_149 sk_149 (by decide) rfl rfl rfl (Nat.le_of_ble_eq_true rfl) (by decide) (Nat.le_refl _) (Nat.le_refl _) dX12_dies_2 (q_X12_isPerson hr2) ?_
  refine G_if_eq 38 dX12_dies_5 (by decide) (fun c3 => ?_) (fun c3 => ?_)
  · replace h := git c3 h
    refine G_iconst (v := 0) dX12_dies_38 rfl ?_
    refine G_zret rfl (Or.inl rfl) (Nat.le_refl _) (Nat.le_refl _) dX12_dies_39 ?_
    cases h
    exact ⟨rfl, rfl, rfl, rfl, rfl⟩
  · replace h := gif c3 h
    refine G_aload_n dX12_dies_8 rfl rfl ?_
    refine G_getR fl_X12_30 sl_149 sk_149 rfl (rr_149_13 _) dX12_dies_9 ?_
    refine G_iload_n dX12_dies_12 rfl rfl ?_
    obtain ⟨b4, h⟩ := gck_some h
    refine G_iald sl_154 ss_154 (gin_in b4) dX12_dies_13 ?_
    refine G_iconst (v := -1) dX12_dies_14 rfl ?_
    refine G_icmp_ne 38 dX12_dies_15 (by decide) (fun c5 => ?_) (fun c5 => ?_)
    · replace h := gif c5 h
      refine G_iconst (v := 0) dX12_dies_38 rfl ?_
      refine G_zret rfl (Or.inl rfl) (Nat.le_refl _) (Nat.le_refl _) dX12_dies_39 ?_
      cases h
      exact ⟨rfl, rfl, rfl, rfl, rfl⟩
    · replace h := git c5 h
      refine G_iload_n dX12_dies_18 rfl rfl ?_
      refine G_i2l dX12_dies_19 ?_
      refine G_aload_n dX12_dies_20 rfl rfl ?_
      refine G_getR fl_X12_20 sl_149 sk_149 rfl (rr_149_10 _) dX12_dies_21 ?_
      refine G_iload_n dX12_dies_24 rfl rfl ?_
      obtain ⟨b6, h⟩ := gck_some h
      refine G_iald sl_151 ss_151 (gin_in b6) dX12_dies_25 ?_
      refine G_i2l dX12_dies_26 ?_
      refine G_aload_n dX12_dies_27 rfl rfl ?_
      refine G_getI fl_X12_13 sl_149 sk_149 rfl dX12_dies_28 ?_
      refine G_i2l dX12_dies_31 ?_
      obtain ⟨r7, hr8, h⟩ := gB_some h
      refine G_cS (mj := gX12_lies) (As := [.long (Int32.toInt64 x2), .long (Int32.toInt64 (I 151 (x1).toNatClampNeg)), .long (Int32.toInt64 (I 149 2))]) (rest := []) ml_X12_156 vX12_lies rfl rfl (Nat.le_of_ble_eq_true rfl) (by decide) (Nat.le_refl _) (Nat.le_refl _) dX12_dies_32 (q_X12_lies hr8) ?_
      refine G_if_ne 40 dX12_dies_35 (by decide) (fun c9 => ?_) (fun c9 => ?_)
      · replace h := gif c9 h
        refine G_aload_n dX12_dies_40 rfl rfl ?_
        refine G_getR fl_X12_30 sl_149 sk_149 rfl (rr_149_13 _) dX12_dies_41 ?_
        refine G_iload_n dX12_dies_44 rfl rfl ?_
        refine G_iload_n dX12_dies_45 rfl rfl ?_
        obtain ⟨b10, h⟩ := gck_some h
        refine G_iast sl_154 ss_154 (gin_in b10) dX12_dies_46 ?_
        refine G_mI fun I11 eI11 => ?_
        replace h := gL_some eI11 h
        refine G_aload_n dX12_dies_47 rfl rfl ?_
        refine G_getR fl_X12_33 sl_149 sk_149 rfl (rr_149_14 _) dX12_dies_48 ?_
        refine G_iload_n dX12_dies_51 rfl rfl ?_
        refine G_aload_n dX12_dies_52 rfl rfl ?_
        refine G_getI fl_X12_13 sl_149 sk_149 rfl dX12_dies_53 ?_
        refine G_nI fun z12 ez12 => ?_
        replace h := gL_some ez12 h
        obtain ⟨b13, h⟩ := gck_some h
        refine G_iast sl_155 ss_155 (gin_in b13) dX12_dies_56 ?_
        refine G_mI fun I14 eI14 => ?_
        replace h := gL_some eI14 h
        refine G_iconst (v := 1) dX12_dies_57 rfl ?_
        refine G_zret rfl (Or.inr rfl) (Nat.le_refl _) (Nat.le_refl _) dX12_dies_58 ?_
        cases h
        exact ⟨rfl, rfl, rfl, rfl, rfl⟩
      · replace h := git c9 h
        refine G_iconst (v := 0) dX12_dies_38 rfl ?_
        refine G_zret rfl (Or.inl rfl) (Nat.le_refl _) (Nat.le_refl _) dX12_dies_39 ?_
        cases h
        exact ⟨rfl, rfl, rfl, rfl, rfl⟩
def p_X12_isThere (I : gIt) (x1 : Int32) (x2 : Int32) : Option Int32 :=
  gB (p_X12_isPerson I x1) fun r1 =>
  if r1 = 0 then
  some (0 : Int32)
  else
  gck (gin x1 16) (
  if x2 < (I 153 (x1).toNatClampNeg) then
  some (0 : Int32)
  else
  some (1 : Int32))
set_option maxRecDepth 20000 in
theorem q_X12_isThere {l : Launch} {I : gIt} {J : gJt} {w : Bool} {x1 : Int32} {x2 : Int32} {v : Int32} (h : p_X12_isThere I x1 x2 = some v) : Cn l gX12_isThere 4 0 0 [.ref 149, .int x1, .int x2] gS0 I J (gR0 w) (fun v' S' I' J' R' => v' = some (.int v) ∧ S' = gS0 ∧ I' = I ∧ J' = J ∧ R' = gR0 w) := by
  refine Cn.of [some (.ref 149), some (.int x1), some (.int x2)] (by decide) rfl (Nat.le_of_ble_eq_true rfl) ?_
  rw [p_X12_isThere] at h
  refine G_aload_n dX12_isThere_0 rfl rfl ?_
  refine G_iload_n dX12_isThere_1 rfl rfl ?_
  obtain ⟨r1, hr2, h⟩ := gB_some h
  refine G_cV (mj := gX12_isPerson) (As := [.int x1]) (rest := []) ml_X12_165 vX12_isPerson sl_149 sk_149 (by decide) rfl rfl rfl (Nat.le_of_ble_eq_true rfl) (by decide) (Nat.le_refl _) (Nat.le_refl _) dX12_isThere_2 (q_X12_isPerson hr2) ?_
  refine G_if_eq 22 dX12_isThere_5 (by decide) (fun c3 => ?_) (fun c3 => ?_)
  · replace h := git c3 h
    refine G_iconst (v := 0) dX12_isThere_22 rfl ?_
    refine G_zret rfl (Or.inl rfl) (Nat.le_refl _) (Nat.le_refl _) dX12_isThere_23 ?_
    cases h
    exact ⟨rfl, rfl, rfl, rfl, rfl⟩
  · replace h := gif c3 h
    refine G_aload_n dX12_isThere_8 rfl rfl ?_
    refine G_getR fl_X12_27 sl_149 sk_149 rfl (rr_149_12 _) dX12_isThere_9 ?_
    refine G_iload_n dX12_isThere_12 rfl rfl ?_
    obtain ⟨b4, h⟩ := gck_some h
    refine G_iald sl_153 ss_153 (gin_in b4) dX12_isThere_13 ?_
    refine G_iload_n dX12_isThere_14 rfl rfl ?_
    refine G_icmp_gt 22 dX12_isThere_15 (by decide) (fun c5 => ?_) (fun c5 => ?_)
    · replace h := git c5 h
      refine G_iconst (v := 0) dX12_isThere_22 rfl ?_
      refine G_zret rfl (Or.inl rfl) (Nat.le_refl _) (Nat.le_refl _) dX12_isThere_23 ?_
      cases h
      exact ⟨rfl, rfl, rfl, rfl, rfl⟩
    · replace h := gif c5 h
      refine G_iconst (v := 1) dX12_isThere_18 rfl ?_
      refine G_goto 23 dX12_isThere_19 (by decide) ?_
      refine G_zret rfl (Or.inr rfl) (Nat.le_refl _) (Nat.le_refl _) dX12_isThere_23 ?_
      cases h
      exact ⟨rfl, rfl, rfl, rfl, rfl⟩
def p_X12_isDead (I : gIt) (x1 : Int32) (x2 : Int32) : Option Int32 :=
  gck (gin x1 16) (
  if (I 154 (x1).toNatClampNeg) = (-1 : Int32) then
  some (0 : Int32)
  else
  gck (gin x1 16) (
  if x2 < (I 155 (x1).toNatClampNeg) then
  some (0 : Int32)
  else
  some (1 : Int32)))
set_option maxRecDepth 20000 in
theorem q_X12_isDead {l : Launch} {I : gIt} {J : gJt} {w : Bool} {x1 : Int32} {x2 : Int32} {v : Int32} (h : p_X12_isDead I x1 x2 = some v) : Cn l gX12_isDead 2 0 0 [.ref 149, .int x1, .int x2] gS0 I J (gR0 w) (fun v' S' I' J' R' => v' = some (.int v) ∧ S' = gS0 ∧ I' = I ∧ J' = J ∧ R' = gR0 w) := by
  refine Cn.of [some (.ref 149), some (.int x1), some (.int x2)] (by decide) rfl (Nat.le_of_ble_eq_true rfl) ?_
  rw [p_X12_isDead] at h
  refine G_aload_n dX12_isDead_0 rfl rfl ?_
  refine G_getR fl_X12_30 sl_149 sk_149 rfl (rr_149_13 _) dX12_isDead_1 ?_
  refine G_iload_n dX12_isDead_4 rfl rfl ?_
  obtain ⟨b1, h⟩ := gck_some h
  refine G_iald sl_154 ss_154 (gin_in b1) dX12_isDead_5 ?_
  refine G_iconst (v := -1) dX12_isDead_6 rfl ?_
  refine G_icmp_eq 24 dX12_isDead_7 (by decide) (fun c2 => ?_) (fun c2 => ?_)
  · replace h := git c2 h
    refine G_iconst (v := 0) dX12_isDead_24 rfl ?_
    refine G_zret rfl (Or.inl rfl) (Nat.le_refl _) (Nat.le_refl _) dX12_isDead_25 ?_
    cases h
    exact ⟨rfl, rfl, rfl, rfl, rfl⟩
  · replace h := gif c2 h
    refine G_aload_n dX12_isDead_10 rfl rfl ?_
    refine G_getR fl_X12_33 sl_149 sk_149 rfl (rr_149_14 _) dX12_isDead_11 ?_
    refine G_iload_n dX12_isDead_14 rfl rfl ?_
    obtain ⟨b3, h⟩ := gck_some h
    refine G_iald sl_155 ss_155 (gin_in b3) dX12_isDead_15 ?_
    refine G_iload_n dX12_isDead_16 rfl rfl ?_
    refine G_icmp_gt 24 dX12_isDead_17 (by decide) (fun c4 => ?_) (fun c4 => ?_)
    · replace h := git c4 h
      refine G_iconst (v := 0) dX12_isDead_24 rfl ?_
      refine G_zret rfl (Or.inl rfl) (Nat.le_refl _) (Nat.le_refl _) dX12_isDead_25 ?_
      cases h
      exact ⟨rfl, rfl, rfl, rfl, rfl⟩
    · replace h := gif c4 h
      refine G_iconst (v := 1) dX12_isDead_20 rfl ?_
      refine G_goto 25 dX12_isDead_21 (by decide) ?_
      refine G_zret rfl (Or.inr rfl) (Nat.le_refl _) (Nat.le_refl _) dX12_isDead_25 ?_
      cases h
      exact ⟨rfl, rfl, rfl, rfl, rfl⟩
def p_X12_table (I : gIt) (x1 : Int32) (x2 : Int32) (x3 : Int32) : Option (Int32 × gIt) :=
  gB (p_X12_lies (Int32.toInt64 x1) (0 : Int64) (3 : Int64)) fun r1 =>
  if r1 = 0 then
  some ((0 : Int32), I)
  else
  gB (p_X12_lies (Int32.toInt64 x2) (0 : Int64) (10 : Int64)) fun r4 =>
  if r4 = 0 then
  some ((0 : Int32), I)
  else
  gB (p_X12_lies (Int32.toInt64 x3) (0 : Int64) (200 : Int64)) fun r7 =>
  if r7 = 0 then
  some ((0 : Int32), I)
  else
  gL ((((12 : Int32) * x1) + x2)) fun z10 =>
  if x2 ≤ 0 then
  gck (gin (z10 + (1 : Int32)) 48) (
  if (I 156 ((z10 + (1 : Int32))).toNatClampNeg) ≤ x3 then
  gck (gin z10 48) (
  gL (gu2 I 156 (z10).toNatClampNeg x3) fun I15 =>
  some ((1 : Int32), I15))
  else
  some ((0 : Int32), I))
  else
  gck (gin (z10 - (1 : Int32)) 48) (
  if (I 156 ((z10 - (1 : Int32))).toNatClampNeg) < x3 then
  some ((0 : Int32), I)
  else
  gck (gin (z10 + (1 : Int32)) 48) (
  if (I 156 ((z10 + (1 : Int32))).toNatClampNeg) ≤ x3 then
  gck (gin z10 48) (
  gL (gu2 I 156 (z10).toNatClampNeg x3) fun I21 =>
  some ((1 : Int32), I21))
  else
  some ((0 : Int32), I)))
set_option maxRecDepth 20000 in
theorem q_X12_table {l : Launch} {I : gIt} {J : gJt} {w : Bool} {x1 : Int32} {x2 : Int32} {x3 : Int32} {v : (Int32 × gIt)} (h : p_X12_table I x1 x2 x3 = some v) : Cn l gX12_table 3 0 0 [.ref 149, .int x1, .int x2, .int x3] gS0 I J (gR0 w) (fun v' S' I' J' R' => v' = some (.int v.1) ∧ S' = gS0 ∧ I' = v.2 ∧ J' = J ∧ R' = gR0 w) := by
  refine Cn.of [some (.ref 149), some (.int x1), some (.int x2), some (.int x3), none] (by decide) rfl (Nat.le_of_ble_eq_true rfl) ?_
  rw [p_X12_table] at h
  refine G_iload_n dX12_table_0 rfl rfl ?_
  refine G_i2l dX12_table_1 ?_
  refine G_lconst (v := 0) dX12_table_2 rfl ?_
  refine G_ldc2 dX12_table_3 kc_X12_169 ?_
  obtain ⟨r1, hr2, h⟩ := gB_some h
  refine G_cS (mj := gX12_lies) (As := [.long (Int32.toInt64 x1), .long (0 : Int64), .long (3 : Int64)]) (rest := []) ml_X12_156 vX12_lies rfl rfl (Nat.le_of_ble_eq_true rfl) (by decide) (Nat.le_refl _) (Nat.le_refl _) dX12_table_6 (q_X12_lies hr2) ?_
  refine G_if_eq 36 dX12_table_9 (by decide) (fun c3 => ?_) (fun c3 => ?_)
  · replace h := git c3 h
    refine G_iconst (v := 0) dX12_table_36 rfl ?_
    refine G_zret rfl (Or.inl rfl) (Nat.le_refl _) (Nat.le_refl _) dX12_table_37 ?_
    cases h
    exact ⟨rfl, rfl, rfl, rfl, rfl⟩
  · replace h := gif c3 h
    refine G_iload_n dX12_table_12 rfl rfl ?_
    refine G_i2l dX12_table_13 ?_
    refine G_lconst (v := 0) dX12_table_14 rfl ?_
    refine G_ldc2 dX12_table_15 kc_X12_171 ?_
    obtain ⟨r4, hr5, h⟩ := gB_some h
    refine G_cS (mj := gX12_lies) (As := [.long (Int32.toInt64 x2), .long (0 : Int64), .long (10 : Int64)]) (rest := []) ml_X12_156 vX12_lies rfl rfl (Nat.le_of_ble_eq_true rfl) (by decide) (Nat.le_refl _) (Nat.le_refl _) dX12_table_18 (q_X12_lies hr5) ?_
    refine G_if_eq 36 dX12_table_21 (by decide) (fun c6 => ?_) (fun c6 => ?_)
    · replace h := git c6 h
      refine G_iconst (v := 0) dX12_table_36 rfl ?_
      refine G_zret rfl (Or.inl rfl) (Nat.le_refl _) (Nat.le_refl _) dX12_table_37 ?_
      cases h
      exact ⟨rfl, rfl, rfl, rfl, rfl⟩
    · replace h := gif c6 h
      refine G_iload_n dX12_table_24 rfl rfl ?_
      refine G_i2l dX12_table_25 ?_
      refine G_lconst (v := 0) dX12_table_26 rfl ?_
      refine G_ldc2 dX12_table_27 kc_X12_173 ?_
      obtain ⟨r7, hr8, h⟩ := gB_some h
      refine G_cS (mj := gX12_lies) (As := [.long (Int32.toInt64 x3), .long (0 : Int64), .long (200 : Int64)]) (rest := []) ml_X12_156 vX12_lies rfl rfl (Nat.le_of_ble_eq_true rfl) (by decide) (Nat.le_refl _) (Nat.le_refl _) dX12_table_30 (q_X12_lies hr8) ?_
      refine G_if_ne 38 dX12_table_33 (by decide) (fun c9 => ?_) (fun c9 => ?_)
      · replace h := gif c9 h
        refine G_bipush (v := 12) dX12_table_38 rfl ?_
        refine G_iload_n dX12_table_40 rfl rfl ?_
        refine G_imul dX12_table_41 ?_
        refine G_iload_n dX12_table_42 rfl rfl ?_
        refine G_iadd dX12_table_43 ?_
        refine G_nI fun z10 ez10 => ?_
        replace h := gL_some ez10 h
        refine S_istore [some (.ref 149), some (.int x1), some (.int x2), some (.int x3), some (.int z10)] dX12_table_44 (by decide) rfl ?_
        refine G_iload_n dX12_table_46 rfl rfl ?_
        refine G_if_le 63 dX12_table_47 (by decide) (fun c11 => ?_) (fun c11 => ?_)
        · replace h := git c11 h
          refine G_iload_n dX12_table_63 rfl rfl ?_
          refine G_aload_n dX12_table_64 rfl rfl ?_
          refine G_getR fl_X12_36 sl_149 sk_149 rfl (rr_149_15 _) dX12_table_65 ?_
          refine G_iload dX12_table_68 rfl ?_
          refine G_iconst (v := 1) dX12_table_70 rfl ?_
          refine G_iadd dX12_table_71 ?_
          obtain ⟨b12, h⟩ := gck_some h
          refine G_iald sl_156 ss_156 (gin_in b12) dX12_table_72 ?_
          refine G_icmp_ge 78 dX12_table_73 (by decide) (fun c13 => ?_) (fun c13 => ?_)
          · replace h := git c13 h
            refine G_aload_n dX12_table_78 rfl rfl ?_
            refine G_getR fl_X12_36 sl_149 sk_149 rfl (rr_149_15 _) dX12_table_79 ?_
            refine G_iload dX12_table_82 rfl ?_
            refine G_iload_n dX12_table_84 rfl rfl ?_
            obtain ⟨b14, h⟩ := gck_some h
            refine G_iast sl_156 ss_156 (gin_in b14) dX12_table_85 ?_
            refine G_mI fun I15 eI15 => ?_
            replace h := gL_some eI15 h
            refine G_iconst (v := 1) dX12_table_86 rfl ?_
            refine G_zret rfl (Or.inr rfl) (Nat.le_refl _) (Nat.le_refl _) dX12_table_87 ?_
            cases h
            exact ⟨rfl, rfl, rfl, rfl, rfl⟩
          · replace h := gif c13 h
            refine G_iconst (v := 0) dX12_table_76 rfl ?_
            refine G_zret rfl (Or.inl rfl) (Nat.le_refl _) (Nat.le_refl _) dX12_table_77 ?_
            cases h
            exact ⟨rfl, rfl, rfl, rfl, rfl⟩
        · replace h := gif c11 h
          refine G_iload_n dX12_table_50 rfl rfl ?_
          refine G_aload_n dX12_table_51 rfl rfl ?_
          refine G_getR fl_X12_36 sl_149 sk_149 rfl (rr_149_15 _) dX12_table_52 ?_
          refine G_iload dX12_table_55 rfl ?_
          refine G_iconst (v := 1) dX12_table_57 rfl ?_
          refine G_isub dX12_table_58 ?_
          obtain ⟨b16, h⟩ := gck_some h
          refine G_iald sl_156 ss_156 (gin_in b16) dX12_table_59 ?_
          refine G_icmp_gt 76 dX12_table_60 (by decide) (fun c17 => ?_) (fun c17 => ?_)
          · replace h := git c17 h
            refine G_iconst (v := 0) dX12_table_76 rfl ?_
            refine G_zret rfl (Or.inl rfl) (Nat.le_refl _) (Nat.le_refl _) dX12_table_77 ?_
            cases h
            exact ⟨rfl, rfl, rfl, rfl, rfl⟩
          · replace h := gif c17 h
            refine G_iload_n dX12_table_63 rfl rfl ?_
            refine G_aload_n dX12_table_64 rfl rfl ?_
            refine G_getR fl_X12_36 sl_149 sk_149 rfl (rr_149_15 _) dX12_table_65 ?_
            refine G_iload dX12_table_68 rfl ?_
            refine G_iconst (v := 1) dX12_table_70 rfl ?_
            refine G_iadd dX12_table_71 ?_
            obtain ⟨b18, h⟩ := gck_some h
            refine G_iald sl_156 ss_156 (gin_in b18) dX12_table_72 ?_
            refine G_icmp_ge 78 dX12_table_73 (by decide) (fun c19 => ?_) (fun c19 => ?_)
            · replace h := git c19 h
              refine G_aload_n dX12_table_78 rfl rfl ?_
              refine G_getR fl_X12_36 sl_149 sk_149 rfl (rr_149_15 _) dX12_table_79 ?_
              refine G_iload dX12_table_82 rfl ?_
              refine G_iload_n dX12_table_84 rfl rfl ?_
              obtain ⟨b20, h⟩ := gck_some h
              refine G_iast sl_156 ss_156 (gin_in b20) dX12_table_85 ?_
              refine G_mI fun I21 eI21 => ?_
              replace h := gL_some eI21 h
              refine G_iconst (v := 1) dX12_table_86 rfl ?_
              refine G_zret rfl (Or.inr rfl) (Nat.le_refl _) (Nat.le_refl _) dX12_table_87 ?_
              cases h
              exact ⟨rfl, rfl, rfl, rfl, rfl⟩
            · replace h := gif c19 h
              refine G_iconst (v := 0) dX12_table_76 rfl ?_
              refine G_zret rfl (Or.inl rfl) (Nat.le_refl _) (Nat.le_refl _) dX12_table_77 ?_
              cases h
              exact ⟨rfl, rfl, rfl, rfl, rfl⟩
      · replace h := git c9 h
        refine G_iconst (v := 0) dX12_table_36 rfl ?_
        refine G_zret rfl (Or.inl rfl) (Nat.le_refl _) (Nat.le_refl _) dX12_table_37 ?_
        cases h
        exact ⟨rfl, rfl, rfl, rfl, rfl⟩
def p_X12_livesAt (I : gIt) (x1 : Int32) (x2 : Int32) : Option Int32 :=
  if x2 < (110 : Int32) then
  gL ((((12 : Int32) * x1) + (x2 / (10 : Int32)))) fun z3 =>
  gck (gin z3 48) (
  gck (gin z3 48) (
  gck (gin (z3 + (1 : Int32)) 48) (
  some ((I 156 (z3).toNatClampNeg) - ((((I 156 (z3).toNatClampNeg) - (I 156 ((z3 + (1 : Int32))).toNatClampNeg)) * (grem x2 (10 : Int32))) / (10 : Int32))))))
  else
  some (0 : Int32)
set_option maxRecDepth 20000 in
theorem q_X12_livesAt {l : Launch} {I : gIt} {J : gJt} {w : Bool} {x1 : Int32} {x2 : Int32} {v : Int32} (h : p_X12_livesAt I x1 x2 = some v) : Cn l gX12_livesAt 2 0 0 [.ref 149, .int x1, .int x2] gS0 I J (gR0 w) (fun v' S' I' J' R' => v' = some (.int v) ∧ S' = gS0 ∧ I' = I ∧ J' = J ∧ R' = gR0 w) := by
  refine Cn.of [some (.ref 149), some (.int x1), some (.int x2), none] (by decide) rfl (Nat.le_of_ble_eq_true rfl) ?_
  rw [p_X12_livesAt] at h
  refine G_iload_n dX12_livesAt_0 rfl rfl ?_
  refine G_bipush (v := 110) dX12_livesAt_1 rfl ?_
  refine G_icmp_lt 8 dX12_livesAt_3 (by decide) (fun c1 => ?_) (fun c1 => ?_)
  · replace h := git c1 h
    refine G_bipush (v := 12) dX12_livesAt_8 rfl ?_
    refine G_iload_n dX12_livesAt_10 rfl rfl ?_
    refine G_imul dX12_livesAt_11 ?_
    refine G_iload_n dX12_livesAt_12 rfl rfl ?_
    refine G_bipush (v := 10) dX12_livesAt_13 rfl ?_
    refine G_idiv dX12_livesAt_15 (by decide) ?_
    refine G_iadd dX12_livesAt_16 ?_
    refine G_nI fun z3 ez3 => ?_
    replace h := gL_some ez3 h
    refine S_istore_n [some (.ref 149), some (.int x1), some (.int x2), some (.int z3)] dX12_livesAt_17 rfl (by decide) rfl ?_
    refine G_aload_n dX12_livesAt_18 rfl rfl ?_
    refine G_getR fl_X12_36 sl_149 sk_149 rfl (rr_149_15 _) dX12_livesAt_19 ?_
    refine G_iload_n dX12_livesAt_22 rfl rfl ?_
    obtain ⟨b4, h⟩ := gck_some h
    refine G_iald sl_156 ss_156 (gin_in b4) dX12_livesAt_23 ?_
    refine G_aload_n dX12_livesAt_24 rfl rfl ?_
    refine G_getR fl_X12_36 sl_149 sk_149 rfl (rr_149_15 _) dX12_livesAt_25 ?_
    refine G_iload_n dX12_livesAt_28 rfl rfl ?_
    obtain ⟨b5, h⟩ := gck_some h
    refine G_iald sl_156 ss_156 (gin_in b5) dX12_livesAt_29 ?_
    refine G_aload_n dX12_livesAt_30 rfl rfl ?_
    refine G_getR fl_X12_36 sl_149 sk_149 rfl (rr_149_15 _) dX12_livesAt_31 ?_
    refine G_iload_n dX12_livesAt_34 rfl rfl ?_
    refine G_iconst (v := 1) dX12_livesAt_35 rfl ?_
    refine G_iadd dX12_livesAt_36 ?_
    obtain ⟨b6, h⟩ := gck_some h
    refine G_iald sl_156 ss_156 (gin_in b6) dX12_livesAt_37 ?_
    refine G_isub dX12_livesAt_38 ?_
    refine G_iload_n dX12_livesAt_39 rfl rfl ?_
    refine G_bipush (v := 10) dX12_livesAt_40 rfl ?_
    refine G_rem dX12_livesAt_42 (by decide) ?_
    refine G_imul dX12_livesAt_43 ?_
    refine G_bipush (v := 10) dX12_livesAt_44 rfl ?_
    refine G_idiv dX12_livesAt_46 (by decide) ?_
    refine G_isub dX12_livesAt_47 ?_
    refine G_iret rfl (Nat.le_refl _) (Nat.le_refl _) dX12_livesAt_48 ?_
    cases h
    exact ⟨rfl, rfl, rfl, rfl, rfl⟩
  · replace h := gif c1 h
    refine G_iconst (v := 0) dX12_livesAt_6 rfl ?_
    refine G_iret rfl (Nat.le_refl _) (Nat.le_refl _) dX12_livesAt_7 ?_
    cases h
    exact ⟨rfl, rfl, rfl, rfl, rfl⟩
def p_X12_lives (I : gIt) (x1 : Int32) (x2 : Int32) : Option Int32 :=
  gB (p_X12_lies (Int32.toInt64 x1) (0 : Int64) (3 : Int64)) fun r1 =>
  if r1 = 0 then
  some (-1 : Int32)
  else
  gB (p_X12_lies (Int32.toInt64 x2) (0 : Int64) (400 : Int64)) fun r4 =>
  if r4 = 0 then
  some (-1 : Int32)
  else
  gB (p_X12_livesAt I x1 x2) fun r7 =>
  some r7
set_option maxRecDepth 20000 in
theorem q_X12_lives {l : Launch} {I : gIt} {J : gJt} {w : Bool} {x1 : Int32} {x2 : Int32} {v : Int32} (h : p_X12_lives I x1 x2 = some v) : Cn l gX12_lives 3 0 0 [.ref 149, .int x1, .int x2] gS0 I J (gR0 w) (fun v' S' I' J' R' => v' = some (.int v) ∧ S' = gS0 ∧ I' = I ∧ J' = J ∧ R' = gR0 w) := by
  refine Cn.of [some (.ref 149), some (.int x1), some (.int x2)] (by decide) rfl (Nat.le_of_ble_eq_true rfl) ?_
  rw [p_X12_lives] at h
  refine G_iload_n dX12_lives_0 rfl rfl ?_
  refine G_i2l dX12_lives_1 ?_
  refine G_lconst (v := 0) dX12_lives_2 rfl ?_
  refine G_ldc2 dX12_lives_3 kc_X12_169 ?_
  obtain ⟨r1, hr2, h⟩ := gB_some h
  refine G_cS (mj := gX12_lies) (As := [.long (Int32.toInt64 x1), .long (0 : Int64), .long (3 : Int64)]) (rest := []) ml_X12_156 vX12_lies rfl rfl (Nat.le_of_ble_eq_true rfl) (by decide) (Nat.le_refl _) (Nat.le_refl _) dX12_lives_6 (q_X12_lies hr2) ?_
  refine G_if_eq 33 dX12_lives_9 (by decide) (fun c3 => ?_) (fun c3 => ?_)
  · replace h := git c3 h
    refine G_iconst (v := -1) dX12_lives_33 rfl ?_
    refine G_iret rfl (Nat.le_refl _) (Nat.le_refl _) dX12_lives_34 ?_
    cases h
    exact ⟨rfl, rfl, rfl, rfl, rfl⟩
  · replace h := gif c3 h
    refine G_iload_n dX12_lives_12 rfl rfl ?_
    refine G_i2l dX12_lives_13 ?_
    refine G_lconst (v := 0) dX12_lives_14 rfl ?_
    refine G_ldc2 dX12_lives_15 kc_X12_175 ?_
    obtain ⟨r4, hr5, h⟩ := gB_some h
    refine G_cS (mj := gX12_lies) (As := [.long (Int32.toInt64 x2), .long (0 : Int64), .long (400 : Int64)]) (rest := []) ml_X12_156 vX12_lies rfl rfl (Nat.le_of_ble_eq_true rfl) (by decide) (Nat.le_refl _) (Nat.le_refl _) dX12_lives_18 (q_X12_lies hr5) ?_
    refine G_if_eq 33 dX12_lives_21 (by decide) (fun c6 => ?_) (fun c6 => ?_)
    · replace h := git c6 h
      refine G_iconst (v := -1) dX12_lives_33 rfl ?_
      refine G_iret rfl (Nat.le_refl _) (Nat.le_refl _) dX12_lives_34 ?_
      cases h
      exact ⟨rfl, rfl, rfl, rfl, rfl⟩
    · replace h := gif c6 h
      refine G_aload_n dX12_lives_24 rfl rfl ?_
      refine G_iload_n dX12_lives_25 rfl rfl ?_
      refine G_iload_n dX12_lives_26 rfl rfl ?_
      obtain ⟨r7, hr8, h⟩ := gB_some h
      refine G_cV (mj := gX12_livesAt) (As := [.int x1, .int x2]) (rest := []) ml_X12_177 vX12_livesAt sl_149 sk_149 (by decide) rfl rfl rfl (Nat.le_of_ble_eq_true rfl) (by decide) (Nat.le_refl _) (Nat.le_refl _) dX12_lives_27 (q_X12_livesAt hr8) ?_
      refine G_goto 34 dX12_lives_30 (by decide) ?_
      refine G_iret rfl (Nat.le_refl _) (Nat.le_refl _) dX12_lives_34 ?_
      cases h
      exact ⟨rfl, rfl, rfl, rfl, rfl⟩
def p_X12_number (I : gIt) (x1 : Int32) (x2 : Int32) : Option (Int32 × gIt) :=
  gB (p_X12_lies (Int32.toInt64 x1) (0 : Int64) (1 : Int64)) fun r1 =>
  if r1 = 0 then
  some ((0 : Int32), I)
  else
  gB (α := Int64) (
  if x1 = 0 then
  some (20 : Int64)
  else
  some (50 : Int64)) fun ph4 =>
  gB (p_X12_lies (Int32.toInt64 x2) (0 : Int64) ph4) fun r8 =>
  if r8 = 0 then
  some ((0 : Int32), I)
  else
  if x1 = 0 then
  gL (gu2 I 149 8 x2) fun I13 =>
  some ((1 : Int32), I13)
  else
  gL (gu2 I 149 9 x2) fun I12 =>
  some ((1 : Int32), I12)
set_option maxRecDepth 20000 in
theorem q_X12_number {l : Launch} {I : gIt} {J : gJt} {w : Bool} {x1 : Int32} {x2 : Int32} {v : (Int32 × gIt)} (h : p_X12_number I x1 x2 = some v) : Cn l gX12_number 3 0 0 [.ref 149, .int x1, .int x2] gS0 I J (gR0 w) (fun v' S' I' J' R' => v' = some (.int v.1) ∧ S' = gS0 ∧ I' = v.2 ∧ J' = J ∧ R' = gR0 w) := by
  refine Cn.of [some (.ref 149), some (.int x1), some (.int x2)] (by decide) rfl (Nat.le_of_ble_eq_true rfl) ?_
  rw [p_X12_number] at h
  refine G_iload_n dX12_number_0 rfl rfl ?_
  refine G_i2l dX12_number_1 ?_
  refine G_lconst (v := 0) dX12_number_2 rfl ?_
  refine G_lconst (v := 1) dX12_number_3 rfl ?_
  obtain ⟨r1, hr2, h⟩ := gB_some h
  refine G_cS (mj := gX12_lies) (As := [.long (Int32.toInt64 x1), .long (0 : Int64), .long (1 : Int64)]) (rest := []) ml_X12_156 vX12_lies rfl rfl (Nat.le_of_ble_eq_true rfl) (by decide) (Nat.le_refl _) (Nat.le_refl _) dX12_number_4 (q_X12_lies hr2) ?_
  refine G_if_eq 32 dX12_number_7 (by decide) (fun c3 => ?_) (fun c3 => ?_)
  · replace h := git c3 h
    refine G_iconst (v := 0) dX12_number_32 rfl ?_
    refine G_zret rfl (Or.inl rfl) (Nat.le_refl _) (Nat.le_refl _) dX12_number_33 ?_
    cases h
    exact ⟨rfl, rfl, rfl, rfl, rfl⟩
  · replace h := gif c3 h
    refine G_iload_n dX12_number_10 rfl rfl ?_
    refine G_i2l dX12_number_11 ?_
    refine G_lconst (v := 0) dX12_number_12 rfl ?_
    refine G_iload_n dX12_number_13 rfl rfl ?_
    obtain ⟨ph4, t5, r6⟩ := gB_some h
    have jn7 : G l gX12_number 3 0 0 (fun v' S' I' J' R' => v' = some (.int v.1) ∧ S' = gS0 ∧ I' = v.2 ∧ J' = J ∧ R' = gR0 w) 0 0 26 [some (.ref 149), some (.int x1), some (.int x2)] [.long ph4, .long (0 : Int64), .long (Int32.toInt64 x2)] gS0 I J (gR0 w) := by
      obtain ⟨r8, hr9, r6⟩ := gB_some r6
      refine G_cS (mj := gX12_lies) (As := [.long (Int32.toInt64 x2), .long (0 : Int64), .long ph4]) (rest := []) ml_X12_156 vX12_lies rfl rfl (Nat.le_of_ble_eq_true rfl) (by decide) (Nat.le_refl _) (Nat.le_refl _) dX12_number_26 (q_X12_lies hr9) ?_
      refine G_if_ne 34 dX12_number_29 (by decide) (fun c10 => ?_) (fun c10 => ?_)
      · replace r6 := gif c10 r6
        refine G_iload_n dX12_number_34 rfl rfl ?_
        refine G_if_ne 46 dX12_number_35 (by decide) (fun c11 => ?_) (fun c11 => ?_)
        · replace r6 := gif c11 r6
          refine G_aload_n dX12_number_46 rfl rfl ?_
          refine G_iload_n dX12_number_47 rfl rfl ?_
          refine G_putI fl_X12_185 sl_149 sk_149 rfl rfl ⟨rfl, rfl⟩ dX12_number_48 ?_
          refine G_mI fun I12 eI12 => ?_
          replace r6 := gL_some eI12 r6
          refine G_iconst (v := 1) dX12_number_51 rfl ?_
          refine G_zret rfl (Or.inr rfl) (Nat.le_refl _) (Nat.le_refl _) dX12_number_52 ?_
          cases r6
          exact ⟨rfl, rfl, rfl, rfl, rfl⟩
        · replace r6 := git c11 r6
          refine G_aload_n dX12_number_38 rfl rfl ?_
          refine G_iload_n dX12_number_39 rfl rfl ?_
          refine G_putI fl_X12_17 sl_149 sk_149 rfl rfl ⟨rfl, rfl⟩ dX12_number_40 ?_
          refine G_mI fun I13 eI13 => ?_
          replace r6 := gL_some eI13 r6
          refine G_goto 51 dX12_number_43 (by decide) ?_
          refine G_iconst (v := 1) dX12_number_51 rfl ?_
          refine G_zret rfl (Or.inr rfl) (Nat.le_refl _) (Nat.le_refl _) dX12_number_52 ?_
          cases r6
          exact ⟨rfl, rfl, rfl, rfl, rfl⟩
      · replace r6 := git c10 r6
        refine G_iconst (v := 0) dX12_number_32 rfl ?_
        refine G_zret rfl (Or.inl rfl) (Nat.le_refl _) (Nat.le_refl _) dX12_number_33 ?_
        cases r6
        exact ⟨rfl, rfl, rfl, rfl, rfl⟩
    refine G_if_ne 23 dX12_number_14 (by decide) (fun c14 => ?_) (fun c14 => ?_)
    · replace t5 := gif c14 t5
      refine G_ldc2 dX12_number_23 kc_X12_183 ?_
      cases t5
      exact jn7
    · replace t5 := git c14 t5
      refine G_ldc2 dX12_number_17 kc_X12_181 ?_
      refine G_goto 26 dX12_number_20 (by decide) ?_
      cases t5
      exact jn7
def p_X12_discountOf_5 (I : gIt) (x1 : Int32) : Nat → Int32 → Int32 → Option Int32
  | 0, _, _ => none
  | n + 1, x2, x3 =>
    if x1 ≤ x3 then
    some x2
    else
    gck (decide (¬ ((100 : Int32) + (I 149 8)) = 0)) (
    gL ((((100 : Int32) * x2) / ((100 : Int32) + (I 149 8)))) fun z3 =>
    p_X12_discountOf_5 I x1 n z3 (x3 + (1 : Int32)))
def p_X12_discountOf (I : gIt) (x1 : Int32) : Option Int32 :=
  p_X12_discountOf_5 I x1 gFu (1000000 : Int32) (0 : Int32)
set_option maxRecDepth 20000 in
theorem q_X12_discountOf_5 {l : Launch} {v : Int32} {J : gJt} {w : Bool} {I : gIt} {x1 : Int32} : ∀ (n : Nat) (x2 : Int32) (x3 : Int32), p_X12_discountOf_5 I x1 n x2 x3 = some v → G l gX12_discountOf 2 0 0 (fun v' S' I' J' R' => v' = some (.int v) ∧ S' = gS0 ∧ I' = I ∧ J' = J ∧ R' = gR0 w) 0 0 5 [some (.ref 149), some (.int x1), some (.int x2), some (.int x3)] [] gS0 I J (gR0 w) := by
  intro n
  induction n with
  | zero => intro _ _ h; cases h
  | succ n ih =>
    intro x2 x3 h
    rw [p_X12_discountOf_5] at h
    refine G_iload_n dX12_discountOf_5 rfl rfl ?_
    refine G_iload_n dX12_discountOf_6 rfl rfl ?_
    refine G_icmp_ge 29 dX12_discountOf_7 (by decide) (fun c1 => ?_) (fun c1 => ?_)
    · replace h := git c1 h
      refine G_iload_n dX12_discountOf_29 rfl rfl ?_
      refine G_iret rfl (Nat.le_refl _) (Nat.le_refl _) dX12_discountOf_30 ?_
      cases h
      exact ⟨rfl, rfl, rfl, rfl, rfl⟩
    · replace h := gif c1 h
      refine G_bipush (v := 100) dX12_discountOf_10 rfl ?_
      refine G_iload_n dX12_discountOf_12 rfl rfl ?_
      refine G_imul dX12_discountOf_13 ?_
      refine G_bipush (v := 100) dX12_discountOf_14 rfl ?_
      refine G_aload_n dX12_discountOf_16 rfl rfl ?_
      refine G_getI fl_X12_17 sl_149 sk_149 rfl dX12_discountOf_17 ?_
      refine G_iadd dX12_discountOf_20 ?_
      obtain ⟨b2, h⟩ := gck_some h
      refine G_idiv dX12_discountOf_21 (of_decide_eq_true b2) ?_
      refine G_nI fun z3 ez3 => ?_
      replace h := gL_some ez3 h
      refine S_istore_n [some (.ref 149), some (.int x1), some (.int z3), some (.int x3)] dX12_discountOf_22 rfl (by decide) rfl ?_
      refine S_iinc (v := (1 : Int32)) [some (.ref 149), some (.int x1), some (.int z3), some (.int (x3 + (1 : Int32)))] dX12_discountOf_23 rfl rfl (by decide) rfl ?_
      refine G_goto 5 dX12_discountOf_26 (by decide) ?_
      exact ih _ _ h
set_option maxRecDepth 20000 in
theorem q_X12_discountOf {l : Launch} {I : gIt} {J : gJt} {w : Bool} {x1 : Int32} {v : Int32} (h : p_X12_discountOf I x1 = some v) : Cn l gX12_discountOf 2 0 0 [.ref 149, .int x1] gS0 I J (gR0 w) (fun v' S' I' J' R' => v' = some (.int v) ∧ S' = gS0 ∧ I' = I ∧ J' = J ∧ R' = gR0 w) := by
  refine Cn.of [some (.ref 149), some (.int x1), none, none] (by decide) rfl (Nat.le_of_ble_eq_true rfl) ?_
  rw [p_X12_discountOf] at h
  refine G_ldc dX12_discountOf_0 kc_X12_188 ?_
  refine S_istore_n [some (.ref 149), some (.int x1), some (.int (1000000 : Int32)), none] dX12_discountOf_2 rfl (by decide) rfl ?_
  refine G_iconst (v := 0) dX12_discountOf_3 rfl ?_
  refine S_istore_n [some (.ref 149), some (.int x1), some (.int (1000000 : Int32)), some (.int (0 : Int32))] dX12_discountOf_4 rfl (by decide) rfl ?_
  exact q_X12_discountOf_5   gFu _ _ h
def p_X12_discount (I : gIt) (x1 : Int32) : Option Int32 :=
  gB (p_X12_lies (Int32.toInt64 x1) (0 : Int64) (400 : Int64)) fun r1 =>
  if r1 = 0 then
  some (-1 : Int32)
  else
  gB (p_X12_discountOf I x1) fun r4 =>
  some r4
set_option maxRecDepth 20000 in
theorem q_X12_discount {l : Launch} {I : gIt} {J : gJt} {w : Bool} {x1 : Int32} {v : Int32} (h : p_X12_discount I x1 = some v) : Cn l gX12_discount 3 0 0 [.ref 149, .int x1] gS0 I J (gR0 w) (fun v' S' I' J' R' => v' = some (.int v) ∧ S' = gS0 ∧ I' = I ∧ J' = J ∧ R' = gR0 w) := by
  refine Cn.of [some (.ref 149), some (.int x1)] (by decide) rfl (Nat.le_of_ble_eq_true rfl) ?_
  rw [p_X12_discount] at h
  refine G_iload_n dX12_discount_0 rfl rfl ?_
  refine G_i2l dX12_discount_1 ?_
  refine G_lconst (v := 0) dX12_discount_2 rfl ?_
  refine G_ldc2 dX12_discount_3 kc_X12_175 ?_
  obtain ⟨r1, hr2, h⟩ := gB_some h
  refine G_cS (mj := gX12_lies) (As := [.long (Int32.toInt64 x1), .long (0 : Int64), .long (400 : Int64)]) (rest := []) ml_X12_156 vX12_lies rfl rfl (Nat.le_of_ble_eq_true rfl) (by decide) (Nat.le_refl _) (Nat.le_refl _) dX12_discount_6 (q_X12_lies hr2) ?_
  refine G_if_eq 20 dX12_discount_9 (by decide) (fun c3 => ?_) (fun c3 => ?_)
  · replace h := git c3 h
    refine G_iconst (v := -1) dX12_discount_20 rfl ?_
    refine G_iret rfl (Nat.le_refl _) (Nat.le_refl _) dX12_discount_21 ?_
    cases h
    exact ⟨rfl, rfl, rfl, rfl, rfl⟩
  · replace h := gif c3 h
    refine G_aload_n dX12_discount_12 rfl rfl ?_
    refine G_iload_n dX12_discount_13 rfl rfl ?_
    obtain ⟨r4, hr5, h⟩ := gB_some h
    refine G_cV (mj := gX12_discountOf) (As := [.int x1]) (rest := []) ml_X12_189 vX12_discountOf sl_149 sk_149 (by decide) rfl rfl rfl (Nat.le_of_ble_eq_true rfl) (by decide) (Nat.le_refl _) (Nat.le_refl _) dX12_discount_14 (q_X12_discountOf hr5) ?_
    refine G_goto 21 dX12_discount_17 (by decide) ?_
    refine G_iret rfl (Nat.le_refl _) (Nat.le_refl _) dX12_discount_21 ?_
    cases h
    exact ⟨rfl, rfl, rfl, rfl, rfl⟩
def p_X12_push_3 (x1 : Int32) : Nat → gIt → Int32 → Option gIt
  | 0, _, _ => none
  | n + 1, I, x2 =>
    if x2 < 0 then
    some I
    else
    gL ((Int8.toInt32 (Int32.toInt8 (gshr x1 x2)))) fun z2 =>
    gck (gin (I 149 1) 100) (
    gL (gu2 I 150 ((I 149 1)).toNatClampNeg (vp_nar .byte z2)) fun I4 =>
    gL (((I4 149 1) + (1 : Int32))) fun z5 =>
    gL (gu2 I4 149 1 z5) fun I6 =>
    p_X12_push_3 x1 n I6 (x2 + (-8 : Int32)))
def p_X12_push (I : gIt) (x1 : Int32) : Option gIt :=
  p_X12_push_3 x1 gFu I (24 : Int32)
set_option maxRecDepth 20000 in
theorem q_X12_push_3 {l : Launch} {v : gIt} {J : gJt} {w : Bool} {x1 : Int32} : ∀ (n : Nat) (I : gIt) (x2 : Int32), p_X12_push_3 x1 n I x2 = some v → G l gX12_push 2 0 0 (fun v' S' I' J' R' => v' = none ∧ S' = gS0 ∧ I' = v ∧ J' = J ∧ R' = gR0 w) 0 0 3 [some (.ref 149), some (.int x1), some (.int x2)] [] gS0 I J (gR0 w) := by
  intro n
  induction n with
  | zero => intro _ _ h; cases h
  | succ n ih =>
    intro I x2 h
    rw [p_X12_push_3] at h
    refine G_iload_n dX12_push_3 rfl rfl ?_
    refine G_if_lt 36 dX12_push_4 (by decide) (fun c1 => ?_) (fun c1 => ?_)
    · replace h := git c1 h
      refine G_vret rfl (Nat.le_refl _) (Nat.le_refl _) dX12_push_36 ?_
      cases h
      exact ⟨rfl, rfl, rfl, rfl, rfl⟩
    · replace h := gif c1 h
      refine G_aload_n dX12_push_7 rfl rfl ?_
      refine G_getR fl_X12_7 sl_149 sk_149 rfl (rr_149_0 _) dX12_push_8 ?_
      refine G_aload_n dX12_push_11 rfl rfl ?_
      refine G_getI fl_X12_193 sl_149 sk_149 rfl dX12_push_12 ?_
      refine G_iload_n dX12_push_15 rfl rfl ?_
      refine G_iload_n dX12_push_16 rfl rfl ?_
      refine G_shr dX12_push_17 ?_
      refine G_i2b dX12_push_18 ?_
      refine G_nI fun z2 ez2 => ?_
      replace h := gL_some ez2 h
      obtain ⟨b3, h⟩ := gck_some h
      refine G_bast sl_150 ss_150 (gin_in b3) dX12_push_19 ?_
      refine G_mI fun I4 eI4 => ?_
      replace h := gL_some eI4 h
      refine G_aload_n dX12_push_20 rfl rfl ?_
      refine G_dup dX12_push_21 rfl ?_
      refine G_getI fl_X12_193 sl_149 sk_149 rfl dX12_push_22 ?_
      refine G_iconst (v := 1) dX12_push_25 rfl ?_
      refine G_iadd dX12_push_26 ?_
      refine G_nI fun z5 ez5 => ?_
      replace h := gL_some ez5 h
      refine G_putI fl_X12_193 sl_149 sk_149 rfl rfl ⟨rfl, rfl⟩ dX12_push_27 ?_
      refine G_mI fun I6 eI6 => ?_
      replace h := gL_some eI6 h
      refine S_iinc (v := (-8 : Int32)) [some (.ref 149), some (.int x1), some (.int (x2 + (-8 : Int32)))] dX12_push_30 rfl rfl (by decide) rfl ?_
      refine G_goto 3 dX12_push_33 (by decide) ?_
      exact ih _ _ h
set_option maxRecDepth 20000 in
theorem q_X12_push {l : Launch} {I : gIt} {J : gJt} {w : Bool} {x1 : Int32} {v : gIt} (h : p_X12_push I x1 = some v) : Cn l gX12_push 2 0 0 [.ref 149, .int x1] gS0 I J (gR0 w) (fun v' S' I' J' R' => v' = none ∧ S' = gS0 ∧ I' = v ∧ J' = J ∧ R' = gR0 w) := by
  refine Cn.of [some (.ref 149), some (.int x1), none] (by decide) rfl (Nat.le_of_ble_eq_true rfl) ?_
  rw [p_X12_push] at h
  refine G_bipush (v := 24) dX12_push_0 rfl ?_
  refine S_istore_n [some (.ref 149), some (.int x1), some (.int (24 : Int32))] dX12_push_2 rfl (by decide) rfl ?_
  exact q_X12_push_3   gFu _ _ h
def p_X12_feed (I : gIt) (x1 : Int32) (x2 : Int32) (x3 : Int32) (x4 : Int32) (x5 : Int32) : Option (Int32 × gIt) :=
  if ((I 149 1) + (20 : Int32)) ≤ (100 : Int32) then
  gB (p_X12_push I x1) fun r2 =>
  gB (p_X12_push r2 x2) fun r4 =>
  gB (p_X12_push r4 x3) fun r6 =>
  gB (p_X12_push r6 x4) fun r8 =>
  gB (p_X12_push r8 x5) fun r10 =>
  some ((r10 149 1), r10)
  else
  some ((-1 : Int32), I)
set_option maxRecDepth 20000 in
theorem q_X12_feed {l : Launch} {I : gIt} {J : gJt} {w : Bool} {x1 : Int32} {x2 : Int32} {x3 : Int32} {x4 : Int32} {x5 : Int32} {v : (Int32 × gIt)} (h : p_X12_feed I x1 x2 x3 x4 x5 = some v) : Cn l gX12_feed 3 0 0 [.ref 149, .int x1, .int x2, .int x3, .int x4, .int x5] gS0 I J (gR0 w) (fun v' S' I' J' R' => v' = some (.int v.1) ∧ S' = gS0 ∧ I' = v.2 ∧ J' = J ∧ R' = gR0 w) := by
  refine Cn.of [some (.ref 149), some (.int x1), some (.int x2), some (.int x3), some (.int x4), some (.int x5)] (by decide) rfl (Nat.le_of_ble_eq_true rfl) ?_
  rw [p_X12_feed] at h
  refine G_aload_n dX12_feed_0 rfl rfl ?_
  refine G_getI fl_X12_193 sl_149 sk_149 rfl dX12_feed_1 ?_
  refine G_bipush (v := 20) dX12_feed_4 rfl ?_
  refine G_iadd dX12_feed_6 ?_
  refine G_bipush (v := 100) dX12_feed_7 rfl ?_
  refine G_icmp_le 14 dX12_feed_9 (by decide) (fun c1 => ?_) (fun c1 => ?_)
  · replace h := git c1 h
    refine G_aload_n dX12_feed_14 rfl rfl ?_
    refine G_iload_n dX12_feed_15 rfl rfl ?_
    obtain ⟨r2, hr3, h⟩ := gB_some h
    refine G_cV (mj := gX12_push) (As := [.int x1]) (rest := []) ml_X12_196 vX12_push sl_149 sk_149 (by decide) rfl rfl rfl (Nat.le_of_ble_eq_true rfl) (by decide) (Nat.le_refl _) (Nat.le_refl _) dX12_feed_16 (q_X12_push hr3) ?_
    refine G_aload_n dX12_feed_19 rfl rfl ?_
    refine G_iload_n dX12_feed_20 rfl rfl ?_
    obtain ⟨r4, hr5, h⟩ := gB_some h
    refine G_cV (mj := gX12_push) (As := [.int x2]) (rest := []) ml_X12_196 vX12_push sl_149 sk_149 (by decide) rfl rfl rfl (Nat.le_of_ble_eq_true rfl) (by decide) (Nat.le_refl _) (Nat.le_refl _) dX12_feed_21 (q_X12_push hr5) ?_
    refine G_aload_n dX12_feed_24 rfl rfl ?_
    refine G_iload_n dX12_feed_25 rfl rfl ?_
    obtain ⟨r6, hr7, h⟩ := gB_some h
    refine G_cV (mj := gX12_push) (As := [.int x3]) (rest := []) ml_X12_196 vX12_push sl_149 sk_149 (by decide) rfl rfl rfl (Nat.le_of_ble_eq_true rfl) (by decide) (Nat.le_refl _) (Nat.le_refl _) dX12_feed_26 (q_X12_push hr7) ?_
    refine G_aload_n dX12_feed_29 rfl rfl ?_
    refine G_iload dX12_feed_30 rfl ?_
    obtain ⟨r8, hr9, h⟩ := gB_some h
    refine G_cV (mj := gX12_push) (As := [.int x4]) (rest := []) ml_X12_196 vX12_push sl_149 sk_149 (by decide) rfl rfl rfl (Nat.le_of_ble_eq_true rfl) (by decide) (Nat.le_refl _) (Nat.le_refl _) dX12_feed_32 (q_X12_push hr9) ?_
    refine G_aload_n dX12_feed_35 rfl rfl ?_
    refine G_iload dX12_feed_36 rfl ?_
    obtain ⟨r10, hr11, h⟩ := gB_some h
    refine G_cV (mj := gX12_push) (As := [.int x5]) (rest := []) ml_X12_196 vX12_push sl_149 sk_149 (by decide) rfl rfl rfl (Nat.le_of_ble_eq_true rfl) (by decide) (Nat.le_refl _) (Nat.le_refl _) dX12_feed_38 (q_X12_push hr11) ?_
    refine G_aload_n dX12_feed_41 rfl rfl ?_
    refine G_getI fl_X12_193 sl_149 sk_149 rfl dX12_feed_42 ?_
    refine G_iret rfl (Nat.le_refl _) (Nat.le_refl _) dX12_feed_45 ?_
    cases h
    exact ⟨rfl, rfl, rfl, rfl, rfl⟩
  · replace h := gif c1 h
    refine G_iconst (v := -1) dX12_feed_12 rfl ?_
    refine G_iret rfl (Nat.le_refl _) (Nat.le_refl _) dX12_feed_13 ?_
    cases h
    exact ⟨rfl, rfl, rfl, rfl, rfl⟩
def p_X12_here (I : gIt) : Option Int32 :=
  if (I 149 29) ≤ (I 149 28) then
  some (0 : Int32)
  else
  gck (gin (I 149 28) 100) (
  some ((I 150 ((I 149 28)).toNatClampNeg) &&& (255 : Int32)))
set_option maxRecDepth 20000 in
theorem q_X12_here {l : Launch} {I : gIt} {J : gJt} {w : Bool} {v : Int32} (h : p_X12_here I = some v) : Cn l gX12_here 2 0 0 [.ref 149] gS0 I J (gR0 w) (fun v' S' I' J' R' => v' = some (.int v) ∧ S' = gS0 ∧ I' = I ∧ J' = J ∧ R' = gR0 w) := by
  refine Cn.of [some (.ref 149)] (by decide) rfl (Nat.le_of_ble_eq_true rfl) ?_
  rw [p_X12_here] at h
  refine G_aload_n dX12_here_0 rfl rfl ?_
  refine G_getI fl_X12_200 sl_149 sk_149 rfl dX12_here_1 ?_
  refine G_aload_n dX12_here_4 rfl rfl ?_
  refine G_getI fl_X12_203 sl_149 sk_149 rfl dX12_here_5 ?_
  refine G_icmp_ge 27 dX12_here_8 (by decide) (fun c1 => ?_) (fun c1 => ?_)
  · replace h := git c1 h
    refine G_iconst (v := 0) dX12_here_27 rfl ?_
    refine G_iret rfl (Nat.le_refl _) (Nat.le_refl _) dX12_here_28 ?_
    cases h
    exact ⟨rfl, rfl, rfl, rfl, rfl⟩
  · replace h := gif c1 h
    refine G_aload_n dX12_here_11 rfl rfl ?_
    refine G_getR fl_X12_7 sl_149 sk_149 rfl (rr_149_0 _) dX12_here_12 ?_
    refine G_aload_n dX12_here_15 rfl rfl ?_
    refine G_getI fl_X12_200 sl_149 sk_149 rfl dX12_here_16 ?_
    obtain ⟨b2, h⟩ := gck_some h
    refine G_bald sl_150 ss_150 (gin_in b2) dX12_here_19 ?_
    refine G_sipush (v := 255) dX12_here_20 rfl ?_
    refine G_iand dX12_here_23 ?_
    refine G_goto 28 dX12_here_24 (by decide) ?_
    refine G_iret rfl (Nat.le_refl _) (Nat.le_refl _) dX12_here_28 ?_
    cases h
    exact ⟨rfl, rfl, rfl, rfl, rfl⟩
def p_X12_wrongs (I : gIt) (x1 : Int32) (x2 : Int32) : Option gIt :=
  if 0 ≤ (I 149 30) then
  gL ((((-1000 : Int32) * x1) - x2)) fun z2 =>
  gL (gu2 I 149 30 z2) fun I3 =>
  some I3
  else
  gL ((I 149 30)) fun z4 =>
  gL (gu2 I 149 30 z4) fun I5 =>
  some I5
set_option maxRecDepth 20000 in
theorem q_X12_wrongs {l : Launch} {I : gIt} {J : gJt} {w : Bool} {x1 : Int32} {x2 : Int32} {v : gIt} (h : p_X12_wrongs I x1 x2 = some v) : Cn l gX12_wrongs 2 0 0 [.ref 149, .int x1, .int x2] gS0 I J (gR0 w) (fun v' S' I' J' R' => v' = none ∧ S' = gS0 ∧ I' = v ∧ J' = J ∧ R' = gR0 w) := by
  refine Cn.of [some (.ref 149), some (.int x1), some (.int x2)] (by decide) rfl (Nat.le_of_ble_eq_true rfl) ?_
  rw [p_X12_wrongs] at h
  refine G_aload_n dX12_wrongs_0 rfl rfl ?_
  refine G_aload_n dX12_wrongs_1 rfl rfl ?_
  refine G_getI fl_X12_206 sl_149 sk_149 rfl dX12_wrongs_2 ?_
  refine G_if_ge 15 dX12_wrongs_5 (by decide) (fun c1 => ?_) (fun c1 => ?_)
  · replace h := git c1 h
    refine G_sipush (v := -1000) dX12_wrongs_15 rfl ?_
    refine G_iload_n dX12_wrongs_18 rfl rfl ?_
    refine G_imul dX12_wrongs_19 ?_
    refine G_iload_n dX12_wrongs_20 rfl rfl ?_
    refine G_isub dX12_wrongs_21 ?_
    refine G_nI fun z2 ez2 => ?_
    replace h := gL_some ez2 h
    refine G_putI fl_X12_206 sl_149 sk_149 rfl rfl ⟨rfl, rfl⟩ dX12_wrongs_22 ?_
    refine G_mI fun I3 eI3 => ?_
    replace h := gL_some eI3 h
    refine G_vret rfl (Nat.le_refl _) (Nat.le_refl _) dX12_wrongs_25 ?_
    cases h
    exact ⟨rfl, rfl, rfl, rfl, rfl⟩
  · replace h := gif c1 h
    refine G_aload_n dX12_wrongs_8 rfl rfl ?_
    refine G_getI fl_X12_206 sl_149 sk_149 rfl dX12_wrongs_9 ?_
    refine G_goto 22 dX12_wrongs_12 (by decide) ?_
    refine G_nI fun z4 ez4 => ?_
    replace h := gL_some ez4 h
    refine G_putI fl_X12_206 sl_149 sk_149 rfl rfl ⟨rfl, rfl⟩ dX12_wrongs_22 ?_
    refine G_mI fun I5 eI5 => ?_
    replace h := gL_some eI5 h
    refine G_vret rfl (Nat.le_refl _) (Nat.le_refl _) dX12_wrongs_25 ?_
    cases h
    exact ⟨rfl, rfl, rfl, rfl, rfl⟩
def p_X12_isGood (I : gIt) : Option Int32 :=
  if (I 149 30) = 0 then
  some (1 : Int32)
  else
  some (0 : Int32)
set_option maxRecDepth 20000 in
theorem q_X12_isGood {l : Launch} {I : gIt} {J : gJt} {w : Bool} {v : Int32} (h : p_X12_isGood I = some v) : Cn l gX12_isGood 2 0 0 [.ref 149] gS0 I J (gR0 w) (fun v' S' I' J' R' => v' = some (.int v) ∧ S' = gS0 ∧ I' = I ∧ J' = J ∧ R' = gR0 w) := by
  refine Cn.of [some (.ref 149)] (by decide) rfl (Nat.le_of_ble_eq_true rfl) ?_
  rw [p_X12_isGood] at h
  refine G_aload_n dX12_isGood_0 rfl rfl ?_
  refine G_getI fl_X12_206 sl_149 sk_149 rfl dX12_isGood_1 ?_
  refine G_if_ne 11 dX12_isGood_4 (by decide) (fun c1 => ?_) (fun c1 => ?_)
  · replace h := gif c1 h
    refine G_iconst (v := 0) dX12_isGood_11 rfl ?_
    refine G_zret rfl (Or.inl rfl) (Nat.le_refl _) (Nat.le_refl _) dX12_isGood_12 ?_
    cases h
    exact ⟨rfl, rfl, rfl, rfl, rfl⟩
  · replace h := git c1 h
    refine G_iconst (v := 1) dX12_isGood_7 rfl ?_
    refine G_goto 12 dX12_isGood_8 (by decide) ?_
    refine G_zret rfl (Or.inr rfl) (Nat.le_refl _) (Nat.le_refl _) dX12_isGood_12 ?_
    cases h
    exact ⟨rfl, rfl, rfl, rfl, rfl⟩
def p_X12_isLetter (x0 : Int32) : Option Int32 :=
  gB (p_X12_lies (Int32.toInt64 x0) (97 : Int64) (112 : Int64)) fun r1 =>
  gck (gbo r1) (
  some r1)
set_option maxRecDepth 20000 in
theorem q_X12_isLetter {l : Launch} {I : gIt} {J : gJt} {w : Bool} {x0 : Int32} {v : Int32} (h : p_X12_isLetter x0 = some v) : Cn l gX12_isLetter 3 0 0 [.int x0] gS0 I J (gR0 w) (fun v' S' I' J' R' => v' = some (.int v) ∧ S' = gS0 ∧ I' = I ∧ J' = J ∧ R' = gR0 w) := by
  refine Cn.of [some (.int x0)] (by decide) rfl (Nat.le_of_ble_eq_true rfl) ?_
  rw [p_X12_isLetter] at h
  refine G_iload_n dX12_isLetter_0 rfl rfl ?_
  refine G_i2l dX12_isLetter_1 ?_
  refine G_ldc2 dX12_isLetter_2 kc_X12_209 ?_
  refine G_ldc2 dX12_isLetter_5 kc_X12_211 ?_
  obtain ⟨r1, hr2, h⟩ := gB_some h
  refine G_cS (mj := gX12_lies) (As := [.long (Int32.toInt64 x0), .long (97 : Int64), .long (112 : Int64)]) (rest := []) ml_X12_156 vX12_lies rfl rfl (Nat.le_of_ble_eq_true rfl) (by decide) (Nat.le_refl _) (Nat.le_refl _) dX12_isLetter_8 (q_X12_lies hr2) ?_
  obtain ⟨b3, h⟩ := gck_some h
  refine G_zret rfl (gbo_or b3) (Nat.le_refl _) (Nat.le_refl _) dX12_isLetter_11 ?_
  cases h
  exact ⟨rfl, rfl, rfl, rfl, rfl⟩
def p_X12_seesDigit (I : gIt) : Option Int32 :=
  gB (p_X12_here I) fun r1 =>
  gB (p_X12_lies (Int32.toInt64 r1) (48 : Int64) (57 : Int64)) fun r3 =>
  gck (gbo r3) (
  some r3)
set_option maxRecDepth 20000 in
theorem q_X12_seesDigit {l : Launch} {I : gIt} {J : gJt} {w : Bool} {v : Int32} (h : p_X12_seesDigit I = some v) : Cn l gX12_seesDigit 3 0 0 [.ref 149] gS0 I J (gR0 w) (fun v' S' I' J' R' => v' = some (.int v) ∧ S' = gS0 ∧ I' = I ∧ J' = J ∧ R' = gR0 w) := by
  refine Cn.of [some (.ref 149)] (by decide) rfl (Nat.le_of_ble_eq_true rfl) ?_
  rw [p_X12_seesDigit] at h
  refine G_aload_n dX12_seesDigit_0 rfl rfl ?_
  obtain ⟨r1, hr2, h⟩ := gB_some h
  refine G_cV (mj := gX12_here) (As := []) (rest := []) ml_X12_213 vX12_here sl_149 sk_149 (by decide) rfl rfl rfl (Nat.le_of_ble_eq_true rfl) (by decide) (Nat.le_refl _) (Nat.le_refl _) dX12_seesDigit_1 (q_X12_here hr2) ?_
  refine G_i2l dX12_seesDigit_4 ?_
  refine G_ldc2 dX12_seesDigit_5 kc_X12_217 ?_
  refine G_ldc2 dX12_seesDigit_8 kc_X12_219 ?_
  obtain ⟨r3, hr4, h⟩ := gB_some h
  refine G_cS (mj := gX12_lies) (As := [.long (Int32.toInt64 r1), .long (48 : Int64), .long (57 : Int64)]) (rest := []) ml_X12_156 vX12_lies rfl rfl (Nat.le_of_ble_eq_true rfl) (by decide) (Nat.le_refl _) (Nat.le_refl _) dX12_seesDigit_11 (q_X12_lies hr4) ?_
  obtain ⟨b5, h⟩ := gck_some h
  refine G_zret rfl (gbo_or b5) (Nat.le_refl _) (Nat.le_refl _) dX12_seesDigit_14 ?_
  cases h
  exact ⟨rfl, rfl, rfl, rfl, rfl⟩
def p_X12_emit (I : gIt) (x1 : Int32) (x2 : Int32) : Option gIt :=
  gB (p_X12_isGood I) fun r1 =>
  if r1 = 0 then
  some I
  else
  gck (gin (((100 : Int32) * (I 149 4)) + (I 149 32)) 1000) (
  gL (gu2 I 167 ((((100 : Int32) * (I 149 4)) + (I 149 32))).toNatClampNeg x1) fun I5 =>
  gck (gin (((100 : Int32) * (I5 149 4)) + (I5 149 32)) 1000) (
  gL (gu2 I5 168 ((((100 : Int32) * (I5 149 4)) + (I5 149 32))).toNatClampNeg x2) fun I7 =>
  gL (((I7 149 32) + (1 : Int32))) fun z8 =>
  gL (gu2 I7 149 32 z8) fun I9 =>
  some I9))
set_option maxRecDepth 20000 in
theorem q_X12_emit {l : Launch} {I : gIt} {J : gJt} {w : Bool} {x1 : Int32} {x2 : Int32} {v : gIt} (h : p_X12_emit I x1 x2 = some v) : Cn l gX12_emit 3 0 0 [.ref 149, .int x1, .int x2] gS0 I J (gR0 w) (fun v' S' I' J' R' => v' = none ∧ S' = gS0 ∧ I' = v ∧ J' = J ∧ R' = gR0 w) := by
  refine Cn.of [some (.ref 149), some (.int x1), some (.int x2)] (by decide) rfl (Nat.le_of_ble_eq_true rfl) ?_
  rw [p_X12_emit] at h
  refine G_aload_n dX12_emit_0 rfl rfl ?_
  obtain ⟨r1, hr2, h⟩ := gB_some h
  refine G_cV (mj := gX12_isGood) (As := []) (rest := []) ml_X12_221 vX12_isGood sl_149 sk_149 (by decide) rfl rfl rfl (Nat.le_of_ble_eq_true rfl) (by decide) (Nat.le_refl _) (Nat.le_refl _) dX12_emit_1 (q_X12_isGood hr2) ?_
  refine G_if_ne 8 dX12_emit_4 (by decide) (fun c3 => ?_) (fun c3 => ?_)
  · replace h := gif c3 h
    refine G_aload_n dX12_emit_8 rfl rfl ?_
    refine G_getR fl_X12_70 sl_149 sk_149 rfl (rr_149_26 _) dX12_emit_9 ?_
    refine G_bipush (v := 100) dX12_emit_12 rfl ?_
    refine G_aload_n dX12_emit_14 rfl rfl ?_
    refine G_getI fl_X12_225 sl_149 sk_149 rfl dX12_emit_15 ?_
    refine G_imul dX12_emit_18 ?_
    refine G_aload_n dX12_emit_19 rfl rfl ?_
    refine G_getI fl_X12_228 sl_149 sk_149 rfl dX12_emit_20 ?_
    refine G_iadd dX12_emit_23 ?_
    refine G_iload_n dX12_emit_24 rfl rfl ?_
    obtain ⟨b4, h⟩ := gck_some h
    refine G_iast sl_167 ss_167 (gin_in b4) dX12_emit_25 ?_
    refine G_mI fun I5 eI5 => ?_
    replace h := gL_some eI5 h
    refine G_aload_n dX12_emit_26 rfl rfl ?_
    refine G_getR fl_X12_73 sl_149 sk_149 rfl (rr_149_27 _) dX12_emit_27 ?_
    refine G_bipush (v := 100) dX12_emit_30 rfl ?_
    refine G_aload_n dX12_emit_32 rfl rfl ?_
    refine G_getI fl_X12_225 sl_149 sk_149 rfl dX12_emit_33 ?_
    refine G_imul dX12_emit_36 ?_
    refine G_aload_n dX12_emit_37 rfl rfl ?_
    refine G_getI fl_X12_228 sl_149 sk_149 rfl dX12_emit_38 ?_
    refine G_iadd dX12_emit_41 ?_
    refine G_iload_n dX12_emit_42 rfl rfl ?_
    obtain ⟨b6, h⟩ := gck_some h
    refine G_iast sl_168 ss_168 (gin_in b6) dX12_emit_43 ?_
    refine G_mI fun I7 eI7 => ?_
    replace h := gL_some eI7 h
    refine G_aload_n dX12_emit_44 rfl rfl ?_
    refine G_dup dX12_emit_45 rfl ?_
    refine G_getI fl_X12_228 sl_149 sk_149 rfl dX12_emit_46 ?_
    refine G_iconst (v := 1) dX12_emit_49 rfl ?_
    refine G_iadd dX12_emit_50 ?_
    refine G_nI fun z8 ez8 => ?_
    replace h := gL_some ez8 h
    refine G_putI fl_X12_228 sl_149 sk_149 rfl rfl ⟨rfl, rfl⟩ dX12_emit_51 ?_
    refine G_mI fun I9 eI9 => ?_
    replace h := gL_some eI9 h
    refine G_vret rfl (Nat.le_refl _) (Nat.le_refl _) dX12_emit_54 ?_
    cases h
    exact ⟨rfl, rfl, rfl, rfl, rfl⟩
  · replace h := git c3 h
    refine G_vret rfl (Nat.le_refl _) (Nat.le_refl _) dX12_emit_7 ?_
    cases h
    exact ⟨rfl, rfl, rfl, rfl, rfl⟩
def p_X12_top (I : gIt) : Option Int32 :=
  if (I 149 34) ≤ 0 then
  some (0 : Int32)
  else
  gck (gin ((I 149 34) - (1 : Int32)) 120) (
  some (I 169 (((I 149 34) - (1 : Int32))).toNatClampNeg))
set_option maxRecDepth 20000 in
theorem q_X12_top {l : Launch} {I : gIt} {J : gJt} {w : Bool} {v : Int32} (h : p_X12_top I = some v) : Cn l gX12_top 2 0 0 [.ref 149] gS0 I J (gR0 w) (fun v' S' I' J' R' => v' = some (.int v) ∧ S' = gS0 ∧ I' = I ∧ J' = J ∧ R' = gR0 w) := by
  refine Cn.of [some (.ref 149)] (by decide) rfl (Nat.le_of_ble_eq_true rfl) ?_
  rw [p_X12_top] at h
  refine G_aload_n dX12_top_0 rfl rfl ?_
  refine G_getI fl_X12_231 sl_149 sk_149 rfl dX12_top_1 ?_
  refine G_if_le 21 dX12_top_4 (by decide) (fun c1 => ?_) (fun c1 => ?_)
  · replace h := git c1 h
    refine G_iconst (v := 0) dX12_top_21 rfl ?_
    refine G_iret rfl (Nat.le_refl _) (Nat.le_refl _) dX12_top_22 ?_
    cases h
    exact ⟨rfl, rfl, rfl, rfl, rfl⟩
  · replace h := gif c1 h
    refine G_aload_n dX12_top_7 rfl rfl ?_
    refine G_getR fl_X12_76 sl_149 sk_149 rfl (rr_149_36 _) dX12_top_8 ?_
    refine G_aload_n dX12_top_11 rfl rfl ?_
    refine G_getI fl_X12_231 sl_149 sk_149 rfl dX12_top_12 ?_
    refine G_iconst (v := 1) dX12_top_15 rfl ?_
    refine G_isub dX12_top_16 ?_
    obtain ⟨b2, h⟩ := gck_some h
    refine G_iald sl_169 ss_169 (gin_in b2) dX12_top_17 ?_
    refine G_goto 22 dX12_top_18 (by decide) ?_
    refine G_iret rfl (Nat.le_refl _) (Nat.le_refl _) dX12_top_22 ?_
    cases h
    exact ⟨rfl, rfl, rfl, rfl, rfl⟩
def p_X12_puts (I : gIt) (x1 : Int32) : Option gIt :=
  gck (gin (I 149 34) 120) (
  gL (gu2 I 169 ((I 149 34)).toNatClampNeg x1) fun I2 =>
  gL (((I2 149 34) + (1 : Int32))) fun z3 =>
  gL (gu2 I2 149 34 z3) fun I4 =>
  gL (((I4 149 28) + (1 : Int32))) fun z5 =>
  gL (gu2 I4 149 28 z5) fun I6 =>
  some I6)
set_option maxRecDepth 20000 in
theorem q_X12_puts {l : Launch} {I : gIt} {J : gJt} {w : Bool} {x1 : Int32} {v : gIt} (h : p_X12_puts I x1 = some v) : Cn l gX12_puts 2 0 0 [.ref 149, .int x1] gS0 I J (gR0 w) (fun v' S' I' J' R' => v' = none ∧ S' = gS0 ∧ I' = v ∧ J' = J ∧ R' = gR0 w) := by
  refine Cn.of [some (.ref 149), some (.int x1)] (by decide) rfl (Nat.le_of_ble_eq_true rfl) ?_
  rw [p_X12_puts] at h
  refine G_aload_n dX12_puts_0 rfl rfl ?_
  refine G_getR fl_X12_76 sl_149 sk_149 rfl (rr_149_36 _) dX12_puts_1 ?_
  refine G_aload_n dX12_puts_4 rfl rfl ?_
  refine G_getI fl_X12_231 sl_149 sk_149 rfl dX12_puts_5 ?_
  refine G_iload_n dX12_puts_8 rfl rfl ?_
  obtain ⟨b1, h⟩ := gck_some h
  refine G_iast sl_169 ss_169 (gin_in b1) dX12_puts_9 ?_
  refine G_mI fun I2 eI2 => ?_
  replace h := gL_some eI2 h
  refine G_aload_n dX12_puts_10 rfl rfl ?_
  refine G_dup dX12_puts_11 rfl ?_
  refine G_getI fl_X12_231 sl_149 sk_149 rfl dX12_puts_12 ?_
  refine G_iconst (v := 1) dX12_puts_15 rfl ?_
  refine G_iadd dX12_puts_16 ?_
  refine G_nI fun z3 ez3 => ?_
  replace h := gL_some ez3 h
  refine G_putI fl_X12_231 sl_149 sk_149 rfl rfl ⟨rfl, rfl⟩ dX12_puts_17 ?_
  refine G_mI fun I4 eI4 => ?_
  replace h := gL_some eI4 h
  refine G_aload_n dX12_puts_20 rfl rfl ?_
  refine G_dup dX12_puts_21 rfl ?_
  refine G_getI fl_X12_200 sl_149 sk_149 rfl dX12_puts_22 ?_
  refine G_iconst (v := 1) dX12_puts_25 rfl ?_
  refine G_iadd dX12_puts_26 ?_
  refine G_nI fun z5 ez5 => ?_
  replace h := gL_some ez5 h
  refine G_putI fl_X12_200 sl_149 sk_149 rfl rfl ⟨rfl, rfl⟩ dX12_puts_27 ?_
  refine G_mI fun I6 eI6 => ?_
  replace h := gL_some eI6 h
  refine G_vret rfl (Nat.le_refl _) (Nat.le_refl _) dX12_puts_30 ?_
  cases h
  exact ⟨rfl, rfl, rfl, rfl, rfl⟩
def p_X12_opens (I : gIt) : Option gIt :=
  gB (α := gIt) (
  if (I 149 33) = (6 : Int32) then
  gB (p_X12_wrongs I (5 : Int32) (I 149 28)) fun r12 =>
  some r12
  else
  some I) fun ph1 =>
  gL (((ph1 149 33) + (1 : Int32))) fun z5 =>
  gL (gu2 ph1 149 33 z5) fun I6 =>
  gB (p_X12_here I6) fun r7 =>
  gB (p_X12_puts I6 r7) fun r9 =>
  some r9
set_option maxRecDepth 20000 in
theorem q_X12_opens {l : Launch} {I : gIt} {J : gJt} {w : Bool} {v : gIt} (h : p_X12_opens I = some v) : Cn l gX12_opens 3 0 0 [.ref 149] gS0 I J (gR0 w) (fun v' S' I' J' R' => v' = none ∧ S' = gS0 ∧ I' = v ∧ J' = J ∧ R' = gR0 w) := by
  refine Cn.of [some (.ref 149)] (by decide) rfl (Nat.le_of_ble_eq_true rfl) ?_
  rw [p_X12_opens] at h
  refine G_aload_n dX12_opens_0 rfl rfl ?_
  refine G_getI fl_X12_234 sl_149 sk_149 rfl dX12_opens_1 ?_
  refine G_bipush (v := 6) dX12_opens_4 rfl ?_
  obtain ⟨ph1, t2, r3⟩ := gB_some h
  have jn4 : G l gX12_opens 3 0 0 (fun v' S' I' J' R' => v' = none ∧ S' = gS0 ∧ I' = v ∧ J' = J ∧ R' = gR0 w) 0 0 18 [some (.ref 149)] [] gS0 ph1 J (gR0 w) := by
    refine G_aload_n dX12_opens_18 rfl rfl ?_
    refine G_dup dX12_opens_19 rfl ?_
    refine G_getI fl_X12_234 sl_149 sk_149 rfl dX12_opens_20 ?_
    refine G_iconst (v := 1) dX12_opens_23 rfl ?_
    refine G_iadd dX12_opens_24 ?_
    refine G_nI fun z5 ez5 => ?_
    replace r3 := gL_some ez5 r3
    refine G_putI fl_X12_234 sl_149 sk_149 rfl rfl ⟨rfl, rfl⟩ dX12_opens_25 ?_
    refine G_mI fun I6 eI6 => ?_
    replace r3 := gL_some eI6 r3
    refine G_aload_n dX12_opens_28 rfl rfl ?_
    refine G_aload_n dX12_opens_29 rfl rfl ?_
    obtain ⟨r7, hr8, r3⟩ := gB_some r3
    refine G_cV (mj := gX12_here) (As := []) (rest := [.ref 149]) ml_X12_213 vX12_here sl_149 sk_149 (by decide) rfl rfl rfl (Nat.le_of_ble_eq_true rfl) (by decide) (Nat.le_refl _) (Nat.le_refl _) dX12_opens_30 (q_X12_here hr8) ?_
    obtain ⟨r9, hr10, r3⟩ := gB_some r3
    refine G_cV (mj := gX12_puts) (As := [.int r7]) (rest := []) ml_X12_241 vX12_puts sl_149 sk_149 (by decide) rfl rfl rfl (Nat.le_of_ble_eq_true rfl) (by decide) (Nat.le_refl _) (Nat.le_refl _) dX12_opens_33 (q_X12_puts hr10) ?_
    refine G_vret rfl (Nat.le_refl _) (Nat.le_refl _) dX12_opens_36 ?_
    cases r3
    exact ⟨rfl, rfl, rfl, rfl, rfl⟩
  refine G_icmp_ne 18 dX12_opens_6 (by decide) (fun c11 => ?_) (fun c11 => ?_)
  · replace t2 := gif c11 t2
    cases t2
    exact jn4
  · replace t2 := git c11 t2
    refine G_aload_n dX12_opens_9 rfl rfl ?_
    refine G_iconst (v := 5) dX12_opens_10 rfl ?_
    refine G_aload_n dX12_opens_11 rfl rfl ?_
    refine G_getI fl_X12_200 sl_149 sk_149 rfl dX12_opens_12 ?_
    obtain ⟨r12, hr13, t2⟩ := gB_some t2
    refine G_cV (mj := gX12_wrongs) (As := [.int (5 : Int32), .int (I 149 28)]) (rest := []) ml_X12_237 vX12_wrongs sl_149 sk_149 (by decide) rfl rfl rfl (Nat.le_of_ble_eq_true rfl) (by decide) (Nat.le_refl _) (Nat.le_refl _) dX12_opens_15 (q_X12_wrongs hr13) ?_
    cases t2
    exact jn4
def p_X12_who (I : gIt) : Option (Int32 × gIt) :=
  gB (p_X12_here I) fun r1 =>
  gL ((r1 - (97 : Int32))) fun z3 =>
  gB (α := gIt) (
  if z3 = (I 149 35) then
  gB (p_X12_wrongs I (2 : Int32) (I 149 28)) fun r11 =>
  some r11
  else
  some I) fun ph4 =>
  gL (((ph4 149 28) + (1 : Int32))) fun z8 =>
  gL (gu2 ph4 149 28 z8) fun I9 =>
  some (z3, I9)
set_option maxRecDepth 20000 in
theorem q_X12_who {l : Launch} {I : gIt} {J : gJt} {w : Bool} {v : (Int32 × gIt)} (h : p_X12_who I = some v) : Cn l gX12_who 3 0 0 [.ref 149] gS0 I J (gR0 w) (fun v' S' I' J' R' => v' = some (.int v.1) ∧ S' = gS0 ∧ I' = v.2 ∧ J' = J ∧ R' = gR0 w) := by
  refine Cn.of [some (.ref 149), none] (by decide) rfl (Nat.le_of_ble_eq_true rfl) ?_
  rw [p_X12_who] at h
  refine G_aload_n dX12_who_0 rfl rfl ?_
  obtain ⟨r1, hr2, h⟩ := gB_some h
  refine G_cV (mj := gX12_here) (As := []) (rest := []) ml_X12_213 vX12_here sl_149 sk_149 (by decide) rfl rfl rfl (Nat.le_of_ble_eq_true rfl) (by decide) (Nat.le_refl _) (Nat.le_refl _) dX12_who_1 (q_X12_here hr2) ?_
  refine G_bipush (v := 97) dX12_who_4 rfl ?_
  refine G_isub dX12_who_6 ?_
  refine G_nI fun z3 ez3 => ?_
  replace h := gL_some ez3 h
  refine S_istore_n [some (.ref 149), some (.int z3)] dX12_who_7 rfl (by decide) rfl ?_
  refine G_iload_n dX12_who_8 rfl rfl ?_
  refine G_aload_n dX12_who_9 rfl rfl ?_
  refine G_getI fl_X12_244 sl_149 sk_149 rfl dX12_who_10 ?_
  obtain ⟨ph4, t5, r6⟩ := gB_some h
  have jn7 : G l gX12_who 3 0 0 (fun v' S' I' J' R' => v' = some (.int v.1) ∧ S' = gS0 ∧ I' = v.2 ∧ J' = J ∧ R' = gR0 w) 0 0 25 [some (.ref 149), some (.int z3)] [] gS0 ph4 J (gR0 w) := by
    refine G_aload_n dX12_who_25 rfl rfl ?_
    refine G_dup dX12_who_26 rfl ?_
    refine G_getI fl_X12_200 sl_149 sk_149 rfl dX12_who_27 ?_
    refine G_iconst (v := 1) dX12_who_30 rfl ?_
    refine G_iadd dX12_who_31 ?_
    refine G_nI fun z8 ez8 => ?_
    replace r6 := gL_some ez8 r6
    refine G_putI fl_X12_200 sl_149 sk_149 rfl rfl ⟨rfl, rfl⟩ dX12_who_32 ?_
    refine G_mI fun I9 eI9 => ?_
    replace r6 := gL_some eI9 r6
    refine G_iload_n dX12_who_35 rfl rfl ?_
    refine G_iret rfl (Nat.le_refl _) (Nat.le_refl _) dX12_who_36 ?_
    cases r6
    exact ⟨rfl, rfl, rfl, rfl, rfl⟩
  refine G_icmp_ne 25 dX12_who_13 (by decide) (fun c10 => ?_) (fun c10 => ?_)
  · replace t5 := gif c10 t5
    cases t5
    exact jn7
  · replace t5 := git c10 t5
    refine G_aload_n dX12_who_16 rfl rfl ?_
    refine G_iconst (v := 2) dX12_who_17 rfl ?_
    refine G_aload_n dX12_who_18 rfl rfl ?_
    refine G_getI fl_X12_200 sl_149 sk_149 rfl dX12_who_19 ?_
    obtain ⟨r11, hr12, t5⟩ := gB_some t5
    refine G_cV (mj := gX12_wrongs) (As := [.int (2 : Int32), .int (I 149 28)]) (rest := []) ml_X12_237 vX12_wrongs sl_149 sk_149 (by decide) rfl rfl rfl (Nat.le_of_ble_eq_true rfl) (by decide) (Nat.le_refl _) (Nat.le_refl _) dX12_who_22 (q_X12_wrongs hr12) ?_
    cases t5
    exact jn7
def p_X12_signAt (I : gIt) (x1 : Int32) : Option Int32 :=
  if (I 149 29) ≤ x1 then
  some ((0 : Int32) - (97 : Int32))
  else
  gck (gin x1 100) (
  some (((I 150 (x1).toNatClampNeg) &&& (255 : Int32)) - (97 : Int32)))
set_option maxRecDepth 20000 in
theorem q_X12_signAt {l : Launch} {I : gIt} {J : gJt} {w : Bool} {x1 : Int32} {v : Int32} (h : p_X12_signAt I x1 = some v) : Cn l gX12_signAt 2 0 0 [.ref 149, .int x1] gS0 I J (gR0 w) (fun v' S' I' J' R' => v' = some (.int v) ∧ S' = gS0 ∧ I' = I ∧ J' = J ∧ R' = gR0 w) := by
  refine Cn.of [some (.ref 149), some (.int x1)] (by decide) rfl (Nat.le_of_ble_eq_true rfl) ?_
  rw [p_X12_signAt] at h
  refine G_iload_n dX12_signAt_0 rfl rfl ?_
  refine G_aload_n dX12_signAt_1 rfl rfl ?_
  refine G_getI fl_X12_203 sl_149 sk_149 rfl dX12_signAt_2 ?_
  refine G_icmp_ge 21 dX12_signAt_5 (by decide) (fun c1 => ?_) (fun c1 => ?_)
  · replace h := git c1 h
    refine G_iconst (v := 0) dX12_signAt_21 rfl ?_
    refine G_bipush (v := 97) dX12_signAt_22 rfl ?_
    refine G_isub dX12_signAt_24 ?_
    refine G_iret rfl (Nat.le_refl _) (Nat.le_refl _) dX12_signAt_25 ?_
    cases h
    exact ⟨rfl, rfl, rfl, rfl, rfl⟩
  · replace h := gif c1 h
    refine G_aload_n dX12_signAt_8 rfl rfl ?_
    refine G_getR fl_X12_7 sl_149 sk_149 rfl (rr_149_0 _) dX12_signAt_9 ?_
    refine G_iload_n dX12_signAt_12 rfl rfl ?_
    obtain ⟨b2, h⟩ := gck_some h
    refine G_bald sl_150 ss_150 (gin_in b2) dX12_signAt_13 ?_
    refine G_sipush (v := 255) dX12_signAt_14 rfl ?_
    refine G_iand dX12_signAt_17 ?_
    refine G_goto 22 dX12_signAt_18 (by decide) ?_
    refine G_bipush (v := 97) dX12_signAt_22 rfl ?_
    refine G_isub dX12_signAt_24 ?_
    refine G_iret rfl (Nat.le_refl _) (Nat.le_refl _) dX12_signAt_25 ?_
    cases h
    exact ⟨rfl, rfl, rfl, rfl, rfl⟩
def p_X12_whose (I : gIt) : Option (Int32 × gIt) :=
  gL (((I 149 28) + (1 : Int32))) fun z1 =>
  gL (gu2 I 149 28 z1) fun I2 =>
  gB (p_X12_here I2) fun r3 =>
  gB (p_X12_isLetter r3) fun r5 =>
  gB (α := gIt) (
  if r5 = 0 then
  gB (p_X12_wrongs I2 (1 : Int32) (I2 149 28)) fun r16 =>
  some r16
  else
  some I2) fun ph7 =>
  gL (((ph7 149 28) + (1 : Int32))) fun z11 =>
  gL (gu2 ph7 149 28 z11) fun I12 =>
  gB (p_X12_signAt I12 ((I12 149 28) - (1 : Int32))) fun r13 =>
  some (r13, I12)
set_option maxRecDepth 20000 in
theorem q_X12_whose {l : Launch} {I : gIt} {J : gJt} {w : Bool} {v : (Int32 × gIt)} (h : p_X12_whose I = some v) : Cn l gX12_whose 4 0 0 [.ref 149] gS0 I J (gR0 w) (fun v' S' I' J' R' => v' = some (.int v.1) ∧ S' = gS0 ∧ I' = v.2 ∧ J' = J ∧ R' = gR0 w) := by
  refine Cn.of [some (.ref 149)] (by decide) rfl (Nat.le_of_ble_eq_true rfl) ?_
  rw [p_X12_whose] at h
  refine G_aload_n dX12_whose_0 rfl rfl ?_
  refine G_dup dX12_whose_1 rfl ?_
  refine G_getI fl_X12_200 sl_149 sk_149 rfl dX12_whose_2 ?_
  refine G_iconst (v := 1) dX12_whose_5 rfl ?_
  refine G_iadd dX12_whose_6 ?_
  refine G_nI fun z1 ez1 => ?_
  replace h := gL_some ez1 h
  refine G_putI fl_X12_200 sl_149 sk_149 rfl rfl ⟨rfl, rfl⟩ dX12_whose_7 ?_
  refine G_mI fun I2 eI2 => ?_
  replace h := gL_some eI2 h
  refine G_aload_n dX12_whose_10 rfl rfl ?_
  obtain ⟨r3, hr4, h⟩ := gB_some h
  refine G_cV (mj := gX12_here) (As := []) (rest := []) ml_X12_213 vX12_here sl_149 sk_149 (by decide) rfl rfl rfl (Nat.le_of_ble_eq_true rfl) (by decide) (Nat.le_refl _) (Nat.le_refl _) dX12_whose_11 (q_X12_here hr4) ?_
  obtain ⟨r5, hr6, h⟩ := gB_some h
  refine G_cS (mj := gX12_isLetter) (As := [.int r3]) (rest := []) ml_X12_247 vX12_isLetter rfl rfl (Nat.le_of_ble_eq_true rfl) (by decide) (Nat.le_refl _) (Nat.le_refl _) dX12_whose_14 (q_X12_isLetter hr6) ?_
  obtain ⟨ph7, t8, r9⟩ := gB_some h
  have jn10 : G l gX12_whose 4 0 0 (fun v' S' I' J' R' => v' = some (.int v.1) ∧ S' = gS0 ∧ I' = v.2 ∧ J' = J ∧ R' = gR0 w) 0 0 29 [some (.ref 149)] [] gS0 ph7 J (gR0 w) := by
    refine G_aload_n dX12_whose_29 rfl rfl ?_
    refine G_dup dX12_whose_30 rfl ?_
    refine G_getI fl_X12_200 sl_149 sk_149 rfl dX12_whose_31 ?_
    refine G_iconst (v := 1) dX12_whose_34 rfl ?_
    refine G_iadd dX12_whose_35 ?_
    refine G_nI fun z11 ez11 => ?_
    replace r9 := gL_some ez11 r9
    refine G_putI fl_X12_200 sl_149 sk_149 rfl rfl ⟨rfl, rfl⟩ dX12_whose_36 ?_
    refine G_mI fun I12 eI12 => ?_
    replace r9 := gL_some eI12 r9
    refine G_aload_n dX12_whose_39 rfl rfl ?_
    refine G_aload_n dX12_whose_40 rfl rfl ?_
    refine G_getI fl_X12_200 sl_149 sk_149 rfl dX12_whose_41 ?_
    refine G_iconst (v := 1) dX12_whose_44 rfl ?_
    refine G_isub dX12_whose_45 ?_
    obtain ⟨r13, hr14, r9⟩ := gB_some r9
    refine G_cV (mj := gX12_signAt) (As := [.int ((I12 149 28) - (1 : Int32))]) (rest := []) ml_X12_250 vX12_signAt sl_149 sk_149 (by decide) rfl rfl rfl (Nat.le_of_ble_eq_true rfl) (by decide) (Nat.le_refl _) (Nat.le_refl _) dX12_whose_46 (q_X12_signAt hr14) ?_
    refine G_iret rfl (Nat.le_refl _) (Nat.le_refl _) dX12_whose_49 ?_
    cases r9
    exact ⟨rfl, rfl, rfl, rfl, rfl⟩
  refine G_if_ne 29 dX12_whose_17 (by decide) (fun c15 => ?_) (fun c15 => ?_)
  · replace t8 := gif c15 t8
    cases t8
    exact jn10
  · replace t8 := git c15 t8
    refine G_aload_n dX12_whose_20 rfl rfl ?_
    refine G_iconst (v := 1) dX12_whose_21 rfl ?_
    refine G_aload_n dX12_whose_22 rfl rfl ?_
    refine G_getI fl_X12_200 sl_149 sk_149 rfl dX12_whose_23 ?_
    obtain ⟨r16, hr17, t8⟩ := gB_some t8
    refine G_cV (mj := gX12_wrongs) (As := [.int (1 : Int32), .int (I2 149 28)]) (rest := []) ml_X12_237 vX12_wrongs sl_149 sk_149 (by decide) rfl rfl rfl (Nat.le_of_ble_eq_true rfl) (by decide) (Nat.le_refl _) (Nat.le_refl _) dX12_whose_26 (q_X12_wrongs hr17) ?_
    cases t8
    exact jn10
def p_X12_counts_72 (x1 : Int32) : Nat → gIt → Int32 → Int32 → Option gIt
  | 0, _, _, _ => none
  | n + 1, I, x2, x3 =>
    if (2 : Int32) ≤ x3 then
    if x1 = (60 : Int32) then
    gB (p_X12_emit I (3 : Int32) x2) fun r21 =>
    some r21
    else
    if x1 = (62 : Int32) then
    gB (p_X12_emit I (4 : Int32) x2) fun r19 =>
    some r19
    else
    gB (p_X12_emit I (5 : Int32) x2) fun r17 =>
    some r17
    else
    gB (p_X12_isGood I) fun r23 =>
    if r23 = 0 then
    if x1 = (60 : Int32) then
    gB (p_X12_emit I (3 : Int32) x2) fun r32 =>
    some r32
    else
    if x1 = (62 : Int32) then
    gB (p_X12_emit I (4 : Int32) x2) fun r30 =>
    some r30
    else
    gB (p_X12_emit I (5 : Int32) x2) fun r28 =>
    some r28
    else
    gB (p_X12_seesDigit I) fun r34 =>
    if r34 = 0 then
    if x1 = (60 : Int32) then
    gB (p_X12_emit I (3 : Int32) x2) fun r43 =>
    some r43
    else
    if x1 = (62 : Int32) then
    gB (p_X12_emit I (4 : Int32) x2) fun r41 =>
    some r41
    else
    gB (p_X12_emit I (5 : Int32) x2) fun r39 =>
    some r39
    else
    gB (p_X12_here I) fun r45 =>
    gL (((((10 : Int32) * x2) + r45) - (48 : Int32))) fun z47 =>
    gL (((I 149 28) + (1 : Int32))) fun z48 =>
    gL (gu2 I 149 28 z48) fun I49 =>
    p_X12_counts_72 x1 n I49 z47 (x3 + (1 : Int32))
def p_X12_counts (I : gIt) : Option gIt :=
  gL (((I 149 28) + (1 : Int32))) fun z1 =>
  gL (gu2 I 149 28 z1) fun I2 =>
  gB (p_X12_here I2) fun r3 =>
  gB (α := gIt) (
  if r3 = (60 : Int32) then
  some I2
  else
  if r3 = (62 : Int32) then
  some I2
  else
  if r3 = (61 : Int32) then
  some I2
  else
  gB (p_X12_wrongs I2 (1 : Int32) (I2 149 28)) fun r55 =>
  some r55) fun ph5 =>
  gL (((ph5 149 28) + (1 : Int32))) fun z9 =>
  gL (gu2 ph5 149 28 z9) fun I10 =>
  gB (p_X12_seesDigit I10) fun r11 =>
  if r11 = 0 then
  gB (p_X12_wrongs I10 (1 : Int32) (I10 149 28)) fun r50 =>
  p_X12_counts_72 r3 gFu r50 (0 : Int32) (0 : Int32)
  else
  p_X12_counts_72 r3 gFu I10 (0 : Int32) (0 : Int32)
set_option maxRecDepth 20000 in
theorem q_X12_counts_72 {l : Launch} {v : gIt} {J : gJt} {w : Bool} {x1 : Int32} : ∀ (n : Nat) (I : gIt) (x2 : Int32) (x3 : Int32), p_X12_counts_72 x1 n I x2 x3 = some v → G l gX12_counts 4 0 0 (fun v' S' I' J' R' => v' = none ∧ S' = gS0 ∧ I' = v ∧ J' = J ∧ R' = gR0 w) 0 0 72 [some (.ref 149), some (.int x1), some (.int x2), some (.int x3)] [] gS0 I J (gR0 w) := by
  intro n
  induction n with
  | zero => intro _ _ _ h; cases h
  | succ n ih =>
    intro I x2 x3 h
    rw [p_X12_counts_72] at h
    refine G_iload_n dX12_counts_72 rfl rfl ?_
    refine G_iconst (v := 2) dX12_counts_73 rfl ?_
    refine G_icmp_ge 120 dX12_counts_74 (by decide) (fun c14 => ?_) (fun c14 => ?_)
    · replace h := git c14 h
      refine G_aload_n dX12_counts_120 rfl rfl ?_
      refine G_iload_n dX12_counts_121 rfl rfl ?_
      refine G_bipush (v := 60) dX12_counts_122 rfl ?_
      refine G_icmp_ne 131 dX12_counts_124 (by decide) (fun c15 => ?_) (fun c15 => ?_)
      · replace h := gif c15 h
        refine G_iload_n dX12_counts_131 rfl rfl ?_
        refine G_bipush (v := 62) dX12_counts_132 rfl ?_
        refine G_icmp_ne 141 dX12_counts_134 (by decide) (fun c16 => ?_) (fun c16 => ?_)
        · replace h := gif c16 h
          refine G_iconst (v := 5) dX12_counts_141 rfl ?_
          refine G_iload_n dX12_counts_142 rfl rfl ?_
          obtain ⟨r17, hr18, h⟩ := gB_some h
          refine G_cV (mj := gX12_emit) (As := [.int (5 : Int32), .int x2]) (rest := []) ml_X12_256 vX12_emit sl_149 sk_149 (by decide) rfl rfl rfl (Nat.le_of_ble_eq_true rfl) (by decide) (Nat.le_refl _) (Nat.le_refl _) dX12_counts_143 (q_X12_emit hr18) ?_
          refine G_vret rfl (Nat.le_refl _) (Nat.le_refl _) dX12_counts_146 ?_
          cases h
          exact ⟨rfl, rfl, rfl, rfl, rfl⟩
        · replace h := git c16 h
          refine G_iconst (v := 4) dX12_counts_137 rfl ?_
          refine G_goto 142 dX12_counts_138 (by decide) ?_
          refine G_iload_n dX12_counts_142 rfl rfl ?_
          obtain ⟨r19, hr20, h⟩ := gB_some h
          refine G_cV (mj := gX12_emit) (As := [.int (4 : Int32), .int x2]) (rest := []) ml_X12_256 vX12_emit sl_149 sk_149 (by decide) rfl rfl rfl (Nat.le_of_ble_eq_true rfl) (by decide) (Nat.le_refl _) (Nat.le_refl _) dX12_counts_143 (q_X12_emit hr20) ?_
          refine G_vret rfl (Nat.le_refl _) (Nat.le_refl _) dX12_counts_146 ?_
          cases h
          exact ⟨rfl, rfl, rfl, rfl, rfl⟩
      · replace h := git c15 h
        refine G_iconst (v := 3) dX12_counts_127 rfl ?_
        refine G_goto 142 dX12_counts_128 (by decide) ?_
        refine G_iload_n dX12_counts_142 rfl rfl ?_
        obtain ⟨r21, hr22, h⟩ := gB_some h
        refine G_cV (mj := gX12_emit) (As := [.int (3 : Int32), .int x2]) (rest := []) ml_X12_256 vX12_emit sl_149 sk_149 (by decide) rfl rfl rfl (Nat.le_of_ble_eq_true rfl) (by decide) (Nat.le_refl _) (Nat.le_refl _) dX12_counts_143 (q_X12_emit hr22) ?_
        refine G_vret rfl (Nat.le_refl _) (Nat.le_refl _) dX12_counts_146 ?_
        cases h
        exact ⟨rfl, rfl, rfl, rfl, rfl⟩
    · replace h := gif c14 h
      refine G_aload_n dX12_counts_77 rfl rfl ?_
      obtain ⟨r23, hr24, h⟩ := gB_some h
      refine G_cV (mj := gX12_isGood) (As := []) (rest := []) ml_X12_221 vX12_isGood sl_149 sk_149 (by decide) rfl rfl rfl (Nat.le_of_ble_eq_true rfl) (by decide) (Nat.le_refl _) (Nat.le_refl _) dX12_counts_78 (q_X12_isGood hr24) ?_
      refine G_if_eq 120 dX12_counts_81 (by decide) (fun c25 => ?_) (fun c25 => ?_)
      · replace h := git c25 h
        refine G_aload_n dX12_counts_120 rfl rfl ?_
        refine G_iload_n dX12_counts_121 rfl rfl ?_
        refine G_bipush (v := 60) dX12_counts_122 rfl ?_
        refine G_icmp_ne 131 dX12_counts_124 (by decide) (fun c26 => ?_) (fun c26 => ?_)
        · replace h := gif c26 h
          refine G_iload_n dX12_counts_131 rfl rfl ?_
          refine G_bipush (v := 62) dX12_counts_132 rfl ?_
          refine G_icmp_ne 141 dX12_counts_134 (by decide) (fun c27 => ?_) (fun c27 => ?_)
          · replace h := gif c27 h
            refine G_iconst (v := 5) dX12_counts_141 rfl ?_
            refine G_iload_n dX12_counts_142 rfl rfl ?_
            obtain ⟨r28, hr29, h⟩ := gB_some h
            refine G_cV (mj := gX12_emit) (As := [.int (5 : Int32), .int x2]) (rest := []) ml_X12_256 vX12_emit sl_149 sk_149 (by decide) rfl rfl rfl (Nat.le_of_ble_eq_true rfl) (by decide) (Nat.le_refl _) (Nat.le_refl _) dX12_counts_143 (q_X12_emit hr29) ?_
            refine G_vret rfl (Nat.le_refl _) (Nat.le_refl _) dX12_counts_146 ?_
            cases h
            exact ⟨rfl, rfl, rfl, rfl, rfl⟩
          · replace h := git c27 h
            refine G_iconst (v := 4) dX12_counts_137 rfl ?_
            refine G_goto 142 dX12_counts_138 (by decide) ?_
            refine G_iload_n dX12_counts_142 rfl rfl ?_
            obtain ⟨r30, hr31, h⟩ := gB_some h
            refine G_cV (mj := gX12_emit) (As := [.int (4 : Int32), .int x2]) (rest := []) ml_X12_256 vX12_emit sl_149 sk_149 (by decide) rfl rfl rfl (Nat.le_of_ble_eq_true rfl) (by decide) (Nat.le_refl _) (Nat.le_refl _) dX12_counts_143 (q_X12_emit hr31) ?_
            refine G_vret rfl (Nat.le_refl _) (Nat.le_refl _) dX12_counts_146 ?_
            cases h
            exact ⟨rfl, rfl, rfl, rfl, rfl⟩
        · replace h := git c26 h
          refine G_iconst (v := 3) dX12_counts_127 rfl ?_
          refine G_goto 142 dX12_counts_128 (by decide) ?_
          refine G_iload_n dX12_counts_142 rfl rfl ?_
          obtain ⟨r32, hr33, h⟩ := gB_some h
          refine G_cV (mj := gX12_emit) (As := [.int (3 : Int32), .int x2]) (rest := []) ml_X12_256 vX12_emit sl_149 sk_149 (by decide) rfl rfl rfl (Nat.le_of_ble_eq_true rfl) (by decide) (Nat.le_refl _) (Nat.le_refl _) dX12_counts_143 (q_X12_emit hr33) ?_
          refine G_vret rfl (Nat.le_refl _) (Nat.le_refl _) dX12_counts_146 ?_
          cases h
          exact ⟨rfl, rfl, rfl, rfl, rfl⟩
      · replace h := gif c25 h
        refine G_aload_n dX12_counts_84 rfl rfl ?_
        obtain ⟨r34, hr35, h⟩ := gB_some h
        refine G_cV (mj := gX12_seesDigit) (As := []) (rest := []) ml_X12_253 vX12_seesDigit sl_149 sk_149 (by decide) rfl rfl rfl (Nat.le_of_ble_eq_true rfl) (by decide) (Nat.le_refl _) (Nat.le_refl _) dX12_counts_85 (q_X12_seesDigit hr35) ?_
        refine G_if_eq 120 dX12_counts_88 (by decide) (fun c36 => ?_) (fun c36 => ?_)
        · replace h := git c36 h
          refine G_aload_n dX12_counts_120 rfl rfl ?_
          refine G_iload_n dX12_counts_121 rfl rfl ?_
          refine G_bipush (v := 60) dX12_counts_122 rfl ?_
          refine G_icmp_ne 131 dX12_counts_124 (by decide) (fun c37 => ?_) (fun c37 => ?_)
          · replace h := gif c37 h
            refine G_iload_n dX12_counts_131 rfl rfl ?_
            refine G_bipush (v := 62) dX12_counts_132 rfl ?_
            refine G_icmp_ne 141 dX12_counts_134 (by decide) (fun c38 => ?_) (fun c38 => ?_)
            · replace h := gif c38 h
              refine G_iconst (v := 5) dX12_counts_141 rfl ?_
              refine G_iload_n dX12_counts_142 rfl rfl ?_
              obtain ⟨r39, hr40, h⟩ := gB_some h
              refine G_cV (mj := gX12_emit) (As := [.int (5 : Int32), .int x2]) (rest := []) ml_X12_256 vX12_emit sl_149 sk_149 (by decide) rfl rfl rfl (Nat.le_of_ble_eq_true rfl) (by decide) (Nat.le_refl _) (Nat.le_refl _) dX12_counts_143 (q_X12_emit hr40) ?_
              refine G_vret rfl (Nat.le_refl _) (Nat.le_refl _) dX12_counts_146 ?_
              cases h
              exact ⟨rfl, rfl, rfl, rfl, rfl⟩
            · replace h := git c38 h
              refine G_iconst (v := 4) dX12_counts_137 rfl ?_
              refine G_goto 142 dX12_counts_138 (by decide) ?_
              refine G_iload_n dX12_counts_142 rfl rfl ?_
              obtain ⟨r41, hr42, h⟩ := gB_some h
              refine G_cV (mj := gX12_emit) (As := [.int (4 : Int32), .int x2]) (rest := []) ml_X12_256 vX12_emit sl_149 sk_149 (by decide) rfl rfl rfl (Nat.le_of_ble_eq_true rfl) (by decide) (Nat.le_refl _) (Nat.le_refl _) dX12_counts_143 (q_X12_emit hr42) ?_
              refine G_vret rfl (Nat.le_refl _) (Nat.le_refl _) dX12_counts_146 ?_
              cases h
              exact ⟨rfl, rfl, rfl, rfl, rfl⟩
          · replace h := git c37 h
            refine G_iconst (v := 3) dX12_counts_127 rfl ?_
            refine G_goto 142 dX12_counts_128 (by decide) ?_
            refine G_iload_n dX12_counts_142 rfl rfl ?_
            obtain ⟨r43, hr44, h⟩ := gB_some h
            refine G_cV (mj := gX12_emit) (As := [.int (3 : Int32), .int x2]) (rest := []) ml_X12_256 vX12_emit sl_149 sk_149 (by decide) rfl rfl rfl (Nat.le_of_ble_eq_true rfl) (by decide) (Nat.le_refl _) (Nat.le_refl _) dX12_counts_143 (q_X12_emit hr44) ?_
            refine G_vret rfl (Nat.le_refl _) (Nat.le_refl _) dX12_counts_146 ?_
            cases h
            exact ⟨rfl, rfl, rfl, rfl, rfl⟩
        · replace h := gif c36 h
          refine G_bipush (v := 10) dX12_counts_91 rfl ?_
          refine G_iload_n dX12_counts_93 rfl rfl ?_
          refine G_imul dX12_counts_94 ?_
          refine G_aload_n dX12_counts_95 rfl rfl ?_
          obtain ⟨r45, hr46, h⟩ := gB_some h
          refine G_cV (mj := gX12_here) (As := []) (rest := [.int ((10 : Int32) * x2)]) ml_X12_213 vX12_here sl_149 sk_149 (by decide) rfl rfl rfl (Nat.le_of_ble_eq_true rfl) (by decide) (Nat.le_refl _) (Nat.le_refl _) dX12_counts_96 (q_X12_here hr46) ?_
          refine G_iadd dX12_counts_99 ?_
          refine G_bipush (v := 48) dX12_counts_100 rfl ?_
          refine G_isub dX12_counts_102 ?_
          refine G_nI fun z47 ez47 => ?_
          replace h := gL_some ez47 h
          refine S_istore_n [some (.ref 149), some (.int x1), some (.int z47), some (.int x3)] dX12_counts_103 rfl (by decide) rfl ?_
          refine G_aload_n dX12_counts_104 rfl rfl ?_
          refine G_dup dX12_counts_105 rfl ?_
          refine G_getI fl_X12_200 sl_149 sk_149 rfl dX12_counts_106 ?_
          refine G_iconst (v := 1) dX12_counts_109 rfl ?_
          refine G_iadd dX12_counts_110 ?_
          refine G_nI fun z48 ez48 => ?_
          replace h := gL_some ez48 h
          refine G_putI fl_X12_200 sl_149 sk_149 rfl rfl ⟨rfl, rfl⟩ dX12_counts_111 ?_
          refine G_mI fun I49 eI49 => ?_
          replace h := gL_some eI49 h
          refine S_iinc (v := (1 : Int32)) [some (.ref 149), some (.int x1), some (.int z47), some (.int (x3 + (1 : Int32)))] dX12_counts_114 rfl rfl (by decide) rfl ?_
          refine G_goto 72 dX12_counts_117 (by decide) ?_
          exact ih _ _ _ h
set_option maxRecDepth 20000 in
theorem q_X12_counts {l : Launch} {I : gIt} {J : gJt} {w : Bool} {v : gIt} (h : p_X12_counts I = some v) : Cn l gX12_counts 4 0 0 [.ref 149] gS0 I J (gR0 w) (fun v' S' I' J' R' => v' = none ∧ S' = gS0 ∧ I' = v ∧ J' = J ∧ R' = gR0 w) := by
  refine Cn.of [some (.ref 149), none, none, none] (by decide) rfl (Nat.le_of_ble_eq_true rfl) ?_
  rw [p_X12_counts] at h
  refine G_aload_n dX12_counts_0 rfl rfl ?_
  refine G_dup dX12_counts_1 rfl ?_
  refine G_getI fl_X12_200 sl_149 sk_149 rfl dX12_counts_2 ?_
  refine G_iconst (v := 1) dX12_counts_5 rfl ?_
  refine G_iadd dX12_counts_6 ?_
  refine G_nI fun z1 ez1 => ?_
  replace h := gL_some ez1 h
  refine G_putI fl_X12_200 sl_149 sk_149 rfl rfl ⟨rfl, rfl⟩ dX12_counts_7 ?_
  refine G_mI fun I2 eI2 => ?_
  replace h := gL_some eI2 h
  refine G_aload_n dX12_counts_10 rfl rfl ?_
  obtain ⟨r3, hr4, h⟩ := gB_some h
  refine G_cV (mj := gX12_here) (As := []) (rest := []) ml_X12_213 vX12_here sl_149 sk_149 (by decide) rfl rfl rfl (Nat.le_of_ble_eq_true rfl) (by decide) (Nat.le_refl _) (Nat.le_refl _) dX12_counts_11 (q_X12_here hr4) ?_
  refine S_istore_n [some (.ref 149), some (.int r3), none, none] dX12_counts_14 rfl (by decide) rfl ?_
  refine G_iload_n dX12_counts_15 rfl rfl ?_
  refine G_bipush (v := 60) dX12_counts_16 rfl ?_
  obtain ⟨ph5, t6, r7⟩ := gB_some h
  have jn8 : G l gX12_counts 4 0 0 (fun v' S' I' J' R' => v' = none ∧ S' = gS0 ∧ I' = v ∧ J' = J ∧ R' = gR0 w) 0 0 42 [some (.ref 149), some (.int r3), none, none] [] gS0 ph5 J (gR0 w) := by
    refine G_aload_n dX12_counts_42 rfl rfl ?_
    refine G_dup dX12_counts_43 rfl ?_
    refine G_getI fl_X12_200 sl_149 sk_149 rfl dX12_counts_44 ?_
    refine G_iconst (v := 1) dX12_counts_47 rfl ?_
    refine G_iadd dX12_counts_48 ?_
    refine G_nI fun z9 ez9 => ?_
    replace r7 := gL_some ez9 r7
    refine G_putI fl_X12_200 sl_149 sk_149 rfl rfl ⟨rfl, rfl⟩ dX12_counts_49 ?_
    refine G_mI fun I10 eI10 => ?_
    replace r7 := gL_some eI10 r7
    refine G_iconst (v := 0) dX12_counts_52 rfl ?_
    refine S_istore_n [some (.ref 149), some (.int r3), some (.int (0 : Int32)), none] dX12_counts_53 rfl (by decide) rfl ?_
    refine G_aload_n dX12_counts_54 rfl rfl ?_
    obtain ⟨r11, hr12, r7⟩ := gB_some r7
    refine G_cV (mj := gX12_seesDigit) (As := []) (rest := []) ml_X12_253 vX12_seesDigit sl_149 sk_149 (by decide) rfl rfl rfl (Nat.le_of_ble_eq_true rfl) (by decide) (Nat.le_refl _) (Nat.le_refl _) dX12_counts_55 (q_X12_seesDigit hr12) ?_
    refine G_if_ne 70 dX12_counts_58 (by decide) (fun c13 => ?_) (fun c13 => ?_)
    · replace r7 := gif c13 r7
      refine G_iconst (v := 0) dX12_counts_70 rfl ?_
      refine S_istore_n [some (.ref 149), some (.int r3), some (.int (0 : Int32)), some (.int (0 : Int32))] dX12_counts_71 rfl (by decide) rfl ?_
      exact q_X12_counts_72   gFu _ _ _ r7
    · replace r7 := git c13 r7
      refine G_aload_n dX12_counts_61 rfl rfl ?_
      refine G_iconst (v := 1) dX12_counts_62 rfl ?_
      refine G_aload_n dX12_counts_63 rfl rfl ?_
      refine G_getI fl_X12_200 sl_149 sk_149 rfl dX12_counts_64 ?_
      obtain ⟨r50, hr51, r7⟩ := gB_some r7
      refine G_cV (mj := gX12_wrongs) (As := [.int (1 : Int32), .int (I10 149 28)]) (rest := []) ml_X12_237 vX12_wrongs sl_149 sk_149 (by decide) rfl rfl rfl (Nat.le_of_ble_eq_true rfl) (by decide) (Nat.le_refl _) (Nat.le_refl _) dX12_counts_67 (q_X12_wrongs hr51) ?_
      refine G_iconst (v := 0) dX12_counts_70 rfl ?_
      refine S_istore_n [some (.ref 149), some (.int r3), some (.int (0 : Int32)), some (.int (0 : Int32))] dX12_counts_71 rfl (by decide) rfl ?_
      exact q_X12_counts_72   gFu _ _ _ r7
  refine G_icmp_eq 42 dX12_counts_18 (by decide) (fun c52 => ?_) (fun c52 => ?_)
  · replace t6 := git c52 t6
    cases t6
    exact jn8
  · replace t6 := gif c52 t6
    refine G_iload_n dX12_counts_21 rfl rfl ?_
    refine G_bipush (v := 62) dX12_counts_22 rfl ?_
    refine G_icmp_eq 42 dX12_counts_24 (by decide) (fun c53 => ?_) (fun c53 => ?_)
    · replace t6 := git c53 t6
      cases t6
      exact jn8
    · replace t6 := gif c53 t6
      refine G_iload_n dX12_counts_27 rfl rfl ?_
      refine G_bipush (v := 61) dX12_counts_28 rfl ?_
      refine G_icmp_eq 42 dX12_counts_30 (by decide) (fun c54 => ?_) (fun c54 => ?_)
      · replace t6 := git c54 t6
        cases t6
        exact jn8
      · replace t6 := gif c54 t6
        refine G_aload_n dX12_counts_33 rfl rfl ?_
        refine G_iconst (v := 1) dX12_counts_34 rfl ?_
        refine G_aload_n dX12_counts_35 rfl rfl ?_
        refine G_getI fl_X12_200 sl_149 sk_149 rfl dX12_counts_36 ?_
        obtain ⟨r55, hr56, t6⟩ := gB_some t6
        refine G_cV (mj := gX12_wrongs) (As := [.int (1 : Int32), .int (I2 149 28)]) (rest := []) ml_X12_237 vX12_wrongs sl_149 sk_149 (by decide) rfl rfl rfl (Nat.le_of_ble_eq_true rfl) (by decide) (Nat.le_refl _) (Nat.le_refl _) dX12_counts_39 (q_X12_wrongs hr56) ?_
        cases t6
        exact jn8
def p_X12_atom (I : gIt) : Option gIt :=
  gB (p_X12_here I) fun r1 =>
  if r1 = (42 : Int32) then
  gB (p_X12_whose I) fun r20 =>
  gB (p_X12_emit r20.2 (2 : Int32) r20.1) fun r22 =>
  some r22
  else
  gB (p_X12_here I) fun r4 =>
  if r4 = (35 : Int32) then
  gB (p_X12_counts I) fun r18 =>
  some r18
  else
  gB (p_X12_here I) fun r7 =>
  gB (p_X12_isLetter r7) fun r9 =>
  if r9 = 0 then
  gB (p_X12_wrongs I (1 : Int32) (I 149 28)) fun r12 =>
  some r12
  else
  gB (p_X12_who I) fun r14 =>
  gB (p_X12_emit r14.2 (1 : Int32) r14.1) fun r16 =>
  some r16
set_option maxRecDepth 20000 in
theorem q_X12_atom {l : Launch} {I : gIt} {J : gJt} {w : Bool} {v : gIt} (h : p_X12_atom I = some v) : Cn l gX12_atom 5 0 0 [.ref 149] gS0 I J (gR0 w) (fun v' S' I' J' R' => v' = none ∧ S' = gS0 ∧ I' = v ∧ J' = J ∧ R' = gR0 w) := by
  refine Cn.of [some (.ref 149), none] (by decide) rfl (Nat.le_of_ble_eq_true rfl) ?_
  rw [p_X12_atom] at h
  refine G_aload_n dX12_atom_0 rfl rfl ?_
  obtain ⟨r1, hr2, h⟩ := gB_some h
  refine G_cV (mj := gX12_here) (As := []) (rest := []) ml_X12_213 vX12_here sl_149 sk_149 (by decide) rfl rfl rfl (Nat.le_of_ble_eq_true rfl) (by decide) (Nat.le_refl _) (Nat.le_refl _) dX12_atom_1 (q_X12_here hr2) ?_
  refine G_bipush (v := 42) dX12_atom_4 rfl ?_
  refine G_icmp_ne 23 dX12_atom_6 (by decide) (fun c3 => ?_) (fun c3 => ?_)
  · replace h := gif c3 h
    refine G_aload_n dX12_atom_23 rfl rfl ?_
    obtain ⟨r4, hr5, h⟩ := gB_some h
    refine G_cV (mj := gX12_here) (As := []) (rest := []) ml_X12_213 vX12_here sl_149 sk_149 (by decide) rfl rfl rfl (Nat.le_of_ble_eq_true rfl) (by decide) (Nat.le_refl _) (Nat.le_refl _) dX12_atom_24 (q_X12_here hr5) ?_
    refine G_bipush (v := 35) dX12_atom_27 rfl ?_
    refine G_icmp_ne 39 dX12_atom_29 (by decide) (fun c6 => ?_) (fun c6 => ?_)
    · replace h := gif c6 h
      refine G_aload_n dX12_atom_39 rfl rfl ?_
      obtain ⟨r7, hr8, h⟩ := gB_some h
      refine G_cV (mj := gX12_here) (As := []) (rest := []) ml_X12_213 vX12_here sl_149 sk_149 (by decide) rfl rfl rfl (Nat.le_of_ble_eq_true rfl) (by decide) (Nat.le_refl _) (Nat.le_refl _) dX12_atom_40 (q_X12_here hr8) ?_
      obtain ⟨r9, hr10, h⟩ := gB_some h
      refine G_cS (mj := gX12_isLetter) (As := [.int r7]) (rest := []) ml_X12_247 vX12_isLetter rfl rfl (Nat.le_of_ble_eq_true rfl) (by decide) (Nat.le_refl _) (Nat.le_refl _) dX12_atom_43 (q_X12_isLetter hr10) ?_
      refine G_if_eq 63 dX12_atom_46 (by decide) (fun c11 => ?_) (fun c11 => ?_)
      · replace h := git c11 h
        refine G_aload_n dX12_atom_63 rfl rfl ?_
        refine G_iconst (v := 1) dX12_atom_64 rfl ?_
        refine G_aload_n dX12_atom_65 rfl rfl ?_
        refine G_getI fl_X12_200 sl_149 sk_149 rfl dX12_atom_66 ?_
        obtain ⟨r12, hr13, h⟩ := gB_some h
        refine G_cV (mj := gX12_wrongs) (As := [.int (1 : Int32), .int (I 149 28)]) (rest := []) ml_X12_237 vX12_wrongs sl_149 sk_149 (by decide) rfl rfl rfl (Nat.le_of_ble_eq_true rfl) (by decide) (Nat.le_refl _) (Nat.le_refl _) dX12_atom_69 (q_X12_wrongs hr13) ?_
        refine G_vret rfl (Nat.le_refl _) (Nat.le_refl _) dX12_atom_72 ?_
        cases h
        exact ⟨rfl, rfl, rfl, rfl, rfl⟩
      · replace h := gif c11 h
        refine G_aload_n dX12_atom_49 rfl rfl ?_
        obtain ⟨r14, hr15, h⟩ := gB_some h
        refine G_cV (mj := gX12_who) (As := []) (rest := []) ml_X12_265 vX12_who sl_149 sk_149 (by decide) rfl rfl rfl (Nat.le_of_ble_eq_true rfl) (by decide) (Nat.le_refl _) (Nat.le_refl _) dX12_atom_50 (q_X12_who hr15) ?_
        refine S_istore_n [some (.ref 149), some (.int r14.1)] dX12_atom_53 rfl (by decide) rfl ?_
        refine G_aload_n dX12_atom_54 rfl rfl ?_
        refine G_iconst (v := 1) dX12_atom_55 rfl ?_
        refine G_iload_n dX12_atom_56 rfl rfl ?_
        obtain ⟨r16, hr17, h⟩ := gB_some h
        refine G_cV (mj := gX12_emit) (As := [.int (1 : Int32), .int r14.1]) (rest := []) ml_X12_256 vX12_emit sl_149 sk_149 (by decide) rfl rfl rfl (Nat.le_of_ble_eq_true rfl) (by decide) (Nat.le_refl _) (Nat.le_refl _) dX12_atom_57 (q_X12_emit hr17) ?_
        refine G_goto 72 dX12_atom_60 (by decide) ?_
        refine G_vret rfl (Nat.le_refl _) (Nat.le_refl _) dX12_atom_72 ?_
        cases h
        exact ⟨rfl, rfl, rfl, rfl, rfl⟩
    · replace h := git c6 h
      refine G_aload_n dX12_atom_32 rfl rfl ?_
      obtain ⟨r18, hr19, h⟩ := gB_some h
      refine G_cV (mj := gX12_counts) (As := []) (rest := []) ml_X12_262 vX12_counts sl_149 sk_149 (by decide) rfl rfl rfl (Nat.le_of_ble_eq_true rfl) (by decide) (Nat.le_refl _) (Nat.le_refl _) dX12_atom_33 (q_X12_counts hr19) ?_
      refine G_goto 72 dX12_atom_36 (by decide) ?_
      refine G_vret rfl (Nat.le_refl _) (Nat.le_refl _) dX12_atom_72 ?_
      cases h
      exact ⟨rfl, rfl, rfl, rfl, rfl⟩
  · replace h := git c3 h
    refine G_aload_n dX12_atom_9 rfl rfl ?_
    obtain ⟨r20, hr21, h⟩ := gB_some h
    refine G_cV (mj := gX12_whose) (As := []) (rest := []) ml_X12_259 vX12_whose sl_149 sk_149 (by decide) rfl rfl rfl (Nat.le_of_ble_eq_true rfl) (by decide) (Nat.le_refl _) (Nat.le_refl _) dX12_atom_10 (q_X12_whose hr21) ?_
    refine S_istore_n [some (.ref 149), some (.int r20.1)] dX12_atom_13 rfl (by decide) rfl ?_
    refine G_aload_n dX12_atom_14 rfl rfl ?_
    refine G_iconst (v := 2) dX12_atom_15 rfl ?_
    refine G_iload_n dX12_atom_16 rfl rfl ?_
    obtain ⟨r22, hr23, h⟩ := gB_some h
    refine G_cV (mj := gX12_emit) (As := [.int (2 : Int32), .int r20.1]) (rest := []) ml_X12_256 vX12_emit sl_149 sk_149 (by decide) rfl rfl rfl (Nat.le_of_ble_eq_true rfl) (by decide) (Nat.le_refl _) (Nat.le_refl _) dX12_atom_17 (q_X12_emit hr23) ?_
    refine G_goto 72 dX12_atom_20 (by decide) ?_
    refine G_vret rfl (Nat.le_refl _) (Nat.le_refl _) dX12_atom_72 ?_
    cases h
    exact ⟨rfl, rfl, rfl, rfl, rfl⟩
def p_X12_ends_0 : Nat → gIt → Option gIt
  | 0, _ => none
  | n + 1, I =>
    gB (p_X12_top I) fun r1 =>
    if r1 = (33 : Int32) then
    gB (p_X12_emit I (6 : Int32) (0 : Int32)) fun r4 =>
    gL (((r4 149 34) - (1 : Int32))) fun z6 =>
    gL (gu2 r4 149 34 z6) fun I7 =>
    gL (((I7 149 33) - (1 : Int32))) fun z8 =>
    gL (gu2 I7 149 33 z8) fun I9 =>
    p_X12_ends_0 n I9
    else
    some I
def p_X12_ends (I : gIt) : Option gIt :=
  p_X12_ends_0 gFu I
set_option maxRecDepth 20000 in
theorem q_X12_ends_0 {l : Launch} {v : gIt} {J : gJt} {w : Bool} : ∀ (n : Nat) (I : gIt), p_X12_ends_0 n I = some v → G l gX12_ends 4 0 0 (fun v' S' I' J' R' => v' = none ∧ S' = gS0 ∧ I' = v ∧ J' = J ∧ R' = gR0 w) 0 0 0 [some (.ref 149)] [] gS0 I J (gR0 w) := by
  intro n
  induction n with
  | zero => intro _ h; cases h
  | succ n ih =>
    intro I h
    rw [p_X12_ends_0] at h
    refine G_aload_n dX12_ends_0 rfl rfl ?_
    obtain ⟨r1, hr2, h⟩ := gB_some h
    refine G_cV (mj := gX12_top) (As := []) (rest := []) ml_X12_268 vX12_top sl_149 sk_149 (by decide) rfl rfl rfl (Nat.le_of_ble_eq_true rfl) (by decide) (Nat.le_refl _) (Nat.le_refl _) dX12_ends_1 (q_X12_top hr2) ?_
    refine G_bipush (v := 33) dX12_ends_4 rfl ?_
    refine G_icmp_ne 39 dX12_ends_6 (by decide) (fun c3 => ?_) (fun c3 => ?_)
    · replace h := gif c3 h
      refine G_vret rfl (Nat.le_refl _) (Nat.le_refl _) dX12_ends_39 ?_
      cases h
      exact ⟨rfl, rfl, rfl, rfl, rfl⟩
    · replace h := git c3 h
      refine G_aload_n dX12_ends_9 rfl rfl ?_
      refine G_bipush (v := 6) dX12_ends_10 rfl ?_
      refine G_iconst (v := 0) dX12_ends_12 rfl ?_
      obtain ⟨r4, hr5, h⟩ := gB_some h
      refine G_cV (mj := gX12_emit) (As := [.int (6 : Int32), .int (0 : Int32)]) (rest := []) ml_X12_256 vX12_emit sl_149 sk_149 (by decide) rfl rfl rfl (Nat.le_of_ble_eq_true rfl) (by decide) (Nat.le_refl _) (Nat.le_refl _) dX12_ends_13 (q_X12_emit hr5) ?_
      refine G_aload_n dX12_ends_16 rfl rfl ?_
      refine G_dup dX12_ends_17 rfl ?_
      refine G_getI fl_X12_231 sl_149 sk_149 rfl dX12_ends_18 ?_
      refine G_iconst (v := 1) dX12_ends_21 rfl ?_
      refine G_isub dX12_ends_22 ?_
      refine G_nI fun z6 ez6 => ?_
      replace h := gL_some ez6 h
      refine G_putI fl_X12_231 sl_149 sk_149 rfl rfl ⟨rfl, rfl⟩ dX12_ends_23 ?_
      refine G_mI fun I7 eI7 => ?_
      replace h := gL_some eI7 h
      refine G_aload_n dX12_ends_26 rfl rfl ?_
      refine G_dup dX12_ends_27 rfl ?_
      refine G_getI fl_X12_234 sl_149 sk_149 rfl dX12_ends_28 ?_
      refine G_iconst (v := 1) dX12_ends_31 rfl ?_
      refine G_isub dX12_ends_32 ?_
      refine G_nI fun z8 ez8 => ?_
      replace h := gL_some ez8 h
      refine G_putI fl_X12_234 sl_149 sk_149 rfl rfl ⟨rfl, rfl⟩ dX12_ends_33 ?_
      refine G_mI fun I9 eI9 => ?_
      replace h := gL_some eI9 h
      refine G_goto 0 dX12_ends_36 (by decide) ?_
      exact ih _ h
set_option maxRecDepth 20000 in
theorem q_X12_ends {l : Launch} {I : gIt} {J : gJt} {w : Bool} {v : gIt} (h : p_X12_ends I = some v) : Cn l gX12_ends 4 0 0 [.ref 149] gS0 I J (gR0 w) (fun v' S' I' J' R' => v' = none ∧ S' = gS0 ∧ I' = v ∧ J' = J ∧ R' = gR0 w) := by
  refine Cn.of [some (.ref 149)] (by decide) rfl (Nat.le_of_ble_eq_true rfl) ?_
  rw [p_X12_ends] at h
  exact q_X12_ends_0   gFu _ h
def p_X12_joins_0 (x1 : Int32) : Nat → gIt → Option gIt
  | 0, _ => none
  | n + 1, I =>
    gB (p_X12_top I) fun r1 =>
    if r1 = (38 : Int32) then
    gB (p_X12_top I) fun r4 =>
    gB (p_X12_emit I r4 (0 : Int32)) fun r6 =>
    gL (((r6 149 34) - (1 : Int32))) fun z8 =>
    gL (gu2 r6 149 34 z8) fun I9 =>
    p_X12_joins_0 x1 n I9
    else
    if x1 = 0 then
    some I
    else
    gB (p_X12_top I) fun r11 =>
    if r11 = (124 : Int32) then
    gB (p_X12_top I) fun r14 =>
    gB (p_X12_emit I r14 (0 : Int32)) fun r16 =>
    gL (((r16 149 34) - (1 : Int32))) fun z18 =>
    gL (gu2 r16 149 34 z18) fun I19 =>
    p_X12_joins_0 x1 n I19
    else
    some I
def p_X12_joins (I : gIt) (x1 : Int32) : Option gIt :=
  p_X12_joins_0 x1 gFu I
set_option maxRecDepth 20000 in
theorem q_X12_joins_0 {l : Launch} {v : gIt} {J : gJt} {w : Bool} {x1 : Int32} : ∀ (n : Nat) (I : gIt), p_X12_joins_0 x1 n I = some v → G l gX12_joins 4 0 0 (fun v' S' I' J' R' => v' = none ∧ S' = gS0 ∧ I' = v ∧ J' = J ∧ R' = gR0 w) 0 0 0 [some (.ref 149), some (.int x1)] [] gS0 I J (gR0 w) := by
  intro n
  induction n with
  | zero => intro _ h; cases h
  | succ n ih =>
    intro I h
    rw [p_X12_joins_0] at h
    refine G_aload_n dX12_joins_0 rfl rfl ?_
    obtain ⟨r1, hr2, h⟩ := gB_some h
    refine G_cV (mj := gX12_top) (As := []) (rest := []) ml_X12_268 vX12_top sl_149 sk_149 (by decide) rfl rfl rfl (Nat.le_of_ble_eq_true rfl) (by decide) (Nat.le_refl _) (Nat.le_refl _) dX12_joins_1 (q_X12_top hr2) ?_
    refine G_bipush (v := 38) dX12_joins_4 rfl ?_
    refine G_icmp_eq 22 dX12_joins_6 (by decide) (fun c3 => ?_) (fun c3 => ?_)
    · replace h := git c3 h
      refine G_aload_n dX12_joins_22 rfl rfl ?_
      refine G_aload_n dX12_joins_23 rfl rfl ?_
      obtain ⟨r4, hr5, h⟩ := gB_some h
      refine G_cV (mj := gX12_top) (As := []) (rest := [.ref 149]) ml_X12_268 vX12_top sl_149 sk_149 (by decide) rfl rfl rfl (Nat.le_of_ble_eq_true rfl) (by decide) (Nat.le_refl _) (Nat.le_refl _) dX12_joins_24 (q_X12_top hr5) ?_
      refine G_iconst (v := 0) dX12_joins_27 rfl ?_
      obtain ⟨r6, hr7, h⟩ := gB_some h
      refine G_cV (mj := gX12_emit) (As := [.int r4, .int (0 : Int32)]) (rest := []) ml_X12_256 vX12_emit sl_149 sk_149 (by decide) rfl rfl rfl (Nat.le_of_ble_eq_true rfl) (by decide) (Nat.le_refl _) (Nat.le_refl _) dX12_joins_28 (q_X12_emit hr7) ?_
      refine G_aload_n dX12_joins_31 rfl rfl ?_
      refine G_dup dX12_joins_32 rfl ?_
      refine G_getI fl_X12_231 sl_149 sk_149 rfl dX12_joins_33 ?_
      refine G_iconst (v := 1) dX12_joins_36 rfl ?_
      refine G_isub dX12_joins_37 ?_
      refine G_nI fun z8 ez8 => ?_
      replace h := gL_some ez8 h
      refine G_putI fl_X12_231 sl_149 sk_149 rfl rfl ⟨rfl, rfl⟩ dX12_joins_38 ?_
      refine G_mI fun I9 eI9 => ?_
      replace h := gL_some eI9 h
      refine G_goto 0 dX12_joins_41 (by decide) ?_
      exact ih _ h
    · replace h := gif c3 h
      refine G_iload_n dX12_joins_9 rfl rfl ?_
      refine G_if_eq 44 dX12_joins_10 (by decide) (fun c10 => ?_) (fun c10 => ?_)
      · replace h := git c10 h
        refine G_vret rfl (Nat.le_refl _) (Nat.le_refl _) dX12_joins_44 ?_
        cases h
        exact ⟨rfl, rfl, rfl, rfl, rfl⟩
      · replace h := gif c10 h
        refine G_aload_n dX12_joins_13 rfl rfl ?_
        obtain ⟨r11, hr12, h⟩ := gB_some h
        refine G_cV (mj := gX12_top) (As := []) (rest := []) ml_X12_268 vX12_top sl_149 sk_149 (by decide) rfl rfl rfl (Nat.le_of_ble_eq_true rfl) (by decide) (Nat.le_refl _) (Nat.le_refl _) dX12_joins_14 (q_X12_top hr12) ?_
        refine G_bipush (v := 124) dX12_joins_17 rfl ?_
        refine G_icmp_ne 44 dX12_joins_19 (by decide) (fun c13 => ?_) (fun c13 => ?_)
        · replace h := gif c13 h
          refine G_vret rfl (Nat.le_refl _) (Nat.le_refl _) dX12_joins_44 ?_
          cases h
          exact ⟨rfl, rfl, rfl, rfl, rfl⟩
        · replace h := git c13 h
          refine G_aload_n dX12_joins_22 rfl rfl ?_
          refine G_aload_n dX12_joins_23 rfl rfl ?_
          obtain ⟨r14, hr15, h⟩ := gB_some h
          refine G_cV (mj := gX12_top) (As := []) (rest := [.ref 149]) ml_X12_268 vX12_top sl_149 sk_149 (by decide) rfl rfl rfl (Nat.le_of_ble_eq_true rfl) (by decide) (Nat.le_refl _) (Nat.le_refl _) dX12_joins_24 (q_X12_top hr15) ?_
          refine G_iconst (v := 0) dX12_joins_27 rfl ?_
          obtain ⟨r16, hr17, h⟩ := gB_some h
          refine G_cV (mj := gX12_emit) (As := [.int r14, .int (0 : Int32)]) (rest := []) ml_X12_256 vX12_emit sl_149 sk_149 (by decide) rfl rfl rfl (Nat.le_of_ble_eq_true rfl) (by decide) (Nat.le_refl _) (Nat.le_refl _) dX12_joins_28 (q_X12_emit hr17) ?_
          refine G_aload_n dX12_joins_31 rfl rfl ?_
          refine G_dup dX12_joins_32 rfl ?_
          refine G_getI fl_X12_231 sl_149 sk_149 rfl dX12_joins_33 ?_
          refine G_iconst (v := 1) dX12_joins_36 rfl ?_
          refine G_isub dX12_joins_37 ?_
          refine G_nI fun z18 ez18 => ?_
          replace h := gL_some ez18 h
          refine G_putI fl_X12_231 sl_149 sk_149 rfl rfl ⟨rfl, rfl⟩ dX12_joins_38 ?_
          refine G_mI fun I19 eI19 => ?_
          replace h := gL_some eI19 h
          refine G_goto 0 dX12_joins_41 (by decide) ?_
          exact ih _ h
set_option maxRecDepth 20000 in
theorem q_X12_joins {l : Launch} {I : gIt} {J : gJt} {w : Bool} {x1 : Int32} {v : gIt} (h : p_X12_joins I x1 = some v) : Cn l gX12_joins 4 0 0 [.ref 149, .int x1] gS0 I J (gR0 w) (fun v' S' I' J' R' => v' = none ∧ S' = gS0 ∧ I' = v ∧ J' = J ∧ R' = gR0 w) := by
  refine Cn.of [some (.ref 149), some (.int x1)] (by decide) rfl (Nat.le_of_ble_eq_true rfl) ?_
  rw [p_X12_joins] at h
  exact q_X12_joins_0   gFu _ h
def p_X12_condition_16 : Nat → gIt → Int32 → Option gIt
  | 0, _, _ => none
  | n + 1, I, x1 =>
    gB (p_X12_isGood I) fun r5 =>
    if r5 = 0 then
    some I
    else
    if (I 149 34) ≤ 0 then
    some I
    else
    gB (p_X12_here I) fun r9 =>
    if x1 = 0 then
    if x1 = 0 then
    if r9 = (38 : Int32) then
    gB (α := Int32) (
    if r9 = (124 : Int32) then
    some (1 : Int32)
    else
    some (0 : Int32)) fun ph14 =>
    gB (p_X12_joins I ph14) fun r18 =>
    gB (p_X12_puts r18 r9) fun r20 =>
    p_X12_condition_16 n r20 (1 : Int32)
    else
    if r9 = (124 : Int32) then
    gB (α := Int32) (
    if r9 = (124 : Int32) then
    some (1 : Int32)
    else
    some (0 : Int32)) fun ph38 =>
    gB (p_X12_joins I ph38) fun r42 =>
    gB (p_X12_puts r42 r9) fun r44 =>
    p_X12_condition_16 n r44 (1 : Int32)
    else
    if r9 = (41 : Int32) then
    gB (p_X12_joins I (1 : Int32)) fun r27 =>
    gL (((r27 149 34) - (1 : Int32))) fun z29 =>
    gL (gu2 r27 149 34 z29) fun I30 =>
    gL (((I30 149 33) - (1 : Int32))) fun z31 =>
    gL (gu2 I30 149 33 z31) fun I32 =>
    gL (((I32 149 28) + (1 : Int32))) fun z33 =>
    gL (gu2 I32 149 28 z33) fun I34 =>
    if (I34 149 34) ≤ 0 then
    p_X12_condition_16 n I34 x1
    else
    gB (p_X12_ends I34) fun r36 =>
    p_X12_condition_16 n r36 x1
    else
    gB (p_X12_wrongs I (1 : Int32) (I 149 28)) fun r25 =>
    p_X12_condition_16 n r25 x1
    else
    gB (p_X12_atom I) fun r47 =>
    gB (p_X12_ends r47) fun r49 =>
    p_X12_condition_16 n r49 (0 : Int32)
    else
    if r9 = (33 : Int32) then
    gB (p_X12_opens I) fun r52 =>
    p_X12_condition_16 n r52 x1
    else
    if r9 = (40 : Int32) then
    gB (p_X12_opens I) fun r94 =>
    p_X12_condition_16 n r94 x1
    else
    if x1 = 0 then
    if r9 = (38 : Int32) then
    gB (α := Int32) (
    if r9 = (124 : Int32) then
    some (1 : Int32)
    else
    some (0 : Int32)) fun ph57 =>
    gB (p_X12_joins I ph57) fun r61 =>
    gB (p_X12_puts r61 r9) fun r63 =>
    p_X12_condition_16 n r63 (1 : Int32)
    else
    if r9 = (124 : Int32) then
    gB (α := Int32) (
    if r9 = (124 : Int32) then
    some (1 : Int32)
    else
    some (0 : Int32)) fun ph81 =>
    gB (p_X12_joins I ph81) fun r85 =>
    gB (p_X12_puts r85 r9) fun r87 =>
    p_X12_condition_16 n r87 (1 : Int32)
    else
    if r9 = (41 : Int32) then
    gB (p_X12_joins I (1 : Int32)) fun r70 =>
    gL (((r70 149 34) - (1 : Int32))) fun z72 =>
    gL (gu2 r70 149 34 z72) fun I73 =>
    gL (((I73 149 33) - (1 : Int32))) fun z74 =>
    gL (gu2 I73 149 33 z74) fun I75 =>
    gL (((I75 149 28) + (1 : Int32))) fun z76 =>
    gL (gu2 I75 149 28 z76) fun I77 =>
    if (I77 149 34) ≤ 0 then
    p_X12_condition_16 n I77 x1
    else
    gB (p_X12_ends I77) fun r79 =>
    p_X12_condition_16 n r79 x1
    else
    gB (p_X12_wrongs I (1 : Int32) (I 149 28)) fun r68 =>
    p_X12_condition_16 n r68 x1
    else
    gB (p_X12_atom I) fun r90 =>
    gB (p_X12_ends r90) fun r92 =>
    p_X12_condition_16 n r92 (0 : Int32)
def p_X12_condition (I : gIt) : Option gIt :=
  gL (gu2 I 149 34 (0 : Int32)) fun I1 =>
  gL (gu2 I1 149 33 (0 : Int32)) fun I2 =>
  gB (p_X12_opens I2) fun r3 =>
  p_X12_condition_16 gFu r3 (1 : Int32)
set_option maxRecDepth 20000 in
theorem q_X12_condition_16 {l : Launch} {v : gIt} {J : gJt} {w : Bool} : ∀ (n : Nat) (I : gIt) (x1 : Int32), p_X12_condition_16 n I x1 = some v → G l gX12_condition 6 0 0 (fun v' S' I' J' R' => v' = none ∧ S' = gS0 ∧ I' = v ∧ J' = J ∧ R' = gR0 w) 0 0 16 [some (.ref 149), some (.int x1), none] [] gS0 I J (gR0 w) := by
  intro n
  induction n with
  | zero => intro _ _ h; cases h
  | succ n ih =>
    intro I x1 h
    rw [p_X12_condition_16] at h
    refine G_aload_n dX12_condition_16 rfl rfl ?_
    obtain ⟨r5, hr6, h⟩ := gB_some h
    refine G_cV (mj := gX12_isGood) (As := []) (rest := []) ml_X12_221 vX12_isGood sl_149 sk_149 (by decide) rfl rfl rfl (Nat.le_of_ble_eq_true rfl) (by decide) (Nat.le_refl _) (Nat.le_refl _) dX12_condition_17 (q_X12_isGood hr6) ?_
    refine G_if_eq 179 dX12_condition_20 (by decide) (fun c7 => ?_) (fun c7 => ?_)
    · replace h := git c7 h
      refine G_vret rfl (Nat.le_refl _) (Nat.le_refl _) dX12_condition_179 ?_
      cases h
      exact ⟨rfl, rfl, rfl, rfl, rfl⟩
    · replace h := gif c7 h
      refine G_aload_n dX12_condition_23 rfl rfl ?_
      refine G_getI fl_X12_231 sl_149 sk_149 rfl dX12_condition_24 ?_
      refine G_if_le 179 dX12_condition_27 (by decide) (fun c8 => ?_) (fun c8 => ?_)
      · replace h := git c8 h
        refine G_vret rfl (Nat.le_refl _) (Nat.le_refl _) dX12_condition_179 ?_
        cases h
        exact ⟨rfl, rfl, rfl, rfl, rfl⟩
      · replace h := gif c8 h
        refine G_aload_n dX12_condition_30 rfl rfl ?_
        obtain ⟨r9, hr10, h⟩ := gB_some h
        refine G_cV (mj := gX12_here) (As := []) (rest := []) ml_X12_213 vX12_here sl_149 sk_149 (by decide) rfl rfl rfl (Nat.le_of_ble_eq_true rfl) (by decide) (Nat.le_refl _) (Nat.le_refl _) dX12_condition_31 (q_X12_here hr10) ?_
        refine S_istore_n [some (.ref 149), some (.int x1), some (.int r9)] dX12_condition_34 rfl (by decide) rfl ?_
        refine G_iload_n dX12_condition_35 rfl rfl ?_
        refine G_if_eq 58 dX12_condition_36 (by decide) (fun c11 => ?_) (fun c11 => ?_)
        · replace h := git c11 h
          refine G_iload_n dX12_condition_58 rfl rfl ?_
          refine G_if_eq 75 dX12_condition_59 (by decide) (fun c12 => ?_) (fun c12 => ?_)
          · replace h := git c12 h
            refine G_iload_n dX12_condition_75 rfl rfl ?_
            refine G_bipush (v := 38) dX12_condition_76 rfl ?_
            refine G_icmp_eq 87 dX12_condition_78 (by decide) (fun c13 => ?_) (fun c13 => ?_)
            · replace h := git c13 h
              refine G_aload_n dX12_condition_87 rfl rfl ?_
              refine G_iload_n dX12_condition_88 rfl rfl ?_
              refine G_bipush (v := 124) dX12_condition_89 rfl ?_
              obtain ⟨ph14, t15, r16⟩ := gB_some h
              have jn17 : G l gX12_condition 6 0 0 (fun v' S' I' J' R' => v' = none ∧ S' = gS0 ∧ I' = v ∧ J' = J ∧ R' = gR0 w) 0 0 99 [some (.ref 149), some (.int x1), some (.int r9)] [.int ph14, .ref 149] gS0 I J (gR0 w) := by
                obtain ⟨r18, hr19, r16⟩ := gB_some r16
                refine G_cV (mj := gX12_joins) (As := [.int ph14]) (rest := []) ml_X12_280 vX12_joins sl_149 sk_149 (by decide) rfl rfl rfl (Nat.le_of_ble_eq_true rfl) (by decide) (Nat.le_refl _) (Nat.le_refl _) dX12_condition_99 (q_X12_joins hr19) ?_
                refine G_aload_n dX12_condition_102 rfl rfl ?_
                refine G_iload_n dX12_condition_103 rfl rfl ?_
                obtain ⟨r20, hr21, r16⟩ := gB_some r16
                refine G_cV (mj := gX12_puts) (As := [.int r9]) (rest := []) ml_X12_241 vX12_puts sl_149 sk_149 (by decide) rfl rfl rfl (Nat.le_of_ble_eq_true rfl) (by decide) (Nat.le_refl _) (Nat.le_refl _) dX12_condition_104 (q_X12_puts hr21) ?_
                refine G_iconst (v := 1) dX12_condition_107 rfl ?_
                refine S_istore_n [some (.ref 149), some (.int (1 : Int32)), some (.int r9)] dX12_condition_108 rfl (by decide) rfl ?_
                refine G_goto 176 dX12_condition_109 (by decide) ?_
                refine G_goto 16 dX12_condition_176 (by decide) ?_
                refine G_sub [some (.ref 149), some (.int (1 : Int32)), none] ⟨rfl, rfl, trivial⟩ ?_
                exact ih _ _ r16
              refine G_icmp_ne 98 dX12_condition_91 (by decide) (fun c22 => ?_) (fun c22 => ?_)
              · replace t15 := gif c22 t15
                refine G_iconst (v := 0) dX12_condition_98 rfl ?_
                cases t15
                exact jn17
              · replace t15 := git c22 t15
                refine G_iconst (v := 1) dX12_condition_94 rfl ?_
                refine G_goto 99 dX12_condition_95 (by decide) ?_
                cases t15
                exact jn17
            · replace h := gif c13 h
              refine G_iload_n dX12_condition_81 rfl rfl ?_
              refine G_bipush (v := 124) dX12_condition_82 rfl ?_
              refine G_icmp_ne 112 dX12_condition_84 (by decide) (fun c23 => ?_) (fun c23 => ?_)
              · replace h := gif c23 h
                refine G_iload_n dX12_condition_112 rfl rfl ?_
                refine G_bipush (v := 41) dX12_condition_113 rfl ?_
                refine G_icmp_ne 167 dX12_condition_115 (by decide) (fun c24 => ?_) (fun c24 => ?_)
                · replace h := gif c24 h
                  refine G_aload_n dX12_condition_167 rfl rfl ?_
                  refine G_iconst (v := 1) dX12_condition_168 rfl ?_
                  refine G_aload_n dX12_condition_169 rfl rfl ?_
                  refine G_getI fl_X12_200 sl_149 sk_149 rfl dX12_condition_170 ?_
                  obtain ⟨r25, hr26, h⟩ := gB_some h
                  refine G_cV (mj := gX12_wrongs) (As := [.int (1 : Int32), .int (I 149 28)]) (rest := []) ml_X12_237 vX12_wrongs sl_149 sk_149 (by decide) rfl rfl rfl (Nat.le_of_ble_eq_true rfl) (by decide) (Nat.le_refl _) (Nat.le_refl _) dX12_condition_173 (q_X12_wrongs hr26) ?_
                  refine G_goto 16 dX12_condition_176 (by decide) ?_
                  refine G_sub [some (.ref 149), some (.int x1), none] ⟨rfl, rfl, trivial⟩ ?_
                  exact ih _ _ h
                · replace h := git c24 h
                  refine G_aload_n dX12_condition_118 rfl rfl ?_
                  refine G_iconst (v := 1) dX12_condition_119 rfl ?_
                  obtain ⟨r27, hr28, h⟩ := gB_some h
                  refine G_cV (mj := gX12_joins) (As := [.int (1 : Int32)]) (rest := []) ml_X12_280 vX12_joins sl_149 sk_149 (by decide) rfl rfl rfl (Nat.le_of_ble_eq_true rfl) (by decide) (Nat.le_refl _) (Nat.le_refl _) dX12_condition_120 (q_X12_joins hr28) ?_
                  refine G_aload_n dX12_condition_123 rfl rfl ?_
                  refine G_dup dX12_condition_124 rfl ?_
                  refine G_getI fl_X12_231 sl_149 sk_149 rfl dX12_condition_125 ?_
                  refine G_iconst (v := 1) dX12_condition_128 rfl ?_
                  refine G_isub dX12_condition_129 ?_
                  refine G_nI fun z29 ez29 => ?_
                  replace h := gL_some ez29 h
                  refine G_putI fl_X12_231 sl_149 sk_149 rfl rfl ⟨rfl, rfl⟩ dX12_condition_130 ?_
                  refine G_mI fun I30 eI30 => ?_
                  replace h := gL_some eI30 h
                  refine G_aload_n dX12_condition_133 rfl rfl ?_
                  refine G_dup dX12_condition_134 rfl ?_
                  refine G_getI fl_X12_234 sl_149 sk_149 rfl dX12_condition_135 ?_
                  refine G_iconst (v := 1) dX12_condition_138 rfl ?_
                  refine G_isub dX12_condition_139 ?_
                  refine G_nI fun z31 ez31 => ?_
                  replace h := gL_some ez31 h
                  refine G_putI fl_X12_234 sl_149 sk_149 rfl rfl ⟨rfl, rfl⟩ dX12_condition_140 ?_
                  refine G_mI fun I32 eI32 => ?_
                  replace h := gL_some eI32 h
                  refine G_aload_n dX12_condition_143 rfl rfl ?_
                  refine G_dup dX12_condition_144 rfl ?_
                  refine G_getI fl_X12_200 sl_149 sk_149 rfl dX12_condition_145 ?_
                  refine G_iconst (v := 1) dX12_condition_148 rfl ?_
                  refine G_iadd dX12_condition_149 ?_
                  refine G_nI fun z33 ez33 => ?_
                  replace h := gL_some ez33 h
                  refine G_putI fl_X12_200 sl_149 sk_149 rfl rfl ⟨rfl, rfl⟩ dX12_condition_150 ?_
                  refine G_mI fun I34 eI34 => ?_
                  replace h := gL_some eI34 h
                  refine G_aload_n dX12_condition_153 rfl rfl ?_
                  refine G_getI fl_X12_231 sl_149 sk_149 rfl dX12_condition_154 ?_
                  refine G_if_le 176 dX12_condition_157 (by decide) (fun c35 => ?_) (fun c35 => ?_)
                  · replace h := git c35 h
                    refine G_goto 16 dX12_condition_176 (by decide) ?_
                    refine G_sub [some (.ref 149), some (.int x1), none] ⟨rfl, rfl, trivial⟩ ?_
                    exact ih _ _ h
                  · replace h := gif c35 h
                    refine G_aload_n dX12_condition_160 rfl rfl ?_
                    obtain ⟨r36, hr37, h⟩ := gB_some h
                    refine G_cV (mj := gX12_ends) (As := []) (rest := []) ml_X12_277 vX12_ends sl_149 sk_149 (by decide) rfl rfl rfl (Nat.le_of_ble_eq_true rfl) (by decide) (Nat.le_refl _) (Nat.le_refl _) dX12_condition_161 (q_X12_ends hr37) ?_
                    refine G_goto 176 dX12_condition_164 (by decide) ?_
                    refine G_goto 16 dX12_condition_176 (by decide) ?_
                    refine G_sub [some (.ref 149), some (.int x1), none] ⟨rfl, rfl, trivial⟩ ?_
                    exact ih _ _ h
              · replace h := git c23 h
                refine G_aload_n dX12_condition_87 rfl rfl ?_
                refine G_iload_n dX12_condition_88 rfl rfl ?_
                refine G_bipush (v := 124) dX12_condition_89 rfl ?_
                obtain ⟨ph38, t39, r40⟩ := gB_some h
                have jn41 : G l gX12_condition 6 0 0 (fun v' S' I' J' R' => v' = none ∧ S' = gS0 ∧ I' = v ∧ J' = J ∧ R' = gR0 w) 0 0 99 [some (.ref 149), some (.int x1), some (.int r9)] [.int ph38, .ref 149] gS0 I J (gR0 w) := by
                  obtain ⟨r42, hr43, r40⟩ := gB_some r40
                  refine G_cV (mj := gX12_joins) (As := [.int ph38]) (rest := []) ml_X12_280 vX12_joins sl_149 sk_149 (by decide) rfl rfl rfl (Nat.le_of_ble_eq_true rfl) (by decide) (Nat.le_refl _) (Nat.le_refl _) dX12_condition_99 (q_X12_joins hr43) ?_
                  refine G_aload_n dX12_condition_102 rfl rfl ?_
                  refine G_iload_n dX12_condition_103 rfl rfl ?_
                  obtain ⟨r44, hr45, r40⟩ := gB_some r40
                  refine G_cV (mj := gX12_puts) (As := [.int r9]) (rest := []) ml_X12_241 vX12_puts sl_149 sk_149 (by decide) rfl rfl rfl (Nat.le_of_ble_eq_true rfl) (by decide) (Nat.le_refl _) (Nat.le_refl _) dX12_condition_104 (q_X12_puts hr45) ?_
                  refine G_iconst (v := 1) dX12_condition_107 rfl ?_
                  refine S_istore_n [some (.ref 149), some (.int (1 : Int32)), some (.int r9)] dX12_condition_108 rfl (by decide) rfl ?_
                  refine G_goto 176 dX12_condition_109 (by decide) ?_
                  refine G_goto 16 dX12_condition_176 (by decide) ?_
                  refine G_sub [some (.ref 149), some (.int (1 : Int32)), none] ⟨rfl, rfl, trivial⟩ ?_
                  exact ih _ _ r40
                refine G_icmp_ne 98 dX12_condition_91 (by decide) (fun c46 => ?_) (fun c46 => ?_)
                · replace t39 := gif c46 t39
                  refine G_iconst (v := 0) dX12_condition_98 rfl ?_
                  cases t39
                  exact jn41
                · replace t39 := git c46 t39
                  refine G_iconst (v := 1) dX12_condition_94 rfl ?_
                  refine G_goto 99 dX12_condition_95 (by decide) ?_
                  cases t39
                  exact jn41
          · replace h := gif c12 h
            refine G_aload_n dX12_condition_62 rfl rfl ?_
            obtain ⟨r47, hr48, h⟩ := gB_some h
            refine G_cV (mj := gX12_atom) (As := []) (rest := []) ml_X12_274 vX12_atom sl_149 sk_149 (by decide) rfl rfl rfl (Nat.le_of_ble_eq_true rfl) (by decide) (Nat.le_refl _) (Nat.le_refl _) dX12_condition_63 (q_X12_atom hr48) ?_
            refine G_aload_n dX12_condition_66 rfl rfl ?_
            obtain ⟨r49, hr50, h⟩ := gB_some h
            refine G_cV (mj := gX12_ends) (As := []) (rest := []) ml_X12_277 vX12_ends sl_149 sk_149 (by decide) rfl rfl rfl (Nat.le_of_ble_eq_true rfl) (by decide) (Nat.le_refl _) (Nat.le_refl _) dX12_condition_67 (q_X12_ends hr50) ?_
            refine G_iconst (v := 0) dX12_condition_70 rfl ?_
            refine S_istore_n [some (.ref 149), some (.int (0 : Int32)), some (.int r9)] dX12_condition_71 rfl (by decide) rfl ?_
            refine G_goto 176 dX12_condition_72 (by decide) ?_
            refine G_goto 16 dX12_condition_176 (by decide) ?_
            refine G_sub [some (.ref 149), some (.int (0 : Int32)), none] ⟨rfl, rfl, trivial⟩ ?_
            exact ih _ _ h
        · replace h := gif c11 h
          refine G_iload_n dX12_condition_39 rfl rfl ?_
          refine G_bipush (v := 33) dX12_condition_40 rfl ?_
          refine G_icmp_eq 51 dX12_condition_42 (by decide) (fun c51 => ?_) (fun c51 => ?_)
          · replace h := git c51 h
            refine G_aload_n dX12_condition_51 rfl rfl ?_
            obtain ⟨r52, hr53, h⟩ := gB_some h
            refine G_cV (mj := gX12_opens) (As := []) (rest := []) ml_X12_271 vX12_opens sl_149 sk_149 (by decide) rfl rfl rfl (Nat.le_of_ble_eq_true rfl) (by decide) (Nat.le_refl _) (Nat.le_refl _) dX12_condition_52 (q_X12_opens hr53) ?_
            refine G_goto 176 dX12_condition_55 (by decide) ?_
            refine G_goto 16 dX12_condition_176 (by decide) ?_
            refine G_sub [some (.ref 149), some (.int x1), none] ⟨rfl, rfl, trivial⟩ ?_
            exact ih _ _ h
          · replace h := gif c51 h
            refine G_iload_n dX12_condition_45 rfl rfl ?_
            refine G_bipush (v := 40) dX12_condition_46 rfl ?_
            refine G_icmp_ne 58 dX12_condition_48 (by decide) (fun c54 => ?_) (fun c54 => ?_)
            · replace h := gif c54 h
              refine G_iload_n dX12_condition_58 rfl rfl ?_
              refine G_if_eq 75 dX12_condition_59 (by decide) (fun c55 => ?_) (fun c55 => ?_)
              · replace h := git c55 h
                refine G_iload_n dX12_condition_75 rfl rfl ?_
                refine G_bipush (v := 38) dX12_condition_76 rfl ?_
                refine G_icmp_eq 87 dX12_condition_78 (by decide) (fun c56 => ?_) (fun c56 => ?_)
                · replace h := git c56 h
                  refine G_aload_n dX12_condition_87 rfl rfl ?_
                  refine G_iload_n dX12_condition_88 rfl rfl ?_
                  refine G_bipush (v := 124) dX12_condition_89 rfl ?_
                  obtain ⟨ph57, t58, r59⟩ := gB_some h
                  have jn60 : G l gX12_condition 6 0 0 (fun v' S' I' J' R' => v' = none ∧ S' = gS0 ∧ I' = v ∧ J' = J ∧ R' = gR0 w) 0 0 99 [some (.ref 149), some (.int x1), some (.int r9)] [.int ph57, .ref 149] gS0 I J (gR0 w) := by
                    obtain ⟨r61, hr62, r59⟩ := gB_some r59
                    refine G_cV (mj := gX12_joins) (As := [.int ph57]) (rest := []) ml_X12_280 vX12_joins sl_149 sk_149 (by decide) rfl rfl rfl (Nat.le_of_ble_eq_true rfl) (by decide) (Nat.le_refl _) (Nat.le_refl _) dX12_condition_99 (q_X12_joins hr62) ?_
                    refine G_aload_n dX12_condition_102 rfl rfl ?_
                    refine G_iload_n dX12_condition_103 rfl rfl ?_
                    obtain ⟨r63, hr64, r59⟩ := gB_some r59
                    refine G_cV (mj := gX12_puts) (As := [.int r9]) (rest := []) ml_X12_241 vX12_puts sl_149 sk_149 (by decide) rfl rfl rfl (Nat.le_of_ble_eq_true rfl) (by decide) (Nat.le_refl _) (Nat.le_refl _) dX12_condition_104 (q_X12_puts hr64) ?_
                    refine G_iconst (v := 1) dX12_condition_107 rfl ?_
                    refine S_istore_n [some (.ref 149), some (.int (1 : Int32)), some (.int r9)] dX12_condition_108 rfl (by decide) rfl ?_
                    refine G_goto 176 dX12_condition_109 (by decide) ?_
                    refine G_goto 16 dX12_condition_176 (by decide) ?_
                    refine G_sub [some (.ref 149), some (.int (1 : Int32)), none] ⟨rfl, rfl, trivial⟩ ?_
                    exact ih _ _ r59
                  refine G_icmp_ne 98 dX12_condition_91 (by decide) (fun c65 => ?_) (fun c65 => ?_)
                  · replace t58 := gif c65 t58
                    refine G_iconst (v := 0) dX12_condition_98 rfl ?_
                    cases t58
                    exact jn60
                  · replace t58 := git c65 t58
                    refine G_iconst (v := 1) dX12_condition_94 rfl ?_
                    refine G_goto 99 dX12_condition_95 (by decide) ?_
                    cases t58
                    exact jn60
                · replace h := gif c56 h
                  refine G_iload_n dX12_condition_81 rfl rfl ?_
                  refine G_bipush (v := 124) dX12_condition_82 rfl ?_
                  refine G_icmp_ne 112 dX12_condition_84 (by decide) (fun c66 => ?_) (fun c66 => ?_)
                  · replace h := gif c66 h
                    refine G_iload_n dX12_condition_112 rfl rfl ?_
                    refine G_bipush (v := 41) dX12_condition_113 rfl ?_
                    refine G_icmp_ne 167 dX12_condition_115 (by decide) (fun c67 => ?_) (fun c67 => ?_)
                    · replace h := gif c67 h
                      refine G_aload_n dX12_condition_167 rfl rfl ?_
                      refine G_iconst (v := 1) dX12_condition_168 rfl ?_
                      refine G_aload_n dX12_condition_169 rfl rfl ?_
                      refine G_getI fl_X12_200 sl_149 sk_149 rfl dX12_condition_170 ?_
                      obtain ⟨r68, hr69, h⟩ := gB_some h
                      refine G_cV (mj := gX12_wrongs) (As := [.int (1 : Int32), .int (I 149 28)]) (rest := []) ml_X12_237 vX12_wrongs sl_149 sk_149 (by decide) rfl rfl rfl (Nat.le_of_ble_eq_true rfl) (by decide) (Nat.le_refl _) (Nat.le_refl _) dX12_condition_173 (q_X12_wrongs hr69) ?_
                      refine G_goto 16 dX12_condition_176 (by decide) ?_
                      refine G_sub [some (.ref 149), some (.int x1), none] ⟨rfl, rfl, trivial⟩ ?_
                      exact ih _ _ h
                    · replace h := git c67 h
                      refine G_aload_n dX12_condition_118 rfl rfl ?_
                      refine G_iconst (v := 1) dX12_condition_119 rfl ?_
                      obtain ⟨r70, hr71, h⟩ := gB_some h
                      refine G_cV (mj := gX12_joins) (As := [.int (1 : Int32)]) (rest := []) ml_X12_280 vX12_joins sl_149 sk_149 (by decide) rfl rfl rfl (Nat.le_of_ble_eq_true rfl) (by decide) (Nat.le_refl _) (Nat.le_refl _) dX12_condition_120 (q_X12_joins hr71) ?_
                      refine G_aload_n dX12_condition_123 rfl rfl ?_
                      refine G_dup dX12_condition_124 rfl ?_
                      refine G_getI fl_X12_231 sl_149 sk_149 rfl dX12_condition_125 ?_
                      refine G_iconst (v := 1) dX12_condition_128 rfl ?_
                      refine G_isub dX12_condition_129 ?_
                      refine G_nI fun z72 ez72 => ?_
                      replace h := gL_some ez72 h
                      refine G_putI fl_X12_231 sl_149 sk_149 rfl rfl ⟨rfl, rfl⟩ dX12_condition_130 ?_
                      refine G_mI fun I73 eI73 => ?_
                      replace h := gL_some eI73 h
                      refine G_aload_n dX12_condition_133 rfl rfl ?_
                      refine G_dup dX12_condition_134 rfl ?_
                      refine G_getI fl_X12_234 sl_149 sk_149 rfl dX12_condition_135 ?_
                      refine G_iconst (v := 1) dX12_condition_138 rfl ?_
                      refine G_isub dX12_condition_139 ?_
                      refine G_nI fun z74 ez74 => ?_
                      replace h := gL_some ez74 h
                      refine G_putI fl_X12_234 sl_149 sk_149 rfl rfl ⟨rfl, rfl⟩ dX12_condition_140 ?_
                      refine G_mI fun I75 eI75 => ?_
                      replace h := gL_some eI75 h
                      refine G_aload_n dX12_condition_143 rfl rfl ?_
                      refine G_dup dX12_condition_144 rfl ?_
                      refine G_getI fl_X12_200 sl_149 sk_149 rfl dX12_condition_145 ?_
                      refine G_iconst (v := 1) dX12_condition_148 rfl ?_
                      refine G_iadd dX12_condition_149 ?_
                      refine G_nI fun z76 ez76 => ?_
                      replace h := gL_some ez76 h
                      refine G_putI fl_X12_200 sl_149 sk_149 rfl rfl ⟨rfl, rfl⟩ dX12_condition_150 ?_
                      refine G_mI fun I77 eI77 => ?_
                      replace h := gL_some eI77 h
                      refine G_aload_n dX12_condition_153 rfl rfl ?_
                      refine G_getI fl_X12_231 sl_149 sk_149 rfl dX12_condition_154 ?_
                      refine G_if_le 176 dX12_condition_157 (by decide) (fun c78 => ?_) (fun c78 => ?_)
                      · replace h := git c78 h
                        refine G_goto 16 dX12_condition_176 (by decide) ?_
                        refine G_sub [some (.ref 149), some (.int x1), none] ⟨rfl, rfl, trivial⟩ ?_
                        exact ih _ _ h
                      · replace h := gif c78 h
                        refine G_aload_n dX12_condition_160 rfl rfl ?_
                        obtain ⟨r79, hr80, h⟩ := gB_some h
                        refine G_cV (mj := gX12_ends) (As := []) (rest := []) ml_X12_277 vX12_ends sl_149 sk_149 (by decide) rfl rfl rfl (Nat.le_of_ble_eq_true rfl) (by decide) (Nat.le_refl _) (Nat.le_refl _) dX12_condition_161 (q_X12_ends hr80) ?_
                        refine G_goto 176 dX12_condition_164 (by decide) ?_
                        refine G_goto 16 dX12_condition_176 (by decide) ?_
                        refine G_sub [some (.ref 149), some (.int x1), none] ⟨rfl, rfl, trivial⟩ ?_
                        exact ih _ _ h
                  · replace h := git c66 h
                    refine G_aload_n dX12_condition_87 rfl rfl ?_
                    refine G_iload_n dX12_condition_88 rfl rfl ?_
                    refine G_bipush (v := 124) dX12_condition_89 rfl ?_
                    obtain ⟨ph81, t82, r83⟩ := gB_some h
                    have jn84 : G l gX12_condition 6 0 0 (fun v' S' I' J' R' => v' = none ∧ S' = gS0 ∧ I' = v ∧ J' = J ∧ R' = gR0 w) 0 0 99 [some (.ref 149), some (.int x1), some (.int r9)] [.int ph81, .ref 149] gS0 I J (gR0 w) := by
                      obtain ⟨r85, hr86, r83⟩ := gB_some r83
                      refine G_cV (mj := gX12_joins) (As := [.int ph81]) (rest := []) ml_X12_280 vX12_joins sl_149 sk_149 (by decide) rfl rfl rfl (Nat.le_of_ble_eq_true rfl) (by decide) (Nat.le_refl _) (Nat.le_refl _) dX12_condition_99 (q_X12_joins hr86) ?_
                      refine G_aload_n dX12_condition_102 rfl rfl ?_
                      refine G_iload_n dX12_condition_103 rfl rfl ?_
                      obtain ⟨r87, hr88, r83⟩ := gB_some r83
                      refine G_cV (mj := gX12_puts) (As := [.int r9]) (rest := []) ml_X12_241 vX12_puts sl_149 sk_149 (by decide) rfl rfl rfl (Nat.le_of_ble_eq_true rfl) (by decide) (Nat.le_refl _) (Nat.le_refl _) dX12_condition_104 (q_X12_puts hr88) ?_
                      refine G_iconst (v := 1) dX12_condition_107 rfl ?_
                      refine S_istore_n [some (.ref 149), some (.int (1 : Int32)), some (.int r9)] dX12_condition_108 rfl (by decide) rfl ?_
                      refine G_goto 176 dX12_condition_109 (by decide) ?_
                      refine G_goto 16 dX12_condition_176 (by decide) ?_
                      refine G_sub [some (.ref 149), some (.int (1 : Int32)), none] ⟨rfl, rfl, trivial⟩ ?_
                      exact ih _ _ r83
                    refine G_icmp_ne 98 dX12_condition_91 (by decide) (fun c89 => ?_) (fun c89 => ?_)
                    · replace t82 := gif c89 t82
                      refine G_iconst (v := 0) dX12_condition_98 rfl ?_
                      cases t82
                      exact jn84
                    · replace t82 := git c89 t82
                      refine G_iconst (v := 1) dX12_condition_94 rfl ?_
                      refine G_goto 99 dX12_condition_95 (by decide) ?_
                      cases t82
                      exact jn84
              · replace h := gif c55 h
                refine G_aload_n dX12_condition_62 rfl rfl ?_
                obtain ⟨r90, hr91, h⟩ := gB_some h
                refine G_cV (mj := gX12_atom) (As := []) (rest := []) ml_X12_274 vX12_atom sl_149 sk_149 (by decide) rfl rfl rfl (Nat.le_of_ble_eq_true rfl) (by decide) (Nat.le_refl _) (Nat.le_refl _) dX12_condition_63 (q_X12_atom hr91) ?_
                refine G_aload_n dX12_condition_66 rfl rfl ?_
                obtain ⟨r92, hr93, h⟩ := gB_some h
                refine G_cV (mj := gX12_ends) (As := []) (rest := []) ml_X12_277 vX12_ends sl_149 sk_149 (by decide) rfl rfl rfl (Nat.le_of_ble_eq_true rfl) (by decide) (Nat.le_refl _) (Nat.le_refl _) dX12_condition_67 (q_X12_ends hr93) ?_
                refine G_iconst (v := 0) dX12_condition_70 rfl ?_
                refine S_istore_n [some (.ref 149), some (.int (0 : Int32)), some (.int r9)] dX12_condition_71 rfl (by decide) rfl ?_
                refine G_goto 176 dX12_condition_72 (by decide) ?_
                refine G_goto 16 dX12_condition_176 (by decide) ?_
                refine G_sub [some (.ref 149), some (.int (0 : Int32)), none] ⟨rfl, rfl, trivial⟩ ?_
                exact ih _ _ h
            · replace h := git c54 h
              refine G_aload_n dX12_condition_51 rfl rfl ?_
              obtain ⟨r94, hr95, h⟩ := gB_some h
              refine G_cV (mj := gX12_opens) (As := []) (rest := []) ml_X12_271 vX12_opens sl_149 sk_149 (by decide) rfl rfl rfl (Nat.le_of_ble_eq_true rfl) (by decide) (Nat.le_refl _) (Nat.le_refl _) dX12_condition_52 (q_X12_opens hr95) ?_
              refine G_goto 176 dX12_condition_55 (by decide) ?_
              refine G_goto 16 dX12_condition_176 (by decide) ?_
              refine G_sub [some (.ref 149), some (.int x1), none] ⟨rfl, rfl, trivial⟩ ?_
              exact ih _ _ h
set_option maxRecDepth 20000 in
theorem q_X12_condition {l : Launch} {I : gIt} {J : gJt} {w : Bool} {v : gIt} (h : p_X12_condition I = some v) : Cn l gX12_condition 6 0 0 [.ref 149] gS0 I J (gR0 w) (fun v' S' I' J' R' => v' = none ∧ S' = gS0 ∧ I' = v ∧ J' = J ∧ R' = gR0 w) := by
  refine Cn.of [some (.ref 149), none, none] (by decide) rfl (Nat.le_of_ble_eq_true rfl) ?_
  rw [p_X12_condition] at h
  refine G_aload_n dX12_condition_0 rfl rfl ?_
  refine G_iconst (v := 0) dX12_condition_1 rfl ?_
  refine G_putI fl_X12_231 sl_149 sk_149 rfl rfl ⟨rfl, rfl⟩ dX12_condition_2 ?_
  refine G_mI fun I1 eI1 => ?_
  replace h := gL_some eI1 h
  refine G_aload_n dX12_condition_5 rfl rfl ?_
  refine G_iconst (v := 0) dX12_condition_6 rfl ?_
  refine G_putI fl_X12_234 sl_149 sk_149 rfl rfl ⟨rfl, rfl⟩ dX12_condition_7 ?_
  refine G_mI fun I2 eI2 => ?_
  replace h := gL_some eI2 h
  refine G_aload_n dX12_condition_10 rfl rfl ?_
  obtain ⟨r3, hr4, h⟩ := gB_some h
  refine G_cV (mj := gX12_opens) (As := []) (rest := []) ml_X12_271 vX12_opens sl_149 sk_149 (by decide) rfl rfl rfl (Nat.le_of_ble_eq_true rfl) (by decide) (Nat.le_refl _) (Nat.le_refl _) dX12_condition_11 (q_X12_opens hr4) ?_
  refine G_iconst (v := 1) dX12_condition_14 rfl ?_
  refine S_istore_n [some (.ref 149), some (.int (1 : Int32)), none] dX12_condition_15 rfl (by decide) rfl ?_
  exact q_X12_condition_16   gFu _ _ h
def p_X12_taker (I : gIt) (x1 : Int32) (x2 : Int32) : Option gIt :=
  gB (p_X12_here I) fun r1 =>
  gB (α := gIt) (
  if r1 = (42 : Int32) then
  if x2 = 0 then
  if x2 = 0 then
  gck (gin x1 80) (
  if (I 161 (x1).toNatClampNeg) = (4 : Int32) then
  gB (p_X12_wrongs I (4 : Int32) (I 149 28)) fun r82 =>
  some r82
  else
  some I)
  else
  some I
  else
  if (I 149 31) = (8 : Int32) then
  gB (p_X12_wrongs I (3 : Int32) (I 149 28)) fun r90 =>
  some r90
  else
  if x2 = 0 then
  gck (gin x1 80) (
  if (I 161 (x1).toNatClampNeg) = (4 : Int32) then
  gB (p_X12_wrongs I (4 : Int32) (I 149 28)) fun r88 =>
  some r88
  else
  some I)
  else
  some I
  else
  gB (p_X12_here I) fun r92 =>
  gB (p_X12_isLetter r92) fun r94 =>
  if r94 = 0 then
  gB (p_X12_wrongs I (1 : Int32) (I 149 28)) fun r111 =>
  some r111
  else
  if x2 = 0 then
  if x2 = 0 then
  gck (gin x1 80) (
  if (I 161 (x1).toNatClampNeg) = (4 : Int32) then
  gB (p_X12_wrongs I (4 : Int32) (I 149 28)) fun r101 =>
  some r101
  else
  some I)
  else
  some I
  else
  if (I 149 31) = (8 : Int32) then
  gB (p_X12_wrongs I (3 : Int32) (I 149 28)) fun r109 =>
  some r109
  else
  if x2 = 0 then
  gck (gin x1 80) (
  if (I 161 (x1).toNatClampNeg) = (4 : Int32) then
  gB (p_X12_wrongs I (4 : Int32) (I 149 28)) fun r107 =>
  some r107
  else
  some I)
  else
  some I) fun ph3 =>
  gB (p_X12_isGood ph3) fun r7 =>
  if r7 = 0 then
  some ph3
  else
  gB (α := Int32) (
  if x2 = 0 then
  gck (gin x1 80) (
  some (ph3 161 (x1).toNatClampNeg))
  else
  some (0 : Int32)) fun ph10 =>
  gL ((((4 : Int32) * x1) + ph10)) fun z14 =>
  gB (p_X12_here ph3) fun r15 =>
  gB (α := Int32) (
  if r15 = (42 : Int32) then
  some (1 : Int32)
  else
  some (0 : Int32)) fun ph17 =>
  gB (α := (Int32 × gIt)) (
  if ph17 = 0 then
  gB (p_X12_who ph3) fun r70 =>
  some (r70.1, r70.2)
  else
  gB (p_X12_whose ph3) fun r72 =>
  some (r72.1, r72.2)) fun ph21 =>
  gB (p_X12_isGood ph21.2) fun r25 =>
  gB (α := (Int32 × gIt)) (
  if r25 = 0 then
  some ((1 : Int32), ph21.2)
  else
  gB (p_X12_here ph21.2) fun r48 =>
  if r48 = (47 : Int32) then
  gL (((ph21.2 149 28) + (1 : Int32))) fun z51 =>
  gL (gu2 ph21.2 149 28 z51) fun I52 =>
  gB (p_X12_here I52) fun r53 =>
  gB (p_X12_lies (Int32.toInt64 r53) (50 : Int64) (57 : Int64)) fun r55 =>
  gB (α := gIt) (
  if r55 = 0 then
  gB (p_X12_wrongs I52 (1 : Int32) (I52 149 28)) fun r67 =>
  some r67
  else
  some I52) fun ph57 =>
  gB (p_X12_here ph57) fun r61 =>
  gL ((r61 - (48 : Int32))) fun z63 =>
  gL (((ph57 149 28) + (1 : Int32))) fun z64 =>
  gL (gu2 ph57 149 28 z64) fun I65 =>
  some (z63, I65)
  else
  some ((1 : Int32), ph21.2)) fun ph27 =>
  gB (p_X12_isGood ph27.2) fun r31 =>
  if r31 = 0 then
  some ph27.2
  else
  gck (gin z14 320) (
  gL (gu2 ph27.2 164 (z14).toNatClampNeg (vp_nar .boolean ph17)) fun I35 =>
  gck (gin z14 320) (
  gL (gu2 I35 165 (z14).toNatClampNeg ph21.1) fun I37 =>
  gck (gin z14 320) (
  gL (gu2 I37 166 (z14).toNatClampNeg ph27.1) fun I39 =>
  if x2 = 0 then
  gck (gin x1 80) (
  gL (((I39 161 (x1).toNatClampNeg) + (1 : Int32))) fun z42 =>
  gck (gin x1 80) (
  gL (gu2 I39 161 (x1).toNatClampNeg z42) fun I44 =>
  some I44))
  else
  gck (gin x1 80) (
  gL (gu2 I39 161 (x1).toNatClampNeg (1 : Int32)) fun I46 =>
  some I46))))
set_option maxRecDepth 20000 in
theorem q_X12_taker {l : Launch} {I : gIt} {J : gJt} {w : Bool} {x1 : Int32} {x2 : Int32} {v : gIt} (h : p_X12_taker I x1 x2 = some v) : Cn l gX12_taker 5 0 0 [.ref 149, .int x1, .int x2] gS0 I J (gR0 w) (fun v' S' I' J' R' => v' = none ∧ S' = gS0 ∧ I' = v ∧ J' = J ∧ R' = gR0 w) := by
  refine Cn.of [some (.ref 149), some (.int x1), some (.int x2), none, none, none, none] (by decide) rfl (Nat.le_of_ble_eq_true rfl) ?_
  rw [p_X12_taker] at h
  refine G_aload_n dX12_taker_0 rfl rfl ?_
  obtain ⟨r1, hr2, h⟩ := gB_some h
  refine G_cV (mj := gX12_here) (As := []) (rest := []) ml_X12_213 vX12_here sl_149 sk_149 (by decide) rfl rfl rfl (Nat.le_of_ble_eq_true rfl) (by decide) (Nat.le_refl _) (Nat.le_refl _) dX12_taker_1 (q_X12_here hr2) ?_
  refine G_bipush (v := 42) dX12_taker_4 rfl ?_
  obtain ⟨ph3, t4, r5⟩ := gB_some h
  have jn6 : G l gX12_taker 5 0 0 (fun v' S' I' J' R' => v' = none ∧ S' = gS0 ∧ I' = v ∧ J' = J ∧ R' = gR0 w) 0 0 79 [some (.ref 149), some (.int x1), some (.int x2), none, none, none, none] [] gS0 ph3 J (gR0 w) := by
    refine G_aload_n dX12_taker_79 rfl rfl ?_
    obtain ⟨r7, hr8, r5⟩ := gB_some r5
    refine G_cV (mj := gX12_isGood) (As := []) (rest := []) ml_X12_221 vX12_isGood sl_149 sk_149 (by decide) rfl rfl rfl (Nat.le_of_ble_eq_true rfl) (by decide) (Nat.le_refl _) (Nat.le_refl _) dX12_taker_80 (q_X12_isGood hr8) ?_
    refine G_if_ne 87 dX12_taker_83 (by decide) (fun c9 => ?_) (fun c9 => ?_)
    · replace r5 := gif c9 r5
      refine G_iconst (v := 4) dX12_taker_87 rfl ?_
      refine G_iload_n dX12_taker_88 rfl rfl ?_
      refine G_imul dX12_taker_89 ?_
      refine G_iload_n dX12_taker_90 rfl rfl ?_
      obtain ⟨ph10, t11, r12⟩ := gB_some r5
      have jn13 : G l gX12_taker 5 0 0 (fun v' S' I' J' R' => v' = none ∧ S' = gS0 ∧ I' = v ∧ J' = J ∧ R' = gR0 w) 0 0 104 [some (.ref 149), some (.int x1), some (.int x2), none, none, none, none] [.int ph10, .int ((4 : Int32) * x1)] gS0 ph3 J (gR0 w) := by
        refine G_iadd dX12_taker_104 ?_
        refine G_nI fun z14 ez14 => ?_
        replace r12 := gL_some ez14 r12
        refine S_istore_n [some (.ref 149), some (.int x1), some (.int x2), some (.int z14), none, none, none] dX12_taker_105 rfl (by decide) rfl ?_
        refine G_aload_n dX12_taker_106 rfl rfl ?_
        obtain ⟨r15, hr16, r12⟩ := gB_some r12
        refine G_cV (mj := gX12_here) (As := []) (rest := []) ml_X12_213 vX12_here sl_149 sk_149 (by decide) rfl rfl rfl (Nat.le_of_ble_eq_true rfl) (by decide) (Nat.le_refl _) (Nat.le_refl _) dX12_taker_107 (q_X12_here hr16) ?_
        refine G_bipush (v := 42) dX12_taker_110 rfl ?_
        obtain ⟨ph17, t18, r19⟩ := gB_some r12
        have jn20 : G l gX12_taker 5 0 0 (fun v' S' I' J' R' => v' = none ∧ S' = gS0 ∧ I' = v ∧ J' = J ∧ R' = gR0 w) 0 0 120 [some (.ref 149), some (.int x1), some (.int x2), some (.int z14), none, none, none] [.int ph17] gS0 ph3 J (gR0 w) := by
          refine S_istore [some (.ref 149), some (.int x1), some (.int x2), some (.int z14), some (.int ph17), none, none] dX12_taker_120 (by decide) rfl ?_
          refine G_iload dX12_taker_122 rfl ?_
          obtain ⟨ph21, t22, r23⟩ := gB_some r19
          have jn24 : G l gX12_taker 5 0 0 (fun v' S' I' J' R' => v' = none ∧ S' = gS0 ∧ I' = v ∧ J' = J ∧ R' = gR0 w) 0 0 138 [some (.ref 149), some (.int x1), some (.int x2), some (.int z14), some (.int ph17), none, none] [.int ph21.1] gS0 ph21.2 J (gR0 w) := by
            refine S_istore [some (.ref 149), some (.int x1), some (.int x2), some (.int z14), some (.int ph17), some (.int ph21.1), none] dX12_taker_138 (by decide) rfl ?_
            refine G_iconst (v := 1) dX12_taker_140 rfl ?_
            refine S_istore [some (.ref 149), some (.int x1), some (.int x2), some (.int z14), some (.int ph17), some (.int ph21.1), some (.int (1 : Int32))] dX12_taker_141 (by decide) rfl ?_
            refine G_aload_n dX12_taker_143 rfl rfl ?_
            obtain ⟨r25, hr26, r23⟩ := gB_some r23
            refine G_cV (mj := gX12_isGood) (As := []) (rest := []) ml_X12_221 vX12_isGood sl_149 sk_149 (by decide) rfl rfl rfl (Nat.le_of_ble_eq_true rfl) (by decide) (Nat.le_refl _) (Nat.le_refl _) dX12_taker_144 (q_X12_isGood hr26) ?_
            obtain ⟨ph27, t28, r29⟩ := gB_some r23
            have jn30 : G l gX12_taker 5 0 0 (fun v' S' I' J' R' => v' = none ∧ S' = gS0 ∧ I' = v ∧ J' = J ∧ R' = gR0 w) 0 0 214 [some (.ref 149), some (.int x1), some (.int x2), some (.int z14), some (.int ph17), some (.int ph21.1), some (.int ph27.1)] [] gS0 ph27.2 J (gR0 w) := by
              refine G_aload_n dX12_taker_214 rfl rfl ?_
              obtain ⟨r31, hr32, r29⟩ := gB_some r29
              refine G_cV (mj := gX12_isGood) (As := []) (rest := []) ml_X12_221 vX12_isGood sl_149 sk_149 (by decide) rfl rfl rfl (Nat.le_of_ble_eq_true rfl) (by decide) (Nat.le_refl _) (Nat.le_refl _) dX12_taker_215 (q_X12_isGood hr32) ?_
              refine G_if_ne 222 dX12_taker_218 (by decide) (fun c33 => ?_) (fun c33 => ?_)
              · replace r29 := gif c33 r29
                refine G_aload_n dX12_taker_222 rfl rfl ?_
                refine G_getR fl_X12_60 sl_149 sk_149 rfl (rr_149_23 _) dX12_taker_223 ?_
                refine G_iload_n dX12_taker_226 rfl rfl ?_
                refine G_iload dX12_taker_227 rfl ?_
                obtain ⟨b34, r29⟩ := gck_some r29
                refine G_zast sl_164 ss_164 (gin_in b34) dX12_taker_229 ?_
                refine G_mI fun I35 eI35 => ?_
                replace r29 := gL_some eI35 r29
                refine G_aload_n dX12_taker_230 rfl rfl ?_
                refine G_getR fl_X12_64 sl_149 sk_149 rfl (rr_149_24 _) dX12_taker_231 ?_
                refine G_iload_n dX12_taker_234 rfl rfl ?_
                refine G_iload dX12_taker_235 rfl ?_
                obtain ⟨b36, r29⟩ := gck_some r29
                refine G_iast sl_165 ss_165 (gin_in b36) dX12_taker_237 ?_
                refine G_mI fun I37 eI37 => ?_
                replace r29 := gL_some eI37 r29
                refine G_aload_n dX12_taker_238 rfl rfl ?_
                refine G_getR fl_X12_67 sl_149 sk_149 rfl (rr_149_25 _) dX12_taker_239 ?_
                refine G_iload_n dX12_taker_242 rfl rfl ?_
                refine G_iload dX12_taker_243 rfl ?_
                obtain ⟨b38, r29⟩ := gck_some r29
                refine G_iast sl_166 ss_166 (gin_in b38) dX12_taker_245 ?_
                refine G_mI fun I39 eI39 => ?_
                replace r29 := gL_some eI39 r29
                refine G_aload_n dX12_taker_246 rfl rfl ?_
                refine G_getR fl_X12_51 sl_149 sk_149 rfl (rr_149_20 _) dX12_taker_247 ?_
                refine G_iload_n dX12_taker_250 rfl rfl ?_
                refine G_iload_n dX12_taker_251 rfl rfl ?_
                refine G_if_eq 259 dX12_taker_252 (by decide) (fun c40 => ?_) (fun c40 => ?_)
                · replace r29 := git c40 r29
                  refine G_aload_n dX12_taker_259 rfl rfl ?_
                  refine G_getR fl_X12_51 sl_149 sk_149 rfl (rr_149_20 _) dX12_taker_260 ?_
                  refine G_iload_n dX12_taker_263 rfl rfl ?_
                  obtain ⟨b41, r29⟩ := gck_some r29
                  refine G_iald sl_161 ss_161 (gin_in b41) dX12_taker_264 ?_
                  refine G_iconst (v := 1) dX12_taker_265 rfl ?_
                  refine G_iadd dX12_taker_266 ?_
                  refine G_nI fun z42 ez42 => ?_
                  replace r29 := gL_some ez42 r29
                  obtain ⟨b43, r29⟩ := gck_some r29
                  refine G_iast sl_161 ss_161 (gin_in b43) dX12_taker_267 ?_
                  refine G_mI fun I44 eI44 => ?_
                  replace r29 := gL_some eI44 r29
                  refine G_vret rfl (Nat.le_refl _) (Nat.le_refl _) dX12_taker_268 ?_
                  cases r29
                  exact ⟨rfl, rfl, rfl, rfl, rfl⟩
                · replace r29 := gif c40 r29
                  refine G_iconst (v := 1) dX12_taker_255 rfl ?_
                  refine G_goto 267 dX12_taker_256 (by decide) ?_
                  obtain ⟨b45, r29⟩ := gck_some r29
                  refine G_iast sl_161 ss_161 (gin_in b45) dX12_taker_267 ?_
                  refine G_mI fun I46 eI46 => ?_
                  replace r29 := gL_some eI46 r29
                  refine G_vret rfl (Nat.le_refl _) (Nat.le_refl _) dX12_taker_268 ?_
                  cases r29
                  exact ⟨rfl, rfl, rfl, rfl, rfl⟩
              · replace r29 := git c33 r29
                refine G_vret rfl (Nat.le_refl _) (Nat.le_refl _) dX12_taker_221 ?_
                cases r29
                exact ⟨rfl, rfl, rfl, rfl, rfl⟩
            refine G_if_eq 214 dX12_taker_147 (by decide) (fun c47 => ?_) (fun c47 => ?_)
            · replace t28 := git c47 t28
              cases t28
              exact jn30
            · replace t28 := gif c47 t28
              refine G_aload_n dX12_taker_150 rfl rfl ?_
              obtain ⟨r48, hr49, t28⟩ := gB_some t28
              refine G_cV (mj := gX12_here) (As := []) (rest := []) ml_X12_213 vX12_here sl_149 sk_149 (by decide) rfl rfl rfl (Nat.le_of_ble_eq_true rfl) (by decide) (Nat.le_refl _) (Nat.le_refl _) dX12_taker_151 (q_X12_here hr49) ?_
              refine G_bipush (v := 47) dX12_taker_154 rfl ?_
              refine G_icmp_ne 214 dX12_taker_156 (by decide) (fun c50 => ?_) (fun c50 => ?_)
              · replace t28 := gif c50 t28
                cases t28
                exact jn30
              · replace t28 := git c50 t28
                refine G_aload_n dX12_taker_159 rfl rfl ?_
                refine G_dup dX12_taker_160 rfl ?_
                refine G_getI fl_X12_200 sl_149 sk_149 rfl dX12_taker_161 ?_
                refine G_iconst (v := 1) dX12_taker_164 rfl ?_
                refine G_iadd dX12_taker_165 ?_
                refine G_nI fun z51 ez51 => ?_
                replace t28 := gL_some ez51 t28
                refine G_putI fl_X12_200 sl_149 sk_149 rfl rfl ⟨rfl, rfl⟩ dX12_taker_166 ?_
                refine G_mI fun I52 eI52 => ?_
                replace t28 := gL_some eI52 t28
                refine G_aload_n dX12_taker_169 rfl rfl ?_
                obtain ⟨r53, hr54, t28⟩ := gB_some t28
                refine G_cV (mj := gX12_here) (As := []) (rest := []) ml_X12_213 vX12_here sl_149 sk_149 (by decide) rfl rfl rfl (Nat.le_of_ble_eq_true rfl) (by decide) (Nat.le_refl _) (Nat.le_refl _) dX12_taker_170 (q_X12_here hr54) ?_
                refine G_i2l dX12_taker_173 ?_
                refine G_ldc2 dX12_taker_174 kc_X12_183 ?_
                refine G_ldc2 dX12_taker_177 kc_X12_219 ?_
                obtain ⟨r55, hr56, t28⟩ := gB_some t28
                refine G_cS (mj := gX12_lies) (As := [.long (Int32.toInt64 r53), .long (50 : Int64), .long (57 : Int64)]) (rest := []) ml_X12_156 vX12_lies rfl rfl (Nat.le_of_ble_eq_true rfl) (by decide) (Nat.le_refl _) (Nat.le_refl _) dX12_taker_180 (q_X12_lies hr56) ?_
                obtain ⟨ph57, t58, r59⟩ := gB_some t28
                have jn60 : G l gX12_taker 5 0 0 (fun v' S' I' J' R' => v' = none ∧ S' = gS0 ∧ I' = v ∧ J' = J ∧ R' = gR0 w) 0 0 195 [some (.ref 149), some (.int x1), some (.int x2), some (.int z14), some (.int ph17), some (.int ph21.1), some (.int (1 : Int32))] [] gS0 ph57 J (gR0 w) := by
                  refine G_aload_n dX12_taker_195 rfl rfl ?_
                  obtain ⟨r61, hr62, r59⟩ := gB_some r59
                  refine G_cV (mj := gX12_here) (As := []) (rest := []) ml_X12_213 vX12_here sl_149 sk_149 (by decide) rfl rfl rfl (Nat.le_of_ble_eq_true rfl) (by decide) (Nat.le_refl _) (Nat.le_refl _) dX12_taker_196 (q_X12_here hr62) ?_
                  refine G_bipush (v := 48) dX12_taker_199 rfl ?_
                  refine G_isub dX12_taker_201 ?_
                  refine G_nI fun z63 ez63 => ?_
                  replace r59 := gL_some ez63 r59
                  refine S_istore [some (.ref 149), some (.int x1), some (.int x2), some (.int z14), some (.int ph17), some (.int ph21.1), some (.int z63)] dX12_taker_202 (by decide) rfl ?_
                  refine G_aload_n dX12_taker_204 rfl rfl ?_
                  refine G_dup dX12_taker_205 rfl ?_
                  refine G_getI fl_X12_200 sl_149 sk_149 rfl dX12_taker_206 ?_
                  refine G_iconst (v := 1) dX12_taker_209 rfl ?_
                  refine G_iadd dX12_taker_210 ?_
                  refine G_nI fun z64 ez64 => ?_
                  replace r59 := gL_some ez64 r59
                  refine G_putI fl_X12_200 sl_149 sk_149 rfl rfl ⟨rfl, rfl⟩ dX12_taker_211 ?_
                  refine G_mI fun I65 eI65 => ?_
                  replace r59 := gL_some eI65 r59
                  cases r59
                  exact jn30
                refine G_if_ne 195 dX12_taker_183 (by decide) (fun c66 => ?_) (fun c66 => ?_)
                · replace t58 := gif c66 t58
                  cases t58
                  exact jn60
                · replace t58 := git c66 t58
                  refine G_aload_n dX12_taker_186 rfl rfl ?_
                  refine G_iconst (v := 1) dX12_taker_187 rfl ?_
                  refine G_aload_n dX12_taker_188 rfl rfl ?_
                  refine G_getI fl_X12_200 sl_149 sk_149 rfl dX12_taker_189 ?_
                  obtain ⟨r67, hr68, t58⟩ := gB_some t58
                  refine G_cV (mj := gX12_wrongs) (As := [.int (1 : Int32), .int (I52 149 28)]) (rest := []) ml_X12_237 vX12_wrongs sl_149 sk_149 (by decide) rfl rfl rfl (Nat.le_of_ble_eq_true rfl) (by decide) (Nat.le_refl _) (Nat.le_refl _) dX12_taker_192 (q_X12_wrongs hr68) ?_
                  cases t58
                  exact jn60
          refine G_if_eq 134 dX12_taker_124 (by decide) (fun c69 => ?_) (fun c69 => ?_)
          · replace t22 := git c69 t22
            refine G_aload_n dX12_taker_134 rfl rfl ?_
            obtain ⟨r70, hr71, t22⟩ := gB_some t22
            refine G_cV (mj := gX12_who) (As := []) (rest := []) ml_X12_265 vX12_who sl_149 sk_149 (by decide) rfl rfl rfl (Nat.le_of_ble_eq_true rfl) (by decide) (Nat.le_refl _) (Nat.le_refl _) dX12_taker_135 (q_X12_who hr71) ?_
            cases t22
            exact jn24
          · replace t22 := gif c69 t22
            refine G_aload_n dX12_taker_127 rfl rfl ?_
            obtain ⟨r72, hr73, t22⟩ := gB_some t22
            refine G_cV (mj := gX12_whose) (As := []) (rest := []) ml_X12_259 vX12_whose sl_149 sk_149 (by decide) rfl rfl rfl (Nat.le_of_ble_eq_true rfl) (by decide) (Nat.le_refl _) (Nat.le_refl _) dX12_taker_128 (q_X12_whose hr73) ?_
            refine G_goto 138 dX12_taker_131 (by decide) ?_
            cases t22
            exact jn24
        refine G_icmp_ne 119 dX12_taker_112 (by decide) (fun c74 => ?_) (fun c74 => ?_)
        · replace t18 := gif c74 t18
          refine G_iconst (v := 0) dX12_taker_119 rfl ?_
          cases t18
          exact jn20
        · replace t18 := git c74 t18
          refine G_iconst (v := 1) dX12_taker_115 rfl ?_
          refine G_goto 120 dX12_taker_116 (by decide) ?_
          cases t18
          exact jn20
      refine G_if_eq 98 dX12_taker_91 (by decide) (fun c75 => ?_) (fun c75 => ?_)
      · replace t11 := git c75 t11
        refine G_aload_n dX12_taker_98 rfl rfl ?_
        refine G_getR fl_X12_51 sl_149 sk_149 rfl (rr_149_20 _) dX12_taker_99 ?_
        refine G_iload_n dX12_taker_102 rfl rfl ?_
        obtain ⟨b76, t11⟩ := gck_some t11
        refine G_iald sl_161 ss_161 (gin_in b76) dX12_taker_103 ?_
        cases t11
        exact jn13
      · replace t11 := gif c75 t11
        refine G_iconst (v := 0) dX12_taker_94 rfl ?_
        refine G_goto 104 dX12_taker_95 (by decide) ?_
        cases t11
        exact jn13
    · replace r5 := git c9 r5
      refine G_vret rfl (Nat.le_refl _) (Nat.le_refl _) dX12_taker_86 ?_
      cases r5
      exact ⟨rfl, rfl, rfl, rfl, rfl⟩
  refine G_icmp_eq 31 dX12_taker_6 (by decide) (fun c77 => ?_) (fun c77 => ?_)
  · replace t4 := git c77 t4
    refine G_iload_n dX12_taker_31 rfl rfl ?_
    refine G_if_eq 56 dX12_taker_32 (by decide) (fun c78 => ?_) (fun c78 => ?_)
    · replace t4 := git c78 t4
      refine G_iload_n dX12_taker_56 rfl rfl ?_
      refine G_if_ne 79 dX12_taker_57 (by decide) (fun c79 => ?_) (fun c79 => ?_)
      · replace t4 := gif c79 t4
        cases t4
        exact jn6
      · replace t4 := git c79 t4
        refine G_aload_n dX12_taker_60 rfl rfl ?_
        refine G_getR fl_X12_51 sl_149 sk_149 rfl (rr_149_20 _) dX12_taker_61 ?_
        refine G_iload_n dX12_taker_64 rfl rfl ?_
        obtain ⟨b80, t4⟩ := gck_some t4
        refine G_iald sl_161 ss_161 (gin_in b80) dX12_taker_65 ?_
        refine G_iconst (v := 4) dX12_taker_66 rfl ?_
        refine G_icmp_ne 79 dX12_taker_67 (by decide) (fun c81 => ?_) (fun c81 => ?_)
        · replace t4 := gif c81 t4
          cases t4
          exact jn6
        · replace t4 := git c81 t4
          refine G_aload_n dX12_taker_70 rfl rfl ?_
          refine G_iconst (v := 4) dX12_taker_71 rfl ?_
          refine G_aload_n dX12_taker_72 rfl rfl ?_
          refine G_getI fl_X12_200 sl_149 sk_149 rfl dX12_taker_73 ?_
          obtain ⟨r82, hr83, t4⟩ := gB_some t4
          refine G_cV (mj := gX12_wrongs) (As := [.int (4 : Int32), .int (I 149 28)]) (rest := []) ml_X12_237 vX12_wrongs sl_149 sk_149 (by decide) rfl rfl rfl (Nat.le_of_ble_eq_true rfl) (by decide) (Nat.le_refl _) (Nat.le_refl _) dX12_taker_76 (q_X12_wrongs hr83) ?_
          cases t4
          exact jn6
    · replace t4 := gif c78 t4
      refine G_aload_n dX12_taker_35 rfl rfl ?_
      refine G_getI fl_X12_284 sl_149 sk_149 rfl dX12_taker_36 ?_
      refine G_bipush (v := 8) dX12_taker_39 rfl ?_
      refine G_icmp_ne 56 dX12_taker_41 (by decide) (fun c84 => ?_) (fun c84 => ?_)
      · replace t4 := gif c84 t4
        refine G_iload_n dX12_taker_56 rfl rfl ?_
        refine G_if_ne 79 dX12_taker_57 (by decide) (fun c85 => ?_) (fun c85 => ?_)
        · replace t4 := gif c85 t4
          cases t4
          exact jn6
        · replace t4 := git c85 t4
          refine G_aload_n dX12_taker_60 rfl rfl ?_
          refine G_getR fl_X12_51 sl_149 sk_149 rfl (rr_149_20 _) dX12_taker_61 ?_
          refine G_iload_n dX12_taker_64 rfl rfl ?_
          obtain ⟨b86, t4⟩ := gck_some t4
          refine G_iald sl_161 ss_161 (gin_in b86) dX12_taker_65 ?_
          refine G_iconst (v := 4) dX12_taker_66 rfl ?_
          refine G_icmp_ne 79 dX12_taker_67 (by decide) (fun c87 => ?_) (fun c87 => ?_)
          · replace t4 := gif c87 t4
            cases t4
            exact jn6
          · replace t4 := git c87 t4
            refine G_aload_n dX12_taker_70 rfl rfl ?_
            refine G_iconst (v := 4) dX12_taker_71 rfl ?_
            refine G_aload_n dX12_taker_72 rfl rfl ?_
            refine G_getI fl_X12_200 sl_149 sk_149 rfl dX12_taker_73 ?_
            obtain ⟨r88, hr89, t4⟩ := gB_some t4
            refine G_cV (mj := gX12_wrongs) (As := [.int (4 : Int32), .int (I 149 28)]) (rest := []) ml_X12_237 vX12_wrongs sl_149 sk_149 (by decide) rfl rfl rfl (Nat.le_of_ble_eq_true rfl) (by decide) (Nat.le_refl _) (Nat.le_refl _) dX12_taker_76 (q_X12_wrongs hr89) ?_
            cases t4
            exact jn6
      · replace t4 := git c84 t4
        refine G_aload_n dX12_taker_44 rfl rfl ?_
        refine G_iconst (v := 3) dX12_taker_45 rfl ?_
        refine G_aload_n dX12_taker_46 rfl rfl ?_
        refine G_getI fl_X12_200 sl_149 sk_149 rfl dX12_taker_47 ?_
        obtain ⟨r90, hr91, t4⟩ := gB_some t4
        refine G_cV (mj := gX12_wrongs) (As := [.int (3 : Int32), .int (I 149 28)]) (rest := []) ml_X12_237 vX12_wrongs sl_149 sk_149 (by decide) rfl rfl rfl (Nat.le_of_ble_eq_true rfl) (by decide) (Nat.le_refl _) (Nat.le_refl _) dX12_taker_50 (q_X12_wrongs hr91) ?_
        refine G_goto 79 dX12_taker_53 (by decide) ?_
        cases t4
        exact jn6
  · replace t4 := gif c77 t4
    refine G_aload_n dX12_taker_9 rfl rfl ?_
    obtain ⟨r92, hr93, t4⟩ := gB_some t4
    refine G_cV (mj := gX12_here) (As := []) (rest := []) ml_X12_213 vX12_here sl_149 sk_149 (by decide) rfl rfl rfl (Nat.le_of_ble_eq_true rfl) (by decide) (Nat.le_refl _) (Nat.le_refl _) dX12_taker_10 (q_X12_here hr93) ?_
    obtain ⟨r94, hr95, t4⟩ := gB_some t4
    refine G_cS (mj := gX12_isLetter) (As := [.int r92]) (rest := []) ml_X12_247 vX12_isLetter rfl rfl (Nat.le_of_ble_eq_true rfl) (by decide) (Nat.le_refl _) (Nat.le_refl _) dX12_taker_13 (q_X12_isLetter hr95) ?_
    refine G_if_ne 31 dX12_taker_16 (by decide) (fun c96 => ?_) (fun c96 => ?_)
    · replace t4 := gif c96 t4
      refine G_iload_n dX12_taker_31 rfl rfl ?_
      refine G_if_eq 56 dX12_taker_32 (by decide) (fun c97 => ?_) (fun c97 => ?_)
      · replace t4 := git c97 t4
        refine G_iload_n dX12_taker_56 rfl rfl ?_
        refine G_if_ne 79 dX12_taker_57 (by decide) (fun c98 => ?_) (fun c98 => ?_)
        · replace t4 := gif c98 t4
          cases t4
          exact jn6
        · replace t4 := git c98 t4
          refine G_aload_n dX12_taker_60 rfl rfl ?_
          refine G_getR fl_X12_51 sl_149 sk_149 rfl (rr_149_20 _) dX12_taker_61 ?_
          refine G_iload_n dX12_taker_64 rfl rfl ?_
          obtain ⟨b99, t4⟩ := gck_some t4
          refine G_iald sl_161 ss_161 (gin_in b99) dX12_taker_65 ?_
          refine G_iconst (v := 4) dX12_taker_66 rfl ?_
          refine G_icmp_ne 79 dX12_taker_67 (by decide) (fun c100 => ?_) (fun c100 => ?_)
          · replace t4 := gif c100 t4
            cases t4
            exact jn6
          · replace t4 := git c100 t4
            refine G_aload_n dX12_taker_70 rfl rfl ?_
            refine G_iconst (v := 4) dX12_taker_71 rfl ?_
            refine G_aload_n dX12_taker_72 rfl rfl ?_
            refine G_getI fl_X12_200 sl_149 sk_149 rfl dX12_taker_73 ?_
            obtain ⟨r101, hr102, t4⟩ := gB_some t4
            refine G_cV (mj := gX12_wrongs) (As := [.int (4 : Int32), .int (I 149 28)]) (rest := []) ml_X12_237 vX12_wrongs sl_149 sk_149 (by decide) rfl rfl rfl (Nat.le_of_ble_eq_true rfl) (by decide) (Nat.le_refl _) (Nat.le_refl _) dX12_taker_76 (q_X12_wrongs hr102) ?_
            cases t4
            exact jn6
      · replace t4 := gif c97 t4
        refine G_aload_n dX12_taker_35 rfl rfl ?_
        refine G_getI fl_X12_284 sl_149 sk_149 rfl dX12_taker_36 ?_
        refine G_bipush (v := 8) dX12_taker_39 rfl ?_
        refine G_icmp_ne 56 dX12_taker_41 (by decide) (fun c103 => ?_) (fun c103 => ?_)
        · replace t4 := gif c103 t4
          refine G_iload_n dX12_taker_56 rfl rfl ?_
          refine G_if_ne 79 dX12_taker_57 (by decide) (fun c104 => ?_) (fun c104 => ?_)
          · replace t4 := gif c104 t4
            cases t4
            exact jn6
          · replace t4 := git c104 t4
            refine G_aload_n dX12_taker_60 rfl rfl ?_
            refine G_getR fl_X12_51 sl_149 sk_149 rfl (rr_149_20 _) dX12_taker_61 ?_
            refine G_iload_n dX12_taker_64 rfl rfl ?_
            obtain ⟨b105, t4⟩ := gck_some t4
            refine G_iald sl_161 ss_161 (gin_in b105) dX12_taker_65 ?_
            refine G_iconst (v := 4) dX12_taker_66 rfl ?_
            refine G_icmp_ne 79 dX12_taker_67 (by decide) (fun c106 => ?_) (fun c106 => ?_)
            · replace t4 := gif c106 t4
              cases t4
              exact jn6
            · replace t4 := git c106 t4
              refine G_aload_n dX12_taker_70 rfl rfl ?_
              refine G_iconst (v := 4) dX12_taker_71 rfl ?_
              refine G_aload_n dX12_taker_72 rfl rfl ?_
              refine G_getI fl_X12_200 sl_149 sk_149 rfl dX12_taker_73 ?_
              obtain ⟨r107, hr108, t4⟩ := gB_some t4
              refine G_cV (mj := gX12_wrongs) (As := [.int (4 : Int32), .int (I 149 28)]) (rest := []) ml_X12_237 vX12_wrongs sl_149 sk_149 (by decide) rfl rfl rfl (Nat.le_of_ble_eq_true rfl) (by decide) (Nat.le_refl _) (Nat.le_refl _) dX12_taker_76 (q_X12_wrongs hr108) ?_
              cases t4
              exact jn6
        · replace t4 := git c103 t4
          refine G_aload_n dX12_taker_44 rfl rfl ?_
          refine G_iconst (v := 3) dX12_taker_45 rfl ?_
          refine G_aload_n dX12_taker_46 rfl rfl ?_
          refine G_getI fl_X12_200 sl_149 sk_149 rfl dX12_taker_47 ?_
          obtain ⟨r109, hr110, t4⟩ := gB_some t4
          refine G_cV (mj := gX12_wrongs) (As := [.int (3 : Int32), .int (I 149 28)]) (rest := []) ml_X12_237 vX12_wrongs sl_149 sk_149 (by decide) rfl rfl rfl (Nat.le_of_ble_eq_true rfl) (by decide) (Nat.le_refl _) (Nat.le_refl _) dX12_taker_50 (q_X12_wrongs hr110) ?_
          refine G_goto 79 dX12_taker_53 (by decide) ?_
          cases t4
          exact jn6
    · replace t4 := git c96 t4
      refine G_aload_n dX12_taker_19 rfl rfl ?_
      refine G_iconst (v := 1) dX12_taker_20 rfl ?_
      refine G_aload_n dX12_taker_21 rfl rfl ?_
      refine G_getI fl_X12_200 sl_149 sk_149 rfl dX12_taker_22 ?_
      obtain ⟨r111, hr112, t4⟩ := gB_some t4
      refine G_cV (mj := gX12_wrongs) (As := [.int (1 : Int32), .int (I 149 28)]) (rest := []) ml_X12_237 vX12_wrongs sl_149 sk_149 (by decide) rfl rfl rfl (Nat.le_of_ble_eq_true rfl) (by decide) (Nat.le_refl _) (Nat.le_refl _) dX12_taker_25 (q_X12_wrongs hr112) ?_
      refine G_goto 79 dX12_taker_28 (by decide) ?_
      cases t4
      exact jn6
def p_X12_clause_19 (x1 : Int32) : Nat → gIt → Option gIt
  | 0, _ => none
  | n + 1, I =>
    gB (p_X12_isGood I) fun r4 =>
    if r4 = 0 then
    gB (p_X12_isGood I) fun r7 =>
    if r7 = 0 then
    some I
    else
    gL ((I 149 32)) fun z10 =>
    gck (gin x1 80) (
    gL (gu2 I 162 (x1).toNatClampNeg z10) fun I12 =>
    gB (p_X12_here I12) fun r13 =>
    gB (α := gIt) (
    if r13 = (40 : Int32) then
    gB (p_X12_condition I12) fun r25 =>
    some r25
    else
    some I12) fun ph15 =>
    gL ((ph15 149 32)) fun z19 =>
    gck (gin x1 80) (
    gL (gu2 ph15 163 (x1).toNatClampNeg z19) fun I21 =>
    gL (((I21 149 31) + (1 : Int32))) fun z22 =>
    gL (gu2 I21 149 31 z22) fun I23 =>
    some I23))
    else
    gB (p_X12_here I) fun r27 =>
    if r27 = (44 : Int32) then
    gL (((I 149 28) + (1 : Int32))) fun z50 =>
    gL (gu2 I 149 28 z50) fun I51 =>
    gB (p_X12_taker I51 x1 (0 : Int32)) fun r52 =>
    p_X12_clause_19 x1 n r52
    else
    gB (p_X12_isGood I) fun r30 =>
    if r30 = 0 then
    some I
    else
    gL ((I 149 32)) fun z33 =>
    gck (gin x1 80) (
    gL (gu2 I 162 (x1).toNatClampNeg z33) fun I35 =>
    gB (p_X12_here I35) fun r36 =>
    gB (α := gIt) (
    if r36 = (40 : Int32) then
    gB (p_X12_condition I35) fun r48 =>
    some r48
    else
    some I35) fun ph38 =>
    gL ((ph38 149 32)) fun z42 =>
    gck (gin x1 80) (
    gL (gu2 ph38 163 (x1).toNatClampNeg z42) fun I44 =>
    gL (((I44 149 31) + (1 : Int32))) fun z45 =>
    gL (gu2 I44 149 31 z45) fun I46 =>
    some I46))
def p_X12_clause (I : gIt) : Option gIt :=
  gL ((((8 : Int32) * (I 149 4)) + (I 149 31))) fun z1 =>
  gB (p_X12_taker I z1 (1 : Int32)) fun r2 =>
  p_X12_clause_19 z1 gFu r2
set_option maxRecDepth 20000 in
theorem q_X12_clause_19 {l : Launch} {v : gIt} {J : gJt} {w : Bool} {x1 : Int32} : ∀ (n : Nat) (I : gIt), p_X12_clause_19 x1 n I = some v → G l gX12_clause 7 0 0 (fun v' S' I' J' R' => v' = none ∧ S' = gS0 ∧ I' = v ∧ J' = J ∧ R' = gR0 w) 0 0 19 [some (.ref 149), some (.int x1)] [] gS0 I J (gR0 w) := by
  intro n
  induction n with
  | zero => intro _ h; cases h
  | succ n ih =>
    intro I h
    rw [p_X12_clause_19] at h
    refine G_aload_n dX12_clause_19 rfl rfl ?_
    obtain ⟨r4, hr5, h⟩ := gB_some h
    refine G_cV (mj := gX12_isGood) (As := []) (rest := []) ml_X12_221 vX12_isGood sl_149 sk_149 (by decide) rfl rfl rfl (Nat.le_of_ble_eq_true rfl) (by decide) (Nat.le_refl _) (Nat.le_refl _) dX12_clause_20 (q_X12_isGood hr5) ?_
    refine G_if_eq 54 dX12_clause_23 (by decide) (fun c6 => ?_) (fun c6 => ?_)
    · replace h := git c6 h
      refine G_aload_n dX12_clause_54 rfl rfl ?_
      obtain ⟨r7, hr8, h⟩ := gB_some h
      refine G_cV (mj := gX12_isGood) (As := []) (rest := []) ml_X12_221 vX12_isGood sl_149 sk_149 (by decide) rfl rfl rfl (Nat.le_of_ble_eq_true rfl) (by decide) (Nat.le_refl _) (Nat.le_refl _) dX12_clause_55 (q_X12_isGood hr8) ?_
      refine G_if_ne 62 dX12_clause_58 (by decide) (fun c9 => ?_) (fun c9 => ?_)
      · replace h := gif c9 h
        refine G_aload_n dX12_clause_62 rfl rfl ?_
        refine G_getR fl_X12_54 sl_149 sk_149 rfl (rr_149_21 _) dX12_clause_63 ?_
        refine G_iload_n dX12_clause_66 rfl rfl ?_
        refine G_aload_n dX12_clause_67 rfl rfl ?_
        refine G_getI fl_X12_228 sl_149 sk_149 rfl dX12_clause_68 ?_
        refine G_nI fun z10 ez10 => ?_
        replace h := gL_some ez10 h
        obtain ⟨b11, h⟩ := gck_some h
        refine G_iast sl_162 ss_162 (gin_in b11) dX12_clause_71 ?_
        refine G_mI fun I12 eI12 => ?_
        replace h := gL_some eI12 h
        refine G_aload_n dX12_clause_72 rfl rfl ?_
        obtain ⟨r13, hr14, h⟩ := gB_some h
        refine G_cV (mj := gX12_here) (As := []) (rest := []) ml_X12_213 vX12_here sl_149 sk_149 (by decide) rfl rfl rfl (Nat.le_of_ble_eq_true rfl) (by decide) (Nat.le_refl _) (Nat.le_refl _) dX12_clause_73 (q_X12_here hr14) ?_
        refine G_bipush (v := 40) dX12_clause_76 rfl ?_
        obtain ⟨ph15, t16, r17⟩ := gB_some h
        have jn18 : G l gX12_clause 7 0 0 (fun v' S' I' J' R' => v' = none ∧ S' = gS0 ∧ I' = v ∧ J' = J ∧ R' = gR0 w) 0 0 85 [some (.ref 149), some (.int x1)] [] gS0 ph15 J (gR0 w) := by
          refine G_aload_n dX12_clause_85 rfl rfl ?_
          refine G_getR fl_X12_57 sl_149 sk_149 rfl (rr_149_22 _) dX12_clause_86 ?_
          refine G_iload_n dX12_clause_89 rfl rfl ?_
          refine G_aload_n dX12_clause_90 rfl rfl ?_
          refine G_getI fl_X12_228 sl_149 sk_149 rfl dX12_clause_91 ?_
          refine G_nI fun z19 ez19 => ?_
          replace r17 := gL_some ez19 r17
          obtain ⟨b20, r17⟩ := gck_some r17
          refine G_iast sl_163 ss_163 (gin_in b20) dX12_clause_94 ?_
          refine G_mI fun I21 eI21 => ?_
          replace r17 := gL_some eI21 r17
          refine G_aload_n dX12_clause_95 rfl rfl ?_
          refine G_dup dX12_clause_96 rfl ?_
          refine G_getI fl_X12_284 sl_149 sk_149 rfl dX12_clause_97 ?_
          refine G_iconst (v := 1) dX12_clause_100 rfl ?_
          refine G_iadd dX12_clause_101 ?_
          refine G_nI fun z22 ez22 => ?_
          replace r17 := gL_some ez22 r17
          refine G_putI fl_X12_284 sl_149 sk_149 rfl rfl ⟨rfl, rfl⟩ dX12_clause_102 ?_
          refine G_mI fun I23 eI23 => ?_
          replace r17 := gL_some eI23 r17
          refine G_vret rfl (Nat.le_refl _) (Nat.le_refl _) dX12_clause_105 ?_
          cases r17
          exact ⟨rfl, rfl, rfl, rfl, rfl⟩
        refine G_icmp_ne 85 dX12_clause_78 (by decide) (fun c24 => ?_) (fun c24 => ?_)
        · replace t16 := gif c24 t16
          cases t16
          exact jn18
        · replace t16 := git c24 t16
          refine G_aload_n dX12_clause_81 rfl rfl ?_
          obtain ⟨r25, hr26, t16⟩ := gB_some t16
          refine G_cV (mj := gX12_condition) (As := []) (rest := []) ml_X12_291 vX12_condition sl_149 sk_149 (by decide) rfl rfl rfl (Nat.le_of_ble_eq_true rfl) (by decide) (Nat.le_refl _) (Nat.le_refl _) dX12_clause_82 (q_X12_condition hr26) ?_
          cases t16
          exact jn18
      · replace h := git c9 h
        refine G_vret rfl (Nat.le_refl _) (Nat.le_refl _) dX12_clause_61 ?_
        cases h
        exact ⟨rfl, rfl, rfl, rfl, rfl⟩
    · replace h := gif c6 h
      refine G_aload_n dX12_clause_26 rfl rfl ?_
      obtain ⟨r27, hr28, h⟩ := gB_some h
      refine G_cV (mj := gX12_here) (As := []) (rest := []) ml_X12_213 vX12_here sl_149 sk_149 (by decide) rfl rfl rfl (Nat.le_of_ble_eq_true rfl) (by decide) (Nat.le_refl _) (Nat.le_refl _) dX12_clause_27 (q_X12_here hr28) ?_
      refine G_bipush (v := 44) dX12_clause_30 rfl ?_
      refine G_icmp_ne 54 dX12_clause_32 (by decide) (fun c29 => ?_) (fun c29 => ?_)
      · replace h := gif c29 h
        refine G_aload_n dX12_clause_54 rfl rfl ?_
        obtain ⟨r30, hr31, h⟩ := gB_some h
        refine G_cV (mj := gX12_isGood) (As := []) (rest := []) ml_X12_221 vX12_isGood sl_149 sk_149 (by decide) rfl rfl rfl (Nat.le_of_ble_eq_true rfl) (by decide) (Nat.le_refl _) (Nat.le_refl _) dX12_clause_55 (q_X12_isGood hr31) ?_
        refine G_if_ne 62 dX12_clause_58 (by decide) (fun c32 => ?_) (fun c32 => ?_)
        · replace h := gif c32 h
          refine G_aload_n dX12_clause_62 rfl rfl ?_
          refine G_getR fl_X12_54 sl_149 sk_149 rfl (rr_149_21 _) dX12_clause_63 ?_
          refine G_iload_n dX12_clause_66 rfl rfl ?_
          refine G_aload_n dX12_clause_67 rfl rfl ?_
          refine G_getI fl_X12_228 sl_149 sk_149 rfl dX12_clause_68 ?_
          refine G_nI fun z33 ez33 => ?_
          replace h := gL_some ez33 h
          obtain ⟨b34, h⟩ := gck_some h
          refine G_iast sl_162 ss_162 (gin_in b34) dX12_clause_71 ?_
          refine G_mI fun I35 eI35 => ?_
          replace h := gL_some eI35 h
          refine G_aload_n dX12_clause_72 rfl rfl ?_
          obtain ⟨r36, hr37, h⟩ := gB_some h
          refine G_cV (mj := gX12_here) (As := []) (rest := []) ml_X12_213 vX12_here sl_149 sk_149 (by decide) rfl rfl rfl (Nat.le_of_ble_eq_true rfl) (by decide) (Nat.le_refl _) (Nat.le_refl _) dX12_clause_73 (q_X12_here hr37) ?_
          refine G_bipush (v := 40) dX12_clause_76 rfl ?_
          obtain ⟨ph38, t39, r40⟩ := gB_some h
          have jn41 : G l gX12_clause 7 0 0 (fun v' S' I' J' R' => v' = none ∧ S' = gS0 ∧ I' = v ∧ J' = J ∧ R' = gR0 w) 0 0 85 [some (.ref 149), some (.int x1)] [] gS0 ph38 J (gR0 w) := by
            refine G_aload_n dX12_clause_85 rfl rfl ?_
            refine G_getR fl_X12_57 sl_149 sk_149 rfl (rr_149_22 _) dX12_clause_86 ?_
            refine G_iload_n dX12_clause_89 rfl rfl ?_
            refine G_aload_n dX12_clause_90 rfl rfl ?_
            refine G_getI fl_X12_228 sl_149 sk_149 rfl dX12_clause_91 ?_
            refine G_nI fun z42 ez42 => ?_
            replace r40 := gL_some ez42 r40
            obtain ⟨b43, r40⟩ := gck_some r40
            refine G_iast sl_163 ss_163 (gin_in b43) dX12_clause_94 ?_
            refine G_mI fun I44 eI44 => ?_
            replace r40 := gL_some eI44 r40
            refine G_aload_n dX12_clause_95 rfl rfl ?_
            refine G_dup dX12_clause_96 rfl ?_
            refine G_getI fl_X12_284 sl_149 sk_149 rfl dX12_clause_97 ?_
            refine G_iconst (v := 1) dX12_clause_100 rfl ?_
            refine G_iadd dX12_clause_101 ?_
            refine G_nI fun z45 ez45 => ?_
            replace r40 := gL_some ez45 r40
            refine G_putI fl_X12_284 sl_149 sk_149 rfl rfl ⟨rfl, rfl⟩ dX12_clause_102 ?_
            refine G_mI fun I46 eI46 => ?_
            replace r40 := gL_some eI46 r40
            refine G_vret rfl (Nat.le_refl _) (Nat.le_refl _) dX12_clause_105 ?_
            cases r40
            exact ⟨rfl, rfl, rfl, rfl, rfl⟩
          refine G_icmp_ne 85 dX12_clause_78 (by decide) (fun c47 => ?_) (fun c47 => ?_)
          · replace t39 := gif c47 t39
            cases t39
            exact jn41
          · replace t39 := git c47 t39
            refine G_aload_n dX12_clause_81 rfl rfl ?_
            obtain ⟨r48, hr49, t39⟩ := gB_some t39
            refine G_cV (mj := gX12_condition) (As := []) (rest := []) ml_X12_291 vX12_condition sl_149 sk_149 (by decide) rfl rfl rfl (Nat.le_of_ble_eq_true rfl) (by decide) (Nat.le_refl _) (Nat.le_refl _) dX12_clause_82 (q_X12_condition hr49) ?_
            cases t39
            exact jn41
        · replace h := git c32 h
          refine G_vret rfl (Nat.le_refl _) (Nat.le_refl _) dX12_clause_61 ?_
          cases h
          exact ⟨rfl, rfl, rfl, rfl, rfl⟩
      · replace h := git c29 h
        refine G_aload_n dX12_clause_35 rfl rfl ?_
        refine G_dup dX12_clause_36 rfl ?_
        refine G_getI fl_X12_200 sl_149 sk_149 rfl dX12_clause_37 ?_
        refine G_iconst (v := 1) dX12_clause_40 rfl ?_
        refine G_iadd dX12_clause_41 ?_
        refine G_nI fun z50 ez50 => ?_
        replace h := gL_some ez50 h
        refine G_putI fl_X12_200 sl_149 sk_149 rfl rfl ⟨rfl, rfl⟩ dX12_clause_42 ?_
        refine G_mI fun I51 eI51 => ?_
        replace h := gL_some eI51 h
        refine G_aload_n dX12_clause_45 rfl rfl ?_
        refine G_iload_n dX12_clause_46 rfl rfl ?_
        refine G_iconst (v := 0) dX12_clause_47 rfl ?_
        obtain ⟨r52, hr53, h⟩ := gB_some h
        refine G_cV (mj := gX12_taker) (As := [.int x1, .int (0 : Int32)]) (rest := []) ml_X12_287 vX12_taker sl_149 sk_149 (by decide) rfl rfl rfl (Nat.le_of_ble_eq_true rfl) (by decide) (Nat.le_refl _) (Nat.le_refl _) dX12_clause_48 (q_X12_taker hr53) ?_
        refine G_goto 19 dX12_clause_51 (by decide) ?_
        exact ih _ h
set_option maxRecDepth 20000 in
theorem q_X12_clause {l : Launch} {I : gIt} {J : gJt} {w : Bool} {v : gIt} (h : p_X12_clause I = some v) : Cn l gX12_clause 7 0 0 [.ref 149] gS0 I J (gR0 w) (fun v' S' I' J' R' => v' = none ∧ S' = gS0 ∧ I' = v ∧ J' = J ∧ R' = gR0 w) := by
  refine Cn.of [some (.ref 149), none] (by decide) rfl (Nat.le_of_ble_eq_true rfl) ?_
  rw [p_X12_clause] at h
  refine G_bipush (v := 8) dX12_clause_0 rfl ?_
  refine G_aload_n dX12_clause_2 rfl rfl ?_
  refine G_getI fl_X12_225 sl_149 sk_149 rfl dX12_clause_3 ?_
  refine G_imul dX12_clause_6 ?_
  refine G_aload_n dX12_clause_7 rfl rfl ?_
  refine G_getI fl_X12_284 sl_149 sk_149 rfl dX12_clause_8 ?_
  refine G_iadd dX12_clause_11 ?_
  refine G_nI fun z1 ez1 => ?_
  replace h := gL_some ez1 h
  refine S_istore_n [some (.ref 149), some (.int z1)] dX12_clause_12 rfl (by decide) rfl ?_
  refine G_aload_n dX12_clause_13 rfl rfl ?_
  refine G_iload_n dX12_clause_14 rfl rfl ?_
  refine G_iconst (v := 1) dX12_clause_15 rfl ?_
  obtain ⟨r2, hr3, h⟩ := gB_some h
  refine G_cV (mj := gX12_taker) (As := [.int z1, .int (1 : Int32)]) (rest := []) ml_X12_287 vX12_taker sl_149 sk_149 (by decide) rfl rfl rfl (Nat.le_of_ble_eq_true rfl) (by decide) (Nat.le_refl _) (Nat.le_refl _) dX12_clause_16 (q_X12_taker hr3) ?_
  exact q_X12_clause_19   gFu _ h
def p_X12_settle_104 (x1 : Int32) (x2 : Int32) (x3 : Int32) (x4 : Int32) : Nat → gIt → Int32 → Option (Int32 × gIt)
  | 0, _, _ => none
  | n + 1, I, x5 =>
    if x5 = 0 then
    if 0 ≤ (I 149 30) then
    gck (gin (I 149 4) 10) (
    gL (gu2 I 157 ((I 149 4)).toNatClampNeg x1) fun I25 =>
    gck (gin (I25 149 4) 10) (
    gL (gu2 I25 158 ((I25 149 4)).toNatClampNeg x2) fun I27 =>
    gck (gin (I27 149 4) 10) (
    gL (gu2 I27 159 ((I27 149 4)).toNatClampNeg x3) fun I29 =>
    gL ((I29 149 31)) fun z30 =>
    gck (gin (I29 149 4) 10) (
    gL (gu2 I29 160 ((I29 149 4)).toNatClampNeg z30) fun I32 =>
    gL (((I32 149 4) + (1 : Int32))) fun z33 =>
    gL (gu2 I32 149 4 z33) fun I34 =>
    some (((I34 149 4) - (1 : Int32)), I34)))))
    else
    some ((I 149 30), I)
    else
    gB (p_X12_isGood I) fun r35 =>
    if r35 = 0 then
    if 0 ≤ (I 149 30) then
    gck (gin (I 149 4) 10) (
    gL (gu2 I 157 ((I 149 4)).toNatClampNeg x1) fun I40 =>
    gck (gin (I40 149 4) 10) (
    gL (gu2 I40 158 ((I40 149 4)).toNatClampNeg x2) fun I42 =>
    gck (gin (I42 149 4) 10) (
    gL (gu2 I42 159 ((I42 149 4)).toNatClampNeg x3) fun I44 =>
    gL ((I44 149 31)) fun z45 =>
    gck (gin (I44 149 4) 10) (
    gL (gu2 I44 160 ((I44 149 4)).toNatClampNeg z45) fun I47 =>
    gL (((I47 149 4) + (1 : Int32))) fun z48 =>
    gL (gu2 I47 149 4 z48) fun I49 =>
    some (((I49 149 4) - (1 : Int32)), I49)))))
    else
    some ((I 149 30), I)
    else
    gB (p_X12_clause I) fun r50 =>
    gB (p_X12_isGood r50) fun r52 =>
    gB (α := Int32) (
    if r52 = 0 then
    some (0 : Int32)
    else
    if (r50 149 29) ≤ (r50 149 28) then
    some (0 : Int32)
    else
    some (1 : Int32)) fun ph54 =>
    gB (α := gIt) (
    if ph54 = 0 then
    some r50
    else
    gB (p_X12_here r50) fun r68 =>
    if r68 = (59 : Int32) then
    some r50
    else
    gB (p_X12_wrongs r50 (1 : Int32) (r50 149 28)) fun r71 =>
    some r71) fun ph58 =>
    if ph54 = 0 then
    gL (((ph58 149 28) + (0 : Int32))) fun z63 =>
    gL (gu2 ph58 149 28 z63) fun I64 =>
    p_X12_settle_104 x1 x2 x3 x4 n I64 ph54
    else
    gL (((ph58 149 28) + (1 : Int32))) fun z65 =>
    gL (gu2 ph58 149 28 z65) fun I66 =>
    p_X12_settle_104 x1 x2 x3 x4 n I66 ph54
def p_X12_settle (I : gIt) (x1 : Int32) (x2 : Int32) (x3 : Int32) (x4 : Int32) : Option (Int32 × gIt) :=
  if (I 149 4) = (10 : Int32) then
  some ((-1 : Int32), I)
  else
  gB (p_X12_lies (Int32.toInt64 x1) (1 : Int64) (100000 : Int64)) fun r2 =>
  if r2 = 0 then
  some ((-1 : Int32), I)
  else
  gB (p_X12_isPerson I x2) fun r5 =>
  if r5 = 0 then
  some ((-1 : Int32), I)
  else
  gB (p_X12_lies (Int32.toInt64 x3) (0 : Int64) (3 : Int64)) fun r8 =>
  if r8 = 0 then
  some ((-1 : Int32), I)
  else
  gB (p_X12_lies (Int32.toInt64 x4) (1 : Int64) (100 : Int64)) fun r11 =>
  if r11 = 0 then
  some ((-1 : Int32), I)
  else
  if x4 ≤ (I 149 1) then
  gL (gu2 I 149 1 (0 : Int32)) fun I15 =>
  gL (gu2 I15 149 28 (0 : Int32)) fun I16 =>
  gL (gu2 I16 149 29 x4) fun I17 =>
  gL (gu2 I17 149 30 (0 : Int32)) fun I18 =>
  gL (gu2 I18 149 31 (0 : Int32)) fun I19 =>
  gL (gu2 I19 149 32 (0 : Int32)) fun I20 =>
  gL (gu2 I20 149 35 x2) fun I21 =>
  p_X12_settle_104 x1 x2 x3 x4 gFu I21 (1 : Int32)
  else
  some ((-1 : Int32), I)
set_option maxRecDepth 20000 in
theorem q_X12_settle_104 {l : Launch} {v : (Int32 × gIt)} {J : gJt} {w : Bool} {x1 : Int32} {x2 : Int32} {x3 : Int32} {x4 : Int32} : ∀ (n : Nat) (I : gIt) (x5 : Int32), p_X12_settle_104 x1 x2 x3 x4 n I x5 = some v → G l gX12_settle 8 0 0 (fun v' S' I' J' R' => v' = some (.int v.1) ∧ S' = gS0 ∧ I' = v.2 ∧ J' = J ∧ R' = gR0 w) 0 0 104 [some (.ref 149), some (.int x1), some (.int x2), some (.int x3), some (.int x4), some (.int x5)] [] gS0 I J (gR0 w) := by
  intro n
  induction n with
  | zero => intro _ _ h; cases h
  | succ n ih =>
    intro I x5 h
    rw [p_X12_settle_104] at h
    refine G_iload dX12_settle_104 rfl ?_
    refine G_if_eq 190 dX12_settle_106 (by decide) (fun c22 => ?_) (fun c22 => ?_)
    · replace h := git c22 h
      refine G_aload_n dX12_settle_190 rfl rfl ?_
      refine G_getI fl_X12_206 sl_149 sk_149 rfl dX12_settle_191 ?_
      refine G_if_ge 202 dX12_settle_194 (by decide) (fun c23 => ?_) (fun c23 => ?_)
      · replace h := git c23 h
        refine G_aload_n dX12_settle_202 rfl rfl ?_
        refine G_getR fl_X12_39 sl_149 sk_149 rfl (rr_149_16 _) dX12_settle_203 ?_
        refine G_aload_n dX12_settle_206 rfl rfl ?_
        refine G_getI fl_X12_225 sl_149 sk_149 rfl dX12_settle_207 ?_
        refine G_iload_n dX12_settle_210 rfl rfl ?_
        obtain ⟨b24, h⟩ := gck_some h
        refine G_iast sl_157 ss_157 (gin_in b24) dX12_settle_211 ?_
        refine G_mI fun I25 eI25 => ?_
        replace h := gL_some eI25 h
        refine G_aload_n dX12_settle_212 rfl rfl ?_
        refine G_getR fl_X12_42 sl_149 sk_149 rfl (rr_149_17 _) dX12_settle_213 ?_
        refine G_aload_n dX12_settle_216 rfl rfl ?_
        refine G_getI fl_X12_225 sl_149 sk_149 rfl dX12_settle_217 ?_
        refine G_iload_n dX12_settle_220 rfl rfl ?_
        obtain ⟨b26, h⟩ := gck_some h
        refine G_iast sl_158 ss_158 (gin_in b26) dX12_settle_221 ?_
        refine G_mI fun I27 eI27 => ?_
        replace h := gL_some eI27 h
        refine G_aload_n dX12_settle_222 rfl rfl ?_
        refine G_getR fl_X12_45 sl_149 sk_149 rfl (rr_149_18 _) dX12_settle_223 ?_
        refine G_aload_n dX12_settle_226 rfl rfl ?_
        refine G_getI fl_X12_225 sl_149 sk_149 rfl dX12_settle_227 ?_
        refine G_iload_n dX12_settle_230 rfl rfl ?_
        obtain ⟨b28, h⟩ := gck_some h
        refine G_iast sl_159 ss_159 (gin_in b28) dX12_settle_231 ?_
        refine G_mI fun I29 eI29 => ?_
        replace h := gL_some eI29 h
        refine G_aload_n dX12_settle_232 rfl rfl ?_
        refine G_getR fl_X12_48 sl_149 sk_149 rfl (rr_149_19 _) dX12_settle_233 ?_
        refine G_aload_n dX12_settle_236 rfl rfl ?_
        refine G_getI fl_X12_225 sl_149 sk_149 rfl dX12_settle_237 ?_
        refine G_aload_n dX12_settle_240 rfl rfl ?_
        refine G_getI fl_X12_284 sl_149 sk_149 rfl dX12_settle_241 ?_
        refine G_nI fun z30 ez30 => ?_
        replace h := gL_some ez30 h
        obtain ⟨b31, h⟩ := gck_some h
        refine G_iast sl_160 ss_160 (gin_in b31) dX12_settle_244 ?_
        refine G_mI fun I32 eI32 => ?_
        replace h := gL_some eI32 h
        refine G_aload_n dX12_settle_245 rfl rfl ?_
        refine G_dup dX12_settle_246 rfl ?_
        refine G_getI fl_X12_225 sl_149 sk_149 rfl dX12_settle_247 ?_
        refine G_iconst (v := 1) dX12_settle_250 rfl ?_
        refine G_iadd dX12_settle_251 ?_
        refine G_nI fun z33 ez33 => ?_
        replace h := gL_some ez33 h
        refine G_putI fl_X12_225 sl_149 sk_149 rfl rfl ⟨rfl, rfl⟩ dX12_settle_252 ?_
        refine G_mI fun I34 eI34 => ?_
        replace h := gL_some eI34 h
        refine G_aload_n dX12_settle_255 rfl rfl ?_
        refine G_getI fl_X12_225 sl_149 sk_149 rfl dX12_settle_256 ?_
        refine G_iconst (v := 1) dX12_settle_259 rfl ?_
        refine G_isub dX12_settle_260 ?_
        refine G_iret rfl (Nat.le_refl _) (Nat.le_refl _) dX12_settle_261 ?_
        cases h
        exact ⟨rfl, rfl, rfl, rfl, rfl⟩
      · replace h := gif c23 h
        refine G_aload_n dX12_settle_197 rfl rfl ?_
        refine G_getI fl_X12_206 sl_149 sk_149 rfl dX12_settle_198 ?_
        refine G_iret rfl (Nat.le_refl _) (Nat.le_refl _) dX12_settle_201 ?_
        cases h
        exact ⟨rfl, rfl, rfl, rfl, rfl⟩
    · replace h := gif c22 h
      refine G_aload_n dX12_settle_109 rfl rfl ?_
      obtain ⟨r35, hr36, h⟩ := gB_some h
      refine G_cV (mj := gX12_isGood) (As := []) (rest := []) ml_X12_221 vX12_isGood sl_149 sk_149 (by decide) rfl rfl rfl (Nat.le_of_ble_eq_true rfl) (by decide) (Nat.le_refl _) (Nat.le_refl _) dX12_settle_110 (q_X12_isGood hr36) ?_
      refine G_if_eq 190 dX12_settle_113 (by decide) (fun c37 => ?_) (fun c37 => ?_)
      · replace h := git c37 h
        refine G_aload_n dX12_settle_190 rfl rfl ?_
        refine G_getI fl_X12_206 sl_149 sk_149 rfl dX12_settle_191 ?_
        refine G_if_ge 202 dX12_settle_194 (by decide) (fun c38 => ?_) (fun c38 => ?_)
        · replace h := git c38 h
          refine G_aload_n dX12_settle_202 rfl rfl ?_
          refine G_getR fl_X12_39 sl_149 sk_149 rfl (rr_149_16 _) dX12_settle_203 ?_
          refine G_aload_n dX12_settle_206 rfl rfl ?_
          refine G_getI fl_X12_225 sl_149 sk_149 rfl dX12_settle_207 ?_
          refine G_iload_n dX12_settle_210 rfl rfl ?_
          obtain ⟨b39, h⟩ := gck_some h
          refine G_iast sl_157 ss_157 (gin_in b39) dX12_settle_211 ?_
          refine G_mI fun I40 eI40 => ?_
          replace h := gL_some eI40 h
          refine G_aload_n dX12_settle_212 rfl rfl ?_
          refine G_getR fl_X12_42 sl_149 sk_149 rfl (rr_149_17 _) dX12_settle_213 ?_
          refine G_aload_n dX12_settle_216 rfl rfl ?_
          refine G_getI fl_X12_225 sl_149 sk_149 rfl dX12_settle_217 ?_
          refine G_iload_n dX12_settle_220 rfl rfl ?_
          obtain ⟨b41, h⟩ := gck_some h
          refine G_iast sl_158 ss_158 (gin_in b41) dX12_settle_221 ?_
          refine G_mI fun I42 eI42 => ?_
          replace h := gL_some eI42 h
          refine G_aload_n dX12_settle_222 rfl rfl ?_
          refine G_getR fl_X12_45 sl_149 sk_149 rfl (rr_149_18 _) dX12_settle_223 ?_
          refine G_aload_n dX12_settle_226 rfl rfl ?_
          refine G_getI fl_X12_225 sl_149 sk_149 rfl dX12_settle_227 ?_
          refine G_iload_n dX12_settle_230 rfl rfl ?_
          obtain ⟨b43, h⟩ := gck_some h
          refine G_iast sl_159 ss_159 (gin_in b43) dX12_settle_231 ?_
          refine G_mI fun I44 eI44 => ?_
          replace h := gL_some eI44 h
          refine G_aload_n dX12_settle_232 rfl rfl ?_
          refine G_getR fl_X12_48 sl_149 sk_149 rfl (rr_149_19 _) dX12_settle_233 ?_
          refine G_aload_n dX12_settle_236 rfl rfl ?_
          refine G_getI fl_X12_225 sl_149 sk_149 rfl dX12_settle_237 ?_
          refine G_aload_n dX12_settle_240 rfl rfl ?_
          refine G_getI fl_X12_284 sl_149 sk_149 rfl dX12_settle_241 ?_
          refine G_nI fun z45 ez45 => ?_
          replace h := gL_some ez45 h
          obtain ⟨b46, h⟩ := gck_some h
          refine G_iast sl_160 ss_160 (gin_in b46) dX12_settle_244 ?_
          refine G_mI fun I47 eI47 => ?_
          replace h := gL_some eI47 h
          refine G_aload_n dX12_settle_245 rfl rfl ?_
          refine G_dup dX12_settle_246 rfl ?_
          refine G_getI fl_X12_225 sl_149 sk_149 rfl dX12_settle_247 ?_
          refine G_iconst (v := 1) dX12_settle_250 rfl ?_
          refine G_iadd dX12_settle_251 ?_
          refine G_nI fun z48 ez48 => ?_
          replace h := gL_some ez48 h
          refine G_putI fl_X12_225 sl_149 sk_149 rfl rfl ⟨rfl, rfl⟩ dX12_settle_252 ?_
          refine G_mI fun I49 eI49 => ?_
          replace h := gL_some eI49 h
          refine G_aload_n dX12_settle_255 rfl rfl ?_
          refine G_getI fl_X12_225 sl_149 sk_149 rfl dX12_settle_256 ?_
          refine G_iconst (v := 1) dX12_settle_259 rfl ?_
          refine G_isub dX12_settle_260 ?_
          refine G_iret rfl (Nat.le_refl _) (Nat.le_refl _) dX12_settle_261 ?_
          cases h
          exact ⟨rfl, rfl, rfl, rfl, rfl⟩
        · replace h := gif c38 h
          refine G_aload_n dX12_settle_197 rfl rfl ?_
          refine G_getI fl_X12_206 sl_149 sk_149 rfl dX12_settle_198 ?_
          refine G_iret rfl (Nat.le_refl _) (Nat.le_refl _) dX12_settle_201 ?_
          cases h
          exact ⟨rfl, rfl, rfl, rfl, rfl⟩
      · replace h := gif c37 h
        refine G_aload_n dX12_settle_116 rfl rfl ?_
        obtain ⟨r50, hr51, h⟩ := gB_some h
        refine G_cV (mj := gX12_clause) (As := []) (rest := []) ml_X12_298 vX12_clause sl_149 sk_149 (by decide) rfl rfl rfl (Nat.le_of_ble_eq_true rfl) (by decide) (Nat.le_refl _) (Nat.le_refl _) dX12_settle_117 (q_X12_clause hr51) ?_
        refine G_aload_n dX12_settle_120 rfl rfl ?_
        obtain ⟨r52, hr53, h⟩ := gB_some h
        refine G_cV (mj := gX12_isGood) (As := []) (rest := []) ml_X12_221 vX12_isGood sl_149 sk_149 (by decide) rfl rfl rfl (Nat.le_of_ble_eq_true rfl) (by decide) (Nat.le_refl _) (Nat.le_refl _) dX12_settle_121 (q_X12_isGood hr53) ?_
        obtain ⟨ph54, t55, r56⟩ := gB_some h
        have jn57 : G l gX12_settle 8 0 0 (fun v' S' I' J' R' => v' = some (.int v.1) ∧ S' = gS0 ∧ I' = v.2 ∧ J' = J ∧ R' = gR0 w) 0 0 143 [some (.ref 149), some (.int x1), some (.int x2), some (.int x3), some (.int x4), some (.int x5)] [.int ph54] gS0 r50 J (gR0 w) := by
          refine S_istore [some (.ref 149), some (.int x1), some (.int x2), some (.int x3), some (.int x4), some (.int ph54)] dX12_settle_143 (by decide) rfl ?_
          refine G_iload dX12_settle_145 rfl ?_
          obtain ⟨ph58, t59, r60⟩ := gB_some r56
          have jn61 : G l gX12_settle 8 0 0 (fun v' S' I' J' R' => v' = some (.int v.1) ∧ S' = gS0 ∧ I' = v.2 ∧ J' = J ∧ R' = gR0 w) 0 0 168 [some (.ref 149), some (.int x1), some (.int x2), some (.int x3), some (.int x4), some (.int ph54)] [] gS0 ph58 J (gR0 w) := by
            refine G_aload_n dX12_settle_168 rfl rfl ?_
            refine G_dup dX12_settle_169 rfl ?_
            refine G_getI fl_X12_200 sl_149 sk_149 rfl dX12_settle_170 ?_
            refine G_iload dX12_settle_173 rfl ?_
            refine G_if_eq 182 dX12_settle_175 (by decide) (fun c62 => ?_) (fun c62 => ?_)
            · replace r60 := git c62 r60
              refine G_iconst (v := 0) dX12_settle_182 rfl ?_
              refine G_iadd dX12_settle_183 ?_
              refine G_nI fun z63 ez63 => ?_
              replace r60 := gL_some ez63 r60
              refine G_putI fl_X12_200 sl_149 sk_149 rfl rfl ⟨rfl, rfl⟩ dX12_settle_184 ?_
              refine G_mI fun I64 eI64 => ?_
              replace r60 := gL_some eI64 r60
              refine G_goto 104 dX12_settle_187 (by decide) ?_
              exact ih _ _ r60
            · replace r60 := gif c62 r60
              refine G_iconst (v := 1) dX12_settle_178 rfl ?_
              refine G_goto 183 dX12_settle_179 (by decide) ?_
              refine G_iadd dX12_settle_183 ?_
              refine G_nI fun z65 ez65 => ?_
              replace r60 := gL_some ez65 r60
              refine G_putI fl_X12_200 sl_149 sk_149 rfl rfl ⟨rfl, rfl⟩ dX12_settle_184 ?_
              refine G_mI fun I66 eI66 => ?_
              replace r60 := gL_some eI66 r60
              refine G_goto 104 dX12_settle_187 (by decide) ?_
              exact ih _ _ r60
          refine G_if_eq 168 dX12_settle_147 (by decide) (fun c67 => ?_) (fun c67 => ?_)
          · replace t59 := git c67 t59
            cases t59
            exact jn61
          · replace t59 := gif c67 t59
            refine G_aload_n dX12_settle_150 rfl rfl ?_
            obtain ⟨r68, hr69, t59⟩ := gB_some t59
            refine G_cV (mj := gX12_here) (As := []) (rest := []) ml_X12_213 vX12_here sl_149 sk_149 (by decide) rfl rfl rfl (Nat.le_of_ble_eq_true rfl) (by decide) (Nat.le_refl _) (Nat.le_refl _) dX12_settle_151 (q_X12_here hr69) ?_
            refine G_bipush (v := 59) dX12_settle_154 rfl ?_
            refine G_icmp_eq 168 dX12_settle_156 (by decide) (fun c70 => ?_) (fun c70 => ?_)
            · replace t59 := git c70 t59
              cases t59
              exact jn61
            · replace t59 := gif c70 t59
              refine G_aload_n dX12_settle_159 rfl rfl ?_
              refine G_iconst (v := 1) dX12_settle_160 rfl ?_
              refine G_aload_n dX12_settle_161 rfl rfl ?_
              refine G_getI fl_X12_200 sl_149 sk_149 rfl dX12_settle_162 ?_
              obtain ⟨r71, hr72, t59⟩ := gB_some t59
              refine G_cV (mj := gX12_wrongs) (As := [.int (1 : Int32), .int (r50 149 28)]) (rest := []) ml_X12_237 vX12_wrongs sl_149 sk_149 (by decide) rfl rfl rfl (Nat.le_of_ble_eq_true rfl) (by decide) (Nat.le_refl _) (Nat.le_refl _) dX12_settle_165 (q_X12_wrongs hr72) ?_
              cases t59
              exact jn61
        refine G_if_eq 142 dX12_settle_124 (by decide) (fun c73 => ?_) (fun c73 => ?_)
        · replace t55 := git c73 t55
          refine G_iconst (v := 0) dX12_settle_142 rfl ?_
          cases t55
          exact jn57
        · replace t55 := gif c73 t55
          refine G_aload_n dX12_settle_127 rfl rfl ?_
          refine G_getI fl_X12_200 sl_149 sk_149 rfl dX12_settle_128 ?_
          refine G_aload_n dX12_settle_131 rfl rfl ?_
          refine G_getI fl_X12_203 sl_149 sk_149 rfl dX12_settle_132 ?_
          refine G_icmp_ge 142 dX12_settle_135 (by decide) (fun c74 => ?_) (fun c74 => ?_)
          · replace t55 := git c74 t55
            refine G_iconst (v := 0) dX12_settle_142 rfl ?_
            cases t55
            exact jn57
          · replace t55 := gif c74 t55
            refine G_iconst (v := 1) dX12_settle_138 rfl ?_
            refine G_goto 143 dX12_settle_139 (by decide) ?_
            cases t55
            exact jn57
set_option maxRecDepth 20000 in
theorem q_X12_settle {l : Launch} {I : gIt} {J : gJt} {w : Bool} {x1 : Int32} {x2 : Int32} {x3 : Int32} {x4 : Int32} {v : (Int32 × gIt)} (h : p_X12_settle I x1 x2 x3 x4 = some v) : Cn l gX12_settle 8 0 0 [.ref 149, .int x1, .int x2, .int x3, .int x4] gS0 I J (gR0 w) (fun v' S' I' J' R' => v' = some (.int v.1) ∧ S' = gS0 ∧ I' = v.2 ∧ J' = J ∧ R' = gR0 w) := by
  refine Cn.of [some (.ref 149), some (.int x1), some (.int x2), some (.int x3), some (.int x4), none] (by decide) rfl (Nat.le_of_ble_eq_true rfl) ?_
  rw [p_X12_settle] at h
  refine G_aload_n dX12_settle_0 rfl rfl ?_
  refine G_getI fl_X12_225 sl_149 sk_149 rfl dX12_settle_1 ?_
  refine G_bipush (v := 10) dX12_settle_4 rfl ?_
  refine G_icmp_eq 63 dX12_settle_6 (by decide) (fun c1 => ?_) (fun c1 => ?_)
  · replace h := git c1 h
    refine G_iconst (v := -1) dX12_settle_63 rfl ?_
    refine G_iret rfl (Nat.le_refl _) (Nat.le_refl _) dX12_settle_64 ?_
    cases h
    exact ⟨rfl, rfl, rfl, rfl, rfl⟩
  · replace h := gif c1 h
    refine G_iload_n dX12_settle_9 rfl rfl ?_
    refine G_i2l dX12_settle_10 ?_
    refine G_lconst (v := 1) dX12_settle_11 rfl ?_
    refine G_ldc2 dX12_settle_12 kc_X12_294 ?_
    obtain ⟨r2, hr3, h⟩ := gB_some h
    refine G_cS (mj := gX12_lies) (As := [.long (Int32.toInt64 x1), .long (1 : Int64), .long (100000 : Int64)]) (rest := []) ml_X12_156 vX12_lies rfl rfl (Nat.le_of_ble_eq_true rfl) (by decide) (Nat.le_refl _) (Nat.le_refl _) dX12_settle_15 (q_X12_lies hr3) ?_
    refine G_if_eq 63 dX12_settle_18 (by decide) (fun c4 => ?_) (fun c4 => ?_)
    · replace h := git c4 h
      refine G_iconst (v := -1) dX12_settle_63 rfl ?_
      refine G_iret rfl (Nat.le_refl _) (Nat.le_refl _) dX12_settle_64 ?_
      cases h
      exact ⟨rfl, rfl, rfl, rfl, rfl⟩
    · replace h := gif c4 h
      refine G_aload_n dX12_settle_21 rfl rfl ?_
      refine G_iload_n dX12_settle_22 rfl rfl ?_
      obtain ⟨r5, hr6, h⟩ := gB_some h
      refine G_cV (mj := gX12_isPerson) (As := [.int x2]) (rest := []) ml_X12_165 vX12_isPerson sl_149 sk_149 (by decide) rfl rfl rfl (Nat.le_of_ble_eq_true rfl) (by decide) (Nat.le_refl _) (Nat.le_refl _) dX12_settle_23 (q_X12_isPerson hr6) ?_
      refine G_if_eq 63 dX12_settle_26 (by decide) (fun c7 => ?_) (fun c7 => ?_)
      · replace h := git c7 h
        refine G_iconst (v := -1) dX12_settle_63 rfl ?_
        refine G_iret rfl (Nat.le_refl _) (Nat.le_refl _) dX12_settle_64 ?_
        cases h
        exact ⟨rfl, rfl, rfl, rfl, rfl⟩
      · replace h := gif c7 h
        refine G_iload_n dX12_settle_29 rfl rfl ?_
        refine G_i2l dX12_settle_30 ?_
        refine G_lconst (v := 0) dX12_settle_31 rfl ?_
        refine G_ldc2 dX12_settle_32 kc_X12_169 ?_
        obtain ⟨r8, hr9, h⟩ := gB_some h
        refine G_cS (mj := gX12_lies) (As := [.long (Int32.toInt64 x3), .long (0 : Int64), .long (3 : Int64)]) (rest := []) ml_X12_156 vX12_lies rfl rfl (Nat.le_of_ble_eq_true rfl) (by decide) (Nat.le_refl _) (Nat.le_refl _) dX12_settle_35 (q_X12_lies hr9) ?_
        refine G_if_eq 63 dX12_settle_38 (by decide) (fun c10 => ?_) (fun c10 => ?_)
        · replace h := git c10 h
          refine G_iconst (v := -1) dX12_settle_63 rfl ?_
          refine G_iret rfl (Nat.le_refl _) (Nat.le_refl _) dX12_settle_64 ?_
          cases h
          exact ⟨rfl, rfl, rfl, rfl, rfl⟩
        · replace h := gif c10 h
          refine G_iload dX12_settle_41 rfl ?_
          refine G_i2l dX12_settle_43 ?_
          refine G_lconst (v := 1) dX12_settle_44 rfl ?_
          refine G_ldc2 dX12_settle_45 kc_X12_296 ?_
          obtain ⟨r11, hr12, h⟩ := gB_some h
          refine G_cS (mj := gX12_lies) (As := [.long (Int32.toInt64 x4), .long (1 : Int64), .long (100 : Int64)]) (rest := []) ml_X12_156 vX12_lies rfl rfl (Nat.le_of_ble_eq_true rfl) (by decide) (Nat.le_refl _) (Nat.le_refl _) dX12_settle_48 (q_X12_lies hr12) ?_
          refine G_if_eq 63 dX12_settle_51 (by decide) (fun c13 => ?_) (fun c13 => ?_)
          · replace h := git c13 h
            refine G_iconst (v := -1) dX12_settle_63 rfl ?_
            refine G_iret rfl (Nat.le_refl _) (Nat.le_refl _) dX12_settle_64 ?_
            cases h
            exact ⟨rfl, rfl, rfl, rfl, rfl⟩
          · replace h := gif c13 h
            refine G_iload dX12_settle_54 rfl ?_
            refine G_aload_n dX12_settle_56 rfl rfl ?_
            refine G_getI fl_X12_193 sl_149 sk_149 rfl dX12_settle_57 ?_
            refine G_icmp_le 65 dX12_settle_60 (by decide) (fun c14 => ?_) (fun c14 => ?_)
            · replace h := git c14 h
              refine G_aload_n dX12_settle_65 rfl rfl ?_
              refine G_iconst (v := 0) dX12_settle_66 rfl ?_
              refine G_putI fl_X12_193 sl_149 sk_149 rfl rfl ⟨rfl, rfl⟩ dX12_settle_67 ?_
              refine G_mI fun I15 eI15 => ?_
              replace h := gL_some eI15 h
              refine G_aload_n dX12_settle_70 rfl rfl ?_
              refine G_iconst (v := 0) dX12_settle_71 rfl ?_
              refine G_putI fl_X12_200 sl_149 sk_149 rfl rfl ⟨rfl, rfl⟩ dX12_settle_72 ?_
              refine G_mI fun I16 eI16 => ?_
              replace h := gL_some eI16 h
              refine G_aload_n dX12_settle_75 rfl rfl ?_
              refine G_iload dX12_settle_76 rfl ?_
              refine G_putI fl_X12_203 sl_149 sk_149 rfl rfl ⟨rfl, rfl⟩ dX12_settle_78 ?_
              refine G_mI fun I17 eI17 => ?_
              replace h := gL_some eI17 h
              refine G_aload_n dX12_settle_81 rfl rfl ?_
              refine G_iconst (v := 0) dX12_settle_82 rfl ?_
              refine G_putI fl_X12_206 sl_149 sk_149 rfl rfl ⟨rfl, rfl⟩ dX12_settle_83 ?_
              refine G_mI fun I18 eI18 => ?_
              replace h := gL_some eI18 h
              refine G_aload_n dX12_settle_86 rfl rfl ?_
              refine G_iconst (v := 0) dX12_settle_87 rfl ?_
              refine G_putI fl_X12_284 sl_149 sk_149 rfl rfl ⟨rfl, rfl⟩ dX12_settle_88 ?_
              refine G_mI fun I19 eI19 => ?_
              replace h := gL_some eI19 h
              refine G_aload_n dX12_settle_91 rfl rfl ?_
              refine G_iconst (v := 0) dX12_settle_92 rfl ?_
              refine G_putI fl_X12_228 sl_149 sk_149 rfl rfl ⟨rfl, rfl⟩ dX12_settle_93 ?_
              refine G_mI fun I20 eI20 => ?_
              replace h := gL_some eI20 h
              refine G_aload_n dX12_settle_96 rfl rfl ?_
              refine G_iload_n dX12_settle_97 rfl rfl ?_
              refine G_putI fl_X12_244 sl_149 sk_149 rfl rfl ⟨rfl, rfl⟩ dX12_settle_98 ?_
              refine G_mI fun I21 eI21 => ?_
              replace h := gL_some eI21 h
              refine G_iconst (v := 1) dX12_settle_101 rfl ?_
              refine S_istore [some (.ref 149), some (.int x1), some (.int x2), some (.int x3), some (.int x4), some (.int (1 : Int32))] dX12_settle_102 (by decide) rfl ?_
              exact q_X12_settle_104   gFu _ _ h
            · replace h := gif c14 h
              refine G_iconst (v := -1) dX12_settle_63 rfl ?_
              refine G_iret rfl (Nat.le_refl _) (Nat.le_refl _) dX12_settle_64 ?_
              cases h
              exact ⟨rfl, rfl, rfl, rfl, rfl⟩
def p_X12_isSettlement (I : gIt) (x1 : Int32) : Option Int32 :=
  gB (p_X12_lies (Int32.toInt64 x1) (0 : Int64) (Int32.toInt64 ((I 149 4) - (1 : Int32)))) fun r1 =>
  gck (gbo r1) (
  some r1)
set_option maxRecDepth 20000 in
theorem q_X12_isSettlement {l : Launch} {I : gIt} {J : gJt} {w : Bool} {x1 : Int32} {v : Int32} (h : p_X12_isSettlement I x1 = some v) : Cn l gX12_isSettlement 3 0 0 [.ref 149, .int x1] gS0 I J (gR0 w) (fun v' S' I' J' R' => v' = some (.int v) ∧ S' = gS0 ∧ I' = I ∧ J' = J ∧ R' = gR0 w) := by
  refine Cn.of [some (.ref 149), some (.int x1)] (by decide) rfl (Nat.le_of_ble_eq_true rfl) ?_
  rw [p_X12_isSettlement] at h
  refine G_iload_n dX12_isSettlement_0 rfl rfl ?_
  refine G_i2l dX12_isSettlement_1 ?_
  refine G_lconst (v := 0) dX12_isSettlement_2 rfl ?_
  refine G_aload_n dX12_isSettlement_3 rfl rfl ?_
  refine G_getI fl_X12_225 sl_149 sk_149 rfl dX12_isSettlement_4 ?_
  refine G_iconst (v := 1) dX12_isSettlement_7 rfl ?_
  refine G_isub dX12_isSettlement_8 ?_
  refine G_i2l dX12_isSettlement_9 ?_
  obtain ⟨r1, hr2, h⟩ := gB_some h
  refine G_cS (mj := gX12_lies) (As := [.long (Int32.toInt64 x1), .long (0 : Int64), .long (Int32.toInt64 ((I 149 4) - (1 : Int32)))]) (rest := []) ml_X12_156 vX12_lies rfl rfl (Nat.le_of_ble_eq_true rfl) (by decide) (Nat.le_refl _) (Nat.le_refl _) dX12_isSettlement_10 (q_X12_lies hr2) ?_
  obtain ⟨b3, h⟩ := gck_some h
  refine G_zret rfl (gbo_or b3) (Nat.le_refl _) (Nat.le_refl _) dX12_isSettlement_13 ?_
  cases h
  exact ⟨rfl, rfl, rfl, rfl, rfl⟩
def p_X12_childrenOf_5 (I : gIt) (x1 : Int32) (x2 : Int32) : Nat → Int32 → Int32 → Option Int32
  | 0, _, _ => none
  | n + 1, x3, x4 =>
    if (I 149 3) ≤ x4 then
    some x3
    else
    gck (gin x4 16) (
    if (I 152 (x4).toNatClampNeg) = x1 then
    gB (p_X12_isThere I x4 x2) fun r5 =>
    if r5 = 0 then
    gL ((x3 ||| (0 : Int32))) fun z8 =>
    p_X12_childrenOf_5 I x1 x2 n z8 (x4 + (1 : Int32))
    else
    gL ((x3 ||| (gshl (1 : Int32) x4))) fun z9 =>
    p_X12_childrenOf_5 I x1 x2 n z9 (x4 + (1 : Int32))
    else
    gL ((x3 ||| (0 : Int32))) fun z4 =>
    p_X12_childrenOf_5 I x1 x2 n z4 (x4 + (1 : Int32)))
def p_X12_childrenOf (I : gIt) (x1 : Int32) (x2 : Int32) : Option Int32 :=
  p_X12_childrenOf_5 I x1 x2 gFu (0 : Int32) (0 : Int32)
set_option maxRecDepth 20000 in
theorem q_X12_childrenOf_5 {l : Launch} {v : Int32} {J : gJt} {w : Bool} {I : gIt} {x1 : Int32} {x2 : Int32} : ∀ (n : Nat) (x3 : Int32) (x4 : Int32), p_X12_childrenOf_5 I x1 x2 n x3 x4 = some v → G l gX12_childrenOf 5 0 0 (fun v' S' I' J' R' => v' = some (.int v) ∧ S' = gS0 ∧ I' = I ∧ J' = J ∧ R' = gR0 w) 0 0 5 [some (.ref 149), some (.int x1), some (.int x2), some (.int x3), some (.int x4)] [] gS0 I J (gR0 w) := by
  intro n
  induction n with
  | zero => intro _ _ h; cases h
  | succ n ih =>
    intro x3 x4 h
    rw [p_X12_childrenOf_5] at h
    refine G_iload dX12_childrenOf_5 rfl ?_
    refine G_aload_n dX12_childrenOf_7 rfl rfl ?_
    refine G_getI fl_X12_160 sl_149 sk_149 rfl dX12_childrenOf_8 ?_
    refine G_icmp_ge 52 dX12_childrenOf_11 (by decide) (fun c1 => ?_) (fun c1 => ?_)
    · replace h := git c1 h
      refine G_iload_n dX12_childrenOf_52 rfl rfl ?_
      refine G_iret rfl (Nat.le_refl _) (Nat.le_refl _) dX12_childrenOf_53 ?_
      cases h
      exact ⟨rfl, rfl, rfl, rfl, rfl⟩
    · replace h := gif c1 h
      refine G_iload_n dX12_childrenOf_14 rfl rfl ?_
      refine G_aload_n dX12_childrenOf_15 rfl rfl ?_
      refine G_getR fl_X12_24 sl_149 sk_149 rfl (rr_149_11 _) dX12_childrenOf_16 ?_
      refine G_iload dX12_childrenOf_19 rfl ?_
      obtain ⟨b2, h⟩ := gck_some h
      refine G_iald sl_152 ss_152 (gin_in b2) dX12_childrenOf_21 ?_
      refine G_iload_n dX12_childrenOf_22 rfl rfl ?_
      refine G_icmp_ne 43 dX12_childrenOf_23 (by decide) (fun c3 => ?_) (fun c3 => ?_)
      · replace h := gif c3 h
        refine G_iconst (v := 0) dX12_childrenOf_43 rfl ?_
        refine G_ior dX12_childrenOf_44 ?_
        refine G_nI fun z4 ez4 => ?_
        replace h := gL_some ez4 h
        refine S_istore_n [some (.ref 149), some (.int x1), some (.int x2), some (.int z4), some (.int x4)] dX12_childrenOf_45 rfl (by decide) rfl ?_
        refine S_iinc (v := (1 : Int32)) [some (.ref 149), some (.int x1), some (.int x2), some (.int z4), some (.int (x4 + (1 : Int32)))] dX12_childrenOf_46 rfl rfl (by decide) rfl ?_
        refine G_goto 5 dX12_childrenOf_49 (by decide) ?_
        exact ih _ _ h
      · replace h := git c3 h
        refine G_aload_n dX12_childrenOf_26 rfl rfl ?_
        refine G_iload dX12_childrenOf_27 rfl ?_
        refine G_iload_n dX12_childrenOf_29 rfl rfl ?_
        obtain ⟨r5, hr6, h⟩ := gB_some h
        refine G_cV (mj := gX12_isThere) (As := [.int x4, .int x2]) (rest := [.int x3]) ml_X12_301 vX12_isThere sl_149 sk_149 (by decide) rfl rfl rfl (Nat.le_of_ble_eq_true rfl) (by decide) (Nat.le_refl _) (Nat.le_refl _) dX12_childrenOf_30 (q_X12_isThere hr6) ?_
        refine G_if_eq 43 dX12_childrenOf_33 (by decide) (fun c7 => ?_) (fun c7 => ?_)
        · replace h := git c7 h
          refine G_iconst (v := 0) dX12_childrenOf_43 rfl ?_
          refine G_ior dX12_childrenOf_44 ?_
          refine G_nI fun z8 ez8 => ?_
          replace h := gL_some ez8 h
          refine S_istore_n [some (.ref 149), some (.int x1), some (.int x2), some (.int z8), some (.int x4)] dX12_childrenOf_45 rfl (by decide) rfl ?_
          refine S_iinc (v := (1 : Int32)) [some (.ref 149), some (.int x1), some (.int x2), some (.int z8), some (.int (x4 + (1 : Int32)))] dX12_childrenOf_46 rfl rfl (by decide) rfl ?_
          refine G_goto 5 dX12_childrenOf_49 (by decide) ?_
          exact ih _ _ h
        · replace h := gif c7 h
          refine G_iconst (v := 1) dX12_childrenOf_36 rfl ?_
          refine G_iload dX12_childrenOf_37 rfl ?_
          refine G_shl dX12_childrenOf_39 ?_
          refine G_goto 44 dX12_childrenOf_40 (by decide) ?_
          refine G_ior dX12_childrenOf_44 ?_
          refine G_nI fun z9 ez9 => ?_
          replace h := gL_some ez9 h
          refine S_istore_n [some (.ref 149), some (.int x1), some (.int x2), some (.int z9), some (.int x4)] dX12_childrenOf_45 rfl (by decide) rfl ?_
          refine S_iinc (v := (1 : Int32)) [some (.ref 149), some (.int x1), some (.int x2), some (.int z9), some (.int (x4 + (1 : Int32)))] dX12_childrenOf_46 rfl rfl (by decide) rfl ?_
          refine G_goto 5 dX12_childrenOf_49 (by decide) ?_
          exact ih _ _ h
set_option maxRecDepth 20000 in
theorem q_X12_childrenOf {l : Launch} {I : gIt} {J : gJt} {w : Bool} {x1 : Int32} {x2 : Int32} {v : Int32} (h : p_X12_childrenOf I x1 x2 = some v) : Cn l gX12_childrenOf 5 0 0 [.ref 149, .int x1, .int x2] gS0 I J (gR0 w) (fun v' S' I' J' R' => v' = some (.int v) ∧ S' = gS0 ∧ I' = I ∧ J' = J ∧ R' = gR0 w) := by
  refine Cn.of [some (.ref 149), some (.int x1), some (.int x2), none, none] (by decide) rfl (Nat.le_of_ble_eq_true rfl) ?_
  rw [p_X12_childrenOf] at h
  refine G_iconst (v := 0) dX12_childrenOf_0 rfl ?_
  refine S_istore_n [some (.ref 149), some (.int x1), some (.int x2), some (.int (0 : Int32)), none] dX12_childrenOf_1 rfl (by decide) rfl ?_
  refine G_iconst (v := 0) dX12_childrenOf_2 rfl ?_
  refine S_istore [some (.ref 149), some (.int x1), some (.int x2), some (.int (0 : Int32)), some (.int (0 : Int32))] dX12_childrenOf_3 (by decide) rfl ?_
  exact q_X12_childrenOf_5   gFu _ _ h
def p_X12_namedSet_123 (K8 : Int32 → Int32 → Option Int32) (I : gIt) (x1 : Int32) (x2 : Int32) (x4 : Int32) : Nat → Int32 → Int32 → Option Int32
  | 0, _, _ => none
  | n + 1, x3, x5 =>
    gck (gin x4 80) (
    if (((100 : Int32) * x1) + (I 163 (x4).toNatClampNeg)) ≤ x5 then
    K8 x3 (x4 + (1 : Int32))
    else
    gck (gin x5 1000) (
    gB (α := Int32) (
    if (I 167 (x5).toNatClampNeg) = (1 : Int32) then
    gck (gin x5 1000) (
    gB (p_X12_isThere I (I 168 (x5).toNatClampNeg) x2) fun r25 =>
    if r25 = 0 then
    some x3
    else
    gck (gin x5 1000) (
    gL ((x3 ||| (gshl (1 : Int32) (I 168 (x5).toNatClampNeg)))) fun z29 =>
    some z29))
    else
    some x3) fun ph13 =>
    gck (gin x5 1000) (
    if (I 167 (x5).toNatClampNeg) = (2 : Int32) then
    gck (gin x5 1000) (
    gB (p_X12_childrenOf I (I 168 (x5).toNatClampNeg) x2) fun r20 =>
    gL ((ph13 ||| r20)) fun z22 =>
    p_X12_namedSet_123 K8 I x1 x2 x4 n z22 (x5 + (1 : Int32)))
    else
    p_X12_namedSet_123 K8 I x1 x2 x4 n ph13 (x5 + (1 : Int32)))))
def p_X12_namedSet_30 (K8 : Int32 → Int32 → Option Int32) (I : gIt) (x1 : Int32) (x2 : Int32) (x4 : Int32) : Nat → Int32 → Int32 → Option Int32
  | 0, _, _ => none
  | n + 1, x3, x5 =>
    gck (gin x4 80) (
    if (((4 : Int32) * x4) + (I 161 (x4).toNatClampNeg)) ≤ x5 then
    gck (gin x4 80) (
    gL ((((100 : Int32) * x1) + (I 162 (x4).toNatClampNeg))) fun z9 =>
    p_X12_namedSet_123 K8 I x1 x2 x4 gFu x3 z9)
    else
    gck (gin x5 320) (
    if (I 164 (x5).toNatClampNeg) = 0 then
    gck (gin x5 320) (
    gB (p_X12_isThere I (I 165 (x5).toNatClampNeg) x2) fun r33 =>
    if r33 = 0 then
    gL ((x3 ||| (0 : Int32))) fun z36 =>
    p_X12_namedSet_30 K8 I x1 x2 x4 n z36 (x5 + (1 : Int32))
    else
    gck (gin x5 320) (
    gL ((x3 ||| (gshl (1 : Int32) (I 165 (x5).toNatClampNeg)))) fun z38 =>
    p_X12_namedSet_30 K8 I x1 x2 x4 n z38 (x5 + (1 : Int32))))
    else
    gck (gin x5 320) (
    gB (p_X12_childrenOf I (I 165 (x5).toNatClampNeg) x2) fun r40 =>
    gL ((x3 ||| r40)) fun z42 =>
    p_X12_namedSet_30 K8 I x1 x2 x4 n z42 (x5 + (1 : Int32)))))
def p_X12_namedSet_8 (I : gIt) (x1 : Int32) (x2 : Int32) : Nat → Int32 → Int32 → Option Int32
  | 0, _, _ => none
  | n + 1, x3, x4 =>
    gck (gin x1 10) (
    if (((8 : Int32) * x1) + (I 160 (x1).toNatClampNeg)) ≤ x4 then
    gck (gin x1 10) (
    some (x3 &&& ((gshl (1 : Int32) (I 158 (x1).toNatClampNeg)) ^^^ (-1 : Int32))))
    else
    gL (((4 : Int32) * x4)) fun z5 =>
    p_X12_namedSet_30 (fun x3 x4 => p_X12_namedSet_8 I x1 x2 n x3 x4) I x1 x2 x4 gFu x3 z5)
def p_X12_namedSet (I : gIt) (x1 : Int32) (x2 : Int32) : Option Int32 :=
  gL (((8 : Int32) * x1)) fun z1 =>
  p_X12_namedSet_8 I x1 x2 gFu (0 : Int32) z1
set_option maxRecDepth 20000 in
theorem q_X12_namedSet_123 {l : Launch} {v : Int32} {J : gJt} {w : Bool} {K8 : Int32 → Int32 → Option Int32} {I : gIt} {x1 : Int32} {x2 : Int32} {x4 : Int32} (hK8 : ∀ (x3 : Int32) (x4 : Int32), K8 x3 x4 = some v → G l gX12_namedSet 6 0 0 (fun v' S' I' J' R' => v' = some (.int v) ∧ S' = gS0 ∧ I' = I ∧ J' = J ∧ R' = gR0 w) 0 0 8 [some (.ref 149), some (.int x1), some (.int x2), some (.int x3), some (.int x4), none] [] gS0 I J (gR0 w)) : ∀ (n : Nat) (x3 : Int32) (x5 : Int32), p_X12_namedSet_123 K8 I x1 x2 x4 n x3 x5 = some v → G l gX12_namedSet 6 0 0 (fun v' S' I' J' R' => v' = some (.int v) ∧ S' = gS0 ∧ I' = I ∧ J' = J ∧ R' = gR0 w) 0 0 123 [some (.ref 149), some (.int x1), some (.int x2), some (.int x3), some (.int x4), some (.int x5)] [] gS0 I J (gR0 w) := by
  intro n
  induction n with
  | zero => intro _ _ h; cases h
  | succ n ih =>
    intro x3 x5 h
    rw [p_X12_namedSet_123] at h
    refine G_iload dX12_namedSet_123 rfl ?_
    refine G_bipush (v := 100) dX12_namedSet_125 rfl ?_
    refine G_iload_n dX12_namedSet_127 rfl rfl ?_
    refine G_imul dX12_namedSet_128 ?_
    refine G_aload_n dX12_namedSet_129 rfl rfl ?_
    refine G_getR fl_X12_57 sl_149 sk_149 rfl (rr_149_22 _) dX12_namedSet_130 ?_
    refine G_iload dX12_namedSet_133 rfl ?_
    obtain ⟨b10, h⟩ := gck_some h
    refine G_iald sl_163 ss_163 (gin_in b10) dX12_namedSet_135 ?_
    refine G_iadd dX12_namedSet_136 ?_
    refine G_icmp_ge 210 dX12_namedSet_137 (by decide) (fun c11 => ?_) (fun c11 => ?_)
    · replace h := git c11 h
      refine S_iinc (v := (1 : Int32)) [some (.ref 149), some (.int x1), some (.int x2), some (.int x3), some (.int (x4 + (1 : Int32))), some (.int x5)] dX12_namedSet_210 rfl rfl (by decide) rfl ?_
      refine G_goto 8 dX12_namedSet_213 (by decide) ?_
      refine G_sub [some (.ref 149), some (.int x1), some (.int x2), some (.int x3), some (.int (x4 + (1 : Int32))), none] ⟨rfl, rfl, rfl, rfl, rfl, trivial⟩ ?_
      exact hK8 _ _ h
    · replace h := gif c11 h
      refine G_aload_n dX12_namedSet_140 rfl rfl ?_
      refine G_getR fl_X12_70 sl_149 sk_149 rfl (rr_149_26 _) dX12_namedSet_141 ?_
      refine G_iload dX12_namedSet_144 rfl ?_
      obtain ⟨b12, h⟩ := gck_some h
      refine G_iald sl_167 ss_167 (gin_in b12) dX12_namedSet_146 ?_
      refine G_iconst (v := 1) dX12_namedSet_147 rfl ?_
      obtain ⟨ph13, t14, r15⟩ := gB_some h
      have jn16 : G l gX12_namedSet 6 0 0 (fun v' S' I' J' R' => v' = some (.int v) ∧ S' = gS0 ∧ I' = I ∧ J' = J ∧ R' = gR0 w) 0 0 178 [some (.ref 149), some (.int x1), some (.int x2), some (.int ph13), some (.int x4), some (.int x5)] [] gS0 I J (gR0 w) := by
        refine G_aload_n dX12_namedSet_178 rfl rfl ?_
        refine G_getR fl_X12_70 sl_149 sk_149 rfl (rr_149_26 _) dX12_namedSet_179 ?_
        refine G_iload dX12_namedSet_182 rfl ?_
        obtain ⟨b17, r15⟩ := gck_some r15
        refine G_iald sl_167 ss_167 (gin_in b17) dX12_namedSet_184 ?_
        refine G_iconst (v := 2) dX12_namedSet_185 rfl ?_
        refine G_icmp_ne 204 dX12_namedSet_186 (by decide) (fun c18 => ?_) (fun c18 => ?_)
        · replace r15 := gif c18 r15
          refine S_iinc (v := (1 : Int32)) [some (.ref 149), some (.int x1), some (.int x2), some (.int ph13), some (.int x4), some (.int (x5 + (1 : Int32)))] dX12_namedSet_204 rfl rfl (by decide) rfl ?_
          refine G_goto 123 dX12_namedSet_207 (by decide) ?_
          exact ih _ _ r15
        · replace r15 := git c18 r15
          refine G_iload_n dX12_namedSet_189 rfl rfl ?_
          refine G_aload_n dX12_namedSet_190 rfl rfl ?_
          refine G_aload_n dX12_namedSet_191 rfl rfl ?_
          refine G_getR fl_X12_73 sl_149 sk_149 rfl (rr_149_27 _) dX12_namedSet_192 ?_
          refine G_iload dX12_namedSet_195 rfl ?_
          obtain ⟨b19, r15⟩ := gck_some r15
          refine G_iald sl_168 ss_168 (gin_in b19) dX12_namedSet_197 ?_
          refine G_iload_n dX12_namedSet_198 rfl rfl ?_
          obtain ⟨r20, hr21, r15⟩ := gB_some r15
          refine G_cV (mj := gX12_childrenOf) (As := [.int (I 168 (x5).toNatClampNeg), .int x2]) (rest := [.int ph13]) ml_X12_305 vX12_childrenOf sl_149 sk_149 (by decide) rfl rfl rfl (Nat.le_of_ble_eq_true rfl) (by decide) (Nat.le_refl _) (Nat.le_refl _) dX12_namedSet_199 (q_X12_childrenOf hr21) ?_
          refine G_ior dX12_namedSet_202 ?_
          refine G_nI fun z22 ez22 => ?_
          replace r15 := gL_some ez22 r15
          refine S_istore_n [some (.ref 149), some (.int x1), some (.int x2), some (.int z22), some (.int x4), some (.int x5)] dX12_namedSet_203 rfl (by decide) rfl ?_
          refine S_iinc (v := (1 : Int32)) [some (.ref 149), some (.int x1), some (.int x2), some (.int z22), some (.int x4), some (.int (x5 + (1 : Int32)))] dX12_namedSet_204 rfl rfl (by decide) rfl ?_
          refine G_goto 123 dX12_namedSet_207 (by decide) ?_
          exact ih _ _ r15
      refine G_icmp_ne 178 dX12_namedSet_148 (by decide) (fun c23 => ?_) (fun c23 => ?_)
      · replace t14 := gif c23 t14
        cases t14
        exact jn16
      · replace t14 := git c23 t14
        refine G_aload_n dX12_namedSet_151 rfl rfl ?_
        refine G_aload_n dX12_namedSet_152 rfl rfl ?_
        refine G_getR fl_X12_73 sl_149 sk_149 rfl (rr_149_27 _) dX12_namedSet_153 ?_
        refine G_iload dX12_namedSet_156 rfl ?_
        obtain ⟨b24, t14⟩ := gck_some t14
        refine G_iald sl_168 ss_168 (gin_in b24) dX12_namedSet_158 ?_
        refine G_iload_n dX12_namedSet_159 rfl rfl ?_
        obtain ⟨r25, hr26, t14⟩ := gB_some t14
        refine G_cV (mj := gX12_isThere) (As := [.int (I 168 (x5).toNatClampNeg), .int x2]) (rest := []) ml_X12_301 vX12_isThere sl_149 sk_149 (by decide) rfl rfl rfl (Nat.le_of_ble_eq_true rfl) (by decide) (Nat.le_refl _) (Nat.le_refl _) dX12_namedSet_160 (q_X12_isThere hr26) ?_
        refine G_if_eq 178 dX12_namedSet_163 (by decide) (fun c27 => ?_) (fun c27 => ?_)
        · replace t14 := git c27 t14
          cases t14
          exact jn16
        · replace t14 := gif c27 t14
          refine G_iload_n dX12_namedSet_166 rfl rfl ?_
          refine G_iconst (v := 1) dX12_namedSet_167 rfl ?_
          refine G_aload_n dX12_namedSet_168 rfl rfl ?_
          refine G_getR fl_X12_73 sl_149 sk_149 rfl (rr_149_27 _) dX12_namedSet_169 ?_
          refine G_iload dX12_namedSet_172 rfl ?_
          obtain ⟨b28, t14⟩ := gck_some t14
          refine G_iald sl_168 ss_168 (gin_in b28) dX12_namedSet_174 ?_
          refine G_shl dX12_namedSet_175 ?_
          refine G_ior dX12_namedSet_176 ?_
          refine G_nI fun z29 ez29 => ?_
          replace t14 := gL_some ez29 t14
          refine S_istore_n [some (.ref 149), some (.int x1), some (.int x2), some (.int z29), some (.int x4), some (.int x5)] dX12_namedSet_177 rfl (by decide) rfl ?_
          cases t14
          exact jn16
set_option maxRecDepth 20000 in
theorem q_X12_namedSet_30 {l : Launch} {v : Int32} {J : gJt} {w : Bool} {K8 : Int32 → Int32 → Option Int32} {I : gIt} {x1 : Int32} {x2 : Int32} {x4 : Int32} (hK8 : ∀ (x3 : Int32) (x4 : Int32), K8 x3 x4 = some v → G l gX12_namedSet 6 0 0 (fun v' S' I' J' R' => v' = some (.int v) ∧ S' = gS0 ∧ I' = I ∧ J' = J ∧ R' = gR0 w) 0 0 8 [some (.ref 149), some (.int x1), some (.int x2), some (.int x3), some (.int x4), none] [] gS0 I J (gR0 w)) : ∀ (n : Nat) (x3 : Int32) (x5 : Int32), p_X12_namedSet_30 K8 I x1 x2 x4 n x3 x5 = some v → G l gX12_namedSet 6 0 0 (fun v' S' I' J' R' => v' = some (.int v) ∧ S' = gS0 ∧ I' = I ∧ J' = J ∧ R' = gR0 w) 0 0 30 [some (.ref 149), some (.int x1), some (.int x2), some (.int x3), some (.int x4), some (.int x5)] [] gS0 I J (gR0 w) := by
  intro n
  induction n with
  | zero => intro _ _ h; cases h
  | succ n ih =>
    intro x3 x5 h
    rw [p_X12_namedSet_30] at h
    refine G_iload dX12_namedSet_30 rfl ?_
    refine G_iconst (v := 4) dX12_namedSet_32 rfl ?_
    refine G_iload dX12_namedSet_33 rfl ?_
    refine G_imul dX12_namedSet_35 ?_
    refine G_aload_n dX12_namedSet_36 rfl rfl ?_
    refine G_getR fl_X12_51 sl_149 sk_149 rfl (rr_149_20 _) dX12_namedSet_37 ?_
    refine G_iload dX12_namedSet_40 rfl ?_
    obtain ⟨b6, h⟩ := gck_some h
    refine G_iald sl_161 ss_161 (gin_in b6) dX12_namedSet_42 ?_
    refine G_iadd dX12_namedSet_43 ?_
    refine G_icmp_ge 109 dX12_namedSet_44 (by decide) (fun c7 => ?_) (fun c7 => ?_)
    · replace h := git c7 h
      refine G_bipush (v := 100) dX12_namedSet_109 rfl ?_
      refine G_iload_n dX12_namedSet_111 rfl rfl ?_
      refine G_imul dX12_namedSet_112 ?_
      refine G_aload_n dX12_namedSet_113 rfl rfl ?_
      refine G_getR fl_X12_54 sl_149 sk_149 rfl (rr_149_21 _) dX12_namedSet_114 ?_
      refine G_iload dX12_namedSet_117 rfl ?_
      obtain ⟨b8, h⟩ := gck_some h
      refine G_iald sl_162 ss_162 (gin_in b8) dX12_namedSet_119 ?_
      refine G_iadd dX12_namedSet_120 ?_
      refine G_nI fun z9 ez9 => ?_
      replace h := gL_some ez9 h
      refine S_istore [some (.ref 149), some (.int x1), some (.int x2), some (.int x3), some (.int x4), some (.int z9)] dX12_namedSet_121 (by decide) rfl ?_
      exact q_X12_namedSet_123 hK8  gFu _ _ h
    · replace h := gif c7 h
      refine G_iload_n dX12_namedSet_47 rfl rfl ?_
      refine G_aload_n dX12_namedSet_48 rfl rfl ?_
      refine G_getR fl_X12_60 sl_149 sk_149 rfl (rr_149_23 _) dX12_namedSet_49 ?_
      refine G_iload dX12_namedSet_52 rfl ?_
      obtain ⟨b30, h⟩ := gck_some h
      refine G_zald sl_164 ss_164 (gin_in b30) dX12_namedSet_54 ?_
      refine G_if_eq 73 dX12_namedSet_55 (by decide) (fun c31 => ?_) (fun c31 => ?_)
      · replace h := git c31 h
        refine G_aload_n dX12_namedSet_73 rfl rfl ?_
        refine G_aload_n dX12_namedSet_74 rfl rfl ?_
        refine G_getR fl_X12_64 sl_149 sk_149 rfl (rr_149_24 _) dX12_namedSet_75 ?_
        refine G_iload dX12_namedSet_78 rfl ?_
        obtain ⟨b32, h⟩ := gck_some h
        refine G_iald sl_165 ss_165 (gin_in b32) dX12_namedSet_80 ?_
        refine G_iload_n dX12_namedSet_81 rfl rfl ?_
        obtain ⟨r33, hr34, h⟩ := gB_some h
        refine G_cV (mj := gX12_isThere) (As := [.int (I 165 (x5).toNatClampNeg), .int x2]) (rest := [.int x3]) ml_X12_301 vX12_isThere sl_149 sk_149 (by decide) rfl rfl rfl (Nat.le_of_ble_eq_true rfl) (by decide) (Nat.le_refl _) (Nat.le_refl _) dX12_namedSet_82 (q_X12_isThere hr34) ?_
        refine G_if_eq 100 dX12_namedSet_85 (by decide) (fun c35 => ?_) (fun c35 => ?_)
        · replace h := git c35 h
          refine G_iconst (v := 0) dX12_namedSet_100 rfl ?_
          refine G_ior dX12_namedSet_101 ?_
          refine G_nI fun z36 ez36 => ?_
          replace h := gL_some ez36 h
          refine S_istore_n [some (.ref 149), some (.int x1), some (.int x2), some (.int z36), some (.int x4), some (.int x5)] dX12_namedSet_102 rfl (by decide) rfl ?_
          refine S_iinc (v := (1 : Int32)) [some (.ref 149), some (.int x1), some (.int x2), some (.int z36), some (.int x4), some (.int (x5 + (1 : Int32)))] dX12_namedSet_103 rfl rfl (by decide) rfl ?_
          refine G_goto 30 dX12_namedSet_106 (by decide) ?_
          exact ih _ _ h
        · replace h := gif c35 h
          refine G_iconst (v := 1) dX12_namedSet_88 rfl ?_
          refine G_aload_n dX12_namedSet_89 rfl rfl ?_
          refine G_getR fl_X12_64 sl_149 sk_149 rfl (rr_149_24 _) dX12_namedSet_90 ?_
          refine G_iload dX12_namedSet_93 rfl ?_
          obtain ⟨b37, h⟩ := gck_some h
          refine G_iald sl_165 ss_165 (gin_in b37) dX12_namedSet_95 ?_
          refine G_shl dX12_namedSet_96 ?_
          refine G_goto 101 dX12_namedSet_97 (by decide) ?_
          refine G_ior dX12_namedSet_101 ?_
          refine G_nI fun z38 ez38 => ?_
          replace h := gL_some ez38 h
          refine S_istore_n [some (.ref 149), some (.int x1), some (.int x2), some (.int z38), some (.int x4), some (.int x5)] dX12_namedSet_102 rfl (by decide) rfl ?_
          refine S_iinc (v := (1 : Int32)) [some (.ref 149), some (.int x1), some (.int x2), some (.int z38), some (.int x4), some (.int (x5 + (1 : Int32)))] dX12_namedSet_103 rfl rfl (by decide) rfl ?_
          refine G_goto 30 dX12_namedSet_106 (by decide) ?_
          exact ih _ _ h
      · replace h := gif c31 h
        refine G_aload_n dX12_namedSet_58 rfl rfl ?_
        refine G_aload_n dX12_namedSet_59 rfl rfl ?_
        refine G_getR fl_X12_64 sl_149 sk_149 rfl (rr_149_24 _) dX12_namedSet_60 ?_
        refine G_iload dX12_namedSet_63 rfl ?_
        obtain ⟨b39, h⟩ := gck_some h
        refine G_iald sl_165 ss_165 (gin_in b39) dX12_namedSet_65 ?_
        refine G_iload_n dX12_namedSet_66 rfl rfl ?_
        obtain ⟨r40, hr41, h⟩ := gB_some h
        refine G_cV (mj := gX12_childrenOf) (As := [.int (I 165 (x5).toNatClampNeg), .int x2]) (rest := [.int x3]) ml_X12_305 vX12_childrenOf sl_149 sk_149 (by decide) rfl rfl rfl (Nat.le_of_ble_eq_true rfl) (by decide) (Nat.le_refl _) (Nat.le_refl _) dX12_namedSet_67 (q_X12_childrenOf hr41) ?_
        refine G_goto 101 dX12_namedSet_70 (by decide) ?_
        refine G_ior dX12_namedSet_101 ?_
        refine G_nI fun z42 ez42 => ?_
        replace h := gL_some ez42 h
        refine S_istore_n [some (.ref 149), some (.int x1), some (.int x2), some (.int z42), some (.int x4), some (.int x5)] dX12_namedSet_102 rfl (by decide) rfl ?_
        refine S_iinc (v := (1 : Int32)) [some (.ref 149), some (.int x1), some (.int x2), some (.int z42), some (.int x4), some (.int (x5 + (1 : Int32)))] dX12_namedSet_103 rfl rfl (by decide) rfl ?_
        refine G_goto 30 dX12_namedSet_106 (by decide) ?_
        exact ih _ _ h
set_option maxRecDepth 20000 in
theorem q_X12_namedSet_8 {l : Launch} {v : Int32} {J : gJt} {w : Bool} {I : gIt} {x1 : Int32} {x2 : Int32} : ∀ (n : Nat) (x3 : Int32) (x4 : Int32), p_X12_namedSet_8 I x1 x2 n x3 x4 = some v → G l gX12_namedSet 6 0 0 (fun v' S' I' J' R' => v' = some (.int v) ∧ S' = gS0 ∧ I' = I ∧ J' = J ∧ R' = gR0 w) 0 0 8 [some (.ref 149), some (.int x1), some (.int x2), some (.int x3), some (.int x4), none] [] gS0 I J (gR0 w) := by
  intro n
  induction n with
  | zero => intro _ _ h; cases h
  | succ n ih =>
    intro x3 x4 h
    rw [p_X12_namedSet_8] at h
    refine G_iload dX12_namedSet_8 rfl ?_
    refine G_bipush (v := 8) dX12_namedSet_10 rfl ?_
    refine G_iload_n dX12_namedSet_12 rfl rfl ?_
    refine G_imul dX12_namedSet_13 ?_
    refine G_aload_n dX12_namedSet_14 rfl rfl ?_
    refine G_getR fl_X12_48 sl_149 sk_149 rfl (rr_149_19 _) dX12_namedSet_15 ?_
    refine G_iload_n dX12_namedSet_18 rfl rfl ?_
    obtain ⟨b2, h⟩ := gck_some h
    refine G_iald sl_160 ss_160 (gin_in b2) dX12_namedSet_19 ?_
    refine G_iadd dX12_namedSet_20 ?_
    refine G_icmp_ge 216 dX12_namedSet_21 (by decide) (fun c3 => ?_) (fun c3 => ?_)
    · replace h := git c3 h
      refine G_iload_n dX12_namedSet_216 rfl rfl ?_
      refine G_iconst (v := 1) dX12_namedSet_217 rfl ?_
      refine G_aload_n dX12_namedSet_218 rfl rfl ?_
      refine G_getR fl_X12_42 sl_149 sk_149 rfl (rr_149_17 _) dX12_namedSet_219 ?_
      refine G_iload_n dX12_namedSet_222 rfl rfl ?_
      obtain ⟨b4, h⟩ := gck_some h
      refine G_iald sl_158 ss_158 (gin_in b4) dX12_namedSet_223 ?_
      refine G_shl dX12_namedSet_224 ?_
      refine G_iconst (v := -1) dX12_namedSet_225 rfl ?_
      refine G_ixor dX12_namedSet_226 ?_
      refine G_iand dX12_namedSet_227 ?_
      refine G_iret rfl (Nat.le_refl _) (Nat.le_refl _) dX12_namedSet_228 ?_
      cases h
      exact ⟨rfl, rfl, rfl, rfl, rfl⟩
    · replace h := gif c3 h
      refine G_iconst (v := 4) dX12_namedSet_24 rfl ?_
      refine G_iload dX12_namedSet_25 rfl ?_
      refine G_imul dX12_namedSet_27 ?_
      refine G_nI fun z5 ez5 => ?_
      replace h := gL_some ez5 h
      refine S_istore [some (.ref 149), some (.int x1), some (.int x2), some (.int x3), some (.int x4), some (.int z5)] dX12_namedSet_28 (by decide) rfl ?_
      exact q_X12_namedSet_30 (fun x3' x4' hq => ih x3' x4' hq)  gFu _ _ h
set_option maxRecDepth 20000 in
theorem q_X12_namedSet {l : Launch} {I : gIt} {J : gJt} {w : Bool} {x1 : Int32} {x2 : Int32} {v : Int32} (h : p_X12_namedSet I x1 x2 = some v) : Cn l gX12_namedSet 6 0 0 [.ref 149, .int x1, .int x2] gS0 I J (gR0 w) (fun v' S' I' J' R' => v' = some (.int v) ∧ S' = gS0 ∧ I' = I ∧ J' = J ∧ R' = gR0 w) := by
  refine Cn.of [some (.ref 149), some (.int x1), some (.int x2), none, none, none] (by decide) rfl (Nat.le_of_ble_eq_true rfl) ?_
  rw [p_X12_namedSet] at h
  refine G_iconst (v := 0) dX12_namedSet_0 rfl ?_
  refine S_istore_n [some (.ref 149), some (.int x1), some (.int x2), some (.int (0 : Int32)), none, none] dX12_namedSet_1 rfl (by decide) rfl ?_
  refine G_bipush (v := 8) dX12_namedSet_2 rfl ?_
  refine G_iload_n dX12_namedSet_4 rfl rfl ?_
  refine G_imul dX12_namedSet_5 ?_
  refine G_nI fun z1 ez1 => ?_
  replace h := gL_some ez1 h
  refine S_istore [some (.ref 149), some (.int x1), some (.int x2), some (.int (0 : Int32)), some (.int z1), none] dX12_namedSet_6 (by decide) rfl ?_
  exact q_X12_namedSet_8   gFu _ _ h
def p_X12_sizeOf_4 (x0 : Int32) : Nat → Int32 → Int32 → Option Int32
  | 0, _, _ => none
  | n + 1, x1, x2 =>
    if x2 = 0 then
    some x1
    else
    gL ((x2 &&& (x2 - (1 : Int32)))) fun z2 =>
    p_X12_sizeOf_4 x0 n (x1 + (1 : Int32)) z2
def p_X12_sizeOf (x0 : Int32) : Option Int32 :=
  p_X12_sizeOf_4 x0 gFu (0 : Int32) x0
set_option maxRecDepth 20000 in
theorem q_X12_sizeOf_4 {l : Launch} {v : Int32} {I : gIt} {J : gJt} {w : Bool} {x0 : Int32} : ∀ (n : Nat) (x1 : Int32) (x2 : Int32), p_X12_sizeOf_4 x0 n x1 x2 = some v → G l gX12_sizeOf 2 0 0 (fun v' S' I' J' R' => v' = some (.int v) ∧ S' = gS0 ∧ I' = I ∧ J' = J ∧ R' = gR0 w) 0 0 4 [some (.int x0), some (.int x1), some (.int x2)] [] gS0 I J (gR0 w) := by
  intro n
  induction n with
  | zero => intro _ _ h; cases h
  | succ n ih =>
    intro x1 x2 h
    rw [p_X12_sizeOf_4] at h
    refine G_iload_n dX12_sizeOf_4 rfl rfl ?_
    refine G_if_eq 20 dX12_sizeOf_5 (by decide) (fun c1 => ?_) (fun c1 => ?_)
    · replace h := git c1 h
      refine G_iload_n dX12_sizeOf_20 rfl rfl ?_
      refine G_iret rfl (Nat.le_refl _) (Nat.le_refl _) dX12_sizeOf_21 ?_
      cases h
      exact ⟨rfl, rfl, rfl, rfl, rfl⟩
    · replace h := gif c1 h
      refine S_iinc (v := (1 : Int32)) [some (.int x0), some (.int (x1 + (1 : Int32))), some (.int x2)] dX12_sizeOf_8 rfl rfl (by decide) rfl ?_
      refine G_iload_n dX12_sizeOf_11 rfl rfl ?_
      refine G_iload_n dX12_sizeOf_12 rfl rfl ?_
      refine G_iconst (v := 1) dX12_sizeOf_13 rfl ?_
      refine G_isub dX12_sizeOf_14 ?_
      refine G_iand dX12_sizeOf_15 ?_
      refine G_nI fun z2 ez2 => ?_
      replace h := gL_some ez2 h
      refine S_istore_n [some (.int x0), some (.int (x1 + (1 : Int32))), some (.int z2)] dX12_sizeOf_16 rfl (by decide) rfl ?_
      refine G_goto 4 dX12_sizeOf_17 (by decide) ?_
      exact ih _ _ h
set_option maxRecDepth 20000 in
theorem q_X12_sizeOf {l : Launch} {I : gIt} {J : gJt} {w : Bool} {x0 : Int32} {v : Int32} (h : p_X12_sizeOf x0 = some v) : Cn l gX12_sizeOf 2 0 0 [.int x0] gS0 I J (gR0 w) (fun v' S' I' J' R' => v' = some (.int v) ∧ S' = gS0 ∧ I' = I ∧ J' = J ∧ R' = gR0 w) := by
  refine Cn.of [some (.int x0), none, none] (by decide) rfl (Nat.le_of_ble_eq_true rfl) ?_
  rw [p_X12_sizeOf] at h
  refine G_iconst (v := 0) dX12_sizeOf_0 rfl ?_
  refine S_istore_n [some (.int x0), some (.int (0 : Int32)), none] dX12_sizeOf_1 rfl (by decide) rfl ?_
  refine G_iload_n dX12_sizeOf_2 rfl rfl ?_
  refine S_istore_n [some (.int x0), some (.int (0 : Int32)), some (.int x0)] dX12_sizeOf_3 rfl (by decide) rfl ?_
  exact q_X12_sizeOf_4   gFu _ _ h
def p_X12_named (I : gIt) (x1 : Int32) (x2 : Int32) : Option Int32 :=
  gB (p_X12_isSettlement I x1) fun r1 =>
  if r1 = 0 then
  some (-1 : Int32)
  else
  gB (p_X12_isYear x2) fun r4 =>
  if r4 = 0 then
  some (-1 : Int32)
  else
  gB (p_X12_namedSet I x1 x2) fun r7 =>
  gB (p_X12_sizeOf r7) fun r9 =>
  some r9
set_option maxRecDepth 20000 in
theorem q_X12_named {l : Launch} {I : gIt} {J : gJt} {w : Bool} {x1 : Int32} {x2 : Int32} {v : Int32} (h : p_X12_named I x1 x2 = some v) : Cn l gX12_named 7 0 0 [.ref 149, .int x1, .int x2] gS0 I J (gR0 w) (fun v' S' I' J' R' => v' = some (.int v) ∧ S' = gS0 ∧ I' = I ∧ J' = J ∧ R' = gR0 w) := by
  refine Cn.of [some (.ref 149), some (.int x1), some (.int x2)] (by decide) rfl (Nat.le_of_ble_eq_true rfl) ?_
  rw [p_X12_named] at h
  refine G_aload_n dX12_named_0 rfl rfl ?_
  refine G_iload_n dX12_named_1 rfl rfl ?_
  obtain ⟨r1, hr2, h⟩ := gB_some h
  refine G_cV (mj := gX12_isSettlement) (As := [.int x1]) (rest := []) ml_X12_308 vX12_isSettlement sl_149 sk_149 (by decide) rfl rfl rfl (Nat.le_of_ble_eq_true rfl) (by decide) (Nat.le_refl _) (Nat.le_refl _) dX12_named_2 (q_X12_isSettlement hr2) ?_
  refine G_if_eq 27 dX12_named_5 (by decide) (fun c3 => ?_) (fun c3 => ?_)
  · replace h := git c3 h
    refine G_iconst (v := -1) dX12_named_27 rfl ?_
    refine G_iret rfl (Nat.le_refl _) (Nat.le_refl _) dX12_named_28 ?_
    cases h
    exact ⟨rfl, rfl, rfl, rfl, rfl⟩
  · replace h := gif c3 h
    refine G_iload_n dX12_named_8 rfl rfl ?_
    obtain ⟨r4, hr5, h⟩ := gB_some h
    refine G_cS (mj := gX12_isYear) (As := [.int x2]) (rest := []) ml_X12_311 vX12_isYear rfl rfl (Nat.le_of_ble_eq_true rfl) (by decide) (Nat.le_refl _) (Nat.le_refl _) dX12_named_9 (q_X12_isYear hr5) ?_
    refine G_if_eq 27 dX12_named_12 (by decide) (fun c6 => ?_) (fun c6 => ?_)
    · replace h := git c6 h
      refine G_iconst (v := -1) dX12_named_27 rfl ?_
      refine G_iret rfl (Nat.le_refl _) (Nat.le_refl _) dX12_named_28 ?_
      cases h
      exact ⟨rfl, rfl, rfl, rfl, rfl⟩
    · replace h := gif c6 h
      refine G_aload_n dX12_named_15 rfl rfl ?_
      refine G_iload_n dX12_named_16 rfl rfl ?_
      refine G_iload_n dX12_named_17 rfl rfl ?_
      obtain ⟨r7, hr8, h⟩ := gB_some h
      refine G_cV (mj := gX12_namedSet) (As := [.int x1, .int x2]) (rest := []) ml_X12_314 vX12_namedSet sl_149 sk_149 (by decide) rfl rfl rfl (Nat.le_of_ble_eq_true rfl) (by decide) (Nat.le_refl _) (Nat.le_refl _) dX12_named_18 (q_X12_namedSet hr8) ?_
      obtain ⟨r9, hr10, h⟩ := gB_some h
      refine G_cS (mj := gX12_sizeOf) (As := [.int r7]) (rest := []) ml_X12_317 vX12_sizeOf rfl rfl (Nat.le_of_ble_eq_true rfl) (by decide) (Nat.le_refl _) (Nat.le_refl _) dX12_named_21 (q_X12_sizeOf hr10) ?_
      refine G_goto 28 dX12_named_24 (by decide) ?_
      refine G_iret rfl (Nat.le_refl _) (Nat.le_refl _) dX12_named_28 ?_
      cases h
      exact ⟨rfl, rfl, rfl, rfl, rfl⟩
def p_X12_meets_33 (x1 : Int32) (x2 : Int32) (x3 : Int32) : Nat → gIt → Int32 → Int32 → Option (Int32 × gIt)
  | 0, _, _, _ => none
  | n + 1, I, x4, x5 =>
    gck (gin x2 80) (
    if (((100 : Int32) * x1) + (I 163 (x2).toNatClampNeg)) ≤ x5 then
    gck (gin (0 : Int32) 120) (
    gck (gbo (I 170 ((0 : Int32)).toNatClampNeg)) (
    some ((I 170 ((0 : Int32)).toNatClampNeg), I)))
    else
    gck (gin x5 1000) (
    gL ((I 167 (x5).toNatClampNeg)) fun z11 =>
    if z11 = (38 : Int32) then
    if z11 = (38 : Int32) then
    gck (gin ((x4 + (-1 : Int32)) - (1 : Int32)) 120) (
    if (I 170 (((x4 + (-1 : Int32)) - (1 : Int32))).toNatClampNeg) = 0 then
    gck (gin ((x4 + (-1 : Int32)) - (1 : Int32)) 120) (
    gL (gu2 I 170 (((x4 + (-1 : Int32)) - (1 : Int32))).toNatClampNeg (vp_nar .boolean (0 : Int32))) fun I27 =>
    p_X12_meets_33 x1 x2 x3 n I27 (x4 + (-1 : Int32)) (x5 + (1 : Int32)))
    else
    gck (gin (x4 + (-1 : Int32)) 120) (
    if (I 170 ((x4 + (-1 : Int32))).toNatClampNeg) = 0 then
    gck (gin ((x4 + (-1 : Int32)) - (1 : Int32)) 120) (
    gL (gu2 I 170 (((x4 + (-1 : Int32)) - (1 : Int32))).toNatClampNeg (vp_nar .boolean (0 : Int32))) fun I31 =>
    p_X12_meets_33 x1 x2 x3 n I31 (x4 + (-1 : Int32)) (x5 + (1 : Int32)))
    else
    gck (gin ((x4 + (-1 : Int32)) - (1 : Int32)) 120) (
    gL (gu2 I 170 (((x4 + (-1 : Int32)) - (1 : Int32))).toNatClampNeg (vp_nar .boolean (1 : Int32))) fun I33 =>
    p_X12_meets_33 x1 x2 x3 n I33 (x4 + (-1 : Int32)) (x5 + (1 : Int32)))))
    else
    gck (gin ((x4 + (-1 : Int32)) - (1 : Int32)) 120) (
    if (I 170 (((x4 + (-1 : Int32)) - (1 : Int32))).toNatClampNeg) = 0 then
    gck (gin (x4 + (-1 : Int32)) 120) (
    if (I 170 ((x4 + (-1 : Int32))).toNatClampNeg) = 0 then
    gck (gin ((x4 + (-1 : Int32)) - (1 : Int32)) 120) (
    gL (gu2 I 170 (((x4 + (-1 : Int32)) - (1 : Int32))).toNatClampNeg (vp_nar .boolean (0 : Int32))) fun I21 =>
    p_X12_meets_33 x1 x2 x3 n I21 (x4 + (-1 : Int32)) (x5 + (1 : Int32)))
    else
    gck (gin ((x4 + (-1 : Int32)) - (1 : Int32)) 120) (
    gL (gu2 I 170 (((x4 + (-1 : Int32)) - (1 : Int32))).toNatClampNeg (vp_nar .boolean (1 : Int32))) fun I23 =>
    p_X12_meets_33 x1 x2 x3 n I23 (x4 + (-1 : Int32)) (x5 + (1 : Int32))))
    else
    gck (gin ((x4 + (-1 : Int32)) - (1 : Int32)) 120) (
    gL (gu2 I 170 (((x4 + (-1 : Int32)) - (1 : Int32))).toNatClampNeg (vp_nar .boolean (1 : Int32))) fun I17 =>
    p_X12_meets_33 x1 x2 x3 n I17 (x4 + (-1 : Int32)) (x5 + (1 : Int32))))
    else
    if z11 = (124 : Int32) then
    if z11 = (38 : Int32) then
    gck (gin ((x4 + (-1 : Int32)) - (1 : Int32)) 120) (
    if (I 170 (((x4 + (-1 : Int32)) - (1 : Int32))).toNatClampNeg) = 0 then
    gck (gin ((x4 + (-1 : Int32)) - (1 : Int32)) 120) (
    gL (gu2 I 170 (((x4 + (-1 : Int32)) - (1 : Int32))).toNatClampNeg (vp_nar .boolean (0 : Int32))) fun I93 =>
    p_X12_meets_33 x1 x2 x3 n I93 (x4 + (-1 : Int32)) (x5 + (1 : Int32)))
    else
    gck (gin (x4 + (-1 : Int32)) 120) (
    if (I 170 ((x4 + (-1 : Int32))).toNatClampNeg) = 0 then
    gck (gin ((x4 + (-1 : Int32)) - (1 : Int32)) 120) (
    gL (gu2 I 170 (((x4 + (-1 : Int32)) - (1 : Int32))).toNatClampNeg (vp_nar .boolean (0 : Int32))) fun I97 =>
    p_X12_meets_33 x1 x2 x3 n I97 (x4 + (-1 : Int32)) (x5 + (1 : Int32)))
    else
    gck (gin ((x4 + (-1 : Int32)) - (1 : Int32)) 120) (
    gL (gu2 I 170 (((x4 + (-1 : Int32)) - (1 : Int32))).toNatClampNeg (vp_nar .boolean (1 : Int32))) fun I99 =>
    p_X12_meets_33 x1 x2 x3 n I99 (x4 + (-1 : Int32)) (x5 + (1 : Int32)))))
    else
    gck (gin ((x4 + (-1 : Int32)) - (1 : Int32)) 120) (
    if (I 170 (((x4 + (-1 : Int32)) - (1 : Int32))).toNatClampNeg) = 0 then
    gck (gin (x4 + (-1 : Int32)) 120) (
    if (I 170 ((x4 + (-1 : Int32))).toNatClampNeg) = 0 then
    gck (gin ((x4 + (-1 : Int32)) - (1 : Int32)) 120) (
    gL (gu2 I 170 (((x4 + (-1 : Int32)) - (1 : Int32))).toNatClampNeg (vp_nar .boolean (0 : Int32))) fun I87 =>
    p_X12_meets_33 x1 x2 x3 n I87 (x4 + (-1 : Int32)) (x5 + (1 : Int32)))
    else
    gck (gin ((x4 + (-1 : Int32)) - (1 : Int32)) 120) (
    gL (gu2 I 170 (((x4 + (-1 : Int32)) - (1 : Int32))).toNatClampNeg (vp_nar .boolean (1 : Int32))) fun I89 =>
    p_X12_meets_33 x1 x2 x3 n I89 (x4 + (-1 : Int32)) (x5 + (1 : Int32))))
    else
    gck (gin ((x4 + (-1 : Int32)) - (1 : Int32)) 120) (
    gL (gu2 I 170 (((x4 + (-1 : Int32)) - (1 : Int32))).toNatClampNeg (vp_nar .boolean (1 : Int32))) fun I83 =>
    p_X12_meets_33 x1 x2 x3 n I83 (x4 + (-1 : Int32)) (x5 + (1 : Int32))))
    else
    if z11 = (6 : Int32) then
    gck (gin (x4 - (1 : Int32)) 120) (
    if (I 170 ((x4 - (1 : Int32))).toNatClampNeg) = 0 then
    gck (gin (x4 - (1 : Int32)) 120) (
    gL (gu2 I 170 ((x4 - (1 : Int32))).toNatClampNeg (vp_nar .boolean (1 : Int32))) fun I78 =>
    p_X12_meets_33 x1 x2 x3 n I78 x4 (x5 + (1 : Int32)))
    else
    gck (gin (x4 - (1 : Int32)) 120) (
    gL (gu2 I 170 ((x4 - (1 : Int32))).toNatClampNeg (vp_nar .boolean (0 : Int32))) fun I76 =>
    p_X12_meets_33 x1 x2 x3 n I76 x4 (x5 + (1 : Int32))))
    else
    gB (p_X12_sizeOf x3) fun r36 =>
    if z11 = (1 : Int32) then
    gck (gin x5 1000) (
    gB (p_X12_has x3 (I 168 (x5).toNatClampNeg)) fun r69 =>
    gck (gin x4 120) (
    gL (gu2 I 170 (x4).toNatClampNeg (vp_nar .boolean r69)) fun I72 =>
    p_X12_meets_33 x1 x2 x3 n I72 (x4 + (1 : Int32)) (x5 + (1 : Int32))))
    else
    if z11 = (2 : Int32) then
    gck (gin x5 1000) (
    gB (p_X12_childrenOf I (I 168 (x5).toNatClampNeg) (1999 : Int32)) fun r61 =>
    if (r61 &&& x3) = 0 then
    gck (gin x4 120) (
    gL (gu2 I 170 (x4).toNatClampNeg (vp_nar .boolean (0 : Int32))) fun I65 =>
    p_X12_meets_33 x1 x2 x3 n I65 (x4 + (1 : Int32)) (x5 + (1 : Int32)))
    else
    gck (gin x4 120) (
    gL (gu2 I 170 (x4).toNatClampNeg (vp_nar .boolean (1 : Int32))) fun I67 =>
    p_X12_meets_33 x1 x2 x3 n I67 (x4 + (1 : Int32)) (x5 + (1 : Int32))))
    else
    if z11 = (3 : Int32) then
    gck (gin x5 1000) (
    if (I 168 (x5).toNatClampNeg) ≤ r36 then
    gck (gin x4 120) (
    gL (gu2 I 170 (x4).toNatClampNeg (vp_nar .boolean (0 : Int32))) fun I57 =>
    p_X12_meets_33 x1 x2 x3 n I57 (x4 + (1 : Int32)) (x5 + (1 : Int32)))
    else
    gck (gin x4 120) (
    gL (gu2 I 170 (x4).toNatClampNeg (vp_nar .boolean (1 : Int32))) fun I59 =>
    p_X12_meets_33 x1 x2 x3 n I59 (x4 + (1 : Int32)) (x5 + (1 : Int32))))
    else
    if z11 = (4 : Int32) then
    gck (gin x5 1000) (
    if r36 ≤ (I 168 (x5).toNatClampNeg) then
    gck (gin x4 120) (
    gL (gu2 I 170 (x4).toNatClampNeg (vp_nar .boolean (0 : Int32))) fun I51 =>
    p_X12_meets_33 x1 x2 x3 n I51 (x4 + (1 : Int32)) (x5 + (1 : Int32)))
    else
    gck (gin x4 120) (
    gL (gu2 I 170 (x4).toNatClampNeg (vp_nar .boolean (1 : Int32))) fun I53 =>
    p_X12_meets_33 x1 x2 x3 n I53 (x4 + (1 : Int32)) (x5 + (1 : Int32))))
    else
    gck (gin x5 1000) (
    if r36 = (I 168 (x5).toNatClampNeg) then
    gck (gin x4 120) (
    gL (gu2 I 170 (x4).toNatClampNeg (vp_nar .boolean (1 : Int32))) fun I47 =>
    p_X12_meets_33 x1 x2 x3 n I47 (x4 + (1 : Int32)) (x5 + (1 : Int32)))
    else
    gck (gin x4 120) (
    gL (gu2 I 170 (x4).toNatClampNeg (vp_nar .boolean (0 : Int32))) fun I45 =>
    p_X12_meets_33 x1 x2 x3 n I45 (x4 + (1 : Int32)) (x5 + (1 : Int32))))))
def p_X12_meets (I : gIt) (x1 : Int32) (x2 : Int32) (x3 : Int32) : Option (Int32 × gIt) :=
  gck (gin x2 80) (
  gck (gin x2 80) (
  if (I 162 (x2).toNatClampNeg) = (I 163 (x2).toNatClampNeg) then
  some ((1 : Int32), I)
  else
  gck (gin x2 80) (
  gL ((((100 : Int32) * x1) + (I 162 (x2).toNatClampNeg))) fun z5 =>
  p_X12_meets_33 x1 x2 x3 gFu I (0 : Int32) z5)))
set_option maxRecDepth 20000 in
theorem q_X12_meets_33 {l : Launch} {v : (Int32 × gIt)} {J : gJt} {w : Bool} {x1 : Int32} {x2 : Int32} {x3 : Int32} : ∀ (n : Nat) (I : gIt) (x4 : Int32) (x5 : Int32), p_X12_meets_33 x1 x2 x3 n I x4 x5 = some v → G l gX12_meets 6 0 0 (fun v' S' I' J' R' => v' = some (.int v.1) ∧ S' = gS0 ∧ I' = v.2 ∧ J' = J ∧ R' = gR0 w) 0 0 33 [some (.ref 149), some (.int x1), some (.int x2), some (.int x3), some (.int x4), some (.int x5), none, none] [] gS0 I J (gR0 w) := by
  intro n
  induction n with
  | zero => intro _ _ _ h; cases h
  | succ n ih =>
    intro I x4 x5 h
    rw [p_X12_meets_33] at h
    refine G_iload dX12_meets_33 rfl ?_
    refine G_bipush (v := 100) dX12_meets_35 rfl ?_
    refine G_iload_n dX12_meets_37 rfl rfl ?_
    refine G_imul dX12_meets_38 ?_
    refine G_aload_n dX12_meets_39 rfl rfl ?_
    refine G_getR fl_X12_57 sl_149 sk_149 rfl (rr_149_22 _) dX12_meets_40 ?_
    refine G_iload_n dX12_meets_43 rfl rfl ?_
    obtain ⟨b6, h⟩ := gck_some h
    refine G_iald sl_163 ss_163 (gin_in b6) dX12_meets_44 ?_
    refine G_iadd dX12_meets_45 ?_
    refine G_icmp_ge 331 dX12_meets_46 (by decide) (fun c7 => ?_) (fun c7 => ?_)
    · replace h := git c7 h
      refine G_aload_n dX12_meets_331 rfl rfl ?_
      refine G_getR fl_X12_79 sl_149 sk_149 rfl (rr_149_37 _) dX12_meets_332 ?_
      refine G_iconst (v := 0) dX12_meets_335 rfl ?_
      obtain ⟨b8, h⟩ := gck_some h
      refine G_zald sl_170 ss_170 (gin_in b8) dX12_meets_336 ?_
      obtain ⟨b9, h⟩ := gck_some h
      refine G_zret rfl (gbo_or b9) (Nat.le_refl _) (Nat.le_refl _) dX12_meets_337 ?_
      cases h
      exact ⟨rfl, rfl, rfl, rfl, rfl⟩
    · replace h := gif c7 h
      refine G_aload_n dX12_meets_49 rfl rfl ?_
      refine G_getR fl_X12_70 sl_149 sk_149 rfl (rr_149_26 _) dX12_meets_50 ?_
      refine G_iload dX12_meets_53 rfl ?_
      obtain ⟨b10, h⟩ := gck_some h
      refine G_iald sl_167 ss_167 (gin_in b10) dX12_meets_55 ?_
      refine G_nI fun z11 ez11 => ?_
      replace h := gL_some ez11 h
      refine S_istore [some (.ref 149), some (.int x1), some (.int x2), some (.int x3), some (.int x4), some (.int x5), some (.int z11), none] dX12_meets_56 (by decide) rfl ?_
      refine G_iload dX12_meets_58 rfl ?_
      refine G_bipush (v := 38) dX12_meets_60 rfl ?_
      refine G_icmp_eq 72 dX12_meets_62 (by decide) (fun c12 => ?_) (fun c12 => ?_)
      · replace h := git c12 h
        refine S_iinc (v := (-1 : Int32)) [some (.ref 149), some (.int x1), some (.int x2), some (.int x3), some (.int (x4 + (-1 : Int32))), some (.int x5), some (.int z11), none] dX12_meets_72 rfl rfl (by decide) rfl ?_
        refine G_aload_n dX12_meets_75 rfl rfl ?_
        refine G_getR fl_X12_79 sl_149 sk_149 rfl (rr_149_37 _) dX12_meets_76 ?_
        refine G_iload dX12_meets_79 rfl ?_
        refine G_iconst (v := 1) dX12_meets_81 rfl ?_
        refine G_isub dX12_meets_82 ?_
        refine G_iload dX12_meets_83 rfl ?_
        refine G_bipush (v := 38) dX12_meets_85 rfl ?_
        refine G_icmp_ne 120 dX12_meets_87 (by decide) (fun c13 => ?_) (fun c13 => ?_)
        · replace h := gif c13 h
          refine G_aload_n dX12_meets_120 rfl rfl ?_
          refine G_getR fl_X12_79 sl_149 sk_149 rfl (rr_149_37 _) dX12_meets_121 ?_
          refine G_iload dX12_meets_124 rfl ?_
          refine G_iconst (v := 1) dX12_meets_126 rfl ?_
          refine G_isub dX12_meets_127 ?_
          obtain ⟨b14, h⟩ := gck_some h
          refine G_zald sl_170 ss_170 (gin_in b14) dX12_meets_128 ?_
          refine G_if_ne 142 dX12_meets_129 (by decide) (fun c15 => ?_) (fun c15 => ?_)
          · replace h := gif c15 h
            refine G_iconst (v := 1) dX12_meets_142 rfl ?_
            refine G_goto 147 dX12_meets_143 (by decide) ?_
            obtain ⟨b16, h⟩ := gck_some h
            refine G_zast sl_170 ss_170 (gin_in b16) dX12_meets_147 ?_
            refine G_mI fun I17 eI17 => ?_
            replace h := gL_some eI17 h
            refine G_goto 325 dX12_meets_148 (by decide) ?_
            refine S_iinc (v := (1 : Int32)) [some (.ref 149), some (.int x1), some (.int x2), some (.int x3), some (.int (x4 + (-1 : Int32))), some (.int (x5 + (1 : Int32))), some (.int z11), none] dX12_meets_325 rfl rfl (by decide) rfl ?_
            refine G_goto 33 dX12_meets_328 (by decide) ?_
            refine G_sub [some (.ref 149), some (.int x1), some (.int x2), some (.int x3), some (.int (x4 + (-1 : Int32))), some (.int (x5 + (1 : Int32))), none, none] ⟨rfl, rfl, rfl, rfl, rfl, rfl, trivial⟩ ?_
            exact ih _ _ _ h
          · replace h := git c15 h
            refine G_aload_n dX12_meets_132 rfl rfl ?_
            refine G_getR fl_X12_79 sl_149 sk_149 rfl (rr_149_37 _) dX12_meets_133 ?_
            refine G_iload dX12_meets_136 rfl ?_
            obtain ⟨b18, h⟩ := gck_some h
            refine G_zald sl_170 ss_170 (gin_in b18) dX12_meets_138 ?_
            refine G_if_eq 146 dX12_meets_139 (by decide) (fun c19 => ?_) (fun c19 => ?_)
            · replace h := git c19 h
              refine G_iconst (v := 0) dX12_meets_146 rfl ?_
              obtain ⟨b20, h⟩ := gck_some h
              refine G_zast sl_170 ss_170 (gin_in b20) dX12_meets_147 ?_
              refine G_mI fun I21 eI21 => ?_
              replace h := gL_some eI21 h
              refine G_goto 325 dX12_meets_148 (by decide) ?_
              refine S_iinc (v := (1 : Int32)) [some (.ref 149), some (.int x1), some (.int x2), some (.int x3), some (.int (x4 + (-1 : Int32))), some (.int (x5 + (1 : Int32))), some (.int z11), none] dX12_meets_325 rfl rfl (by decide) rfl ?_
              refine G_goto 33 dX12_meets_328 (by decide) ?_
              refine G_sub [some (.ref 149), some (.int x1), some (.int x2), some (.int x3), some (.int (x4 + (-1 : Int32))), some (.int (x5 + (1 : Int32))), none, none] ⟨rfl, rfl, rfl, rfl, rfl, rfl, trivial⟩ ?_
              exact ih _ _ _ h
            · replace h := gif c19 h
              refine G_iconst (v := 1) dX12_meets_142 rfl ?_
              refine G_goto 147 dX12_meets_143 (by decide) ?_
              obtain ⟨b22, h⟩ := gck_some h
              refine G_zast sl_170 ss_170 (gin_in b22) dX12_meets_147 ?_
              refine G_mI fun I23 eI23 => ?_
              replace h := gL_some eI23 h
              refine G_goto 325 dX12_meets_148 (by decide) ?_
              refine S_iinc (v := (1 : Int32)) [some (.ref 149), some (.int x1), some (.int x2), some (.int x3), some (.int (x4 + (-1 : Int32))), some (.int (x5 + (1 : Int32))), some (.int z11), none] dX12_meets_325 rfl rfl (by decide) rfl ?_
              refine G_goto 33 dX12_meets_328 (by decide) ?_
              refine G_sub [some (.ref 149), some (.int x1), some (.int x2), some (.int x3), some (.int (x4 + (-1 : Int32))), some (.int (x5 + (1 : Int32))), none, none] ⟨rfl, rfl, rfl, rfl, rfl, rfl, trivial⟩ ?_
              exact ih _ _ _ h
        · replace h := git c13 h
          refine G_aload_n dX12_meets_90 rfl rfl ?_
          refine G_getR fl_X12_79 sl_149 sk_149 rfl (rr_149_37 _) dX12_meets_91 ?_
          refine G_iload dX12_meets_94 rfl ?_
          refine G_iconst (v := 1) dX12_meets_96 rfl ?_
          refine G_isub dX12_meets_97 ?_
          obtain ⟨b24, h⟩ := gck_some h
          refine G_zald sl_170 ss_170 (gin_in b24) dX12_meets_98 ?_
          refine G_if_eq 116 dX12_meets_99 (by decide) (fun c25 => ?_) (fun c25 => ?_)
          · replace h := git c25 h
            refine G_iconst (v := 0) dX12_meets_116 rfl ?_
            refine G_goto 147 dX12_meets_117 (by decide) ?_
            obtain ⟨b26, h⟩ := gck_some h
            refine G_zast sl_170 ss_170 (gin_in b26) dX12_meets_147 ?_
            refine G_mI fun I27 eI27 => ?_
            replace h := gL_some eI27 h
            refine G_goto 325 dX12_meets_148 (by decide) ?_
            refine S_iinc (v := (1 : Int32)) [some (.ref 149), some (.int x1), some (.int x2), some (.int x3), some (.int (x4 + (-1 : Int32))), some (.int (x5 + (1 : Int32))), some (.int z11), none] dX12_meets_325 rfl rfl (by decide) rfl ?_
            refine G_goto 33 dX12_meets_328 (by decide) ?_
            refine G_sub [some (.ref 149), some (.int x1), some (.int x2), some (.int x3), some (.int (x4 + (-1 : Int32))), some (.int (x5 + (1 : Int32))), none, none] ⟨rfl, rfl, rfl, rfl, rfl, rfl, trivial⟩ ?_
            exact ih _ _ _ h
          · replace h := gif c25 h
            refine G_aload_n dX12_meets_102 rfl rfl ?_
            refine G_getR fl_X12_79 sl_149 sk_149 rfl (rr_149_37 _) dX12_meets_103 ?_
            refine G_iload dX12_meets_106 rfl ?_
            obtain ⟨b28, h⟩ := gck_some h
            refine G_zald sl_170 ss_170 (gin_in b28) dX12_meets_108 ?_
            refine G_if_eq 116 dX12_meets_109 (by decide) (fun c29 => ?_) (fun c29 => ?_)
            · replace h := git c29 h
              refine G_iconst (v := 0) dX12_meets_116 rfl ?_
              refine G_goto 147 dX12_meets_117 (by decide) ?_
              obtain ⟨b30, h⟩ := gck_some h
              refine G_zast sl_170 ss_170 (gin_in b30) dX12_meets_147 ?_
              refine G_mI fun I31 eI31 => ?_
              replace h := gL_some eI31 h
              refine G_goto 325 dX12_meets_148 (by decide) ?_
              refine S_iinc (v := (1 : Int32)) [some (.ref 149), some (.int x1), some (.int x2), some (.int x3), some (.int (x4 + (-1 : Int32))), some (.int (x5 + (1 : Int32))), some (.int z11), none] dX12_meets_325 rfl rfl (by decide) rfl ?_
              refine G_goto 33 dX12_meets_328 (by decide) ?_
              refine G_sub [some (.ref 149), some (.int x1), some (.int x2), some (.int x3), some (.int (x4 + (-1 : Int32))), some (.int (x5 + (1 : Int32))), none, none] ⟨rfl, rfl, rfl, rfl, rfl, rfl, trivial⟩ ?_
              exact ih _ _ _ h
            · replace h := gif c29 h
              refine G_iconst (v := 1) dX12_meets_112 rfl ?_
              refine G_goto 147 dX12_meets_113 (by decide) ?_
              obtain ⟨b32, h⟩ := gck_some h
              refine G_zast sl_170 ss_170 (gin_in b32) dX12_meets_147 ?_
              refine G_mI fun I33 eI33 => ?_
              replace h := gL_some eI33 h
              refine G_goto 325 dX12_meets_148 (by decide) ?_
              refine S_iinc (v := (1 : Int32)) [some (.ref 149), some (.int x1), some (.int x2), some (.int x3), some (.int (x4 + (-1 : Int32))), some (.int (x5 + (1 : Int32))), some (.int z11), none] dX12_meets_325 rfl rfl (by decide) rfl ?_
              refine G_goto 33 dX12_meets_328 (by decide) ?_
              refine G_sub [some (.ref 149), some (.int x1), some (.int x2), some (.int x3), some (.int (x4 + (-1 : Int32))), some (.int (x5 + (1 : Int32))), none, none] ⟨rfl, rfl, rfl, rfl, rfl, rfl, trivial⟩ ?_
              exact ih _ _ _ h
      · replace h := gif c12 h
        refine G_iload dX12_meets_65 rfl ?_
        refine G_bipush (v := 124) dX12_meets_67 rfl ?_
        refine G_icmp_ne 151 dX12_meets_69 (by decide) (fun c34 => ?_) (fun c34 => ?_)
        · replace h := gif c34 h
          refine G_iload dX12_meets_151 rfl ?_
          refine G_bipush (v := 6) dX12_meets_153 rfl ?_
          refine G_icmp_ne 187 dX12_meets_155 (by decide) (fun c35 => ?_) (fun c35 => ?_)
          · replace h := gif c35 h
            refine G_iload_n dX12_meets_187 rfl rfl ?_
            obtain ⟨r36, hr37, h⟩ := gB_some h
            refine G_cS (mj := gX12_sizeOf) (As := [.int x3]) (rest := []) ml_X12_317 vX12_sizeOf rfl rfl (Nat.le_of_ble_eq_true rfl) (by decide) (Nat.le_refl _) (Nat.le_refl _) dX12_meets_188 (q_X12_sizeOf hr37) ?_
            refine S_istore [some (.ref 149), some (.int x1), some (.int x2), some (.int x3), some (.int x4), some (.int x5), some (.int z11), some (.int r36)] dX12_meets_191 (by decide) rfl ?_
            refine G_aload_n dX12_meets_193 rfl rfl ?_
            refine G_getR fl_X12_79 sl_149 sk_149 rfl (rr_149_37 _) dX12_meets_194 ?_
            refine G_iload dX12_meets_197 rfl ?_
            refine G_iload dX12_meets_199 rfl ?_
            refine G_iconst (v := 1) dX12_meets_201 rfl ?_
            refine G_icmp_ne 219 dX12_meets_202 (by decide) (fun c38 => ?_) (fun c38 => ?_)
            · replace h := gif c38 h
              refine G_iload dX12_meets_219 rfl ?_
              refine G_iconst (v := 2) dX12_meets_221 rfl ?_
              refine G_icmp_ne 252 dX12_meets_222 (by decide) (fun c39 => ?_) (fun c39 => ?_)
              · replace h := gif c39 h
                refine G_iload dX12_meets_252 rfl ?_
                refine G_iconst (v := 3) dX12_meets_254 rfl ?_
                refine G_icmp_ne 278 dX12_meets_255 (by decide) (fun c40 => ?_) (fun c40 => ?_)
                · replace h := gif c40 h
                  refine G_iload dX12_meets_278 rfl ?_
                  refine G_iconst (v := 4) dX12_meets_280 rfl ?_
                  refine G_icmp_ne 304 dX12_meets_281 (by decide) (fun c41 => ?_) (fun c41 => ?_)
                  · replace h := gif c41 h
                    refine G_iload dX12_meets_304 rfl ?_
                    refine G_aload_n dX12_meets_306 rfl rfl ?_
                    refine G_getR fl_X12_73 sl_149 sk_149 rfl (rr_149_27 _) dX12_meets_307 ?_
                    refine G_iload dX12_meets_310 rfl ?_
                    obtain ⟨b42, h⟩ := gck_some h
                    refine G_iald sl_168 ss_168 (gin_in b42) dX12_meets_312 ?_
                    refine G_icmp_ne 320 dX12_meets_313 (by decide) (fun c43 => ?_) (fun c43 => ?_)
                    · replace h := gif c43 h
                      refine G_iconst (v := 0) dX12_meets_320 rfl ?_
                      obtain ⟨b44, h⟩ := gck_some h
                      refine G_zast sl_170 ss_170 (gin_in b44) dX12_meets_321 ?_
                      refine G_mI fun I45 eI45 => ?_
                      replace h := gL_some eI45 h
                      refine S_iinc (v := (1 : Int32)) [some (.ref 149), some (.int x1), some (.int x2), some (.int x3), some (.int (x4 + (1 : Int32))), some (.int x5), some (.int z11), some (.int r36)] dX12_meets_322 rfl rfl (by decide) rfl ?_
                      refine S_iinc (v := (1 : Int32)) [some (.ref 149), some (.int x1), some (.int x2), some (.int x3), some (.int (x4 + (1 : Int32))), some (.int (x5 + (1 : Int32))), some (.int z11), some (.int r36)] dX12_meets_325 rfl rfl (by decide) rfl ?_
                      refine G_goto 33 dX12_meets_328 (by decide) ?_
                      refine G_sub [some (.ref 149), some (.int x1), some (.int x2), some (.int x3), some (.int (x4 + (1 : Int32))), some (.int (x5 + (1 : Int32))), none, none] ⟨rfl, rfl, rfl, rfl, rfl, rfl, trivial⟩ ?_
                      exact ih _ _ _ h
                    · replace h := git c43 h
                      refine G_iconst (v := 1) dX12_meets_316 rfl ?_
                      refine G_goto 321 dX12_meets_317 (by decide) ?_
                      obtain ⟨b46, h⟩ := gck_some h
                      refine G_zast sl_170 ss_170 (gin_in b46) dX12_meets_321 ?_
                      refine G_mI fun I47 eI47 => ?_
                      replace h := gL_some eI47 h
                      refine S_iinc (v := (1 : Int32)) [some (.ref 149), some (.int x1), some (.int x2), some (.int x3), some (.int (x4 + (1 : Int32))), some (.int x5), some (.int z11), some (.int r36)] dX12_meets_322 rfl rfl (by decide) rfl ?_
                      refine S_iinc (v := (1 : Int32)) [some (.ref 149), some (.int x1), some (.int x2), some (.int x3), some (.int (x4 + (1 : Int32))), some (.int (x5 + (1 : Int32))), some (.int z11), some (.int r36)] dX12_meets_325 rfl rfl (by decide) rfl ?_
                      refine G_goto 33 dX12_meets_328 (by decide) ?_
                      refine G_sub [some (.ref 149), some (.int x1), some (.int x2), some (.int x3), some (.int (x4 + (1 : Int32))), some (.int (x5 + (1 : Int32))), none, none] ⟨rfl, rfl, rfl, rfl, rfl, rfl, trivial⟩ ?_
                      exact ih _ _ _ h
                  · replace h := git c41 h
                    refine G_iload dX12_meets_284 rfl ?_
                    refine G_aload_n dX12_meets_286 rfl rfl ?_
                    refine G_getR fl_X12_73 sl_149 sk_149 rfl (rr_149_27 _) dX12_meets_287 ?_
                    refine G_iload dX12_meets_290 rfl ?_
                    obtain ⟨b48, h⟩ := gck_some h
                    refine G_iald sl_168 ss_168 (gin_in b48) dX12_meets_292 ?_
                    refine G_icmp_le 300 dX12_meets_293 (by decide) (fun c49 => ?_) (fun c49 => ?_)
                    · replace h := git c49 h
                      refine G_iconst (v := 0) dX12_meets_300 rfl ?_
                      refine G_goto 321 dX12_meets_301 (by decide) ?_
                      obtain ⟨b50, h⟩ := gck_some h
                      refine G_zast sl_170 ss_170 (gin_in b50) dX12_meets_321 ?_
                      refine G_mI fun I51 eI51 => ?_
                      replace h := gL_some eI51 h
                      refine S_iinc (v := (1 : Int32)) [some (.ref 149), some (.int x1), some (.int x2), some (.int x3), some (.int (x4 + (1 : Int32))), some (.int x5), some (.int z11), some (.int r36)] dX12_meets_322 rfl rfl (by decide) rfl ?_
                      refine S_iinc (v := (1 : Int32)) [some (.ref 149), some (.int x1), some (.int x2), some (.int x3), some (.int (x4 + (1 : Int32))), some (.int (x5 + (1 : Int32))), some (.int z11), some (.int r36)] dX12_meets_325 rfl rfl (by decide) rfl ?_
                      refine G_goto 33 dX12_meets_328 (by decide) ?_
                      refine G_sub [some (.ref 149), some (.int x1), some (.int x2), some (.int x3), some (.int (x4 + (1 : Int32))), some (.int (x5 + (1 : Int32))), none, none] ⟨rfl, rfl, rfl, rfl, rfl, rfl, trivial⟩ ?_
                      exact ih _ _ _ h
                    · replace h := gif c49 h
                      refine G_iconst (v := 1) dX12_meets_296 rfl ?_
                      refine G_goto 321 dX12_meets_297 (by decide) ?_
                      obtain ⟨b52, h⟩ := gck_some h
                      refine G_zast sl_170 ss_170 (gin_in b52) dX12_meets_321 ?_
                      refine G_mI fun I53 eI53 => ?_
                      replace h := gL_some eI53 h
                      refine S_iinc (v := (1 : Int32)) [some (.ref 149), some (.int x1), some (.int x2), some (.int x3), some (.int (x4 + (1 : Int32))), some (.int x5), some (.int z11), some (.int r36)] dX12_meets_322 rfl rfl (by decide) rfl ?_
                      refine S_iinc (v := (1 : Int32)) [some (.ref 149), some (.int x1), some (.int x2), some (.int x3), some (.int (x4 + (1 : Int32))), some (.int (x5 + (1 : Int32))), some (.int z11), some (.int r36)] dX12_meets_325 rfl rfl (by decide) rfl ?_
                      refine G_goto 33 dX12_meets_328 (by decide) ?_
                      refine G_sub [some (.ref 149), some (.int x1), some (.int x2), some (.int x3), some (.int (x4 + (1 : Int32))), some (.int (x5 + (1 : Int32))), none, none] ⟨rfl, rfl, rfl, rfl, rfl, rfl, trivial⟩ ?_
                      exact ih _ _ _ h
                · replace h := git c40 h
                  refine G_iload dX12_meets_258 rfl ?_
                  refine G_aload_n dX12_meets_260 rfl rfl ?_
                  refine G_getR fl_X12_73 sl_149 sk_149 rfl (rr_149_27 _) dX12_meets_261 ?_
                  refine G_iload dX12_meets_264 rfl ?_
                  obtain ⟨b54, h⟩ := gck_some h
                  refine G_iald sl_168 ss_168 (gin_in b54) dX12_meets_266 ?_
                  refine G_icmp_ge 274 dX12_meets_267 (by decide) (fun c55 => ?_) (fun c55 => ?_)
                  · replace h := git c55 h
                    refine G_iconst (v := 0) dX12_meets_274 rfl ?_
                    refine G_goto 321 dX12_meets_275 (by decide) ?_
                    obtain ⟨b56, h⟩ := gck_some h
                    refine G_zast sl_170 ss_170 (gin_in b56) dX12_meets_321 ?_
                    refine G_mI fun I57 eI57 => ?_
                    replace h := gL_some eI57 h
                    refine S_iinc (v := (1 : Int32)) [some (.ref 149), some (.int x1), some (.int x2), some (.int x3), some (.int (x4 + (1 : Int32))), some (.int x5), some (.int z11), some (.int r36)] dX12_meets_322 rfl rfl (by decide) rfl ?_
                    refine S_iinc (v := (1 : Int32)) [some (.ref 149), some (.int x1), some (.int x2), some (.int x3), some (.int (x4 + (1 : Int32))), some (.int (x5 + (1 : Int32))), some (.int z11), some (.int r36)] dX12_meets_325 rfl rfl (by decide) rfl ?_
                    refine G_goto 33 dX12_meets_328 (by decide) ?_
                    refine G_sub [some (.ref 149), some (.int x1), some (.int x2), some (.int x3), some (.int (x4 + (1 : Int32))), some (.int (x5 + (1 : Int32))), none, none] ⟨rfl, rfl, rfl, rfl, rfl, rfl, trivial⟩ ?_
                    exact ih _ _ _ h
                  · replace h := gif c55 h
                    refine G_iconst (v := 1) dX12_meets_270 rfl ?_
                    refine G_goto 321 dX12_meets_271 (by decide) ?_
                    obtain ⟨b58, h⟩ := gck_some h
                    refine G_zast sl_170 ss_170 (gin_in b58) dX12_meets_321 ?_
                    refine G_mI fun I59 eI59 => ?_
                    replace h := gL_some eI59 h
                    refine S_iinc (v := (1 : Int32)) [some (.ref 149), some (.int x1), some (.int x2), some (.int x3), some (.int (x4 + (1 : Int32))), some (.int x5), some (.int z11), some (.int r36)] dX12_meets_322 rfl rfl (by decide) rfl ?_
                    refine S_iinc (v := (1 : Int32)) [some (.ref 149), some (.int x1), some (.int x2), some (.int x3), some (.int (x4 + (1 : Int32))), some (.int (x5 + (1 : Int32))), some (.int z11), some (.int r36)] dX12_meets_325 rfl rfl (by decide) rfl ?_
                    refine G_goto 33 dX12_meets_328 (by decide) ?_
                    refine G_sub [some (.ref 149), some (.int x1), some (.int x2), some (.int x3), some (.int (x4 + (1 : Int32))), some (.int (x5 + (1 : Int32))), none, none] ⟨rfl, rfl, rfl, rfl, rfl, rfl, trivial⟩ ?_
                    exact ih _ _ _ h
              · replace h := git c39 h
                refine G_aload_n dX12_meets_225 rfl rfl ?_
                refine G_aload_n dX12_meets_226 rfl rfl ?_
                refine G_getR fl_X12_73 sl_149 sk_149 rfl (rr_149_27 _) dX12_meets_227 ?_
                refine G_iload dX12_meets_230 rfl ?_
                obtain ⟨b60, h⟩ := gck_some h
                refine G_iald sl_168 ss_168 (gin_in b60) dX12_meets_232 ?_
                refine G_sipush (v := 1999) dX12_meets_233 rfl ?_
                obtain ⟨r61, hr62, h⟩ := gB_some h
                refine G_cV (mj := gX12_childrenOf) (As := [.int (I 168 (x5).toNatClampNeg), .int (1999 : Int32)]) (rest := [.int x4, .ref 170]) ml_X12_305 vX12_childrenOf sl_149 sk_149 (by decide) rfl rfl rfl (Nat.le_of_ble_eq_true rfl) (by decide) (Nat.le_refl _) (Nat.le_refl _) dX12_meets_236 (q_X12_childrenOf hr62) ?_
                refine G_iload_n dX12_meets_239 rfl rfl ?_
                refine G_iand dX12_meets_240 ?_
                refine G_if_eq 248 dX12_meets_241 (by decide) (fun c63 => ?_) (fun c63 => ?_)
                · replace h := git c63 h
                  refine G_iconst (v := 0) dX12_meets_248 rfl ?_
                  refine G_goto 321 dX12_meets_249 (by decide) ?_
                  obtain ⟨b64, h⟩ := gck_some h
                  refine G_zast sl_170 ss_170 (gin_in b64) dX12_meets_321 ?_
                  refine G_mI fun I65 eI65 => ?_
                  replace h := gL_some eI65 h
                  refine S_iinc (v := (1 : Int32)) [some (.ref 149), some (.int x1), some (.int x2), some (.int x3), some (.int (x4 + (1 : Int32))), some (.int x5), some (.int z11), some (.int r36)] dX12_meets_322 rfl rfl (by decide) rfl ?_
                  refine S_iinc (v := (1 : Int32)) [some (.ref 149), some (.int x1), some (.int x2), some (.int x3), some (.int (x4 + (1 : Int32))), some (.int (x5 + (1 : Int32))), some (.int z11), some (.int r36)] dX12_meets_325 rfl rfl (by decide) rfl ?_
                  refine G_goto 33 dX12_meets_328 (by decide) ?_
                  refine G_sub [some (.ref 149), some (.int x1), some (.int x2), some (.int x3), some (.int (x4 + (1 : Int32))), some (.int (x5 + (1 : Int32))), none, none] ⟨rfl, rfl, rfl, rfl, rfl, rfl, trivial⟩ ?_
                  exact ih _ _ _ h
                · replace h := gif c63 h
                  refine G_iconst (v := 1) dX12_meets_244 rfl ?_
                  refine G_goto 321 dX12_meets_245 (by decide) ?_
                  obtain ⟨b66, h⟩ := gck_some h
                  refine G_zast sl_170 ss_170 (gin_in b66) dX12_meets_321 ?_
                  refine G_mI fun I67 eI67 => ?_
                  replace h := gL_some eI67 h
                  refine S_iinc (v := (1 : Int32)) [some (.ref 149), some (.int x1), some (.int x2), some (.int x3), some (.int (x4 + (1 : Int32))), some (.int x5), some (.int z11), some (.int r36)] dX12_meets_322 rfl rfl (by decide) rfl ?_
                  refine S_iinc (v := (1 : Int32)) [some (.ref 149), some (.int x1), some (.int x2), some (.int x3), some (.int (x4 + (1 : Int32))), some (.int (x5 + (1 : Int32))), some (.int z11), some (.int r36)] dX12_meets_325 rfl rfl (by decide) rfl ?_
                  refine G_goto 33 dX12_meets_328 (by decide) ?_
                  refine G_sub [some (.ref 149), some (.int x1), some (.int x2), some (.int x3), some (.int (x4 + (1 : Int32))), some (.int (x5 + (1 : Int32))), none, none] ⟨rfl, rfl, rfl, rfl, rfl, rfl, trivial⟩ ?_
                  exact ih _ _ _ h
            · replace h := git c38 h
              refine G_iload_n dX12_meets_205 rfl rfl ?_
              refine G_aload_n dX12_meets_206 rfl rfl ?_
              refine G_getR fl_X12_73 sl_149 sk_149 rfl (rr_149_27 _) dX12_meets_207 ?_
              refine G_iload dX12_meets_210 rfl ?_
              obtain ⟨b68, h⟩ := gck_some h
              refine G_iald sl_168 ss_168 (gin_in b68) dX12_meets_212 ?_
              obtain ⟨r69, hr70, h⟩ := gB_some h
              refine G_cS (mj := gX12_has) (As := [.int x3, .int (I 168 (x5).toNatClampNeg)]) (rest := [.int x4, .ref 170]) ml_X12_320 vX12_has rfl rfl (Nat.le_of_ble_eq_true rfl) (by decide) (Nat.le_refl _) (Nat.le_refl _) dX12_meets_213 (q_X12_has hr70) ?_
              refine G_goto 321 dX12_meets_216 (by decide) ?_
              obtain ⟨b71, h⟩ := gck_some h
              refine G_zast sl_170 ss_170 (gin_in b71) dX12_meets_321 ?_
              refine G_mI fun I72 eI72 => ?_
              replace h := gL_some eI72 h
              refine S_iinc (v := (1 : Int32)) [some (.ref 149), some (.int x1), some (.int x2), some (.int x3), some (.int (x4 + (1 : Int32))), some (.int x5), some (.int z11), some (.int r36)] dX12_meets_322 rfl rfl (by decide) rfl ?_
              refine S_iinc (v := (1 : Int32)) [some (.ref 149), some (.int x1), some (.int x2), some (.int x3), some (.int (x4 + (1 : Int32))), some (.int (x5 + (1 : Int32))), some (.int z11), some (.int r36)] dX12_meets_325 rfl rfl (by decide) rfl ?_
              refine G_goto 33 dX12_meets_328 (by decide) ?_
              refine G_sub [some (.ref 149), some (.int x1), some (.int x2), some (.int x3), some (.int (x4 + (1 : Int32))), some (.int (x5 + (1 : Int32))), none, none] ⟨rfl, rfl, rfl, rfl, rfl, rfl, trivial⟩ ?_
              exact ih _ _ _ h
          · replace h := git c35 h
            refine G_aload_n dX12_meets_158 rfl rfl ?_
            refine G_getR fl_X12_79 sl_149 sk_149 rfl (rr_149_37 _) dX12_meets_159 ?_
            refine G_iload dX12_meets_162 rfl ?_
            refine G_iconst (v := 1) dX12_meets_164 rfl ?_
            refine G_isub dX12_meets_165 ?_
            refine G_aload_n dX12_meets_166 rfl rfl ?_
            refine G_getR fl_X12_79 sl_149 sk_149 rfl (rr_149_37 _) dX12_meets_167 ?_
            refine G_iload dX12_meets_170 rfl ?_
            refine G_iconst (v := 1) dX12_meets_172 rfl ?_
            refine G_isub dX12_meets_173 ?_
            obtain ⟨b73, h⟩ := gck_some h
            refine G_zald sl_170 ss_170 (gin_in b73) dX12_meets_174 ?_
            refine G_if_ne 182 dX12_meets_175 (by decide) (fun c74 => ?_) (fun c74 => ?_)
            · replace h := gif c74 h
              refine G_iconst (v := 0) dX12_meets_182 rfl ?_
              obtain ⟨b75, h⟩ := gck_some h
              refine G_zast sl_170 ss_170 (gin_in b75) dX12_meets_183 ?_
              refine G_mI fun I76 eI76 => ?_
              replace h := gL_some eI76 h
              refine G_goto 325 dX12_meets_184 (by decide) ?_
              refine S_iinc (v := (1 : Int32)) [some (.ref 149), some (.int x1), some (.int x2), some (.int x3), some (.int x4), some (.int (x5 + (1 : Int32))), some (.int z11), none] dX12_meets_325 rfl rfl (by decide) rfl ?_
              refine G_goto 33 dX12_meets_328 (by decide) ?_
              refine G_sub [some (.ref 149), some (.int x1), some (.int x2), some (.int x3), some (.int x4), some (.int (x5 + (1 : Int32))), none, none] ⟨rfl, rfl, rfl, rfl, rfl, rfl, trivial⟩ ?_
              exact ih _ _ _ h
            · replace h := git c74 h
              refine G_iconst (v := 1) dX12_meets_178 rfl ?_
              refine G_goto 183 dX12_meets_179 (by decide) ?_
              obtain ⟨b77, h⟩ := gck_some h
              refine G_zast sl_170 ss_170 (gin_in b77) dX12_meets_183 ?_
              refine G_mI fun I78 eI78 => ?_
              replace h := gL_some eI78 h
              refine G_goto 325 dX12_meets_184 (by decide) ?_
              refine S_iinc (v := (1 : Int32)) [some (.ref 149), some (.int x1), some (.int x2), some (.int x3), some (.int x4), some (.int (x5 + (1 : Int32))), some (.int z11), none] dX12_meets_325 rfl rfl (by decide) rfl ?_
              refine G_goto 33 dX12_meets_328 (by decide) ?_
              refine G_sub [some (.ref 149), some (.int x1), some (.int x2), some (.int x3), some (.int x4), some (.int (x5 + (1 : Int32))), none, none] ⟨rfl, rfl, rfl, rfl, rfl, rfl, trivial⟩ ?_
              exact ih _ _ _ h
        · replace h := git c34 h
          refine S_iinc (v := (-1 : Int32)) [some (.ref 149), some (.int x1), some (.int x2), some (.int x3), some (.int (x4 + (-1 : Int32))), some (.int x5), some (.int z11), none] dX12_meets_72 rfl rfl (by decide) rfl ?_
          refine G_aload_n dX12_meets_75 rfl rfl ?_
          refine G_getR fl_X12_79 sl_149 sk_149 rfl (rr_149_37 _) dX12_meets_76 ?_
          refine G_iload dX12_meets_79 rfl ?_
          refine G_iconst (v := 1) dX12_meets_81 rfl ?_
          refine G_isub dX12_meets_82 ?_
          refine G_iload dX12_meets_83 rfl ?_
          refine G_bipush (v := 38) dX12_meets_85 rfl ?_
          refine G_icmp_ne 120 dX12_meets_87 (by decide) (fun c79 => ?_) (fun c79 => ?_)
          · replace h := gif c79 h
            refine G_aload_n dX12_meets_120 rfl rfl ?_
            refine G_getR fl_X12_79 sl_149 sk_149 rfl (rr_149_37 _) dX12_meets_121 ?_
            refine G_iload dX12_meets_124 rfl ?_
            refine G_iconst (v := 1) dX12_meets_126 rfl ?_
            refine G_isub dX12_meets_127 ?_
            obtain ⟨b80, h⟩ := gck_some h
            refine G_zald sl_170 ss_170 (gin_in b80) dX12_meets_128 ?_
            refine G_if_ne 142 dX12_meets_129 (by decide) (fun c81 => ?_) (fun c81 => ?_)
            · replace h := gif c81 h
              refine G_iconst (v := 1) dX12_meets_142 rfl ?_
              refine G_goto 147 dX12_meets_143 (by decide) ?_
              obtain ⟨b82, h⟩ := gck_some h
              refine G_zast sl_170 ss_170 (gin_in b82) dX12_meets_147 ?_
              refine G_mI fun I83 eI83 => ?_
              replace h := gL_some eI83 h
              refine G_goto 325 dX12_meets_148 (by decide) ?_
              refine S_iinc (v := (1 : Int32)) [some (.ref 149), some (.int x1), some (.int x2), some (.int x3), some (.int (x4 + (-1 : Int32))), some (.int (x5 + (1 : Int32))), some (.int z11), none] dX12_meets_325 rfl rfl (by decide) rfl ?_
              refine G_goto 33 dX12_meets_328 (by decide) ?_
              refine G_sub [some (.ref 149), some (.int x1), some (.int x2), some (.int x3), some (.int (x4 + (-1 : Int32))), some (.int (x5 + (1 : Int32))), none, none] ⟨rfl, rfl, rfl, rfl, rfl, rfl, trivial⟩ ?_
              exact ih _ _ _ h
            · replace h := git c81 h
              refine G_aload_n dX12_meets_132 rfl rfl ?_
              refine G_getR fl_X12_79 sl_149 sk_149 rfl (rr_149_37 _) dX12_meets_133 ?_
              refine G_iload dX12_meets_136 rfl ?_
              obtain ⟨b84, h⟩ := gck_some h
              refine G_zald sl_170 ss_170 (gin_in b84) dX12_meets_138 ?_
              refine G_if_eq 146 dX12_meets_139 (by decide) (fun c85 => ?_) (fun c85 => ?_)
              · replace h := git c85 h
                refine G_iconst (v := 0) dX12_meets_146 rfl ?_
                obtain ⟨b86, h⟩ := gck_some h
                refine G_zast sl_170 ss_170 (gin_in b86) dX12_meets_147 ?_
                refine G_mI fun I87 eI87 => ?_
                replace h := gL_some eI87 h
                refine G_goto 325 dX12_meets_148 (by decide) ?_
                refine S_iinc (v := (1 : Int32)) [some (.ref 149), some (.int x1), some (.int x2), some (.int x3), some (.int (x4 + (-1 : Int32))), some (.int (x5 + (1 : Int32))), some (.int z11), none] dX12_meets_325 rfl rfl (by decide) rfl ?_
                refine G_goto 33 dX12_meets_328 (by decide) ?_
                refine G_sub [some (.ref 149), some (.int x1), some (.int x2), some (.int x3), some (.int (x4 + (-1 : Int32))), some (.int (x5 + (1 : Int32))), none, none] ⟨rfl, rfl, rfl, rfl, rfl, rfl, trivial⟩ ?_
                exact ih _ _ _ h
              · replace h := gif c85 h
                refine G_iconst (v := 1) dX12_meets_142 rfl ?_
                refine G_goto 147 dX12_meets_143 (by decide) ?_
                obtain ⟨b88, h⟩ := gck_some h
                refine G_zast sl_170 ss_170 (gin_in b88) dX12_meets_147 ?_
                refine G_mI fun I89 eI89 => ?_
                replace h := gL_some eI89 h
                refine G_goto 325 dX12_meets_148 (by decide) ?_
                refine S_iinc (v := (1 : Int32)) [some (.ref 149), some (.int x1), some (.int x2), some (.int x3), some (.int (x4 + (-1 : Int32))), some (.int (x5 + (1 : Int32))), some (.int z11), none] dX12_meets_325 rfl rfl (by decide) rfl ?_
                refine G_goto 33 dX12_meets_328 (by decide) ?_
                refine G_sub [some (.ref 149), some (.int x1), some (.int x2), some (.int x3), some (.int (x4 + (-1 : Int32))), some (.int (x5 + (1 : Int32))), none, none] ⟨rfl, rfl, rfl, rfl, rfl, rfl, trivial⟩ ?_
                exact ih _ _ _ h
          · replace h := git c79 h
            refine G_aload_n dX12_meets_90 rfl rfl ?_
            refine G_getR fl_X12_79 sl_149 sk_149 rfl (rr_149_37 _) dX12_meets_91 ?_
            refine G_iload dX12_meets_94 rfl ?_
            refine G_iconst (v := 1) dX12_meets_96 rfl ?_
            refine G_isub dX12_meets_97 ?_
            obtain ⟨b90, h⟩ := gck_some h
            refine G_zald sl_170 ss_170 (gin_in b90) dX12_meets_98 ?_
            refine G_if_eq 116 dX12_meets_99 (by decide) (fun c91 => ?_) (fun c91 => ?_)
            · replace h := git c91 h
              refine G_iconst (v := 0) dX12_meets_116 rfl ?_
              refine G_goto 147 dX12_meets_117 (by decide) ?_
              obtain ⟨b92, h⟩ := gck_some h
              refine G_zast sl_170 ss_170 (gin_in b92) dX12_meets_147 ?_
              refine G_mI fun I93 eI93 => ?_
              replace h := gL_some eI93 h
              refine G_goto 325 dX12_meets_148 (by decide) ?_
              refine S_iinc (v := (1 : Int32)) [some (.ref 149), some (.int x1), some (.int x2), some (.int x3), some (.int (x4 + (-1 : Int32))), some (.int (x5 + (1 : Int32))), some (.int z11), none] dX12_meets_325 rfl rfl (by decide) rfl ?_
              refine G_goto 33 dX12_meets_328 (by decide) ?_
              refine G_sub [some (.ref 149), some (.int x1), some (.int x2), some (.int x3), some (.int (x4 + (-1 : Int32))), some (.int (x5 + (1 : Int32))), none, none] ⟨rfl, rfl, rfl, rfl, rfl, rfl, trivial⟩ ?_
              exact ih _ _ _ h
            · replace h := gif c91 h
              refine G_aload_n dX12_meets_102 rfl rfl ?_
              refine G_getR fl_X12_79 sl_149 sk_149 rfl (rr_149_37 _) dX12_meets_103 ?_
              refine G_iload dX12_meets_106 rfl ?_
              obtain ⟨b94, h⟩ := gck_some h
              refine G_zald sl_170 ss_170 (gin_in b94) dX12_meets_108 ?_
              refine G_if_eq 116 dX12_meets_109 (by decide) (fun c95 => ?_) (fun c95 => ?_)
              · replace h := git c95 h
                refine G_iconst (v := 0) dX12_meets_116 rfl ?_
                refine G_goto 147 dX12_meets_117 (by decide) ?_
                obtain ⟨b96, h⟩ := gck_some h
                refine G_zast sl_170 ss_170 (gin_in b96) dX12_meets_147 ?_
                refine G_mI fun I97 eI97 => ?_
                replace h := gL_some eI97 h
                refine G_goto 325 dX12_meets_148 (by decide) ?_
                refine S_iinc (v := (1 : Int32)) [some (.ref 149), some (.int x1), some (.int x2), some (.int x3), some (.int (x4 + (-1 : Int32))), some (.int (x5 + (1 : Int32))), some (.int z11), none] dX12_meets_325 rfl rfl (by decide) rfl ?_
                refine G_goto 33 dX12_meets_328 (by decide) ?_
                refine G_sub [some (.ref 149), some (.int x1), some (.int x2), some (.int x3), some (.int (x4 + (-1 : Int32))), some (.int (x5 + (1 : Int32))), none, none] ⟨rfl, rfl, rfl, rfl, rfl, rfl, trivial⟩ ?_
                exact ih _ _ _ h
              · replace h := gif c95 h
                refine G_iconst (v := 1) dX12_meets_112 rfl ?_
                refine G_goto 147 dX12_meets_113 (by decide) ?_
                obtain ⟨b98, h⟩ := gck_some h
                refine G_zast sl_170 ss_170 (gin_in b98) dX12_meets_147 ?_
                refine G_mI fun I99 eI99 => ?_
                replace h := gL_some eI99 h
                refine G_goto 325 dX12_meets_148 (by decide) ?_
                refine S_iinc (v := (1 : Int32)) [some (.ref 149), some (.int x1), some (.int x2), some (.int x3), some (.int (x4 + (-1 : Int32))), some (.int (x5 + (1 : Int32))), some (.int z11), none] dX12_meets_325 rfl rfl (by decide) rfl ?_
                refine G_goto 33 dX12_meets_328 (by decide) ?_
                refine G_sub [some (.ref 149), some (.int x1), some (.int x2), some (.int x3), some (.int (x4 + (-1 : Int32))), some (.int (x5 + (1 : Int32))), none, none] ⟨rfl, rfl, rfl, rfl, rfl, rfl, trivial⟩ ?_
                exact ih _ _ _ h
set_option maxRecDepth 20000 in
theorem q_X12_meets {l : Launch} {I : gIt} {J : gJt} {w : Bool} {x1 : Int32} {x2 : Int32} {x3 : Int32} {v : (Int32 × gIt)} (h : p_X12_meets I x1 x2 x3 = some v) : Cn l gX12_meets 6 0 0 [.ref 149, .int x1, .int x2, .int x3] gS0 I J (gR0 w) (fun v' S' I' J' R' => v' = some (.int v.1) ∧ S' = gS0 ∧ I' = v.2 ∧ J' = J ∧ R' = gR0 w) := by
  refine Cn.of [some (.ref 149), some (.int x1), some (.int x2), some (.int x3), none, none, none, none] (by decide) rfl (Nat.le_of_ble_eq_true rfl) ?_
  rw [p_X12_meets] at h
  refine G_iconst (v := 0) dX12_meets_0 rfl ?_
  refine S_istore [some (.ref 149), some (.int x1), some (.int x2), some (.int x3), some (.int (0 : Int32)), none, none, none] dX12_meets_1 (by decide) rfl ?_
  refine G_aload_n dX12_meets_3 rfl rfl ?_
  refine G_getR fl_X12_54 sl_149 sk_149 rfl (rr_149_21 _) dX12_meets_4 ?_
  refine G_iload_n dX12_meets_7 rfl rfl ?_
  obtain ⟨b1, h⟩ := gck_some h
  refine G_iald sl_162 ss_162 (gin_in b1) dX12_meets_8 ?_
  refine G_aload_n dX12_meets_9 rfl rfl ?_
  refine G_getR fl_X12_57 sl_149 sk_149 rfl (rr_149_22 _) dX12_meets_10 ?_
  refine G_iload_n dX12_meets_13 rfl rfl ?_
  obtain ⟨b2, h⟩ := gck_some h
  refine G_iald sl_163 ss_163 (gin_in b2) dX12_meets_14 ?_
  refine G_icmp_ne 20 dX12_meets_15 (by decide) (fun c3 => ?_) (fun c3 => ?_)
  · replace h := gif c3 h
    refine G_bipush (v := 100) dX12_meets_20 rfl ?_
    refine G_iload_n dX12_meets_22 rfl rfl ?_
    refine G_imul dX12_meets_23 ?_
    refine G_aload_n dX12_meets_24 rfl rfl ?_
    refine G_getR fl_X12_54 sl_149 sk_149 rfl (rr_149_21 _) dX12_meets_25 ?_
    refine G_iload_n dX12_meets_28 rfl rfl ?_
    obtain ⟨b4, h⟩ := gck_some h
    refine G_iald sl_162 ss_162 (gin_in b4) dX12_meets_29 ?_
    refine G_iadd dX12_meets_30 ?_
    refine G_nI fun z5 ez5 => ?_
    replace h := gL_some ez5 h
    refine S_istore [some (.ref 149), some (.int x1), some (.int x2), some (.int x3), some (.int (0 : Int32)), some (.int z5), none, none] dX12_meets_31 (by decide) rfl ?_
    exact q_X12_meets_33   gFu _ _ _ h
  · replace h := git c3 h
    refine G_iconst (v := 1) dX12_meets_18 rfl ?_
    refine G_zret rfl (Or.inr rfl) (Nat.le_refl _) (Nat.le_refl _) dX12_meets_19 ?_
    cases h
    exact ⟨rfl, rfl, rfl, rfl, rfl⟩
def p_X12_gives (I : gIt) (x1 : Int32) (x2 : Int32) : Option gIt :=
  gB (α := Int32) (
  if (I 149 39) ≤ x2 then
  some (I 149 39)
  else
  some x2) fun ph1 =>
  gck (gin x1 16) (
  gL (((I 171 (x1).toNatClampNeg) + ph1)) fun z6 =>
  gck (gin x1 16) (
  gL (gu2 I 171 (x1).toNatClampNeg z6) fun I8 =>
  gL (((I8 149 39) - ph1)) fun z9 =>
  gL (gu2 I8 149 39 z9) fun I10 =>
  some I10))
set_option maxRecDepth 20000 in
theorem q_X12_gives {l : Launch} {I : gIt} {J : gJt} {w : Bool} {x1 : Int32} {x2 : Int32} {v : gIt} (h : p_X12_gives I x1 x2 = some v) : Cn l gX12_gives 2 0 0 [.ref 149, .int x1, .int x2] gS0 I J (gR0 w) (fun v' S' I' J' R' => v' = none ∧ S' = gS0 ∧ I' = v ∧ J' = J ∧ R' = gR0 w) := by
  refine Cn.of [some (.ref 149), some (.int x1), some (.int x2), none] (by decide) rfl (Nat.le_of_ble_eq_true rfl) ?_
  rw [p_X12_gives] at h
  refine G_iload_n dX12_gives_0 rfl rfl ?_
  refine G_aload_n dX12_gives_1 rfl rfl ?_
  refine G_getI fl_X12_323 sl_149 sk_149 rfl dX12_gives_2 ?_
  obtain ⟨ph1, t2, r3⟩ := gB_some h
  have jn4 : G l gX12_gives 2 0 0 (fun v' S' I' J' R' => v' = none ∧ S' = gS0 ∧ I' = v ∧ J' = J ∧ R' = gR0 w) 0 0 16 [some (.ref 149), some (.int x1), some (.int x2), none] [.int ph1] gS0 I J (gR0 w) := by
    refine S_istore_n [some (.ref 149), some (.int x1), some (.int x2), some (.int ph1)] dX12_gives_16 rfl (by decide) rfl ?_
    refine G_aload_n dX12_gives_17 rfl rfl ?_
    refine G_getR fl_X12_82 sl_149 sk_149 rfl (rr_149_38 _) dX12_gives_18 ?_
    refine G_iload_n dX12_gives_21 rfl rfl ?_
    refine G_dup2 dX12_gives_22 rfl rfl ?_
    obtain ⟨b5, r3⟩ := gck_some r3
    refine G_iald sl_171 ss_171 (gin_in b5) dX12_gives_23 ?_
    refine G_iload_n dX12_gives_24 rfl rfl ?_
    refine G_iadd dX12_gives_25 ?_
    refine G_nI fun z6 ez6 => ?_
    replace r3 := gL_some ez6 r3
    obtain ⟨b7, r3⟩ := gck_some r3
    refine G_iast sl_171 ss_171 (gin_in b7) dX12_gives_26 ?_
    refine G_mI fun I8 eI8 => ?_
    replace r3 := gL_some eI8 r3
    refine G_aload_n dX12_gives_27 rfl rfl ?_
    refine G_dup dX12_gives_28 rfl ?_
    refine G_getI fl_X12_323 sl_149 sk_149 rfl dX12_gives_29 ?_
    refine G_iload_n dX12_gives_32 rfl rfl ?_
    refine G_isub dX12_gives_33 ?_
    refine G_nI fun z9 ez9 => ?_
    replace r3 := gL_some ez9 r3
    refine G_putI fl_X12_323 sl_149 sk_149 rfl rfl ⟨rfl, rfl⟩ dX12_gives_34 ?_
    refine G_mI fun I10 eI10 => ?_
    replace r3 := gL_some eI10 r3
    refine G_vret rfl (Nat.le_refl _) (Nat.le_refl _) dX12_gives_37 ?_
    cases r3
    exact ⟨rfl, rfl, rfl, rfl, rfl⟩
  refine G_icmp_ge 12 dX12_gives_5 (by decide) (fun c11 => ?_) (fun c11 => ?_)
  · replace t2 := git c11 t2
    refine G_aload_n dX12_gives_12 rfl rfl ?_
    refine G_getI fl_X12_323 sl_149 sk_149 rfl dX12_gives_13 ?_
    cases t2
    exact jn4
  · replace t2 := gif c11 t2
    refine G_iload_n dX12_gives_8 rfl rfl ?_
    refine G_goto 16 dX12_gives_9 (by decide) ?_
    cases t2
    exact jn4
def p_X12_lets_171 (K88 : gIt → Int32 → Option gIt) (x1 : Int32) (x2 : Int32) (x3 : Int32) (x4 : Int32) (x5 : Int32) (x6 : Int32) (x7 : Int32) : Nat → gIt → Int32 → Option gIt
  | 0, _, _ => none
  | n + 1, I, x8 =>
    if (I 149 3) ≤ x8 then
    K88 I (x4 + (1 : Int32))
    else
    gB (p_X12_has x6 x8) fun r25 =>
    if r25 = 0 then
    p_X12_lets_171 K88 x1 x2 x3 x4 x5 x6 x7 n I (x8 + (1 : Int32))
    else
    gck (decide (¬ x7 = 0)) (
    gB (p_X12_gives I x8 (x5 / x7)) fun r29 =>
    p_X12_lets_171 K88 x1 x2 x3 x4 x5 x6 x7 n r29 (x8 + (1 : Int32)))
def p_X12_lets_88 (x1 : Int32) (x2 : Int32) (x3 : Int32) : Nat → gIt → Int32 → Option gIt
  | 0, _, _ => none
  | n + 1, I, x4 =>
    gck (gin x3 80) (
    if (((4 : Int32) * x3) + (I 161 (x3).toNatClampNeg)) ≤ x4 then
    some I
    else
    gck (gin x1 10) (
    gck (gin x4 320) (
    gck (decide (¬ (I 166 (x4).toNatClampNeg) = 0)) (
    gL (((I 157 (x1).toNatClampNeg) / (I 166 (x4).toNatClampNeg))) fun z16 =>
    gck (gin x4 320) (
    gB (α := Int32) (
    if (I 164 (x4).toNatClampNeg) = 0 then
    gck (gin x4 320) (
    some (x2 &&& (gshl (1 : Int32) (I 165 (x4).toNatClampNeg))))
    else
    gck (gin x4 320) (
    gB (p_X12_childrenOf I (I 165 (x4).toNatClampNeg) (1999 : Int32)) fun r34 =>
    some (r34 &&& x2))) fun ph18 =>
    gB (p_X12_sizeOf ph18) fun r22 =>
    p_X12_lets_171 (fun I x4 => p_X12_lets_88 x1 x2 x3 n I x4) x1 x2 x3 x4 z16 ph18 r22 gFu I (0 : Int32))))))
def p_X12_lets_36 (x1 : Int32) (x2 : Int32) : Nat → gIt → Int32 → Option gIt
  | 0, _, _ => none
  | n + 1, I, x3 =>
    gck (gin x1 10) (
    if (((8 : Int32) * x1) + (I 160 (x1).toNatClampNeg)) ≤ x3 then
    gck (gin x1 10) (
    if x3 = (((8 : Int32) * x1) + (I 160 (x1).toNatClampNeg)) then
    some I
    else
    gL (((4 : Int32) * x3)) fun z10 =>
    p_X12_lets_88 x1 x2 x3 gFu I z10)
    else
    gB (p_X12_meets I x1 x3 x2) fun r36 =>
    if r36.1 = 0 then
    p_X12_lets_36 x1 x2 n r36.2 (x3 + (1 : Int32))
    else
    gck (gin x1 10) (
    if x3 = (((8 : Int32) * x1) + (r36.2 160 (x1).toNatClampNeg)) then
    some r36.2
    else
    gL (((4 : Int32) * x3)) fun z41 =>
    p_X12_lets_88 x1 x2 x3 gFu r36.2 z41))
def p_X12_lets_2 (x1 : Int32) (x2 : Int32) : Nat → gIt → Int32 → Option gIt
  | 0, _, _ => none
  | n + 1, I, x3 =>
    if (16 : Int32) ≤ x3 then
    gck (gin x1 10) (
    gL ((I 157 (x1).toNatClampNeg)) fun z3 =>
    gL (gu2 I 149 39 z3) fun I4 =>
    gL (((8 : Int32) * x1)) fun z5 =>
    p_X12_lets_36 x1 x2 gFu I4 z5)
    else
    gck (gin x3 16) (
    gL (gu2 I 171 (x3).toNatClampNeg (0 : Int32)) fun I43 =>
    p_X12_lets_2 x1 x2 n I43 (x3 + (1 : Int32)))
def p_X12_lets (I : gIt) (x1 : Int32) (x2 : Int32) : Option gIt :=
  p_X12_lets_2 x1 x2 gFu I (0 : Int32)
set_option maxRecDepth 20000 in
theorem q_X12_lets_171 {l : Launch} {v : gIt} {J : gJt} {w : Bool} {K88 : gIt → Int32 → Option gIt} {x1 : Int32} {x2 : Int32} {x3 : Int32} {x4 : Int32} {x5 : Int32} {x6 : Int32} {x7 : Int32} (hK88 : ∀ (I : gIt) (x4 : Int32), K88 I x4 = some v → G l gX12_lets 7 0 0 (fun v' S' I' J' R' => v' = none ∧ S' = gS0 ∧ I' = v ∧ J' = J ∧ R' = gR0 w) 0 0 88 [some (.ref 149), some (.int x1), some (.int x2), some (.int x3), some (.int x4), none, none, none, none] [] gS0 I J (gR0 w)) : ∀ (n : Nat) (I : gIt) (x8 : Int32), p_X12_lets_171 K88 x1 x2 x3 x4 x5 x6 x7 n I x8 = some v → G l gX12_lets 7 0 0 (fun v' S' I' J' R' => v' = none ∧ S' = gS0 ∧ I' = v ∧ J' = J ∧ R' = gR0 w) 0 0 171 [some (.ref 149), some (.int x1), some (.int x2), some (.int x3), some (.int x4), some (.int x5), some (.int x6), some (.int x7), some (.int x8)] [] gS0 I J (gR0 w) := by
  intro n
  induction n with
  | zero => intro _ _ h; cases h
  | succ n ih =>
    intro I x8 h
    rw [p_X12_lets_171] at h
    refine G_iload dX12_lets_171 rfl ?_
    refine G_aload_n dX12_lets_173 rfl rfl ?_
    refine G_getI fl_X12_160 sl_149 sk_149 rfl dX12_lets_174 ?_
    refine G_icmp_ge 207 dX12_lets_177 (by decide) (fun c24 => ?_) (fun c24 => ?_)
    · replace h := git c24 h
      refine S_iinc (v := (1 : Int32)) [some (.ref 149), some (.int x1), some (.int x2), some (.int x3), some (.int (x4 + (1 : Int32))), some (.int x5), some (.int x6), some (.int x7), some (.int x8)] dX12_lets_207 rfl rfl (by decide) rfl ?_
      refine G_goto 88 dX12_lets_210 (by decide) ?_
      refine G_sub [some (.ref 149), some (.int x1), some (.int x2), some (.int x3), some (.int (x4 + (1 : Int32))), none, none, none, none] ⟨rfl, rfl, rfl, rfl, rfl, trivial⟩ ?_
      exact hK88 _ _ h
    · replace h := gif c24 h
      refine G_iload dX12_lets_180 rfl ?_
      refine G_iload dX12_lets_182 rfl ?_
      obtain ⟨r25, hr26, h⟩ := gB_some h
      refine G_cS (mj := gX12_has) (As := [.int x6, .int x8]) (rest := []) ml_X12_320 vX12_has rfl rfl (Nat.le_of_ble_eq_true rfl) (by decide) (Nat.le_refl _) (Nat.le_refl _) dX12_lets_184 (q_X12_has hr26) ?_
      refine G_if_eq 201 dX12_lets_187 (by decide) (fun c27 => ?_) (fun c27 => ?_)
      · replace h := git c27 h
        refine S_iinc (v := (1 : Int32)) [some (.ref 149), some (.int x1), some (.int x2), some (.int x3), some (.int x4), some (.int x5), some (.int x6), some (.int x7), some (.int (x8 + (1 : Int32)))] dX12_lets_201 rfl rfl (by decide) rfl ?_
        refine G_goto 171 dX12_lets_204 (by decide) ?_
        exact ih _ _ h
      · replace h := gif c27 h
        refine G_aload_n dX12_lets_190 rfl rfl ?_
        refine G_iload dX12_lets_191 rfl ?_
        refine G_iload dX12_lets_193 rfl ?_
        refine G_iload dX12_lets_195 rfl ?_
        obtain ⟨b28, h⟩ := gck_some h
        refine G_idiv dX12_lets_197 (of_decide_eq_true b28) ?_
        obtain ⟨r29, hr30, h⟩ := gB_some h
        refine G_cV (mj := gX12_gives) (As := [.int x8, .int (x5 / x7)]) (rest := []) ml_X12_330 vX12_gives sl_149 sk_149 (by decide) rfl rfl rfl (Nat.le_of_ble_eq_true rfl) (by decide) (Nat.le_refl _) (Nat.le_refl _) dX12_lets_198 (q_X12_gives hr30) ?_
        refine S_iinc (v := (1 : Int32)) [some (.ref 149), some (.int x1), some (.int x2), some (.int x3), some (.int x4), some (.int x5), some (.int x6), some (.int x7), some (.int (x8 + (1 : Int32)))] dX12_lets_201 rfl rfl (by decide) rfl ?_
        refine G_goto 171 dX12_lets_204 (by decide) ?_
        exact ih _ _ h
set_option maxRecDepth 20000 in
theorem q_X12_lets_88 {l : Launch} {v : gIt} {J : gJt} {w : Bool} {x1 : Int32} {x2 : Int32} {x3 : Int32} : ∀ (n : Nat) (I : gIt) (x4 : Int32), p_X12_lets_88 x1 x2 x3 n I x4 = some v → G l gX12_lets 7 0 0 (fun v' S' I' J' R' => v' = none ∧ S' = gS0 ∧ I' = v ∧ J' = J ∧ R' = gR0 w) 0 0 88 [some (.ref 149), some (.int x1), some (.int x2), some (.int x3), some (.int x4), none, none, none, none] [] gS0 I J (gR0 w) := by
  intro n
  induction n with
  | zero => intro _ _ h; cases h
  | succ n ih =>
    intro I x4 h
    rw [p_X12_lets_88] at h
    refine G_iload dX12_lets_88 rfl ?_
    refine G_iconst (v := 4) dX12_lets_90 rfl ?_
    refine G_iload_n dX12_lets_91 rfl rfl ?_
    refine G_imul dX12_lets_92 ?_
    refine G_aload_n dX12_lets_93 rfl rfl ?_
    refine G_getR fl_X12_51 sl_149 sk_149 rfl (rr_149_20 _) dX12_lets_94 ?_
    refine G_iload_n dX12_lets_97 rfl rfl ?_
    obtain ⟨b11, h⟩ := gck_some h
    refine G_iald sl_161 ss_161 (gin_in b11) dX12_lets_98 ?_
    refine G_iadd dX12_lets_99 ?_
    refine G_icmp_ge 213 dX12_lets_100 (by decide) (fun c12 => ?_) (fun c12 => ?_)
    · replace h := git c12 h
      refine G_vret rfl (Nat.le_refl _) (Nat.le_refl _) dX12_lets_213 ?_
      cases h
      exact ⟨rfl, rfl, rfl, rfl, rfl⟩
    · replace h := gif c12 h
      refine G_aload_n dX12_lets_103 rfl rfl ?_
      refine G_getR fl_X12_39 sl_149 sk_149 rfl (rr_149_16 _) dX12_lets_104 ?_
      refine G_iload_n dX12_lets_107 rfl rfl ?_
      obtain ⟨b13, h⟩ := gck_some h
      refine G_iald sl_157 ss_157 (gin_in b13) dX12_lets_108 ?_
      refine G_aload_n dX12_lets_109 rfl rfl ?_
      refine G_getR fl_X12_67 sl_149 sk_149 rfl (rr_149_25 _) dX12_lets_110 ?_
      refine G_iload dX12_lets_113 rfl ?_
      obtain ⟨b14, h⟩ := gck_some h
      refine G_iald sl_166 ss_166 (gin_in b14) dX12_lets_115 ?_
      obtain ⟨b15, h⟩ := gck_some h
      refine G_idiv dX12_lets_116 (of_decide_eq_true b15) ?_
      refine G_nI fun z16 ez16 => ?_
      replace h := gL_some ez16 h
      refine S_istore [some (.ref 149), some (.int x1), some (.int x2), some (.int x3), some (.int x4), some (.int z16), none, none, none] dX12_lets_117 (by decide) rfl ?_
      refine G_aload_n dX12_lets_119 rfl rfl ?_
      refine G_getR fl_X12_60 sl_149 sk_149 rfl (rr_149_23 _) dX12_lets_120 ?_
      refine G_iload dX12_lets_123 rfl ?_
      obtain ⟨b17, h⟩ := gck_some h
      refine G_zald sl_164 ss_164 (gin_in b17) dX12_lets_125 ?_
      obtain ⟨ph18, t19, r20⟩ := gB_some h
      have jn21 : G l gX12_lets 7 0 0 (fun v' S' I' J' R' => v' = none ∧ S' = gS0 ∧ I' = v ∧ J' = J ∧ R' = gR0 w) 0 0 159 [some (.ref 149), some (.int x1), some (.int x2), some (.int x3), some (.int x4), some (.int z16), none, none, none] [.int ph18] gS0 I J (gR0 w) := by
        refine S_istore [some (.ref 149), some (.int x1), some (.int x2), some (.int x3), some (.int x4), some (.int z16), some (.int ph18), none, none] dX12_lets_159 (by decide) rfl ?_
        refine G_iload dX12_lets_161 rfl ?_
        obtain ⟨r22, hr23, r20⟩ := gB_some r20
        refine G_cS (mj := gX12_sizeOf) (As := [.int ph18]) (rest := []) ml_X12_317 vX12_sizeOf rfl rfl (Nat.le_of_ble_eq_true rfl) (by decide) (Nat.le_refl _) (Nat.le_refl _) dX12_lets_163 (q_X12_sizeOf hr23) ?_
        refine S_istore [some (.ref 149), some (.int x1), some (.int x2), some (.int x3), some (.int x4), some (.int z16), some (.int ph18), some (.int r22), none] dX12_lets_166 (by decide) rfl ?_
        refine G_iconst (v := 0) dX12_lets_168 rfl ?_
        refine S_istore [some (.ref 149), some (.int x1), some (.int x2), some (.int x3), some (.int x4), some (.int z16), some (.int ph18), some (.int r22), some (.int (0 : Int32))] dX12_lets_169 (by decide) rfl ?_
        exact q_X12_lets_171 (fun I' x4' hq => ih I' x4' hq)  gFu _ _ r20
      refine G_if_eq 148 dX12_lets_126 (by decide) (fun c31 => ?_) (fun c31 => ?_)
      · replace t19 := git c31 t19
        refine G_iload_n dX12_lets_148 rfl rfl ?_
        refine G_iconst (v := 1) dX12_lets_149 rfl ?_
        refine G_aload_n dX12_lets_150 rfl rfl ?_
        refine G_getR fl_X12_64 sl_149 sk_149 rfl (rr_149_24 _) dX12_lets_151 ?_
        refine G_iload dX12_lets_154 rfl ?_
        obtain ⟨b32, t19⟩ := gck_some t19
        refine G_iald sl_165 ss_165 (gin_in b32) dX12_lets_156 ?_
        refine G_shl dX12_lets_157 ?_
        refine G_iand dX12_lets_158 ?_
        cases t19
        exact jn21
      · replace t19 := gif c31 t19
        refine G_aload_n dX12_lets_129 rfl rfl ?_
        refine G_aload_n dX12_lets_130 rfl rfl ?_
        refine G_getR fl_X12_64 sl_149 sk_149 rfl (rr_149_24 _) dX12_lets_131 ?_
        refine G_iload dX12_lets_134 rfl ?_
        obtain ⟨b33, t19⟩ := gck_some t19
        refine G_iald sl_165 ss_165 (gin_in b33) dX12_lets_136 ?_
        refine G_sipush (v := 1999) dX12_lets_137 rfl ?_
        obtain ⟨r34, hr35, t19⟩ := gB_some t19
        refine G_cV (mj := gX12_childrenOf) (As := [.int (I 165 (x4).toNatClampNeg), .int (1999 : Int32)]) (rest := []) ml_X12_305 vX12_childrenOf sl_149 sk_149 (by decide) rfl rfl rfl (Nat.le_of_ble_eq_true rfl) (by decide) (Nat.le_refl _) (Nat.le_refl _) dX12_lets_140 (q_X12_childrenOf hr35) ?_
        refine G_iload_n dX12_lets_143 rfl rfl ?_
        refine G_iand dX12_lets_144 ?_
        refine G_goto 159 dX12_lets_145 (by decide) ?_
        cases t19
        exact jn21
set_option maxRecDepth 20000 in
theorem q_X12_lets_36 {l : Launch} {v : gIt} {J : gJt} {w : Bool} {x1 : Int32} {x2 : Int32} : ∀ (n : Nat) (I : gIt) (x3 : Int32), p_X12_lets_36 x1 x2 n I x3 = some v → G l gX12_lets 7 0 0 (fun v' S' I' J' R' => v' = none ∧ S' = gS0 ∧ I' = v ∧ J' = J ∧ R' = gR0 w) 0 0 36 [some (.ref 149), some (.int x1), some (.int x2), some (.int x3), none, none, none, none, none] [] gS0 I J (gR0 w) := by
  intro n
  induction n with
  | zero => intro _ _ h; cases h
  | succ n ih =>
    intro I x3 h
    rw [p_X12_lets_36] at h
    refine G_iload_n dX12_lets_36 rfl rfl ?_
    refine G_bipush (v := 8) dX12_lets_37 rfl ?_
    refine G_iload_n dX12_lets_39 rfl rfl ?_
    refine G_imul dX12_lets_40 ?_
    refine G_aload_n dX12_lets_41 rfl rfl ?_
    refine G_getR fl_X12_48 sl_149 sk_149 rfl (rr_149_19 _) dX12_lets_42 ?_
    refine G_iload_n dX12_lets_45 rfl rfl ?_
    obtain ⟨b6, h⟩ := gck_some h
    refine G_iald sl_160 ss_160 (gin_in b6) dX12_lets_46 ?_
    refine G_iadd dX12_lets_47 ?_
    refine G_icmp_ge 67 dX12_lets_48 (by decide) (fun c7 => ?_) (fun c7 => ?_)
    · replace h := git c7 h
      refine G_iload_n dX12_lets_67 rfl rfl ?_
      refine G_bipush (v := 8) dX12_lets_68 rfl ?_
      refine G_iload_n dX12_lets_70 rfl rfl ?_
      refine G_imul dX12_lets_71 ?_
      refine G_aload_n dX12_lets_72 rfl rfl ?_
      refine G_getR fl_X12_48 sl_149 sk_149 rfl (rr_149_19 _) dX12_lets_73 ?_
      refine G_iload_n dX12_lets_76 rfl rfl ?_
      obtain ⟨b8, h⟩ := gck_some h
      refine G_iald sl_160 ss_160 (gin_in b8) dX12_lets_77 ?_
      refine G_iadd dX12_lets_78 ?_
      refine G_icmp_ne 83 dX12_lets_79 (by decide) (fun c9 => ?_) (fun c9 => ?_)
      · replace h := gif c9 h
        refine G_iconst (v := 4) dX12_lets_83 rfl ?_
        refine G_iload_n dX12_lets_84 rfl rfl ?_
        refine G_imul dX12_lets_85 ?_
        refine G_nI fun z10 ez10 => ?_
        replace h := gL_some ez10 h
        refine S_istore [some (.ref 149), some (.int x1), some (.int x2), some (.int x3), some (.int z10), none, none, none, none] dX12_lets_86 (by decide) rfl ?_
        exact q_X12_lets_88   gFu _ _ h
      · replace h := git c9 h
        refine G_vret rfl (Nat.le_refl _) (Nat.le_refl _) dX12_lets_82 ?_
        cases h
        exact ⟨rfl, rfl, rfl, rfl, rfl⟩
    · replace h := gif c7 h
      refine G_aload_n dX12_lets_51 rfl rfl ?_
      refine G_iload_n dX12_lets_52 rfl rfl ?_
      refine G_iload_n dX12_lets_53 rfl rfl ?_
      refine G_iload_n dX12_lets_54 rfl rfl ?_
      obtain ⟨r36, hr37, h⟩ := gB_some h
      refine G_cV (mj := gX12_meets) (As := [.int x1, .int x3, .int x2]) (rest := []) ml_X12_326 vX12_meets sl_149 sk_149 (by decide) rfl rfl rfl (Nat.le_of_ble_eq_true rfl) (by decide) (Nat.le_refl _) (Nat.le_refl _) dX12_lets_55 (q_X12_meets hr37) ?_
      refine G_if_ne 67 dX12_lets_58 (by decide) (fun c38 => ?_) (fun c38 => ?_)
      · replace h := gif c38 h
        refine G_iload_n dX12_lets_67 rfl rfl ?_
        refine G_bipush (v := 8) dX12_lets_68 rfl ?_
        refine G_iload_n dX12_lets_70 rfl rfl ?_
        refine G_imul dX12_lets_71 ?_
        refine G_aload_n dX12_lets_72 rfl rfl ?_
        refine G_getR fl_X12_48 sl_149 sk_149 rfl (rr_149_19 _) dX12_lets_73 ?_
        refine G_iload_n dX12_lets_76 rfl rfl ?_
        obtain ⟨b39, h⟩ := gck_some h
        refine G_iald sl_160 ss_160 (gin_in b39) dX12_lets_77 ?_
        refine G_iadd dX12_lets_78 ?_
        refine G_icmp_ne 83 dX12_lets_79 (by decide) (fun c40 => ?_) (fun c40 => ?_)
        · replace h := gif c40 h
          refine G_iconst (v := 4) dX12_lets_83 rfl ?_
          refine G_iload_n dX12_lets_84 rfl rfl ?_
          refine G_imul dX12_lets_85 ?_
          refine G_nI fun z41 ez41 => ?_
          replace h := gL_some ez41 h
          refine S_istore [some (.ref 149), some (.int x1), some (.int x2), some (.int x3), some (.int z41), none, none, none, none] dX12_lets_86 (by decide) rfl ?_
          exact q_X12_lets_88   gFu _ _ h
        · replace h := git c40 h
          refine G_vret rfl (Nat.le_refl _) (Nat.le_refl _) dX12_lets_82 ?_
          cases h
          exact ⟨rfl, rfl, rfl, rfl, rfl⟩
      · replace h := git c38 h
        refine S_iinc (v := (1 : Int32)) [some (.ref 149), some (.int x1), some (.int x2), some (.int (x3 + (1 : Int32))), none, none, none, none, none] dX12_lets_61 rfl rfl (by decide) rfl ?_
        refine G_goto 36 dX12_lets_64 (by decide) ?_
        exact ih _ _ h
set_option maxRecDepth 20000 in
theorem q_X12_lets_2 {l : Launch} {v : gIt} {J : gJt} {w : Bool} {x1 : Int32} {x2 : Int32} : ∀ (n : Nat) (I : gIt) (x3 : Int32), p_X12_lets_2 x1 x2 n I x3 = some v → G l gX12_lets 7 0 0 (fun v' S' I' J' R' => v' = none ∧ S' = gS0 ∧ I' = v ∧ J' = J ∧ R' = gR0 w) 0 0 2 [some (.ref 149), some (.int x1), some (.int x2), some (.int x3), none, none, none, none, none] [] gS0 I J (gR0 w) := by
  intro n
  induction n with
  | zero => intro _ _ h; cases h
  | succ n ih =>
    intro I x3 h
    rw [p_X12_lets_2] at h
    refine G_iload_n dX12_lets_2 rfl rfl ?_
    refine G_bipush (v := 16) dX12_lets_3 rfl ?_
    refine G_icmp_ge 21 dX12_lets_5 (by decide) (fun c1 => ?_) (fun c1 => ?_)
    · replace h := git c1 h
      refine G_aload_n dX12_lets_21 rfl rfl ?_
      refine G_aload_n dX12_lets_22 rfl rfl ?_
      refine G_getR fl_X12_39 sl_149 sk_149 rfl (rr_149_16 _) dX12_lets_23 ?_
      refine G_iload_n dX12_lets_26 rfl rfl ?_
      obtain ⟨b2, h⟩ := gck_some h
      refine G_iald sl_157 ss_157 (gin_in b2) dX12_lets_27 ?_
      refine G_nI fun z3 ez3 => ?_
      replace h := gL_some ez3 h
      refine G_putI fl_X12_323 sl_149 sk_149 rfl rfl ⟨rfl, rfl⟩ dX12_lets_28 ?_
      refine G_mI fun I4 eI4 => ?_
      replace h := gL_some eI4 h
      refine G_bipush (v := 8) dX12_lets_31 rfl ?_
      refine G_iload_n dX12_lets_33 rfl rfl ?_
      refine G_imul dX12_lets_34 ?_
      refine G_nI fun z5 ez5 => ?_
      replace h := gL_some ez5 h
      refine S_istore_n [some (.ref 149), some (.int x1), some (.int x2), some (.int z5), none, none, none, none, none] dX12_lets_35 rfl (by decide) rfl ?_
      exact q_X12_lets_36   gFu _ _ h
    · replace h := gif c1 h
      refine G_aload_n dX12_lets_8 rfl rfl ?_
      refine G_getR fl_X12_82 sl_149 sk_149 rfl (rr_149_38 _) dX12_lets_9 ?_
      refine G_iload_n dX12_lets_12 rfl rfl ?_
      refine G_iconst (v := 0) dX12_lets_13 rfl ?_
      obtain ⟨b42, h⟩ := gck_some h
      refine G_iast sl_171 ss_171 (gin_in b42) dX12_lets_14 ?_
      refine G_mI fun I43 eI43 => ?_
      replace h := gL_some eI43 h
      refine S_iinc (v := (1 : Int32)) [some (.ref 149), some (.int x1), some (.int x2), some (.int (x3 + (1 : Int32))), none, none, none, none, none] dX12_lets_15 rfl rfl (by decide) rfl ?_
      refine G_goto 2 dX12_lets_18 (by decide) ?_
      exact ih _ _ h
set_option maxRecDepth 20000 in
theorem q_X12_lets {l : Launch} {I : gIt} {J : gJt} {w : Bool} {x1 : Int32} {x2 : Int32} {v : gIt} (h : p_X12_lets I x1 x2 = some v) : Cn l gX12_lets 7 0 0 [.ref 149, .int x1, .int x2] gS0 I J (gR0 w) (fun v' S' I' J' R' => v' = none ∧ S' = gS0 ∧ I' = v ∧ J' = J ∧ R' = gR0 w) := by
  refine Cn.of [some (.ref 149), some (.int x1), some (.int x2), none, none, none, none, none, none] (by decide) rfl (Nat.le_of_ble_eq_true rfl) ?_
  rw [p_X12_lets] at h
  refine G_iconst (v := 0) dX12_lets_0 rfl ?_
  refine S_istore_n [some (.ref 149), some (.int x1), some (.int x2), some (.int (0 : Int32)), none, none, none, none, none] dX12_lets_1 rfl (by decide) rfl ?_
  exact q_X12_lets_2   gFu _ _ h
def p_X12_falls (I : gIt) (x1 : Int32) (x2 : Int32) (x3 : Int32) : Option (Int32 × gIt) :=
  gB (p_X12_isSettlement I x1) fun r1 =>
  if r1 = 0 then
  some ((-1 : Int32), I)
  else
  gB (p_X12_isPerson I x3) fun r4 =>
  if r4 = 0 then
  some ((-1 : Int32), I)
  else
  gB (p_X12_lies (Int32.toInt64 x2) (0 : Int64) (Int32.toInt64 ((gshl (1 : Int32) (I 149 3)) - (1 : Int32)))) fun r7 =>
  if r7 = 0 then
  some ((-1 : Int32), I)
  else
  gB (p_X12_namedSet I x1 (I 149 2)) fun r10 =>
  gB (p_X12_lets I x1 (x2 &&& r10)) fun r12 =>
  gck (gin x3 16) (
  some ((r12 171 (x3).toNatClampNeg), r12))
set_option maxRecDepth 20000 in
theorem q_X12_falls {l : Launch} {I : gIt} {J : gJt} {w : Bool} {x1 : Int32} {x2 : Int32} {x3 : Int32} {v : (Int32 × gIt)} (h : p_X12_falls I x1 x2 x3 = some v) : Cn l gX12_falls 8 0 0 [.ref 149, .int x1, .int x2, .int x3] gS0 I J (gR0 w) (fun v' S' I' J' R' => v' = some (.int v.1) ∧ S' = gS0 ∧ I' = v.2 ∧ J' = J ∧ R' = gR0 w) := by
  refine Cn.of [some (.ref 149), some (.int x1), some (.int x2), some (.int x3)] (by decide) rfl (Nat.le_of_ble_eq_true rfl) ?_
  rw [p_X12_falls] at h
  refine G_aload_n dX12_falls_0 rfl rfl ?_
  refine G_iload_n dX12_falls_1 rfl rfl ?_
  obtain ⟨r1, hr2, h⟩ := gB_some h
  refine G_cV (mj := gX12_isSettlement) (As := [.int x1]) (rest := []) ml_X12_308 vX12_isSettlement sl_149 sk_149 (by decide) rfl rfl rfl (Nat.le_of_ble_eq_true rfl) (by decide) (Nat.le_refl _) (Nat.le_refl _) dX12_falls_2 (q_X12_isSettlement hr2) ?_
  refine G_if_eq 34 dX12_falls_5 (by decide) (fun c3 => ?_) (fun c3 => ?_)
  · replace h := git c3 h
    refine G_iconst (v := -1) dX12_falls_34 rfl ?_
    refine G_iret rfl (Nat.le_refl _) (Nat.le_refl _) dX12_falls_35 ?_
    cases h
    exact ⟨rfl, rfl, rfl, rfl, rfl⟩
  · replace h := gif c3 h
    refine G_aload_n dX12_falls_8 rfl rfl ?_
    refine G_iload_n dX12_falls_9 rfl rfl ?_
    obtain ⟨r4, hr5, h⟩ := gB_some h
    refine G_cV (mj := gX12_isPerson) (As := [.int x3]) (rest := []) ml_X12_165 vX12_isPerson sl_149 sk_149 (by decide) rfl rfl rfl (Nat.le_of_ble_eq_true rfl) (by decide) (Nat.le_refl _) (Nat.le_refl _) dX12_falls_10 (q_X12_isPerson hr5) ?_
    refine G_if_eq 34 dX12_falls_13 (by decide) (fun c6 => ?_) (fun c6 => ?_)
    · replace h := git c6 h
      refine G_iconst (v := -1) dX12_falls_34 rfl ?_
      refine G_iret rfl (Nat.le_refl _) (Nat.le_refl _) dX12_falls_35 ?_
      cases h
      exact ⟨rfl, rfl, rfl, rfl, rfl⟩
    · replace h := gif c6 h
      refine G_iload_n dX12_falls_16 rfl rfl ?_
      refine G_i2l dX12_falls_17 ?_
      refine G_lconst (v := 0) dX12_falls_18 rfl ?_
      refine G_iconst (v := 1) dX12_falls_19 rfl ?_
      refine G_aload_n dX12_falls_20 rfl rfl ?_
      refine G_getI fl_X12_160 sl_149 sk_149 rfl dX12_falls_21 ?_
      refine G_shl dX12_falls_24 ?_
      refine G_iconst (v := 1) dX12_falls_25 rfl ?_
      refine G_isub dX12_falls_26 ?_
      refine G_i2l dX12_falls_27 ?_
      obtain ⟨r7, hr8, h⟩ := gB_some h
      refine G_cS (mj := gX12_lies) (As := [.long (Int32.toInt64 x2), .long (0 : Int64), .long (Int32.toInt64 ((gshl (1 : Int32) (I 149 3)) - (1 : Int32)))]) (rest := []) ml_X12_156 vX12_lies rfl rfl (Nat.le_of_ble_eq_true rfl) (by decide) (Nat.le_refl _) (Nat.le_refl _) dX12_falls_28 (q_X12_lies hr8) ?_
      refine G_if_ne 36 dX12_falls_31 (by decide) (fun c9 => ?_) (fun c9 => ?_)
      · replace h := gif c9 h
        refine G_aload_n dX12_falls_36 rfl rfl ?_
        refine G_iload_n dX12_falls_37 rfl rfl ?_
        refine G_iload_n dX12_falls_38 rfl rfl ?_
        refine G_aload_n dX12_falls_39 rfl rfl ?_
        refine G_iload_n dX12_falls_40 rfl rfl ?_
        refine G_aload_n dX12_falls_41 rfl rfl ?_
        refine G_getI fl_X12_13 sl_149 sk_149 rfl dX12_falls_42 ?_
        obtain ⟨r10, hr11, h⟩ := gB_some h
        refine G_cV (mj := gX12_namedSet) (As := [.int x1, .int (I 149 2)]) (rest := [.int x2, .int x1, .ref 149]) ml_X12_314 vX12_namedSet sl_149 sk_149 (by decide) rfl rfl rfl (Nat.le_of_ble_eq_true rfl) (by decide) (Nat.le_refl _) (Nat.le_refl _) dX12_falls_45 (q_X12_namedSet hr11) ?_
        refine G_iand dX12_falls_48 ?_
        obtain ⟨r12, hr13, h⟩ := gB_some h
        refine G_cV (mj := gX12_lets) (As := [.int x1, .int (x2 &&& r10)]) (rest := []) ml_X12_333 vX12_lets sl_149 sk_149 (by decide) rfl rfl rfl (Nat.le_of_ble_eq_true rfl) (by decide) (Nat.le_refl _) (Nat.le_refl _) dX12_falls_49 (q_X12_lets hr13) ?_
        refine G_aload_n dX12_falls_52 rfl rfl ?_
        refine G_getR fl_X12_82 sl_149 sk_149 rfl (rr_149_38 _) dX12_falls_53 ?_
        refine G_iload_n dX12_falls_56 rfl rfl ?_
        obtain ⟨b14, h⟩ := gck_some h
        refine G_iald sl_171 ss_171 (gin_in b14) dX12_falls_57 ?_
        refine G_iret rfl (Nat.le_refl _) (Nat.le_refl _) dX12_falls_58 ?_
        cases h
        exact ⟨rfl, rfl, rfl, rfl, rfl⟩
      · replace h := git c9 h
        refine G_iconst (v := -1) dX12_falls_34 rfl ?_
        refine G_iret rfl (Nat.le_refl _) (Nat.le_refl _) dX12_falls_35 ?_
        cases h
        exact ⟨rfl, rfl, rfl, rfl, rfl⟩
def p_X12_isReckoned_70 (x1 : Int32) (x2 : Int32) (x3 : Int32) (x4 : Int32) (x5 : Int32) : Nat → gIt → gJt → Int32 → Option (Int32 × gIt × gJt)
  | 0, _, _, _ => none
  | n + 1, I, J, x6 =>
    if (I 149 3) ≤ x6 then
    if (lg_cmp (J 149 42) (0 : Int64)) ≤ 0 then
    some ((0 : Int32), I, J)
    else
    some ((1 : Int32), I, J)
    else
    gB (p_X12_has x5 x6) fun r20 =>
    if r20 = 0 then
    p_X12_isReckoned_70 x1 x2 x3 x4 x5 n I J (x6 + (1 : Int32))
    else
    gB (p_X12_isDead I x6 x2) fun r23 =>
    if r23 = 0 then
    if (I 149 40) = (4 : Int32) then
    some ((0 : Int32), I, J)
    else
    gck (gin (I 149 40) 4) (
    gL (gu2 I 172 ((I 149 40)).toNatClampNeg x6) fun I28 =>
    gL (((I28 149 40) + (1 : Int32))) fun z29 =>
    gL (gu2 I28 149 40 z29) fun I30 =>
    gck (gin x1 10) (
    gck (gin x6 16) (
    gB (p_X12_livesAt I30 (I30 159 (x1).toNatClampNeg) (x3 - (I30 151 (x6).toNatClampNeg))) fun r33 =>
    gL (((J 149 42) * (Int32.toInt64 r33))) fun u35 =>
    gL (gu2 J 149 42 u35) fun J36 =>
    p_X12_isReckoned_70 x1 x2 x3 x4 x5 n I30 J36 (x6 + (1 : Int32)))))
    else
    p_X12_isReckoned_70 x1 x2 x3 x4 x5 n I J (x6 + (1 : Int32))
def p_X12_isReckoned (I : gIt) (J : gJt) (x1 : Int32) (x2 : Int32) (x3 : Int32) : Option (Int32 × gIt × gJt) :=
  gck (gin x1 10) (
  gL ((I 158 (x1).toNatClampNeg)) fun z2 =>
  gB (p_X12_isThere I z2 x2) fun r3 =>
  if r3 = 0 then
  some ((0 : Int32), I, J)
  else
  gB (p_X12_isDead I z2 x2) fun r6 =>
  if r6 = 0 then
  gB (p_X12_namedSet I x1 x2) fun r9 =>
  gL (gu2 I 149 40 (0 : Int32)) fun I11 =>
  gck (gin x1 10) (
  gck (gin z2 16) (
  gB (p_X12_livesAt I11 (I11 159 (x1).toNatClampNeg) (x3 - (I11 151 (z2).toNatClampNeg))) fun r14 =>
  gL ((Int32.toInt64 r14)) fun u16 =>
  gL (gu2 J 149 42 u16) fun J17 =>
  p_X12_isReckoned_70 x1 x2 x3 z2 r9 gFu I11 J17 (0 : Int32)))
  else
  some ((0 : Int32), I, J))
set_option maxRecDepth 20000 in
theorem q_X12_isReckoned_70 {l : Launch} {v : (Int32 × gIt × gJt)} {w : Bool} {x1 : Int32} {x2 : Int32} {x3 : Int32} {x4 : Int32} {x5 : Int32} : ∀ (n : Nat) (I : gIt) (J : gJt) (x6 : Int32), p_X12_isReckoned_70 x1 x2 x3 x4 x5 n I J x6 = some v → G l gX12_isReckoned 7 0 0 (fun v' S' I' J' R' => v' = some (.int v.1) ∧ S' = gS0 ∧ I' = v.2.1 ∧ J' = v.2.2 ∧ R' = gR0 w) 0 0 70 [some (.ref 149), some (.int x1), some (.int x2), some (.int x3), some (.int x4), some (.int x5), some (.int x6)] [] gS0 I J (gR0 w) := by
  intro n
  induction n with
  | zero => intro _ _ _ h; cases h
  | succ n ih =>
    intro I J x6 h
    rw [p_X12_isReckoned_70] at h
    refine G_iload dX12_isReckoned_70 rfl ?_
    refine G_aload_n dX12_isReckoned_72 rfl rfl ?_
    refine G_getI fl_X12_160 sl_149 sk_149 rfl dX12_isReckoned_73 ?_
    refine G_icmp_ge 168 dX12_isReckoned_76 (by decide) (fun c18 => ?_) (fun c18 => ?_)
    · replace h := git c18 h
      refine G_aload_n dX12_isReckoned_168 rfl rfl ?_
      refine G_getJ fl_X12_342 sl_149 sk_149 rfl dX12_isReckoned_169 ?_
      refine G_lconst (v := 0) dX12_isReckoned_172 rfl ?_
      refine G_lcmp dX12_isReckoned_173 ?_
      refine G_if_le 181 dX12_isReckoned_174 (by decide) (fun c19 => ?_) (fun c19 => ?_)
      · replace h := git c19 h
        refine G_iconst (v := 0) dX12_isReckoned_181 rfl ?_
        refine G_zret rfl (Or.inl rfl) (Nat.le_refl _) (Nat.le_refl _) dX12_isReckoned_182 ?_
        cases h
        exact ⟨rfl, rfl, rfl, rfl, rfl⟩
      · replace h := gif c19 h
        refine G_iconst (v := 1) dX12_isReckoned_177 rfl ?_
        refine G_goto 182 dX12_isReckoned_178 (by decide) ?_
        refine G_zret rfl (Or.inr rfl) (Nat.le_refl _) (Nat.le_refl _) dX12_isReckoned_182 ?_
        cases h
        exact ⟨rfl, rfl, rfl, rfl, rfl⟩
    · replace h := gif c18 h
      refine G_iload dX12_isReckoned_79 rfl ?_
      refine G_iload dX12_isReckoned_81 rfl ?_
      obtain ⟨r20, hr21, h⟩ := gB_some h
      refine G_cS (mj := gX12_has) (As := [.int x5, .int x6]) (rest := []) ml_X12_320 vX12_has rfl rfl (Nat.le_of_ble_eq_true rfl) (by decide) (Nat.le_refl _) (Nat.le_refl _) dX12_isReckoned_83 (q_X12_has hr21) ?_
      refine G_if_eq 162 dX12_isReckoned_86 (by decide) (fun c22 => ?_) (fun c22 => ?_)
      · replace h := git c22 h
        refine S_iinc (v := (1 : Int32)) [some (.ref 149), some (.int x1), some (.int x2), some (.int x3), some (.int x4), some (.int x5), some (.int (x6 + (1 : Int32)))] dX12_isReckoned_162 rfl rfl (by decide) rfl ?_
        refine G_goto 70 dX12_isReckoned_165 (by decide) ?_
        exact ih _ _ _ h
      · replace h := gif c22 h
        refine G_aload_n dX12_isReckoned_89 rfl rfl ?_
        refine G_iload dX12_isReckoned_90 rfl ?_
        refine G_iload_n dX12_isReckoned_92 rfl rfl ?_
        obtain ⟨r23, hr24, h⟩ := gB_some h
        refine G_cV (mj := gX12_isDead) (As := [.int x6, .int x2]) (rest := []) ml_X12_336 vX12_isDead sl_149 sk_149 (by decide) rfl rfl rfl (Nat.le_of_ble_eq_true rfl) (by decide) (Nat.le_refl _) (Nat.le_refl _) dX12_isReckoned_93 (q_X12_isDead hr24) ?_
        refine G_if_eq 102 dX12_isReckoned_96 (by decide) (fun c25 => ?_) (fun c25 => ?_)
        · replace h := git c25 h
          refine G_aload_n dX12_isReckoned_102 rfl rfl ?_
          refine G_getI fl_X12_339 sl_149 sk_149 rfl dX12_isReckoned_103 ?_
          refine G_iconst (v := 4) dX12_isReckoned_106 rfl ?_
          refine G_icmp_ne 112 dX12_isReckoned_107 (by decide) (fun c26 => ?_) (fun c26 => ?_)
          · replace h := gif c26 h
            refine G_aload_n dX12_isReckoned_112 rfl rfl ?_
            refine G_getR fl_X12_85 sl_149 sk_149 rfl (rr_149_41 _) dX12_isReckoned_113 ?_
            refine G_aload_n dX12_isReckoned_116 rfl rfl ?_
            refine G_getI fl_X12_339 sl_149 sk_149 rfl dX12_isReckoned_117 ?_
            refine G_iload dX12_isReckoned_120 rfl ?_
            obtain ⟨b27, h⟩ := gck_some h
            refine G_iast sl_172 ss_172 (gin_in b27) dX12_isReckoned_122 ?_
            refine G_mI fun I28 eI28 => ?_
            replace h := gL_some eI28 h
            refine G_aload_n dX12_isReckoned_123 rfl rfl ?_
            refine G_dup dX12_isReckoned_124 rfl ?_
            refine G_getI fl_X12_339 sl_149 sk_149 rfl dX12_isReckoned_125 ?_
            refine G_iconst (v := 1) dX12_isReckoned_128 rfl ?_
            refine G_iadd dX12_isReckoned_129 ?_
            refine G_nI fun z29 ez29 => ?_
            replace h := gL_some ez29 h
            refine G_putI fl_X12_339 sl_149 sk_149 rfl rfl ⟨rfl, rfl⟩ dX12_isReckoned_130 ?_
            refine G_mI fun I30 eI30 => ?_
            replace h := gL_some eI30 h
            refine G_aload_n dX12_isReckoned_133 rfl rfl ?_
            refine G_dup dX12_isReckoned_134 rfl ?_
            refine G_getJ fl_X12_342 sl_149 sk_149 rfl dX12_isReckoned_135 ?_
            refine G_aload_n dX12_isReckoned_138 rfl rfl ?_
            refine G_aload_n dX12_isReckoned_139 rfl rfl ?_
            refine G_getR fl_X12_45 sl_149 sk_149 rfl (rr_149_18 _) dX12_isReckoned_140 ?_
            refine G_iload_n dX12_isReckoned_143 rfl rfl ?_
            obtain ⟨b31, h⟩ := gck_some h
            refine G_iald sl_159 ss_159 (gin_in b31) dX12_isReckoned_144 ?_
            refine G_iload_n dX12_isReckoned_145 rfl rfl ?_
            refine G_aload_n dX12_isReckoned_146 rfl rfl ?_
            refine G_getR fl_X12_20 sl_149 sk_149 rfl (rr_149_10 _) dX12_isReckoned_147 ?_
            refine G_iload dX12_isReckoned_150 rfl ?_
            obtain ⟨b32, h⟩ := gck_some h
            refine G_iald sl_151 ss_151 (gin_in b32) dX12_isReckoned_152 ?_
            refine G_isub dX12_isReckoned_153 ?_
            obtain ⟨r33, hr34, h⟩ := gB_some h
            refine G_cV (mj := gX12_livesAt) (As := [.int (I30 159 (x1).toNatClampNeg), .int (x3 - (I30 151 (x6).toNatClampNeg))]) (rest := [.long (J 149 42), .ref 149]) ml_X12_177 vX12_livesAt sl_149 sk_149 (by decide) rfl rfl rfl (Nat.le_of_ble_eq_true rfl) (by decide) (Nat.le_refl _) (Nat.le_refl _) dX12_isReckoned_154 (q_X12_livesAt hr34) ?_
            refine G_i2l dX12_isReckoned_157 ?_
            refine G_lmul dX12_isReckoned_158 ?_
            refine G_nJ fun u35 eu35 => ?_
            replace h := gL_some eu35 h
            refine G_putJ fl_X12_342 sl_149 sk_149 rfl rfl dX12_isReckoned_159 ?_
            refine G_mJ fun J36 eJ36 => ?_
            replace h := gL_some eJ36 h
            refine S_iinc (v := (1 : Int32)) [some (.ref 149), some (.int x1), some (.int x2), some (.int x3), some (.int x4), some (.int x5), some (.int (x6 + (1 : Int32)))] dX12_isReckoned_162 rfl rfl (by decide) rfl ?_
            refine G_goto 70 dX12_isReckoned_165 (by decide) ?_
            exact ih _ _ _ h
          · replace h := git c26 h
            refine G_iconst (v := 0) dX12_isReckoned_110 rfl ?_
            refine G_zret rfl (Or.inl rfl) (Nat.le_refl _) (Nat.le_refl _) dX12_isReckoned_111 ?_
            cases h
            exact ⟨rfl, rfl, rfl, rfl, rfl⟩
        · replace h := gif c25 h
          refine G_goto 162 dX12_isReckoned_99 (by decide) ?_
          refine S_iinc (v := (1 : Int32)) [some (.ref 149), some (.int x1), some (.int x2), some (.int x3), some (.int x4), some (.int x5), some (.int (x6 + (1 : Int32)))] dX12_isReckoned_162 rfl rfl (by decide) rfl ?_
          refine G_goto 70 dX12_isReckoned_165 (by decide) ?_
          exact ih _ _ _ h
set_option maxRecDepth 20000 in
theorem q_X12_isReckoned {l : Launch} {I : gIt} {J : gJt} {w : Bool} {x1 : Int32} {x2 : Int32} {x3 : Int32} {v : (Int32 × gIt × gJt)} (h : p_X12_isReckoned I J x1 x2 x3 = some v) : Cn l gX12_isReckoned 7 0 0 [.ref 149, .int x1, .int x2, .int x3] gS0 I J (gR0 w) (fun v' S' I' J' R' => v' = some (.int v.1) ∧ S' = gS0 ∧ I' = v.2.1 ∧ J' = v.2.2 ∧ R' = gR0 w) := by
  refine Cn.of [some (.ref 149), some (.int x1), some (.int x2), some (.int x3), none, none, none] (by decide) rfl (Nat.le_of_ble_eq_true rfl) ?_
  rw [p_X12_isReckoned] at h
  refine G_aload_n dX12_isReckoned_0 rfl rfl ?_
  refine G_getR fl_X12_42 sl_149 sk_149 rfl (rr_149_17 _) dX12_isReckoned_1 ?_
  refine G_iload_n dX12_isReckoned_4 rfl rfl ?_
  obtain ⟨b1, h⟩ := gck_some h
  refine G_iald sl_158 ss_158 (gin_in b1) dX12_isReckoned_5 ?_
  refine G_nI fun z2 ez2 => ?_
  replace h := gL_some ez2 h
  refine S_istore [some (.ref 149), some (.int x1), some (.int x2), some (.int x3), some (.int z2), none, none] dX12_isReckoned_6 (by decide) rfl ?_
  refine G_aload_n dX12_isReckoned_8 rfl rfl ?_
  refine G_iload dX12_isReckoned_9 rfl ?_
  refine G_iload_n dX12_isReckoned_11 rfl rfl ?_
  obtain ⟨r3, hr4, h⟩ := gB_some h
  refine G_cV (mj := gX12_isThere) (As := [.int z2, .int x2]) (rest := []) ml_X12_301 vX12_isThere sl_149 sk_149 (by decide) rfl rfl rfl (Nat.le_of_ble_eq_true rfl) (by decide) (Nat.le_refl _) (Nat.le_refl _) dX12_isReckoned_12 (q_X12_isThere hr4) ?_
  refine G_if_eq 28 dX12_isReckoned_15 (by decide) (fun c5 => ?_) (fun c5 => ?_)
  · replace h := git c5 h
    refine G_iconst (v := 0) dX12_isReckoned_28 rfl ?_
    refine G_zret rfl (Or.inl rfl) (Nat.le_refl _) (Nat.le_refl _) dX12_isReckoned_29 ?_
    cases h
    exact ⟨rfl, rfl, rfl, rfl, rfl⟩
  · replace h := gif c5 h
    refine G_aload_n dX12_isReckoned_18 rfl rfl ?_
    refine G_iload dX12_isReckoned_19 rfl ?_
    refine G_iload_n dX12_isReckoned_21 rfl rfl ?_
    obtain ⟨r6, hr7, h⟩ := gB_some h
    refine G_cV (mj := gX12_isDead) (As := [.int z2, .int x2]) (rest := []) ml_X12_336 vX12_isDead sl_149 sk_149 (by decide) rfl rfl rfl (Nat.le_of_ble_eq_true rfl) (by decide) (Nat.le_refl _) (Nat.le_refl _) dX12_isReckoned_22 (q_X12_isDead hr7) ?_
    refine G_if_eq 30 dX12_isReckoned_25 (by decide) (fun c8 => ?_) (fun c8 => ?_)
    · replace h := git c8 h
      refine G_aload_n dX12_isReckoned_30 rfl rfl ?_
      refine G_iload_n dX12_isReckoned_31 rfl rfl ?_
      refine G_iload_n dX12_isReckoned_32 rfl rfl ?_
      obtain ⟨r9, hr10, h⟩ := gB_some h
      refine G_cV (mj := gX12_namedSet) (As := [.int x1, .int x2]) (rest := []) ml_X12_314 vX12_namedSet sl_149 sk_149 (by decide) rfl rfl rfl (Nat.le_of_ble_eq_true rfl) (by decide) (Nat.le_refl _) (Nat.le_refl _) dX12_isReckoned_33 (q_X12_namedSet hr10) ?_
      refine S_istore [some (.ref 149), some (.int x1), some (.int x2), some (.int x3), some (.int z2), some (.int r9), none] dX12_isReckoned_36 (by decide) rfl ?_
      refine G_aload_n dX12_isReckoned_38 rfl rfl ?_
      refine G_iconst (v := 0) dX12_isReckoned_39 rfl ?_
      refine G_putI fl_X12_339 sl_149 sk_149 rfl rfl ⟨rfl, rfl⟩ dX12_isReckoned_40 ?_
      refine G_mI fun I11 eI11 => ?_
      replace h := gL_some eI11 h
      refine G_aload_n dX12_isReckoned_43 rfl rfl ?_
      refine G_aload_n dX12_isReckoned_44 rfl rfl ?_
      refine G_aload_n dX12_isReckoned_45 rfl rfl ?_
      refine G_getR fl_X12_45 sl_149 sk_149 rfl (rr_149_18 _) dX12_isReckoned_46 ?_
      refine G_iload_n dX12_isReckoned_49 rfl rfl ?_
      obtain ⟨b12, h⟩ := gck_some h
      refine G_iald sl_159 ss_159 (gin_in b12) dX12_isReckoned_50 ?_
      refine G_iload_n dX12_isReckoned_51 rfl rfl ?_
      refine G_aload_n dX12_isReckoned_52 rfl rfl ?_
      refine G_getR fl_X12_20 sl_149 sk_149 rfl (rr_149_10 _) dX12_isReckoned_53 ?_
      refine G_iload dX12_isReckoned_56 rfl ?_
      obtain ⟨b13, h⟩ := gck_some h
      refine G_iald sl_151 ss_151 (gin_in b13) dX12_isReckoned_58 ?_
      refine G_isub dX12_isReckoned_59 ?_
      obtain ⟨r14, hr15, h⟩ := gB_some h
      refine G_cV (mj := gX12_livesAt) (As := [.int (I11 159 (x1).toNatClampNeg), .int (x3 - (I11 151 (z2).toNatClampNeg))]) (rest := [.ref 149]) ml_X12_177 vX12_livesAt sl_149 sk_149 (by decide) rfl rfl rfl (Nat.le_of_ble_eq_true rfl) (by decide) (Nat.le_refl _) (Nat.le_refl _) dX12_isReckoned_60 (q_X12_livesAt hr15) ?_
      refine G_i2l dX12_isReckoned_63 ?_
      refine G_nJ fun u16 eu16 => ?_
      replace h := gL_some eu16 h
      refine G_putJ fl_X12_342 sl_149 sk_149 rfl rfl dX12_isReckoned_64 ?_
      refine G_mJ fun J17 eJ17 => ?_
      replace h := gL_some eJ17 h
      refine G_iconst (v := 0) dX12_isReckoned_67 rfl ?_
      refine S_istore [some (.ref 149), some (.int x1), some (.int x2), some (.int x3), some (.int z2), some (.int r9), some (.int (0 : Int32))] dX12_isReckoned_68 (by decide) rfl ?_
      exact q_X12_isReckoned_70   gFu _ _ _ h
    · replace h := gif c8 h
      refine G_iconst (v := 0) dX12_isReckoned_28 rfl ?_
      refine G_zret rfl (Or.inl rfl) (Nat.le_refl _) (Nat.le_refl _) dX12_isReckoned_29 ?_
      cases h
      exact ⟨rfl, rfl, rfl, rfl, rfl⟩
def p_X12_aliveOf_4 (I : gIt) (x1 : Int32) : Nat → Int32 → Int32 → Option Int32
  | 0, _, _ => none
  | n + 1, x2, x3 =>
    if (I 149 40) ≤ x3 then
    some x2
    else
    gB (p_X12_has x1 x3) fun r2 =>
    if r2 = 0 then
    gL ((x2 ||| (0 : Int32))) fun z5 =>
    p_X12_aliveOf_4 I x1 n z5 (x3 + (1 : Int32))
    else
    gck (gin x3 4) (
    gL ((x2 ||| (gshl (1 : Int32) (I 172 (x3).toNatClampNeg)))) fun z7 =>
    p_X12_aliveOf_4 I x1 n z7 (x3 + (1 : Int32)))
def p_X12_aliveOf (I : gIt) (x1 : Int32) : Option Int32 :=
  p_X12_aliveOf_4 I x1 gFu (0 : Int32) (0 : Int32)
set_option maxRecDepth 20000 in
theorem q_X12_aliveOf_4 {l : Launch} {v : Int32} {J : gJt} {w : Bool} {I : gIt} {x1 : Int32} : ∀ (n : Nat) (x2 : Int32) (x3 : Int32), p_X12_aliveOf_4 I x1 n x2 x3 = some v → G l gX12_aliveOf 3 0 0 (fun v' S' I' J' R' => v' = some (.int v) ∧ S' = gS0 ∧ I' = I ∧ J' = J ∧ R' = gR0 w) 0 0 4 [some (.ref 149), some (.int x1), some (.int x2), some (.int x3)] [] gS0 I J (gR0 w) := by
  intro n
  induction n with
  | zero => intro _ _ h; cases h
  | succ n ih =>
    intro x2 x3 h
    rw [p_X12_aliveOf_4] at h
    refine G_iload_n dX12_aliveOf_4 rfl rfl ?_
    refine G_aload_n dX12_aliveOf_5 rfl rfl ?_
    refine G_getI fl_X12_339 sl_149 sk_149 rfl dX12_aliveOf_6 ?_
    refine G_icmp_ge 41 dX12_aliveOf_9 (by decide) (fun c1 => ?_) (fun c1 => ?_)
    · replace h := git c1 h
      refine G_iload_n dX12_aliveOf_41 rfl rfl ?_
      refine G_iret rfl (Nat.le_refl _) (Nat.le_refl _) dX12_aliveOf_42 ?_
      cases h
      exact ⟨rfl, rfl, rfl, rfl, rfl⟩
    · replace h := gif c1 h
      refine G_iload_n dX12_aliveOf_12 rfl rfl ?_
      refine G_iload_n dX12_aliveOf_13 rfl rfl ?_
      refine G_iload_n dX12_aliveOf_14 rfl rfl ?_
      obtain ⟨r2, hr3, h⟩ := gB_some h
      refine G_cS (mj := gX12_has) (As := [.int x1, .int x3]) (rest := [.int x2]) ml_X12_320 vX12_has rfl rfl (Nat.le_of_ble_eq_true rfl) (by decide) (Nat.le_refl _) (Nat.le_refl _) dX12_aliveOf_15 (q_X12_has hr3) ?_
      refine G_if_eq 32 dX12_aliveOf_18 (by decide) (fun c4 => ?_) (fun c4 => ?_)
      · replace h := git c4 h
        refine G_iconst (v := 0) dX12_aliveOf_32 rfl ?_
        refine G_ior dX12_aliveOf_33 ?_
        refine G_nI fun z5 ez5 => ?_
        replace h := gL_some ez5 h
        refine S_istore_n [some (.ref 149), some (.int x1), some (.int z5), some (.int x3)] dX12_aliveOf_34 rfl (by decide) rfl ?_
        refine S_iinc (v := (1 : Int32)) [some (.ref 149), some (.int x1), some (.int z5), some (.int (x3 + (1 : Int32)))] dX12_aliveOf_35 rfl rfl (by decide) rfl ?_
        refine G_goto 4 dX12_aliveOf_38 (by decide) ?_
        exact ih _ _ h
      · replace h := gif c4 h
        refine G_iconst (v := 1) dX12_aliveOf_21 rfl ?_
        refine G_aload_n dX12_aliveOf_22 rfl rfl ?_
        refine G_getR fl_X12_85 sl_149 sk_149 rfl (rr_149_41 _) dX12_aliveOf_23 ?_
        refine G_iload_n dX12_aliveOf_26 rfl rfl ?_
        obtain ⟨b6, h⟩ := gck_some h
        refine G_iald sl_172 ss_172 (gin_in b6) dX12_aliveOf_27 ?_
        refine G_shl dX12_aliveOf_28 ?_
        refine G_goto 33 dX12_aliveOf_29 (by decide) ?_
        refine G_ior dX12_aliveOf_33 ?_
        refine G_nI fun z7 ez7 => ?_
        replace h := gL_some ez7 h
        refine S_istore_n [some (.ref 149), some (.int x1), some (.int z7), some (.int x3)] dX12_aliveOf_34 rfl (by decide) rfl ?_
        refine S_iinc (v := (1 : Int32)) [some (.ref 149), some (.int x1), some (.int z7), some (.int (x3 + (1 : Int32)))] dX12_aliveOf_35 rfl rfl (by decide) rfl ?_
        refine G_goto 4 dX12_aliveOf_38 (by decide) ?_
        exact ih _ _ h
set_option maxRecDepth 20000 in
theorem q_X12_aliveOf {l : Launch} {I : gIt} {J : gJt} {w : Bool} {x1 : Int32} {v : Int32} (h : p_X12_aliveOf I x1 = some v) : Cn l gX12_aliveOf 3 0 0 [.ref 149, .int x1] gS0 I J (gR0 w) (fun v' S' I' J' R' => v' = some (.int v) ∧ S' = gS0 ∧ I' = I ∧ J' = J ∧ R' = gR0 w) := by
  refine Cn.of [some (.ref 149), some (.int x1), none, none] (by decide) rfl (Nat.le_of_ble_eq_true rfl) ?_
  rw [p_X12_aliveOf] at h
  refine G_iconst (v := 0) dX12_aliveOf_0 rfl ?_
  refine S_istore_n [some (.ref 149), some (.int x1), some (.int (0 : Int32)), none] dX12_aliveOf_1 rfl (by decide) rfl ?_
  refine G_iconst (v := 0) dX12_aliveOf_2 rfl ?_
  refine S_istore_n [some (.ref 149), some (.int x1), some (.int (0 : Int32)), some (.int (0 : Int32))] dX12_aliveOf_3 rfl (by decide) rfl ?_
  exact q_X12_aliveOf_4   gFu _ _ h
def p_X12_weightOf_50 (I : gIt) (x1 : Int32) (x2 : Int32) (x3 : Int32) (x4 : Int32) (x5 : Int32) (x6 : Int32) : Nat → Int64 → Int32 → Option Int64
  | 0, _, _ => none
  | n + 1, y7, x9 =>
    if (I 149 40) ≤ x9 then
    some y7
    else
    gck (gin x9 4) (
    gck (gin (I 172 (x9).toNatClampNeg) 16) (
    gL ((x2 - (I 151 ((I 172 (x9).toNatClampNeg)).toNatClampNeg))) fun z14 =>
    gB (p_X12_livesAt I x5 ((z14 + x3) + (1 : Int32))) fun r15 =>
    gB (p_X12_has x4 x9) fun r17 =>
    if r17 = 0 then
    gB (p_X12_livesAt I x5 z14) fun r20 =>
    gL ((y7 * (Int32.toInt64 (r20 - r15)))) fun u22 =>
    p_X12_weightOf_50 I x1 x2 x3 x4 x5 x6 n u22 (x9 + (1 : Int32))
    else
    gL ((y7 * (Int32.toInt64 r15))) fun u23 =>
    p_X12_weightOf_50 I x1 x2 x3 x4 x5 x6 n u23 (x9 + (1 : Int32))))
def p_X12_weightOf (I : gIt) (x1 : Int32) (x2 : Int32) (x3 : Int32) (x4 : Int32) : Option Int64 :=
  gck (gin x1 10) (
  gL ((I 159 (x1).toNatClampNeg)) fun z2 =>
  gck (gin x1 10) (
  gck (gin (I 158 (x1).toNatClampNeg) 16) (
  gL (((x2 - (I 151 ((I 158 (x1).toNatClampNeg)).toNatClampNeg)) + x3)) fun z5 =>
  gB (p_X12_livesAt I z2 z5) fun r6 =>
  gB (p_X12_livesAt I z2 (z5 + (1 : Int32))) fun r8 =>
  gL ((Int32.toInt64 (r6 - r8))) fun u10 =>
  p_X12_weightOf_50 I x1 x2 x3 x4 z2 z5 gFu u10 (0 : Int32))))
set_option maxRecDepth 20000 in
theorem q_X12_weightOf_50 {l : Launch} {v : Int64} {J : gJt} {w : Bool} {I : gIt} {x1 : Int32} {x2 : Int32} {x3 : Int32} {x4 : Int32} {x5 : Int32} {x6 : Int32} : ∀ (n : Nat) (y7 : Int64) (x9 : Int32), p_X12_weightOf_50 I x1 x2 x3 x4 x5 x6 n y7 x9 = some v → G l gX12_weightOf 3 0 0 (fun v' S' I' J' R' => v' = some (.long v) ∧ S' = gS0 ∧ I' = I ∧ J' = J ∧ R' = gR0 w) 0 0 50 [some (.ref 149), some (.int x1), some (.int x2), some (.int x3), some (.int x4), some (.int x5), some (.int x6), some (.long y7), none, some (.int x9), none, none] [] gS0 I J (gR0 w) := by
  intro n
  induction n with
  | zero => intro _ _ h; cases h
  | succ n ih =>
    intro y7 x9 h
    rw [p_X12_weightOf_50] at h
    refine G_iload dX12_weightOf_50 rfl ?_
    refine G_aload_n dX12_weightOf_52 rfl rfl ?_
    refine G_getI fl_X12_339 sl_149 sk_149 rfl dX12_weightOf_53 ?_
    refine G_icmp_ge 128 dX12_weightOf_56 (by decide) (fun c11 => ?_) (fun c11 => ?_)
    · replace h := git c11 h
      refine G_lload dX12_weightOf_128 rfl ?_
      refine G_lret rfl (Nat.le_refl _) (Nat.le_refl _) dX12_weightOf_130 ?_
      cases h
      exact ⟨rfl, rfl, rfl, rfl, rfl⟩
    · replace h := gif c11 h
      refine G_iload_n dX12_weightOf_59 rfl rfl ?_
      refine G_aload_n dX12_weightOf_60 rfl rfl ?_
      refine G_getR fl_X12_20 sl_149 sk_149 rfl (rr_149_10 _) dX12_weightOf_61 ?_
      refine G_aload_n dX12_weightOf_64 rfl rfl ?_
      refine G_getR fl_X12_85 sl_149 sk_149 rfl (rr_149_41 _) dX12_weightOf_65 ?_
      refine G_iload dX12_weightOf_68 rfl ?_
      obtain ⟨b12, h⟩ := gck_some h
      refine G_iald sl_172 ss_172 (gin_in b12) dX12_weightOf_70 ?_
      obtain ⟨b13, h⟩ := gck_some h
      refine G_iald sl_151 ss_151 (gin_in b13) dX12_weightOf_71 ?_
      refine G_isub dX12_weightOf_72 ?_
      refine G_nI fun z14 ez14 => ?_
      replace h := gL_some ez14 h
      refine S_istore [some (.ref 149), some (.int x1), some (.int x2), some (.int x3), some (.int x4), some (.int x5), some (.int x6), some (.long y7), none, some (.int x9), some (.int z14), none] dX12_weightOf_73 (by decide) rfl ?_
      refine G_aload_n dX12_weightOf_75 rfl rfl ?_
      refine G_iload dX12_weightOf_76 rfl ?_
      refine G_iload dX12_weightOf_78 rfl ?_
      refine G_iload_n dX12_weightOf_80 rfl rfl ?_
      refine G_iadd dX12_weightOf_81 ?_
      refine G_iconst (v := 1) dX12_weightOf_82 rfl ?_
      refine G_iadd dX12_weightOf_83 ?_
      obtain ⟨r15, hr16, h⟩ := gB_some h
      refine G_cV (mj := gX12_livesAt) (As := [.int x5, .int ((z14 + x3) + (1 : Int32))]) (rest := []) ml_X12_177 vX12_livesAt sl_149 sk_149 (by decide) rfl rfl rfl (Nat.le_of_ble_eq_true rfl) (by decide) (Nat.le_refl _) (Nat.le_refl _) dX12_weightOf_84 (q_X12_livesAt hr16) ?_
      refine S_istore [some (.ref 149), some (.int x1), some (.int x2), some (.int x3), some (.int x4), some (.int x5), some (.int x6), some (.long y7), none, some (.int x9), some (.int z14), some (.int r15)] dX12_weightOf_87 (by decide) rfl ?_
      refine G_lload dX12_weightOf_89 rfl ?_
      refine G_iload dX12_weightOf_91 rfl ?_
      refine G_iload dX12_weightOf_93 rfl ?_
      obtain ⟨r17, hr18, h⟩ := gB_some h
      refine G_cS (mj := gX12_has) (As := [.int x4, .int x9]) (rest := [.long y7]) ml_X12_320 vX12_has rfl rfl (Nat.le_of_ble_eq_true rfl) (by decide) (Nat.le_refl _) (Nat.le_refl _) dX12_weightOf_95 (q_X12_has hr18) ?_
      refine G_if_eq 107 dX12_weightOf_98 (by decide) (fun c19 => ?_) (fun c19 => ?_)
      · replace h := git c19 h
        refine G_aload_n dX12_weightOf_107 rfl rfl ?_
        refine G_iload dX12_weightOf_108 rfl ?_
        refine G_iload dX12_weightOf_110 rfl ?_
        obtain ⟨r20, hr21, h⟩ := gB_some h
        refine G_cV (mj := gX12_livesAt) (As := [.int x5, .int z14]) (rest := [.long y7]) ml_X12_177 vX12_livesAt sl_149 sk_149 (by decide) rfl rfl rfl (Nat.le_of_ble_eq_true rfl) (by decide) (Nat.le_refl _) (Nat.le_refl _) dX12_weightOf_112 (q_X12_livesAt hr21) ?_
        refine G_iload dX12_weightOf_115 rfl ?_
        refine G_isub dX12_weightOf_117 ?_
        refine G_i2l dX12_weightOf_118 ?_
        refine G_lmul dX12_weightOf_119 ?_
        refine G_nJ fun u22 eu22 => ?_
        replace h := gL_some eu22 h
        refine S_lstore [some (.ref 149), some (.int x1), some (.int x2), some (.int x3), some (.int x4), some (.int x5), some (.int x6), some (.long u22), none, some (.int x9), some (.int z14), some (.int r15)] dX12_weightOf_120 (by decide) rfl ?_
        refine S_iinc (v := (1 : Int32)) [some (.ref 149), some (.int x1), some (.int x2), some (.int x3), some (.int x4), some (.int x5), some (.int x6), some (.long u22), none, some (.int (x9 + (1 : Int32))), some (.int z14), some (.int r15)] dX12_weightOf_122 rfl rfl (by decide) rfl ?_
        refine G_goto 50 dX12_weightOf_125 (by decide) ?_
        refine G_sub [some (.ref 149), some (.int x1), some (.int x2), some (.int x3), some (.int x4), some (.int x5), some (.int x6), some (.long u22), none, some (.int (x9 + (1 : Int32))), none, none] ⟨rfl, rfl, rfl, rfl, rfl, rfl, rfl, rfl, rfl, trivial⟩ ?_
        exact ih _ _ h
      · replace h := gif c19 h
        refine G_iload dX12_weightOf_101 rfl ?_
        refine G_i2l dX12_weightOf_103 ?_
        refine G_goto 119 dX12_weightOf_104 (by decide) ?_
        refine G_lmul dX12_weightOf_119 ?_
        refine G_nJ fun u23 eu23 => ?_
        replace h := gL_some eu23 h
        refine S_lstore [some (.ref 149), some (.int x1), some (.int x2), some (.int x3), some (.int x4), some (.int x5), some (.int x6), some (.long u23), none, some (.int x9), some (.int z14), some (.int r15)] dX12_weightOf_120 (by decide) rfl ?_
        refine S_iinc (v := (1 : Int32)) [some (.ref 149), some (.int x1), some (.int x2), some (.int x3), some (.int x4), some (.int x5), some (.int x6), some (.long u23), none, some (.int (x9 + (1 : Int32))), some (.int z14), some (.int r15)] dX12_weightOf_122 rfl rfl (by decide) rfl ?_
        refine G_goto 50 dX12_weightOf_125 (by decide) ?_
        refine G_sub [some (.ref 149), some (.int x1), some (.int x2), some (.int x3), some (.int x4), some (.int x5), some (.int x6), some (.long u23), none, some (.int (x9 + (1 : Int32))), none, none] ⟨rfl, rfl, rfl, rfl, rfl, rfl, rfl, rfl, rfl, trivial⟩ ?_
        exact ih _ _ h
set_option maxRecDepth 20000 in
theorem q_X12_weightOf {l : Launch} {I : gIt} {J : gJt} {w : Bool} {x1 : Int32} {x2 : Int32} {x3 : Int32} {x4 : Int32} {v : Int64} (h : p_X12_weightOf I x1 x2 x3 x4 = some v) : Cn l gX12_weightOf 3 0 0 [.ref 149, .int x1, .int x2, .int x3, .int x4] gS0 I J (gR0 w) (fun v' S' I' J' R' => v' = some (.long v) ∧ S' = gS0 ∧ I' = I ∧ J' = J ∧ R' = gR0 w) := by
  refine Cn.of [some (.ref 149), some (.int x1), some (.int x2), some (.int x3), some (.int x4), none, none, none, none, none, none, none] (by decide) rfl (Nat.le_of_ble_eq_true rfl) ?_
  rw [p_X12_weightOf] at h
  refine G_aload_n dX12_weightOf_0 rfl rfl ?_
  refine G_getR fl_X12_45 sl_149 sk_149 rfl (rr_149_18 _) dX12_weightOf_1 ?_
  refine G_iload_n dX12_weightOf_4 rfl rfl ?_
  obtain ⟨b1, h⟩ := gck_some h
  refine G_iald sl_159 ss_159 (gin_in b1) dX12_weightOf_5 ?_
  refine G_nI fun z2 ez2 => ?_
  replace h := gL_some ez2 h
  refine S_istore [some (.ref 149), some (.int x1), some (.int x2), some (.int x3), some (.int x4), some (.int z2), none, none, none, none, none, none] dX12_weightOf_6 (by decide) rfl ?_
  refine G_iload_n dX12_weightOf_8 rfl rfl ?_
  refine G_aload_n dX12_weightOf_9 rfl rfl ?_
  refine G_getR fl_X12_20 sl_149 sk_149 rfl (rr_149_10 _) dX12_weightOf_10 ?_
  refine G_aload_n dX12_weightOf_13 rfl rfl ?_
  refine G_getR fl_X12_42 sl_149 sk_149 rfl (rr_149_17 _) dX12_weightOf_14 ?_
  refine G_iload_n dX12_weightOf_17 rfl rfl ?_
  obtain ⟨b3, h⟩ := gck_some h
  refine G_iald sl_158 ss_158 (gin_in b3) dX12_weightOf_18 ?_
  obtain ⟨b4, h⟩ := gck_some h
  refine G_iald sl_151 ss_151 (gin_in b4) dX12_weightOf_19 ?_
  refine G_isub dX12_weightOf_20 ?_
  refine G_iload_n dX12_weightOf_21 rfl rfl ?_
  refine G_iadd dX12_weightOf_22 ?_
  refine G_nI fun z5 ez5 => ?_
  replace h := gL_some ez5 h
  refine S_istore [some (.ref 149), some (.int x1), some (.int x2), some (.int x3), some (.int x4), some (.int z2), some (.int z5), none, none, none, none, none] dX12_weightOf_23 (by decide) rfl ?_
  refine G_aload_n dX12_weightOf_25 rfl rfl ?_
  refine G_iload dX12_weightOf_26 rfl ?_
  refine G_iload dX12_weightOf_28 rfl ?_
  obtain ⟨r6, hr7, h⟩ := gB_some h
  refine G_cV (mj := gX12_livesAt) (As := [.int z2, .int z5]) (rest := []) ml_X12_177 vX12_livesAt sl_149 sk_149 (by decide) rfl rfl rfl (Nat.le_of_ble_eq_true rfl) (by decide) (Nat.le_refl _) (Nat.le_refl _) dX12_weightOf_30 (q_X12_livesAt hr7) ?_
  refine G_aload_n dX12_weightOf_33 rfl rfl ?_
  refine G_iload dX12_weightOf_34 rfl ?_
  refine G_iload dX12_weightOf_36 rfl ?_
  refine G_iconst (v := 1) dX12_weightOf_38 rfl ?_
  refine G_iadd dX12_weightOf_39 ?_
  obtain ⟨r8, hr9, h⟩ := gB_some h
  refine G_cV (mj := gX12_livesAt) (As := [.int z2, .int (z5 + (1 : Int32))]) (rest := [.int r6]) ml_X12_177 vX12_livesAt sl_149 sk_149 (by decide) rfl rfl rfl (Nat.le_of_ble_eq_true rfl) (by decide) (Nat.le_refl _) (Nat.le_refl _) dX12_weightOf_40 (q_X12_livesAt hr9) ?_
  refine G_isub dX12_weightOf_43 ?_
  refine G_i2l dX12_weightOf_44 ?_
  refine G_nJ fun u10 eu10 => ?_
  replace h := gL_some eu10 h
  refine S_lstore [some (.ref 149), some (.int x1), some (.int x2), some (.int x3), some (.int x4), some (.int z2), some (.int z5), some (.long u10), none, none, none, none] dX12_weightOf_45 (by decide) rfl ?_
  refine G_iconst (v := 0) dX12_weightOf_47 rfl ?_
  refine S_istore [some (.ref 149), some (.int x1), some (.int x2), some (.int x3), some (.int x4), some (.int z2), some (.int z5), some (.long u10), none, some (.int (0 : Int32)), none, none] dX12_weightOf_48 (by decide) rfl ?_
  exact q_X12_weightOf_50   gFu _ _ h
def p_X12_isAsked (I : gIt) (J : gJt) (x1 : Int32) (x2 : Int32) (x3 : Int32) (x4 : Int32) : Option (Int32 × gIt × gJt) :=
  gB (p_X12_isSettlement I x1) fun r1 =>
  if r1 = 0 then
  some ((0 : Int32), I, J)
  else
  gB (p_X12_isPerson I x2) fun r4 =>
  if r4 = 0 then
  some ((0 : Int32), I, J)
  else
  gB (p_X12_isYear x3) fun r7 =>
  if r7 = 0 then
  some ((0 : Int32), I, J)
  else
  gB (p_X12_lies (Int32.toInt64 x4) (Int32.toInt64 x3) (1999 : Int64)) fun r10 =>
  if r10 = 0 then
  some ((0 : Int32), I, J)
  else
  gB (p_X12_isReckoned I J x1 x3 x4) fun r13 =>
  if r13.1 = 0 then
  some ((0 : Int32), r13.2.1, r13.2.2)
  else
  some ((1 : Int32), r13.2.1, r13.2.2)
set_option maxRecDepth 20000 in
theorem q_X12_isAsked {l : Launch} {I : gIt} {J : gJt} {w : Bool} {x1 : Int32} {x2 : Int32} {x3 : Int32} {x4 : Int32} {v : (Int32 × gIt × gJt)} (h : p_X12_isAsked I J x1 x2 x3 x4 = some v) : Cn l gX12_isAsked 8 0 0 [.ref 149, .int x1, .int x2, .int x3, .int x4] gS0 I J (gR0 w) (fun v' S' I' J' R' => v' = some (.int v.1) ∧ S' = gS0 ∧ I' = v.2.1 ∧ J' = v.2.2 ∧ R' = gR0 w) := by
  refine Cn.of [some (.ref 149), some (.int x1), some (.int x2), some (.int x3), some (.int x4)] (by decide) rfl (Nat.le_of_ble_eq_true rfl) ?_
  rw [p_X12_isAsked] at h
  refine G_aload_n dX12_isAsked_0 rfl rfl ?_
  refine G_iload_n dX12_isAsked_1 rfl rfl ?_
  obtain ⟨r1, hr2, h⟩ := gB_some h
  refine G_cV (mj := gX12_isSettlement) (As := [.int x1]) (rest := []) ml_X12_308 vX12_isSettlement sl_149 sk_149 (by decide) rfl rfl rfl (Nat.le_of_ble_eq_true rfl) (by decide) (Nat.le_refl _) (Nat.le_refl _) dX12_isAsked_2 (q_X12_isSettlement hr2) ?_
  refine G_if_eq 52 dX12_isAsked_5 (by decide) (fun c3 => ?_) (fun c3 => ?_)
  · replace h := git c3 h
    refine G_iconst (v := 0) dX12_isAsked_52 rfl ?_
    refine G_zret rfl (Or.inl rfl) (Nat.le_refl _) (Nat.le_refl _) dX12_isAsked_53 ?_
    cases h
    exact ⟨rfl, rfl, rfl, rfl, rfl⟩
  · replace h := gif c3 h
    refine G_aload_n dX12_isAsked_8 rfl rfl ?_
    refine G_iload_n dX12_isAsked_9 rfl rfl ?_
    obtain ⟨r4, hr5, h⟩ := gB_some h
    refine G_cV (mj := gX12_isPerson) (As := [.int x2]) (rest := []) ml_X12_165 vX12_isPerson sl_149 sk_149 (by decide) rfl rfl rfl (Nat.le_of_ble_eq_true rfl) (by decide) (Nat.le_refl _) (Nat.le_refl _) dX12_isAsked_10 (q_X12_isPerson hr5) ?_
    refine G_if_eq 52 dX12_isAsked_13 (by decide) (fun c6 => ?_) (fun c6 => ?_)
    · replace h := git c6 h
      refine G_iconst (v := 0) dX12_isAsked_52 rfl ?_
      refine G_zret rfl (Or.inl rfl) (Nat.le_refl _) (Nat.le_refl _) dX12_isAsked_53 ?_
      cases h
      exact ⟨rfl, rfl, rfl, rfl, rfl⟩
    · replace h := gif c6 h
      refine G_iload_n dX12_isAsked_16 rfl rfl ?_
      obtain ⟨r7, hr8, h⟩ := gB_some h
      refine G_cS (mj := gX12_isYear) (As := [.int x3]) (rest := []) ml_X12_311 vX12_isYear rfl rfl (Nat.le_of_ble_eq_true rfl) (by decide) (Nat.le_refl _) (Nat.le_refl _) dX12_isAsked_17 (q_X12_isYear hr8) ?_
      refine G_if_eq 52 dX12_isAsked_20 (by decide) (fun c9 => ?_) (fun c9 => ?_)
      · replace h := git c9 h
        refine G_iconst (v := 0) dX12_isAsked_52 rfl ?_
        refine G_zret rfl (Or.inl rfl) (Nat.le_refl _) (Nat.le_refl _) dX12_isAsked_53 ?_
        cases h
        exact ⟨rfl, rfl, rfl, rfl, rfl⟩
      · replace h := gif c9 h
        refine G_iload dX12_isAsked_23 rfl ?_
        refine G_i2l dX12_isAsked_25 ?_
        refine G_iload_n dX12_isAsked_26 rfl rfl ?_
        refine G_i2l dX12_isAsked_27 ?_
        refine G_ldc2 dX12_isAsked_28 kc_X12_154 ?_
        obtain ⟨r10, hr11, h⟩ := gB_some h
        refine G_cS (mj := gX12_lies) (As := [.long (Int32.toInt64 x4), .long (Int32.toInt64 x3), .long (1999 : Int64)]) (rest := []) ml_X12_156 vX12_lies rfl rfl (Nat.le_of_ble_eq_true rfl) (by decide) (Nat.le_refl _) (Nat.le_refl _) dX12_isAsked_31 (q_X12_lies hr11) ?_
        refine G_if_eq 52 dX12_isAsked_34 (by decide) (fun c12 => ?_) (fun c12 => ?_)
        · replace h := git c12 h
          refine G_iconst (v := 0) dX12_isAsked_52 rfl ?_
          refine G_zret rfl (Or.inl rfl) (Nat.le_refl _) (Nat.le_refl _) dX12_isAsked_53 ?_
          cases h
          exact ⟨rfl, rfl, rfl, rfl, rfl⟩
        · replace h := gif c12 h
          refine G_aload_n dX12_isAsked_37 rfl rfl ?_
          refine G_iload_n dX12_isAsked_38 rfl rfl ?_
          refine G_iload_n dX12_isAsked_39 rfl rfl ?_
          refine G_iload dX12_isAsked_40 rfl ?_
          obtain ⟨r13, hr14, h⟩ := gB_some h
          refine G_cV (mj := gX12_isReckoned) (As := [.int x1, .int x3, .int x4]) (rest := []) ml_X12_346 vX12_isReckoned sl_149 sk_149 (by decide) rfl rfl rfl (Nat.le_of_ble_eq_true rfl) (by decide) (Nat.le_refl _) (Nat.le_refl _) dX12_isAsked_42 (q_X12_isReckoned hr14) ?_
          refine G_if_eq 52 dX12_isAsked_45 (by decide) (fun c15 => ?_) (fun c15 => ?_)
          · replace h := git c15 h
            refine G_iconst (v := 0) dX12_isAsked_52 rfl ?_
            refine G_zret rfl (Or.inl rfl) (Nat.le_refl _) (Nat.le_refl _) dX12_isAsked_53 ?_
            cases h
            exact ⟨rfl, rfl, rfl, rfl, rfl⟩
          · replace h := gif c15 h
            refine G_iconst (v := 1) dX12_isAsked_48 rfl ?_
            refine G_goto 53 dX12_isAsked_49 (by decide) ?_
            refine G_zret rfl (Or.inr rfl) (Nat.le_refl _) (Nat.le_refl _) dX12_isAsked_53 ?_
            cases h
            exact ⟨rfl, rfl, rfl, rfl, rfl⟩
def p_X12_chance_69 (K44 : gIt → Int64 → Int32 → Option (Int64 × gIt × gJt)) (I : gIt) (J : gJt) (x1 : Int32) (x2 : Int32) (x3 : Int32) (x4 : Int32) (x5 : Int32) (x8 : Int32) : Nat → Int64 → Int32 → Option (Int64 × gIt × gJt)
  | 0, _, _ => none
  | n + 1, y6, x9 =>
    if (400 : Int32) ≤ x9 then
    K44 I y6 (x8 + (1 : Int32))
    else
    gck (gin x2 16) (
    if (I 171 (x2).toNatClampNeg) ≤ 0 then
    K44 I y6 (x8 + (1 : Int32))
    else
    gB (p_X12_weightOf I x1 x4 x9 x8) fun r16 =>
    gL ((y6 + r16)) fun u18 =>
    p_X12_chance_69 K44 I J x1 x2 x3 x4 x5 x8 n u18 (x9 + (1 : Int32)))
def p_X12_chance_44 (J : gJt) (x1 : Int32) (x2 : Int32) (x3 : Int32) (x4 : Int32) (x5 : Int32) : Nat → gIt → Int64 → Int32 → Option (Int64 × gIt × gJt)
  | 0, _, _, _ => none
  | n + 1, I, y6, x8 =>
    if (gshl (1 : Int32) (I 149 40)) ≤ x8 then
    some (y6, I, J)
    else
    gB (p_X12_aliveOf I x8) fun r9 =>
    gB (p_X12_lets I x1 r9) fun r11 =>
    p_X12_chance_69 (fun I y6 x8 => p_X12_chance_44 J x1 x2 x3 x4 x5 n I y6 x8) r11 J x1 x2 x3 x4 x5 x8 gFu y6 (0 : Int32)
def p_X12_chance (I : gIt) (J : gJt) (x1 : Int32) (x2 : Int32) (x3 : Int32) (x4 : Int32) (x5 : Int32) : Option (Int64 × gIt × gJt) :=
  gB (p_X12_lies (Int32.toInt64 x5) (0 : Int64) (1 : Int64)) fun r1 =>
  if r1 = 0 then
  some ((-1 : Int64), I, J)
  else
  gB (p_X12_isAsked I J x1 x2 x3 x4) fun r4 =>
  if r4.1 = 0 then
  some ((-1 : Int64), r4.2.1, r4.2.2)
  else
  if x5 = (1 : Int32) then
  some ((r4.2.2 149 42), r4.2.1, r4.2.2)
  else
  p_X12_chance_44 r4.2.2 x1 x2 x3 x4 x5 gFu r4.2.1 (0 : Int64) (0 : Int32)
set_option maxRecDepth 20000 in
theorem q_X12_chance_69 {l : Launch} {v : (Int64 × gIt × gJt)} {w : Bool} {K44 : gIt → Int64 → Int32 → Option (Int64 × gIt × gJt)} {I : gIt} {J : gJt} {x1 : Int32} {x2 : Int32} {x3 : Int32} {x4 : Int32} {x5 : Int32} {x8 : Int32} (hK44 : ∀ (I : gIt) (y6 : Int64) (x8 : Int32), K44 I y6 x8 = some v → G l gX12_chance 9 0 0 (fun v' S' I' J' R' => v' = some (.long v.1) ∧ S' = gS0 ∧ I' = v.2.1 ∧ J' = v.2.2 ∧ R' = gR0 w) 0 0 44 [some (.ref 149), some (.int x1), some (.int x2), some (.int x3), some (.int x4), some (.int x5), some (.long y6), none, some (.int x8), none] [] gS0 I J (gR0 w)) : ∀ (n : Nat) (y6 : Int64) (x9 : Int32), p_X12_chance_69 K44 I J x1 x2 x3 x4 x5 x8 n y6 x9 = some v → G l gX12_chance 9 0 0 (fun v' S' I' J' R' => v' = some (.long v.1) ∧ S' = gS0 ∧ I' = v.2.1 ∧ J' = v.2.2 ∧ R' = gR0 w) 0 0 69 [some (.ref 149), some (.int x1), some (.int x2), some (.int x3), some (.int x4), some (.int x5), some (.long y6), none, some (.int x8), some (.int x9)] [] gS0 I J (gR0 w) := by
  intro n
  induction n with
  | zero => intro _ _ h; cases h
  | succ n ih =>
    intro y6 x9 h
    rw [p_X12_chance_69] at h
    refine G_iload dX12_chance_69 rfl ?_
    refine G_sipush (v := 400) dX12_chance_71 rfl ?_
    refine G_icmp_ge 108 dX12_chance_74 (by decide) (fun c13 => ?_) (fun c13 => ?_)
    · replace h := git c13 h
      refine S_iinc (v := (1 : Int32)) [some (.ref 149), some (.int x1), some (.int x2), some (.int x3), some (.int x4), some (.int x5), some (.long y6), none, some (.int (x8 + (1 : Int32))), some (.int x9)] dX12_chance_108 rfl rfl (by decide) rfl ?_
      refine G_goto 44 dX12_chance_111 (by decide) ?_
      refine G_sub [some (.ref 149), some (.int x1), some (.int x2), some (.int x3), some (.int x4), some (.int x5), some (.long y6), none, some (.int (x8 + (1 : Int32))), none] ⟨rfl, rfl, rfl, rfl, rfl, rfl, rfl, rfl, trivial⟩ ?_
      exact hK44 _ _ _ h
    · replace h := gif c13 h
      refine G_aload_n dX12_chance_77 rfl rfl ?_
      refine G_getR fl_X12_82 sl_149 sk_149 rfl (rr_149_38 _) dX12_chance_78 ?_
      refine G_iload_n dX12_chance_81 rfl rfl ?_
      obtain ⟨b14, h⟩ := gck_some h
      refine G_iald sl_171 ss_171 (gin_in b14) dX12_chance_82 ?_
      refine G_if_le 108 dX12_chance_83 (by decide) (fun c15 => ?_) (fun c15 => ?_)
      · replace h := git c15 h
        refine S_iinc (v := (1 : Int32)) [some (.ref 149), some (.int x1), some (.int x2), some (.int x3), some (.int x4), some (.int x5), some (.long y6), none, some (.int (x8 + (1 : Int32))), some (.int x9)] dX12_chance_108 rfl rfl (by decide) rfl ?_
        refine G_goto 44 dX12_chance_111 (by decide) ?_
        refine G_sub [some (.ref 149), some (.int x1), some (.int x2), some (.int x3), some (.int x4), some (.int x5), some (.long y6), none, some (.int (x8 + (1 : Int32))), none] ⟨rfl, rfl, rfl, rfl, rfl, rfl, rfl, rfl, trivial⟩ ?_
        exact hK44 _ _ _ h
      · replace h := gif c15 h
        refine G_lload dX12_chance_86 rfl ?_
        refine G_aload_n dX12_chance_88 rfl rfl ?_
        refine G_iload_n dX12_chance_89 rfl rfl ?_
        refine G_iload dX12_chance_90 rfl ?_
        refine G_iload dX12_chance_92 rfl ?_
        refine G_iload dX12_chance_94 rfl ?_
        obtain ⟨r16, hr17, h⟩ := gB_some h
        refine G_cV (mj := gX12_weightOf) (As := [.int x1, .int x4, .int x9, .int x8]) (rest := [.long y6]) ml_X12_358 vX12_weightOf sl_149 sk_149 (by decide) rfl rfl rfl (Nat.le_of_ble_eq_true rfl) (by decide) (Nat.le_refl _) (Nat.le_refl _) dX12_chance_96 (q_X12_weightOf hr17) ?_
        refine G_ladd dX12_chance_99 ?_
        refine G_nJ fun u18 eu18 => ?_
        replace h := gL_some eu18 h
        refine S_lstore [some (.ref 149), some (.int x1), some (.int x2), some (.int x3), some (.int x4), some (.int x5), some (.long u18), none, some (.int x8), some (.int x9)] dX12_chance_100 (by decide) rfl ?_
        refine S_iinc (v := (1 : Int32)) [some (.ref 149), some (.int x1), some (.int x2), some (.int x3), some (.int x4), some (.int x5), some (.long u18), none, some (.int x8), some (.int (x9 + (1 : Int32)))] dX12_chance_102 rfl rfl (by decide) rfl ?_
        refine G_goto 69 dX12_chance_105 (by decide) ?_
        exact ih _ _ h
set_option maxRecDepth 20000 in
theorem q_X12_chance_44 {l : Launch} {v : (Int64 × gIt × gJt)} {w : Bool} {J : gJt} {x1 : Int32} {x2 : Int32} {x3 : Int32} {x4 : Int32} {x5 : Int32} : ∀ (n : Nat) (I : gIt) (y6 : Int64) (x8 : Int32), p_X12_chance_44 J x1 x2 x3 x4 x5 n I y6 x8 = some v → G l gX12_chance 9 0 0 (fun v' S' I' J' R' => v' = some (.long v.1) ∧ S' = gS0 ∧ I' = v.2.1 ∧ J' = v.2.2 ∧ R' = gR0 w) 0 0 44 [some (.ref 149), some (.int x1), some (.int x2), some (.int x3), some (.int x4), some (.int x5), some (.long y6), none, some (.int x8), none] [] gS0 I J (gR0 w) := by
  intro n
  induction n with
  | zero => intro _ _ _ h; cases h
  | succ n ih =>
    intro I y6 x8 h
    rw [p_X12_chance_44] at h
    refine G_iload dX12_chance_44 rfl ?_
    refine G_iconst (v := 1) dX12_chance_46 rfl ?_
    refine G_aload_n dX12_chance_47 rfl rfl ?_
    refine G_getI fl_X12_339 sl_149 sk_149 rfl dX12_chance_48 ?_
    refine G_shl dX12_chance_51 ?_
    refine G_icmp_ge 114 dX12_chance_52 (by decide) (fun c8 => ?_) (fun c8 => ?_)
    · replace h := git c8 h
      refine G_lload dX12_chance_114 rfl ?_
      refine G_lret rfl (Nat.le_refl _) (Nat.le_refl _) dX12_chance_116 ?_
      cases h
      exact ⟨rfl, rfl, rfl, rfl, rfl⟩
    · replace h := gif c8 h
      refine G_aload_n dX12_chance_55 rfl rfl ?_
      refine G_iload_n dX12_chance_56 rfl rfl ?_
      refine G_aload_n dX12_chance_57 rfl rfl ?_
      refine G_iload dX12_chance_58 rfl ?_
      obtain ⟨r9, hr10, h⟩ := gB_some h
      refine G_cV (mj := gX12_aliveOf) (As := [.int x8]) (rest := [.int x1, .ref 149]) ml_X12_355 vX12_aliveOf sl_149 sk_149 (by decide) rfl rfl rfl (Nat.le_of_ble_eq_true rfl) (by decide) (Nat.le_refl _) (Nat.le_refl _) dX12_chance_60 (q_X12_aliveOf hr10) ?_
      obtain ⟨r11, hr12, h⟩ := gB_some h
      refine G_cV (mj := gX12_lets) (As := [.int x1, .int r9]) (rest := []) ml_X12_333 vX12_lets sl_149 sk_149 (by decide) rfl rfl rfl (Nat.le_of_ble_eq_true rfl) (by decide) (Nat.le_refl _) (Nat.le_refl _) dX12_chance_63 (q_X12_lets hr12) ?_
      refine G_iconst (v := 0) dX12_chance_66 rfl ?_
      refine S_istore [some (.ref 149), some (.int x1), some (.int x2), some (.int x3), some (.int x4), some (.int x5), some (.long y6), none, some (.int x8), some (.int (0 : Int32))] dX12_chance_67 (by decide) rfl ?_
      exact q_X12_chance_69 (fun I' y6' x8' hq => ih I' y6' x8' hq)  gFu _ _ h
set_option maxRecDepth 20000 in
theorem q_X12_chance {l : Launch} {I : gIt} {J : gJt} {w : Bool} {x1 : Int32} {x2 : Int32} {x3 : Int32} {x4 : Int32} {x5 : Int32} {v : (Int64 × gIt × gJt)} (h : p_X12_chance I J x1 x2 x3 x4 x5 = some v) : Cn l gX12_chance 9 0 0 [.ref 149, .int x1, .int x2, .int x3, .int x4, .int x5] gS0 I J (gR0 w) (fun v' S' I' J' R' => v' = some (.long v.1) ∧ S' = gS0 ∧ I' = v.2.1 ∧ J' = v.2.2 ∧ R' = gR0 w) := by
  refine Cn.of [some (.ref 149), some (.int x1), some (.int x2), some (.int x3), some (.int x4), some (.int x5), none, none, none, none] (by decide) rfl (Nat.le_of_ble_eq_true rfl) ?_
  rw [p_X12_chance] at h
  refine G_iload dX12_chance_0 rfl ?_
  refine G_i2l dX12_chance_2 ?_
  refine G_lconst (v := 0) dX12_chance_3 rfl ?_
  refine G_lconst (v := 1) dX12_chance_4 rfl ?_
  obtain ⟨r1, hr2, h⟩ := gB_some h
  refine G_cS (mj := gX12_lies) (As := [.long (Int32.toInt64 x5), .long (0 : Int64), .long (1 : Int64)]) (rest := []) ml_X12_156 vX12_lies rfl rfl (Nat.le_of_ble_eq_true rfl) (by decide) (Nat.le_refl _) (Nat.le_refl _) dX12_chance_5 (q_X12_lies hr2) ?_
  refine G_if_eq 23 dX12_chance_8 (by decide) (fun c3 => ?_) (fun c3 => ?_)
  · replace h := git c3 h
    refine G_ldc2 dX12_chance_23 kc_X12_353 ?_
    refine G_lret rfl (Nat.le_refl _) (Nat.le_refl _) dX12_chance_26 ?_
    cases h
    exact ⟨rfl, rfl, rfl, rfl, rfl⟩
  · replace h := gif c3 h
    refine G_aload_n dX12_chance_11 rfl rfl ?_
    refine G_iload_n dX12_chance_12 rfl rfl ?_
    refine G_iload_n dX12_chance_13 rfl rfl ?_
    refine G_iload_n dX12_chance_14 rfl rfl ?_
    refine G_iload dX12_chance_15 rfl ?_
    obtain ⟨r4, hr5, h⟩ := gB_some h
    refine G_cV (mj := gX12_isAsked) (As := [.int x1, .int x2, .int x3, .int x4]) (rest := []) ml_X12_349 vX12_isAsked sl_149 sk_149 (by decide) rfl rfl rfl (Nat.le_of_ble_eq_true rfl) (by decide) (Nat.le_refl _) (Nat.le_refl _) dX12_chance_17 (q_X12_isAsked hr5) ?_
    refine G_if_ne 27 dX12_chance_20 (by decide) (fun c6 => ?_) (fun c6 => ?_)
    · replace h := gif c6 h
      refine G_iload dX12_chance_27 rfl ?_
      refine G_iconst (v := 1) dX12_chance_29 rfl ?_
      refine G_icmp_ne 38 dX12_chance_30 (by decide) (fun c7 => ?_) (fun c7 => ?_)
      · replace h := gif c7 h
        refine G_lconst (v := 0) dX12_chance_38 rfl ?_
        refine S_lstore [some (.ref 149), some (.int x1), some (.int x2), some (.int x3), some (.int x4), some (.int x5), some (.long (0 : Int64)), none, none, none] dX12_chance_39 (by decide) rfl ?_
        refine G_iconst (v := 0) dX12_chance_41 rfl ?_
        refine S_istore [some (.ref 149), some (.int x1), some (.int x2), some (.int x3), some (.int x4), some (.int x5), some (.long (0 : Int64)), none, some (.int (0 : Int32)), none] dX12_chance_42 (by decide) rfl ?_
        exact q_X12_chance_44   gFu _ _ _ h
      · replace h := git c7 h
        refine G_aload_n dX12_chance_33 rfl rfl ?_
        refine G_getJ fl_X12_342 sl_149 sk_149 rfl dX12_chance_34 ?_
        refine G_lret rfl (Nat.le_refl _) (Nat.le_refl _) dX12_chance_37 ?_
        cases h
        exact ⟨rfl, rfl, rfl, rfl, rfl⟩
    · replace h := git c6 h
      refine G_ldc2 dX12_chance_23 kc_X12_353 ?_
      refine G_lret rfl (Nat.le_refl _) (Nat.le_refl _) dX12_chance_26 ?_
      cases h
      exact ⟨rfl, rfl, rfl, rfl, rfl⟩
def p_X12_worthOf_68 (K54 : Int64 → Int32 → Int32 → Option (Int64 × gIt)) (I : gIt) (J : gJt) (x1 : Int32) (x2 : Int32) (x3 : Int32) (y4 : Int64) (x6 : Int32) (x7 : Int32) : Nat → Int64 → Int32 → Option (Int64 × gIt)
  | 0, _, _ => none
  | n + 1, y8, x10 =>
    if (gshl (1 : Int32) (I 149 40)) ≤ x10 then
    gck (decide (¬ ((100 : Int32) + (I 149 8)) = 0)) (
    gL ((((100 : Int32) * x6) / ((100 : Int32) + (I 149 8)))) fun z5 =>
    gck (decide (¬ (J 149 42) = 0)) (
    gL ((y4 + (((y8 / (J 149 42)) * (Int32.toInt64 z5)) / (1000000 : Int64)))) fun u8 =>
    K54 u8 z5 (x7 + (1 : Int32))))
    else
    gB (p_X12_weightOf I x1 x3 x7 x10) fun r9 =>
    gck (gin x10 16) (
    gL ((y8 + (r9 * (Int32.toInt64 (I 173 (x10).toNatClampNeg))))) fun u12 =>
    p_X12_worthOf_68 K54 I J x1 x2 x3 y4 x6 x7 n u12 (x10 + (1 : Int32)))
def p_X12_worthOf_54 (I : gIt) (J : gJt) (x1 : Int32) (x2 : Int32) (x3 : Int32) : Nat → Int64 → Int32 → Int32 → Option (Int64 × gIt)
  | 0, _, _, _ => none
  | n + 1, y4, x6, x7 =>
    if (400 : Int32) ≤ x7 then
    some (y4, I)
    else
    p_X12_worthOf_68 (fun y4 x6 x7 => p_X12_worthOf_54 I J x1 x2 x3 n y4 x6 x7) I J x1 x2 x3 y4 x6 x7 gFu (0 : Int64) (0 : Int32)
def p_X12_worthOf_3 (J : gJt) (x1 : Int32) (x2 : Int32) (x3 : Int32) : Nat → gIt → Int32 → Option (Int64 × gIt)
  | 0, _, _ => none
  | n + 1, I, x4 =>
    if (gshl (1 : Int32) (I 149 40)) ≤ x4 then
    p_X12_worthOf_54 I J x1 x2 x3 gFu (0 : Int64) (1000000 : Int32) (0 : Int32)
    else
    gB (p_X12_aliveOf I x4) fun r13 =>
    gB (p_X12_lets I x1 r13) fun r15 =>
    gck (gin x2 16) (
    gL ((r15 171 (x2).toNatClampNeg)) fun z18 =>
    gck (gin x4 16) (
    gL (gu2 r15 173 (x4).toNatClampNeg z18) fun I20 =>
    p_X12_worthOf_3 J x1 x2 x3 n I20 (x4 + (1 : Int32))))
def p_X12_worthOf (I : gIt) (J : gJt) (x1 : Int32) (x2 : Int32) (x3 : Int32) : Option (Int64 × gIt) :=
  p_X12_worthOf_3 J x1 x2 x3 gFu I (0 : Int32)
set_option maxRecDepth 20000 in
theorem q_X12_worthOf_68 {l : Launch} {v : (Int64 × gIt)} {w : Bool} {K54 : Int64 → Int32 → Int32 → Option (Int64 × gIt)} {I : gIt} {J : gJt} {x1 : Int32} {x2 : Int32} {x3 : Int32} {y4 : Int64} {x6 : Int32} {x7 : Int32} (hK54 : ∀ (y4 : Int64) (x6 : Int32) (x7 : Int32), K54 y4 x6 x7 = some v → G l gX12_worthOf 8 0 0 (fun v' S' I' J' R' => v' = some (.long v.1) ∧ S' = gS0 ∧ I' = v.2 ∧ J' = J ∧ R' = gR0 w) 0 0 54 [some (.ref 149), some (.int x1), some (.int x2), some (.int x3), some (.long y4), none, some (.int x6), some (.int x7), none, none, none] [] gS0 I J (gR0 w)) : ∀ (n : Nat) (y8 : Int64) (x10 : Int32), p_X12_worthOf_68 K54 I J x1 x2 x3 y4 x6 x7 n y8 x10 = some v → G l gX12_worthOf 8 0 0 (fun v' S' I' J' R' => v' = some (.long v.1) ∧ S' = gS0 ∧ I' = v.2 ∧ J' = J ∧ R' = gR0 w) 0 0 68 [some (.ref 149), some (.int x1), some (.int x2), some (.int x3), some (.long y4), none, some (.int x6), some (.int x7), some (.long y8), none, some (.int x10)] [] gS0 I J (gR0 w) := by
  intro n
  induction n with
  | zero => intro _ _ h; cases h
  | succ n ih =>
    intro y8 x10 h
    rw [p_X12_worthOf_68] at h
    refine G_iload dX12_worthOf_68 rfl ?_
    refine G_iconst (v := 1) dX12_worthOf_70 rfl ?_
    refine G_aload_n dX12_worthOf_71 rfl rfl ?_
    refine G_getI fl_X12_339 sl_149 sk_149 rfl dX12_worthOf_72 ?_
    refine G_shl dX12_worthOf_75 ?_
    refine G_icmp_ge 109 dX12_worthOf_76 (by decide) (fun c3 => ?_) (fun c3 => ?_)
    · replace h := git c3 h
      refine G_bipush (v := 100) dX12_worthOf_109 rfl ?_
      refine G_iload dX12_worthOf_111 rfl ?_
      refine G_imul dX12_worthOf_113 ?_
      refine G_bipush (v := 100) dX12_worthOf_114 rfl ?_
      refine G_aload_n dX12_worthOf_116 rfl rfl ?_
      refine G_getI fl_X12_17 sl_149 sk_149 rfl dX12_worthOf_117 ?_
      refine G_iadd dX12_worthOf_120 ?_
      obtain ⟨b4, h⟩ := gck_some h
      refine G_idiv dX12_worthOf_121 (of_decide_eq_true b4) ?_
      refine G_nI fun z5 ez5 => ?_
      replace h := gL_some ez5 h
      refine S_istore [some (.ref 149), some (.int x1), some (.int x2), some (.int x3), some (.long y4), none, some (.int z5), some (.int x7), some (.long y8), none, some (.int x10)] dX12_worthOf_122 (by decide) rfl ?_
      refine G_lload dX12_worthOf_124 rfl ?_
      refine G_lload dX12_worthOf_126 rfl ?_
      refine G_aload_n dX12_worthOf_128 rfl rfl ?_
      refine G_getJ fl_X12_342 sl_149 sk_149 rfl dX12_worthOf_129 ?_
      obtain ⟨b6, h⟩ := gck_some h
      refine G_ldiv dX12_worthOf_132 (of_decide_eq_true b6) ?_
      refine G_iload dX12_worthOf_133 rfl ?_
      refine G_i2l dX12_worthOf_135 ?_
      refine G_lmul dX12_worthOf_136 ?_
      refine G_ldc2 dX12_worthOf_137 kc_X12_362 ?_
      refine G_ldiv dX12_worthOf_140 (by decide) ?_
      refine G_ladd dX12_worthOf_141 ?_
      refine G_nJ fun u8 eu8 => ?_
      replace h := gL_some eu8 h
      refine S_lstore [some (.ref 149), some (.int x1), some (.int x2), some (.int x3), some (.long u8), none, some (.int z5), some (.int x7), some (.long y8), none, some (.int x10)] dX12_worthOf_142 (by decide) rfl ?_
      refine S_iinc (v := (1 : Int32)) [some (.ref 149), some (.int x1), some (.int x2), some (.int x3), some (.long u8), none, some (.int z5), some (.int (x7 + (1 : Int32))), some (.long y8), none, some (.int x10)] dX12_worthOf_144 rfl rfl (by decide) rfl ?_
      refine G_goto 54 dX12_worthOf_147 (by decide) ?_
      refine G_sub [some (.ref 149), some (.int x1), some (.int x2), some (.int x3), some (.long u8), none, some (.int z5), some (.int (x7 + (1 : Int32))), none, none, none] ⟨rfl, rfl, rfl, rfl, rfl, rfl, rfl, trivial⟩ ?_
      exact hK54 _ _ _ h
    · replace h := gif c3 h
      refine G_lload dX12_worthOf_79 rfl ?_
      refine G_aload_n dX12_worthOf_81 rfl rfl ?_
      refine G_iload_n dX12_worthOf_82 rfl rfl ?_
      refine G_iload_n dX12_worthOf_83 rfl rfl ?_
      refine G_iload dX12_worthOf_84 rfl ?_
      refine G_iload dX12_worthOf_86 rfl ?_
      obtain ⟨r9, hr10, h⟩ := gB_some h
      refine G_cV (mj := gX12_weightOf) (As := [.int x1, .int x3, .int x7, .int x10]) (rest := [.long y8]) ml_X12_358 vX12_weightOf sl_149 sk_149 (by decide) rfl rfl rfl (Nat.le_of_ble_eq_true rfl) (by decide) (Nat.le_refl _) (Nat.le_refl _) dX12_worthOf_88 (q_X12_weightOf hr10) ?_
      refine G_aload_n dX12_worthOf_91 rfl rfl ?_
      refine G_getR fl_X12_88 sl_149 sk_149 rfl (rr_149_43 _) dX12_worthOf_92 ?_
      refine G_iload dX12_worthOf_95 rfl ?_
      obtain ⟨b11, h⟩ := gck_some h
      refine G_iald sl_173 ss_173 (gin_in b11) dX12_worthOf_97 ?_
      refine G_i2l dX12_worthOf_98 ?_
      refine G_lmul dX12_worthOf_99 ?_
      refine G_ladd dX12_worthOf_100 ?_
      refine G_nJ fun u12 eu12 => ?_
      replace h := gL_some eu12 h
      refine S_lstore [some (.ref 149), some (.int x1), some (.int x2), some (.int x3), some (.long y4), none, some (.int x6), some (.int x7), some (.long u12), none, some (.int x10)] dX12_worthOf_101 (by decide) rfl ?_
      refine S_iinc (v := (1 : Int32)) [some (.ref 149), some (.int x1), some (.int x2), some (.int x3), some (.long y4), none, some (.int x6), some (.int x7), some (.long u12), none, some (.int (x10 + (1 : Int32)))] dX12_worthOf_103 rfl rfl (by decide) rfl ?_
      refine G_goto 68 dX12_worthOf_106 (by decide) ?_
      exact ih _ _ h
set_option maxRecDepth 20000 in
theorem q_X12_worthOf_54 {l : Launch} {v : (Int64 × gIt)} {w : Bool} {I : gIt} {J : gJt} {x1 : Int32} {x2 : Int32} {x3 : Int32} : ∀ (n : Nat) (y4 : Int64) (x6 : Int32) (x7 : Int32), p_X12_worthOf_54 I J x1 x2 x3 n y4 x6 x7 = some v → G l gX12_worthOf 8 0 0 (fun v' S' I' J' R' => v' = some (.long v.1) ∧ S' = gS0 ∧ I' = v.2 ∧ J' = J ∧ R' = gR0 w) 0 0 54 [some (.ref 149), some (.int x1), some (.int x2), some (.int x3), some (.long y4), none, some (.int x6), some (.int x7), none, none, none] [] gS0 I J (gR0 w) := by
  intro n
  induction n with
  | zero => intro _ _ _ h; cases h
  | succ n ih =>
    intro y4 x6 x7 h
    rw [p_X12_worthOf_54] at h
    refine G_iload dX12_worthOf_54 rfl ?_
    refine G_sipush (v := 400) dX12_worthOf_56 rfl ?_
    refine G_icmp_ge 150 dX12_worthOf_59 (by decide) (fun c2 => ?_) (fun c2 => ?_)
    · replace h := git c2 h
      refine G_lload dX12_worthOf_150 rfl ?_
      refine G_lret rfl (Nat.le_refl _) (Nat.le_refl _) dX12_worthOf_152 ?_
      cases h
      exact ⟨rfl, rfl, rfl, rfl, rfl⟩
    · replace h := gif c2 h
      refine G_lconst (v := 0) dX12_worthOf_62 rfl ?_
      refine S_lstore [some (.ref 149), some (.int x1), some (.int x2), some (.int x3), some (.long y4), none, some (.int x6), some (.int x7), some (.long (0 : Int64)), none, none] dX12_worthOf_63 (by decide) rfl ?_
      refine G_iconst (v := 0) dX12_worthOf_65 rfl ?_
      refine S_istore [some (.ref 149), some (.int x1), some (.int x2), some (.int x3), some (.long y4), none, some (.int x6), some (.int x7), some (.long (0 : Int64)), none, some (.int (0 : Int32))] dX12_worthOf_66 (by decide) rfl ?_
      exact q_X12_worthOf_68 (fun y4' x6' x7' hq => ih y4' x6' x7' hq)  gFu _ _ h
set_option maxRecDepth 20000 in
theorem q_X12_worthOf_3 {l : Launch} {v : (Int64 × gIt)} {w : Bool} {J : gJt} {x1 : Int32} {x2 : Int32} {x3 : Int32} : ∀ (n : Nat) (I : gIt) (x4 : Int32), p_X12_worthOf_3 J x1 x2 x3 n I x4 = some v → G l gX12_worthOf 8 0 0 (fun v' S' I' J' R' => v' = some (.long v.1) ∧ S' = gS0 ∧ I' = v.2 ∧ J' = J ∧ R' = gR0 w) 0 0 3 [some (.ref 149), some (.int x1), some (.int x2), some (.int x3), some (.int x4), none, none, none, none, none, none] [] gS0 I J (gR0 w) := by
  intro n
  induction n with
  | zero => intro _ _ h; cases h
  | succ n ih =>
    intro I x4 h
    rw [p_X12_worthOf_3] at h
    refine G_iload dX12_worthOf_3 rfl ?_
    refine G_iconst (v := 1) dX12_worthOf_5 rfl ?_
    refine G_aload_n dX12_worthOf_6 rfl rfl ?_
    refine G_getI fl_X12_339 sl_149 sk_149 rfl dX12_worthOf_7 ?_
    refine G_shl dX12_worthOf_10 ?_
    refine G_icmp_ge 44 dX12_worthOf_11 (by decide) (fun c1 => ?_) (fun c1 => ?_)
    · replace h := git c1 h
      refine G_lconst (v := 0) dX12_worthOf_44 rfl ?_
      refine S_lstore [some (.ref 149), some (.int x1), some (.int x2), some (.int x3), some (.long (0 : Int64)), none, none, none, none, none, none] dX12_worthOf_45 (by decide) rfl ?_
      refine G_ldc dX12_worthOf_47 kc_X12_188 ?_
      refine S_istore [some (.ref 149), some (.int x1), some (.int x2), some (.int x3), some (.long (0 : Int64)), none, some (.int (1000000 : Int32)), none, none, none, none] dX12_worthOf_49 (by decide) rfl ?_
      refine G_iconst (v := 0) dX12_worthOf_51 rfl ?_
      refine S_istore [some (.ref 149), some (.int x1), some (.int x2), some (.int x3), some (.long (0 : Int64)), none, some (.int (1000000 : Int32)), some (.int (0 : Int32)), none, none, none] dX12_worthOf_52 (by decide) rfl ?_
      exact q_X12_worthOf_54   gFu _ _ _ h
    · replace h := gif c1 h
      refine G_aload_n dX12_worthOf_14 rfl rfl ?_
      refine G_iload_n dX12_worthOf_15 rfl rfl ?_
      refine G_aload_n dX12_worthOf_16 rfl rfl ?_
      refine G_iload dX12_worthOf_17 rfl ?_
      obtain ⟨r13, hr14, h⟩ := gB_some h
      refine G_cV (mj := gX12_aliveOf) (As := [.int x4]) (rest := [.int x1, .ref 149]) ml_X12_355 vX12_aliveOf sl_149 sk_149 (by decide) rfl rfl rfl (Nat.le_of_ble_eq_true rfl) (by decide) (Nat.le_refl _) (Nat.le_refl _) dX12_worthOf_19 (q_X12_aliveOf hr14) ?_
      obtain ⟨r15, hr16, h⟩ := gB_some h
      refine G_cV (mj := gX12_lets) (As := [.int x1, .int r13]) (rest := []) ml_X12_333 vX12_lets sl_149 sk_149 (by decide) rfl rfl rfl (Nat.le_of_ble_eq_true rfl) (by decide) (Nat.le_refl _) (Nat.le_refl _) dX12_worthOf_22 (q_X12_lets hr16) ?_
      refine G_aload_n dX12_worthOf_25 rfl rfl ?_
      refine G_getR fl_X12_88 sl_149 sk_149 rfl (rr_149_43 _) dX12_worthOf_26 ?_
      refine G_iload dX12_worthOf_29 rfl ?_
      refine G_aload_n dX12_worthOf_31 rfl rfl ?_
      refine G_getR fl_X12_82 sl_149 sk_149 rfl (rr_149_38 _) dX12_worthOf_32 ?_
      refine G_iload_n dX12_worthOf_35 rfl rfl ?_
      obtain ⟨b17, h⟩ := gck_some h
      refine G_iald sl_171 ss_171 (gin_in b17) dX12_worthOf_36 ?_
      refine G_nI fun z18 ez18 => ?_
      replace h := gL_some ez18 h
      obtain ⟨b19, h⟩ := gck_some h
      refine G_iast sl_173 ss_173 (gin_in b19) dX12_worthOf_37 ?_
      refine G_mI fun I20 eI20 => ?_
      replace h := gL_some eI20 h
      refine S_iinc (v := (1 : Int32)) [some (.ref 149), some (.int x1), some (.int x2), some (.int x3), some (.int (x4 + (1 : Int32))), none, none, none, none, none, none] dX12_worthOf_38 rfl rfl (by decide) rfl ?_
      refine G_goto 3 dX12_worthOf_41 (by decide) ?_
      exact ih _ _ h
set_option maxRecDepth 20000 in
theorem q_X12_worthOf {l : Launch} {I : gIt} {J : gJt} {w : Bool} {x1 : Int32} {x2 : Int32} {x3 : Int32} {v : (Int64 × gIt)} (h : p_X12_worthOf I J x1 x2 x3 = some v) : Cn l gX12_worthOf 8 0 0 [.ref 149, .int x1, .int x2, .int x3] gS0 I J (gR0 w) (fun v' S' I' J' R' => v' = some (.long v.1) ∧ S' = gS0 ∧ I' = v.2 ∧ J' = J ∧ R' = gR0 w) := by
  refine Cn.of [some (.ref 149), some (.int x1), some (.int x2), some (.int x3), none, none, none, none, none, none, none] (by decide) rfl (Nat.le_of_ble_eq_true rfl) ?_
  rw [p_X12_worthOf] at h
  refine G_iconst (v := 0) dX12_worthOf_0 rfl ?_
  refine S_istore [some (.ref 149), some (.int x1), some (.int x2), some (.int x3), some (.int (0 : Int32)), none, none, none, none, none, none] dX12_worthOf_1 (by decide) rfl ?_
  exact q_X12_worthOf_3   gFu _ _ h
def p_X12_worth (I : gIt) (J : gJt) (x1 : Int32) (x2 : Int32) (x3 : Int32) (x4 : Int32) : Option (Int64 × gIt × gJt) :=
  gB (p_X12_isAsked I J x1 x2 x3 x4) fun r1 =>
  if r1.1 = 0 then
  some ((-1 : Int64), r1.2.1, r1.2.2)
  else
  gB (p_X12_worthOf r1.2.1 r1.2.2 x1 x2 x4) fun r4 =>
  some (r4.1, r4.2, r1.2.2)
set_option maxRecDepth 20000 in
theorem q_X12_worth {l : Launch} {I : gIt} {J : gJt} {w : Bool} {x1 : Int32} {x2 : Int32} {x3 : Int32} {x4 : Int32} {v : (Int64 × gIt × gJt)} (h : p_X12_worth I J x1 x2 x3 x4 = some v) : Cn l gX12_worth 9 0 0 [.ref 149, .int x1, .int x2, .int x3, .int x4] gS0 I J (gR0 w) (fun v' S' I' J' R' => v' = some (.long v.1) ∧ S' = gS0 ∧ I' = v.2.1 ∧ J' = v.2.2 ∧ R' = gR0 w) := by
  refine Cn.of [some (.ref 149), some (.int x1), some (.int x2), some (.int x3), some (.int x4)] (by decide) rfl (Nat.le_of_ble_eq_true rfl) ?_
  rw [p_X12_worth] at h
  refine G_aload_n dX12_worth_0 rfl rfl ?_
  refine G_iload_n dX12_worth_1 rfl rfl ?_
  refine G_iload_n dX12_worth_2 rfl rfl ?_
  refine G_iload_n dX12_worth_3 rfl rfl ?_
  refine G_iload dX12_worth_4 rfl ?_
  obtain ⟨r1, hr2, h⟩ := gB_some h
  refine G_cV (mj := gX12_isAsked) (As := [.int x1, .int x2, .int x3, .int x4]) (rest := []) ml_X12_349 vX12_isAsked sl_149 sk_149 (by decide) rfl rfl rfl (Nat.le_of_ble_eq_true rfl) (by decide) (Nat.le_refl _) (Nat.le_refl _) dX12_worth_6 (q_X12_isAsked hr2) ?_
  refine G_if_eq 23 dX12_worth_9 (by decide) (fun c3 => ?_) (fun c3 => ?_)
  · replace h := git c3 h
    refine G_ldc2 dX12_worth_23 kc_X12_353 ?_
    refine G_lret rfl (Nat.le_refl _) (Nat.le_refl _) dX12_worth_26 ?_
    cases h
    exact ⟨rfl, rfl, rfl, rfl, rfl⟩
  · replace h := gif c3 h
    refine G_aload_n dX12_worth_12 rfl rfl ?_
    refine G_iload_n dX12_worth_13 rfl rfl ?_
    refine G_iload_n dX12_worth_14 rfl rfl ?_
    refine G_iload dX12_worth_15 rfl ?_
    obtain ⟨r4, hr5, h⟩ := gB_some h
    refine G_cV (mj := gX12_worthOf) (As := [.int x1, .int x2, .int x4]) (rest := []) ml_X12_364 vX12_worthOf sl_149 sk_149 (by decide) rfl rfl rfl (Nat.le_of_ble_eq_true rfl) (by decide) (Nat.le_refl _) (Nat.le_refl _) dX12_worth_17 (q_X12_worthOf hr5) ?_
    refine G_goto 26 dX12_worth_20 (by decide) ?_
    refine G_lret rfl (Nat.le_refl _) (Nat.le_refl _) dX12_worth_26 ?_
    cases h
    exact ⟨rfl, rfl, rfl, rfl, rfl⟩
def p_X12_isSale (I : gIt) (x1 : Int32) : Option Int32 :=
  gB (p_X12_lies (Int32.toInt64 x1) (0 : Int64) (Int32.toInt64 ((I 149 5) - (1 : Int32)))) fun r1 =>
  gck (gbo r1) (
  some r1)
set_option maxRecDepth 20000 in
theorem q_X12_isSale {l : Launch} {I : gIt} {J : gJt} {w : Bool} {x1 : Int32} {v : Int32} (h : p_X12_isSale I x1 = some v) : Cn l gX12_isSale 3 0 0 [.ref 149, .int x1] gS0 I J (gR0 w) (fun v' S' I' J' R' => v' = some (.int v) ∧ S' = gS0 ∧ I' = I ∧ J' = J ∧ R' = gR0 w) := by
  refine Cn.of [some (.ref 149), some (.int x1)] (by decide) rfl (Nat.le_of_ble_eq_true rfl) ?_
  rw [p_X12_isSale] at h
  refine G_iload_n dX12_isSale_0 rfl rfl ?_
  refine G_i2l dX12_isSale_1 ?_
  refine G_lconst (v := 0) dX12_isSale_2 rfl ?_
  refine G_aload_n dX12_isSale_3 rfl rfl ?_
  refine G_getI fl_X12_368 sl_149 sk_149 rfl dX12_isSale_4 ?_
  refine G_iconst (v := 1) dX12_isSale_7 rfl ?_
  refine G_isub dX12_isSale_8 ?_
  refine G_i2l dX12_isSale_9 ?_
  obtain ⟨r1, hr2, h⟩ := gB_some h
  refine G_cS (mj := gX12_lies) (As := [.long (Int32.toInt64 x1), .long (0 : Int64), .long (Int32.toInt64 ((I 149 5) - (1 : Int32)))]) (rest := []) ml_X12_156 vX12_lies rfl rfl (Nat.le_of_ble_eq_true rfl) (by decide) (Nat.le_refl _) (Nat.le_refl _) dX12_isSale_10 (q_X12_lies hr2) ?_
  obtain ⟨b3, h⟩ := gck_some h
  refine G_zret rfl (gbo_or b3) (Nat.le_refl _) (Nat.le_refl _) dX12_isSale_13 ?_
  cases h
  exact ⟨rfl, rfl, rfl, rfl, rfl⟩
def p_X12_isParts (x0 : Int32) : Option Int32 :=
  gB (p_X12_lies (Int32.toInt64 x0) (1 : Int64) (1000 : Int64)) fun r1 =>
  gck (gbo r1) (
  some r1)
set_option maxRecDepth 20000 in
theorem q_X12_isParts {l : Launch} {I : gIt} {J : gJt} {w : Bool} {x0 : Int32} {v : Int32} (h : p_X12_isParts x0 = some v) : Cn l gX12_isParts 3 0 0 [.int x0] gS0 I J (gR0 w) (fun v' S' I' J' R' => v' = some (.int v) ∧ S' = gS0 ∧ I' = I ∧ J' = J ∧ R' = gR0 w) := by
  refine Cn.of [some (.int x0)] (by decide) rfl (Nat.le_of_ble_eq_true rfl) ?_
  rw [p_X12_isParts] at h
  refine G_iload_n dX12_isParts_0 rfl rfl ?_
  refine G_i2l dX12_isParts_1 ?_
  refine G_lconst (v := 1) dX12_isParts_2 rfl ?_
  refine G_ldc2 dX12_isParts_3 kc_X12_371 ?_
  obtain ⟨r1, hr2, h⟩ := gB_some h
  refine G_cS (mj := gX12_lies) (As := [.long (Int32.toInt64 x0), .long (1 : Int64), .long (1000 : Int64)]) (rest := []) ml_X12_156 vX12_lies rfl rfl (Nat.le_of_ble_eq_true rfl) (by decide) (Nat.le_refl _) (Nat.le_refl _) dX12_isParts_6 (q_X12_lies hr2) ?_
  obtain ⟨b3, h⟩ := gck_some h
  refine G_zret rfl (gbo_or b3) (Nat.le_refl _) (Nat.le_refl _) dX12_isParts_9 ?_
  cases h
  exact ⟨rfl, rfl, rfl, rfl, rfl⟩
def p_X12_sale (I : gIt) (x1 : Int32) (x2 : Int32) (x3 : Int32) (x4 : Int32) (x5 : Int32) (x6 : Int32) : Option (Int32 × gIt) :=
  if (I 149 5) = (40 : Int32) then
  some ((-1 : Int32), I)
  else
  gB (p_X12_isPerson I x1) fun r2 =>
  if r2 = 0 then
  some ((-1 : Int32), I)
  else
  gB (p_X12_isPerson I x4) fun r5 =>
  if r5 = 0 then
  some ((-1 : Int32), I)
  else
  if x1 = x4 then
  some ((-1 : Int32), I)
  else
  gB (p_X12_isSettlement I x2) fun r9 =>
  if r9 = 0 then
  some ((-1 : Int32), I)
  else
  gB (p_X12_isParts x3) fun r12 =>
  if r12 = 0 then
  some ((-1 : Int32), I)
  else
  gB (p_X12_lies (Int32.toInt64 x5) (0 : Int64) (100000 : Int64)) fun r15 =>
  if r15 = 0 then
  some ((-1 : Int32), I)
  else
  gck (gin x2 10) (
  gB (p_X12_isDead I (I 158 (x2).toNatClampNeg) (I 149 2)) fun r19 =>
  if r19 = 0 then
  gck (gin (I 149 5) 40) (
  gL (gu2 I 174 ((I 149 5)).toNatClampNeg x1) fun I23 =>
  gck (gin (I23 149 5) 40) (
  gL (gu2 I23 175 ((I23 149 5)).toNatClampNeg x2) fun I25 =>
  gck (gin (I25 149 5) 40) (
  gL (gu2 I25 176 ((I25 149 5)).toNatClampNeg x3) fun I27 =>
  gck (gin (I27 149 5) 40) (
  gL (gu2 I27 177 ((I27 149 5)).toNatClampNeg x4) fun I29 =>
  gck (gin (I29 149 5) 40) (
  gL (gu2 I29 178 ((I29 149 5)).toNatClampNeg x5) fun I31 =>
  gL ((I31 149 2)) fun z32 =>
  gck (gin (I31 149 5) 40) (
  gL (gu2 I31 179 ((I31 149 5)).toNatClampNeg z32) fun I34 =>
  gck (gin (I34 149 5) 40) (
  gL (gu2 I34 180 ((I34 149 5)).toNatClampNeg (vp_nar .boolean x6)) fun I36 =>
  gck (gin (I36 149 5) 40) (
  gL (gu2 I36 181 ((I36 149 5)).toNatClampNeg (-1 : Int32)) fun I38 =>
  gck (gin (I38 149 5) 40) (
  gL (gu2 I38 182 ((I38 149 5)).toNatClampNeg (-1 : Int32)) fun I40 =>
  gck (gin (I40 149 5) 40) (
  gL (gu2 I40 183 ((I40 149 5)).toNatClampNeg (-1 : Int32)) fun I42 =>
  gL (((I42 149 5) + (1 : Int32))) fun z43 =>
  gL (gu2 I42 149 5 z43) fun I44 =>
  some (((I44 149 5) - (1 : Int32)), I44)))))))))))
  else
  some ((-1 : Int32), I))
set_option maxRecDepth 20000 in
theorem q_X12_sale {l : Launch} {I : gIt} {J : gJt} {w : Bool} {x1 : Int32} {x2 : Int32} {x3 : Int32} {x4 : Int32} {x5 : Int32} {x6 : Int32} {v : (Int32 × gIt)} (h : p_X12_sale I x1 x2 x3 x4 x5 x6 = some v) : Cn l gX12_sale 4 0 0 [.ref 149, .int x1, .int x2, .int x3, .int x4, .int x5, .int x6] gS0 I J (gR0 w) (fun v' S' I' J' R' => v' = some (.int v.1) ∧ S' = gS0 ∧ I' = v.2 ∧ J' = J ∧ R' = gR0 w) := by
  refine Cn.of [some (.ref 149), some (.int x1), some (.int x2), some (.int x3), some (.int x4), some (.int x5), some (.int x6)] (by decide) rfl (Nat.le_of_ble_eq_true rfl) ?_
  rw [p_X12_sale] at h
  refine G_aload_n dX12_sale_0 rfl rfl ?_
  refine G_getI fl_X12_368 sl_149 sk_149 rfl dX12_sale_1 ?_
  refine G_bipush (v := 40) dX12_sale_4 rfl ?_
  refine G_icmp_eq 77 dX12_sale_6 (by decide) (fun c1 => ?_) (fun c1 => ?_)
  · replace h := git c1 h
    refine G_iconst (v := -1) dX12_sale_77 rfl ?_
    refine G_iret rfl (Nat.le_refl _) (Nat.le_refl _) dX12_sale_78 ?_
    cases h
    exact ⟨rfl, rfl, rfl, rfl, rfl⟩
  · replace h := gif c1 h
    refine G_aload_n dX12_sale_9 rfl rfl ?_
    refine G_iload_n dX12_sale_10 rfl rfl ?_
    obtain ⟨r2, hr3, h⟩ := gB_some h
    refine G_cV (mj := gX12_isPerson) (As := [.int x1]) (rest := []) ml_X12_165 vX12_isPerson sl_149 sk_149 (by decide) rfl rfl rfl (Nat.le_of_ble_eq_true rfl) (by decide) (Nat.le_refl _) (Nat.le_refl _) dX12_sale_11 (q_X12_isPerson hr3) ?_
    refine G_if_eq 77 dX12_sale_14 (by decide) (fun c4 => ?_) (fun c4 => ?_)
    · replace h := git c4 h
      refine G_iconst (v := -1) dX12_sale_77 rfl ?_
      refine G_iret rfl (Nat.le_refl _) (Nat.le_refl _) dX12_sale_78 ?_
      cases h
      exact ⟨rfl, rfl, rfl, rfl, rfl⟩
    · replace h := gif c4 h
      refine G_aload_n dX12_sale_17 rfl rfl ?_
      refine G_iload dX12_sale_18 rfl ?_
      obtain ⟨r5, hr6, h⟩ := gB_some h
      refine G_cV (mj := gX12_isPerson) (As := [.int x4]) (rest := []) ml_X12_165 vX12_isPerson sl_149 sk_149 (by decide) rfl rfl rfl (Nat.le_of_ble_eq_true rfl) (by decide) (Nat.le_refl _) (Nat.le_refl _) dX12_sale_20 (q_X12_isPerson hr6) ?_
      refine G_if_eq 77 dX12_sale_23 (by decide) (fun c7 => ?_) (fun c7 => ?_)
      · replace h := git c7 h
        refine G_iconst (v := -1) dX12_sale_77 rfl ?_
        refine G_iret rfl (Nat.le_refl _) (Nat.le_refl _) dX12_sale_78 ?_
        cases h
        exact ⟨rfl, rfl, rfl, rfl, rfl⟩
      · replace h := gif c7 h
        refine G_iload_n dX12_sale_26 rfl rfl ?_
        refine G_iload dX12_sale_27 rfl ?_
        refine G_icmp_eq 77 dX12_sale_29 (by decide) (fun c8 => ?_) (fun c8 => ?_)
        · replace h := git c8 h
          refine G_iconst (v := -1) dX12_sale_77 rfl ?_
          refine G_iret rfl (Nat.le_refl _) (Nat.le_refl _) dX12_sale_78 ?_
          cases h
          exact ⟨rfl, rfl, rfl, rfl, rfl⟩
        · replace h := gif c8 h
          refine G_aload_n dX12_sale_32 rfl rfl ?_
          refine G_iload_n dX12_sale_33 rfl rfl ?_
          obtain ⟨r9, hr10, h⟩ := gB_some h
          refine G_cV (mj := gX12_isSettlement) (As := [.int x2]) (rest := []) ml_X12_308 vX12_isSettlement sl_149 sk_149 (by decide) rfl rfl rfl (Nat.le_of_ble_eq_true rfl) (by decide) (Nat.le_refl _) (Nat.le_refl _) dX12_sale_34 (q_X12_isSettlement hr10) ?_
          refine G_if_eq 77 dX12_sale_37 (by decide) (fun c11 => ?_) (fun c11 => ?_)
          · replace h := git c11 h
            refine G_iconst (v := -1) dX12_sale_77 rfl ?_
            refine G_iret rfl (Nat.le_refl _) (Nat.le_refl _) dX12_sale_78 ?_
            cases h
            exact ⟨rfl, rfl, rfl, rfl, rfl⟩
          · replace h := gif c11 h
            refine G_iload_n dX12_sale_40 rfl rfl ?_
            obtain ⟨r12, hr13, h⟩ := gB_some h
            refine G_cS (mj := gX12_isParts) (As := [.int x3]) (rest := []) ml_X12_373 vX12_isParts rfl rfl (Nat.le_of_ble_eq_true rfl) (by decide) (Nat.le_refl _) (Nat.le_refl _) dX12_sale_41 (q_X12_isParts hr13) ?_
            refine G_if_eq 77 dX12_sale_44 (by decide) (fun c14 => ?_) (fun c14 => ?_)
            · replace h := git c14 h
              refine G_iconst (v := -1) dX12_sale_77 rfl ?_
              refine G_iret rfl (Nat.le_refl _) (Nat.le_refl _) dX12_sale_78 ?_
              cases h
              exact ⟨rfl, rfl, rfl, rfl, rfl⟩
            · replace h := gif c14 h
              refine G_iload dX12_sale_47 rfl ?_
              refine G_i2l dX12_sale_49 ?_
              refine G_lconst (v := 0) dX12_sale_50 rfl ?_
              refine G_ldc2 dX12_sale_51 kc_X12_294 ?_
              obtain ⟨r15, hr16, h⟩ := gB_some h
              refine G_cS (mj := gX12_lies) (As := [.long (Int32.toInt64 x5), .long (0 : Int64), .long (100000 : Int64)]) (rest := []) ml_X12_156 vX12_lies rfl rfl (Nat.le_of_ble_eq_true rfl) (by decide) (Nat.le_refl _) (Nat.le_refl _) dX12_sale_54 (q_X12_lies hr16) ?_
              refine G_if_eq 77 dX12_sale_57 (by decide) (fun c17 => ?_) (fun c17 => ?_)
              · replace h := git c17 h
                refine G_iconst (v := -1) dX12_sale_77 rfl ?_
                refine G_iret rfl (Nat.le_refl _) (Nat.le_refl _) dX12_sale_78 ?_
                cases h
                exact ⟨rfl, rfl, rfl, rfl, rfl⟩
              · replace h := gif c17 h
                refine G_aload_n dX12_sale_60 rfl rfl ?_
                refine G_aload_n dX12_sale_61 rfl rfl ?_
                refine G_getR fl_X12_42 sl_149 sk_149 rfl (rr_149_17 _) dX12_sale_62 ?_
                refine G_iload_n dX12_sale_65 rfl rfl ?_
                obtain ⟨b18, h⟩ := gck_some h
                refine G_iald sl_158 ss_158 (gin_in b18) dX12_sale_66 ?_
                refine G_aload_n dX12_sale_67 rfl rfl ?_
                refine G_getI fl_X12_13 sl_149 sk_149 rfl dX12_sale_68 ?_
                obtain ⟨r19, hr20, h⟩ := gB_some h
                refine G_cV (mj := gX12_isDead) (As := [.int (I 158 (x2).toNatClampNeg), .int (I 149 2)]) (rest := []) ml_X12_336 vX12_isDead sl_149 sk_149 (by decide) rfl rfl rfl (Nat.le_of_ble_eq_true rfl) (by decide) (Nat.le_refl _) (Nat.le_refl _) dX12_sale_71 (q_X12_isDead hr20) ?_
                refine G_if_eq 79 dX12_sale_74 (by decide) (fun c21 => ?_) (fun c21 => ?_)
                · replace h := git c21 h
                  refine G_aload_n dX12_sale_79 rfl rfl ?_
                  refine G_getR fl_X12_91 sl_149 sk_149 rfl (rr_149_44 _) dX12_sale_80 ?_
                  refine G_aload_n dX12_sale_83 rfl rfl ?_
                  refine G_getI fl_X12_368 sl_149 sk_149 rfl dX12_sale_84 ?_
                  refine G_iload_n dX12_sale_87 rfl rfl ?_
                  obtain ⟨b22, h⟩ := gck_some h
                  refine G_iast sl_174 ss_174 (gin_in b22) dX12_sale_88 ?_
                  refine G_mI fun I23 eI23 => ?_
                  replace h := gL_some eI23 h
                  refine G_aload_n dX12_sale_89 rfl rfl ?_
                  refine G_getR fl_X12_94 sl_149 sk_149 rfl (rr_149_45 _) dX12_sale_90 ?_
                  refine G_aload_n dX12_sale_93 rfl rfl ?_
                  refine G_getI fl_X12_368 sl_149 sk_149 rfl dX12_sale_94 ?_
                  refine G_iload_n dX12_sale_97 rfl rfl ?_
                  obtain ⟨b24, h⟩ := gck_some h
                  refine G_iast sl_175 ss_175 (gin_in b24) dX12_sale_98 ?_
                  refine G_mI fun I25 eI25 => ?_
                  replace h := gL_some eI25 h
                  refine G_aload_n dX12_sale_99 rfl rfl ?_
                  refine G_getR fl_X12_97 sl_149 sk_149 rfl (rr_149_46 _) dX12_sale_100 ?_
                  refine G_aload_n dX12_sale_103 rfl rfl ?_
                  refine G_getI fl_X12_368 sl_149 sk_149 rfl dX12_sale_104 ?_
                  refine G_iload_n dX12_sale_107 rfl rfl ?_
                  obtain ⟨b26, h⟩ := gck_some h
                  refine G_iast sl_176 ss_176 (gin_in b26) dX12_sale_108 ?_
                  refine G_mI fun I27 eI27 => ?_
                  replace h := gL_some eI27 h
                  refine G_aload_n dX12_sale_109 rfl rfl ?_
                  refine G_getR fl_X12_100 sl_149 sk_149 rfl (rr_149_47 _) dX12_sale_110 ?_
                  refine G_aload_n dX12_sale_113 rfl rfl ?_
                  refine G_getI fl_X12_368 sl_149 sk_149 rfl dX12_sale_114 ?_
                  refine G_iload dX12_sale_117 rfl ?_
                  obtain ⟨b28, h⟩ := gck_some h
                  refine G_iast sl_177 ss_177 (gin_in b28) dX12_sale_119 ?_
                  refine G_mI fun I29 eI29 => ?_
                  replace h := gL_some eI29 h
                  refine G_aload_n dX12_sale_120 rfl rfl ?_
                  refine G_getR fl_X12_103 sl_149 sk_149 rfl (rr_149_48 _) dX12_sale_121 ?_
                  refine G_aload_n dX12_sale_124 rfl rfl ?_
                  refine G_getI fl_X12_368 sl_149 sk_149 rfl dX12_sale_125 ?_
                  refine G_iload dX12_sale_128 rfl ?_
                  obtain ⟨b30, h⟩ := gck_some h
                  refine G_iast sl_178 ss_178 (gin_in b30) dX12_sale_130 ?_
                  refine G_mI fun I31 eI31 => ?_
                  replace h := gL_some eI31 h
                  refine G_aload_n dX12_sale_131 rfl rfl ?_
                  refine G_getR fl_X12_106 sl_149 sk_149 rfl (rr_149_49 _) dX12_sale_132 ?_
                  refine G_aload_n dX12_sale_135 rfl rfl ?_
                  refine G_getI fl_X12_368 sl_149 sk_149 rfl dX12_sale_136 ?_
                  refine G_aload_n dX12_sale_139 rfl rfl ?_
                  refine G_getI fl_X12_13 sl_149 sk_149 rfl dX12_sale_140 ?_
                  refine G_nI fun z32 ez32 => ?_
                  replace h := gL_some ez32 h
                  obtain ⟨b33, h⟩ := gck_some h
                  refine G_iast sl_179 ss_179 (gin_in b33) dX12_sale_143 ?_
                  refine G_mI fun I34 eI34 => ?_
                  replace h := gL_some eI34 h
                  refine G_aload_n dX12_sale_144 rfl rfl ?_
                  refine G_getR fl_X12_109 sl_149 sk_149 rfl (rr_149_50 _) dX12_sale_145 ?_
                  refine G_aload_n dX12_sale_148 rfl rfl ?_
                  refine G_getI fl_X12_368 sl_149 sk_149 rfl dX12_sale_149 ?_
                  refine G_iload dX12_sale_152 rfl ?_
                  obtain ⟨b35, h⟩ := gck_some h
                  refine G_zast sl_180 ss_180 (gin_in b35) dX12_sale_154 ?_
                  refine G_mI fun I36 eI36 => ?_
                  replace h := gL_some eI36 h
                  refine G_aload_n dX12_sale_155 rfl rfl ?_
                  refine G_getR fl_X12_112 sl_149 sk_149 rfl (rr_149_51 _) dX12_sale_156 ?_
                  refine G_aload_n dX12_sale_159 rfl rfl ?_
                  refine G_getI fl_X12_368 sl_149 sk_149 rfl dX12_sale_160 ?_
                  refine G_iconst (v := -1) dX12_sale_163 rfl ?_
                  obtain ⟨b37, h⟩ := gck_some h
                  refine G_iast sl_181 ss_181 (gin_in b37) dX12_sale_164 ?_
                  refine G_mI fun I38 eI38 => ?_
                  replace h := gL_some eI38 h
                  refine G_aload_n dX12_sale_165 rfl rfl ?_
                  refine G_getR fl_X12_115 sl_149 sk_149 rfl (rr_149_52 _) dX12_sale_166 ?_
                  refine G_aload_n dX12_sale_169 rfl rfl ?_
                  refine G_getI fl_X12_368 sl_149 sk_149 rfl dX12_sale_170 ?_
                  refine G_iconst (v := -1) dX12_sale_173 rfl ?_
                  obtain ⟨b39, h⟩ := gck_some h
                  refine G_iast sl_182 ss_182 (gin_in b39) dX12_sale_174 ?_
                  refine G_mI fun I40 eI40 => ?_
                  replace h := gL_some eI40 h
                  refine G_aload_n dX12_sale_175 rfl rfl ?_
                  refine G_getR fl_X12_118 sl_149 sk_149 rfl (rr_149_53 _) dX12_sale_176 ?_
                  refine G_aload_n dX12_sale_179 rfl rfl ?_
                  refine G_getI fl_X12_368 sl_149 sk_149 rfl dX12_sale_180 ?_
                  refine G_iconst (v := -1) dX12_sale_183 rfl ?_
                  obtain ⟨b41, h⟩ := gck_some h
                  refine G_iast sl_183 ss_183 (gin_in b41) dX12_sale_184 ?_
                  refine G_mI fun I42 eI42 => ?_
                  replace h := gL_some eI42 h
                  refine G_aload_n dX12_sale_185 rfl rfl ?_
                  refine G_dup dX12_sale_186 rfl ?_
                  refine G_getI fl_X12_368 sl_149 sk_149 rfl dX12_sale_187 ?_
                  refine G_iconst (v := 1) dX12_sale_190 rfl ?_
                  refine G_iadd dX12_sale_191 ?_
                  refine G_nI fun z43 ez43 => ?_
                  replace h := gL_some ez43 h
                  refine G_putI fl_X12_368 sl_149 sk_149 rfl rfl ⟨rfl, rfl⟩ dX12_sale_192 ?_
                  refine G_mI fun I44 eI44 => ?_
                  replace h := gL_some eI44 h
                  refine G_aload_n dX12_sale_195 rfl rfl ?_
                  refine G_getI fl_X12_368 sl_149 sk_149 rfl dX12_sale_196 ?_
                  refine G_iconst (v := 1) dX12_sale_199 rfl ?_
                  refine G_isub dX12_sale_200 ?_
                  refine G_iret rfl (Nat.le_refl _) (Nat.le_refl _) dX12_sale_201 ?_
                  cases h
                  exact ⟨rfl, rfl, rfl, rfl, rfl⟩
                · replace h := gif c21 h
                  refine G_iconst (v := -1) dX12_sale_77 rfl ?_
                  refine G_iret rfl (Nat.le_refl _) (Nat.le_refl _) dX12_sale_78 ?_
                  cases h
                  exact ⟨rfl, rfl, rfl, rfl, rfl⟩
def p_X12_notice (I : gIt) (x1 : Int32) (x2 : Int32) : Option (Int32 × gIt) :=
  gB (p_X12_isSale I x1) fun r1 =>
  if r1 = 0 then
  some ((0 : Int32), I)
  else
  gck (gin x1 40) (
  if (I 181 (x1).toNatClampNeg) = (-1 : Int32) then
  gB (p_X12_lies (Int32.toInt64 x2) (0 : Int64) (527039 : Int64)) fun r6 =>
  if r6 = 0 then
  some ((0 : Int32), I)
  else
  gL ((I 149 2)) fun z9 =>
  gck (gin x1 40) (
  gL (gu2 I 181 (x1).toNatClampNeg z9) fun I11 =>
  gck (gin x1 40) (
  gL (gu2 I11 182 (x1).toNatClampNeg x2) fun I13 =>
  some ((1 : Int32), I13)))
  else
  some ((0 : Int32), I))
set_option maxRecDepth 20000 in
theorem q_X12_notice {l : Launch} {I : gIt} {J : gJt} {w : Bool} {x1 : Int32} {x2 : Int32} {v : (Int32 × gIt)} (h : p_X12_notice I x1 x2 = some v) : Cn l gX12_notice 4 0 0 [.ref 149, .int x1, .int x2] gS0 I J (gR0 w) (fun v' S' I' J' R' => v' = some (.int v.1) ∧ S' = gS0 ∧ I' = v.2 ∧ J' = J ∧ R' = gR0 w) := by
  refine Cn.of [some (.ref 149), some (.int x1), some (.int x2)] (by decide) rfl (Nat.le_of_ble_eq_true rfl) ?_
  rw [p_X12_notice] at h
  refine G_aload_n dX12_notice_0 rfl rfl ?_
  refine G_iload_n dX12_notice_1 rfl rfl ?_
  obtain ⟨r1, hr2, h⟩ := gB_some h
  refine G_cV (mj := gX12_isSale) (As := [.int x1]) (rest := []) ml_X12_376 vX12_isSale sl_149 sk_149 (by decide) rfl rfl rfl (Nat.le_of_ble_eq_true rfl) (by decide) (Nat.le_refl _) (Nat.le_refl _) dX12_notice_2 (q_X12_isSale hr2) ?_
  refine G_if_eq 30 dX12_notice_5 (by decide) (fun c3 => ?_) (fun c3 => ?_)
  · replace h := git c3 h
    refine G_iconst (v := 0) dX12_notice_30 rfl ?_
    refine G_zret rfl (Or.inl rfl) (Nat.le_refl _) (Nat.le_refl _) dX12_notice_31 ?_
    cases h
    exact ⟨rfl, rfl, rfl, rfl, rfl⟩
  · replace h := gif c3 h
    refine G_aload_n dX12_notice_8 rfl rfl ?_
    refine G_getR fl_X12_112 sl_149 sk_149 rfl (rr_149_51 _) dX12_notice_9 ?_
    refine G_iload_n dX12_notice_12 rfl rfl ?_
    obtain ⟨b4, h⟩ := gck_some h
    refine G_iald sl_181 ss_181 (gin_in b4) dX12_notice_13 ?_
    refine G_iconst (v := -1) dX12_notice_14 rfl ?_
    refine G_icmp_ne 30 dX12_notice_15 (by decide) (fun c5 => ?_) (fun c5 => ?_)
    · replace h := gif c5 h
      refine G_iconst (v := 0) dX12_notice_30 rfl ?_
      refine G_zret rfl (Or.inl rfl) (Nat.le_refl _) (Nat.le_refl _) dX12_notice_31 ?_
      cases h
      exact ⟨rfl, rfl, rfl, rfl, rfl⟩
    · replace h := git c5 h
      refine G_iload_n dX12_notice_18 rfl rfl ?_
      refine G_i2l dX12_notice_19 ?_
      refine G_lconst (v := 0) dX12_notice_20 rfl ?_
      refine G_ldc2 dX12_notice_21 kc_X12_379 ?_
      obtain ⟨r6, hr7, h⟩ := gB_some h
      refine G_cS (mj := gX12_lies) (As := [.long (Int32.toInt64 x2), .long (0 : Int64), .long (527039 : Int64)]) (rest := []) ml_X12_156 vX12_lies rfl rfl (Nat.le_of_ble_eq_true rfl) (by decide) (Nat.le_refl _) (Nat.le_refl _) dX12_notice_24 (q_X12_lies hr7) ?_
      refine G_if_ne 32 dX12_notice_27 (by decide) (fun c8 => ?_) (fun c8 => ?_)
      · replace h := gif c8 h
        refine G_aload_n dX12_notice_32 rfl rfl ?_
        refine G_getR fl_X12_112 sl_149 sk_149 rfl (rr_149_51 _) dX12_notice_33 ?_
        refine G_iload_n dX12_notice_36 rfl rfl ?_
        refine G_aload_n dX12_notice_37 rfl rfl ?_
        refine G_getI fl_X12_13 sl_149 sk_149 rfl dX12_notice_38 ?_
        refine G_nI fun z9 ez9 => ?_
        replace h := gL_some ez9 h
        obtain ⟨b10, h⟩ := gck_some h
        refine G_iast sl_181 ss_181 (gin_in b10) dX12_notice_41 ?_
        refine G_mI fun I11 eI11 => ?_
        replace h := gL_some eI11 h
        refine G_aload_n dX12_notice_42 rfl rfl ?_
        refine G_getR fl_X12_115 sl_149 sk_149 rfl (rr_149_52 _) dX12_notice_43 ?_
        refine G_iload_n dX12_notice_46 rfl rfl ?_
        refine G_iload_n dX12_notice_47 rfl rfl ?_
        obtain ⟨b12, h⟩ := gck_some h
        refine G_iast sl_182 ss_182 (gin_in b12) dX12_notice_48 ?_
        refine G_mI fun I13 eI13 => ?_
        replace h := gL_some eI13 h
        refine G_iconst (v := 1) dX12_notice_49 rfl ?_
        refine G_zret rfl (Or.inr rfl) (Nat.le_refl _) (Nat.le_refl _) dX12_notice_50 ?_
        cases h
        exact ⟨rfl, rfl, rfl, rfl, rfl⟩
      · replace h := git c8 h
        refine G_iconst (v := 0) dX12_notice_30 rfl ?_
        refine G_zret rfl (Or.inl rfl) (Nat.le_refl _) (Nat.le_refl _) dX12_notice_31 ?_
        cases h
        exact ⟨rfl, rfl, rfl, rfl, rfl⟩
def p_X12_charge (I : gIt) (x1 : Int32) (x2 : Int32) (x3 : Int32) (x4 : Int32) : Option (Int32 × gIt) :=
  if (I 149 6) = (20 : Int32) then
  some ((-1 : Int32), I)
  else
  gB (p_X12_isPerson I x1) fun r2 =>
  if r2 = 0 then
  some ((-1 : Int32), I)
  else
  gB (p_X12_isPerson I x3) fun r5 =>
  if r5 = 0 then
  some ((-1 : Int32), I)
  else
  if x1 = x3 then
  some ((-1 : Int32), I)
  else
  gB (p_X12_isSettlement I x2) fun r9 =>
  if r9 = 0 then
  some ((-1 : Int32), I)
  else
  gB (p_X12_lies (Int32.toInt64 x4) (1 : Int64) (100000 : Int64)) fun r12 =>
  if r12 = 0 then
  some ((-1 : Int32), I)
  else
  gck (gin (I 149 6) 20) (
  gL (gu2 I 184 ((I 149 6)).toNatClampNeg x1) fun I16 =>
  gck (gin (I16 149 6) 20) (
  gL (gu2 I16 185 ((I16 149 6)).toNatClampNeg x2) fun I18 =>
  gck (gin (I18 149 6) 20) (
  gL (gu2 I18 186 ((I18 149 6)).toNatClampNeg x3) fun I20 =>
  gck (gin (I20 149 6) 20) (
  gL (gu2 I20 187 ((I20 149 6)).toNatClampNeg x4) fun I22 =>
  gL ((I22 149 2)) fun z23 =>
  gck (gin (I22 149 6) 20) (
  gL (gu2 I22 188 ((I22 149 6)).toNatClampNeg z23) fun I25 =>
  gL (((I25 149 6) + (1 : Int32))) fun z26 =>
  gL (gu2 I25 149 6 z26) fun I27 =>
  some (((I27 149 6) - (1 : Int32)), I27))))))
set_option maxRecDepth 20000 in
theorem q_X12_charge {l : Launch} {I : gIt} {J : gJt} {w : Bool} {x1 : Int32} {x2 : Int32} {x3 : Int32} {x4 : Int32} {v : (Int32 × gIt)} (h : p_X12_charge I x1 x2 x3 x4 = some v) : Cn l gX12_charge 4 0 0 [.ref 149, .int x1, .int x2, .int x3, .int x4] gS0 I J (gR0 w) (fun v' S' I' J' R' => v' = some (.int v.1) ∧ S' = gS0 ∧ I' = v.2 ∧ J' = J ∧ R' = gR0 w) := by
  refine Cn.of [some (.ref 149), some (.int x1), some (.int x2), some (.int x3), some (.int x4)] (by decide) rfl (Nat.le_of_ble_eq_true rfl) ?_
  rw [p_X12_charge] at h
  refine G_aload_n dX12_charge_0 rfl rfl ?_
  refine G_getI fl_X12_381 sl_149 sk_149 rfl dX12_charge_1 ?_
  refine G_bipush (v := 20) dX12_charge_4 rfl ?_
  refine G_icmp_eq 51 dX12_charge_6 (by decide) (fun c1 => ?_) (fun c1 => ?_)
  · replace h := git c1 h
    refine G_iconst (v := -1) dX12_charge_51 rfl ?_
    refine G_iret rfl (Nat.le_refl _) (Nat.le_refl _) dX12_charge_52 ?_
    cases h
    exact ⟨rfl, rfl, rfl, rfl, rfl⟩
  · replace h := gif c1 h
    refine G_aload_n dX12_charge_9 rfl rfl ?_
    refine G_iload_n dX12_charge_10 rfl rfl ?_
    obtain ⟨r2, hr3, h⟩ := gB_some h
    refine G_cV (mj := gX12_isPerson) (As := [.int x1]) (rest := []) ml_X12_165 vX12_isPerson sl_149 sk_149 (by decide) rfl rfl rfl (Nat.le_of_ble_eq_true rfl) (by decide) (Nat.le_refl _) (Nat.le_refl _) dX12_charge_11 (q_X12_isPerson hr3) ?_
    refine G_if_eq 51 dX12_charge_14 (by decide) (fun c4 => ?_) (fun c4 => ?_)
    · replace h := git c4 h
      refine G_iconst (v := -1) dX12_charge_51 rfl ?_
      refine G_iret rfl (Nat.le_refl _) (Nat.le_refl _) dX12_charge_52 ?_
      cases h
      exact ⟨rfl, rfl, rfl, rfl, rfl⟩
    · replace h := gif c4 h
      refine G_aload_n dX12_charge_17 rfl rfl ?_
      refine G_iload_n dX12_charge_18 rfl rfl ?_
      obtain ⟨r5, hr6, h⟩ := gB_some h
      refine G_cV (mj := gX12_isPerson) (As := [.int x3]) (rest := []) ml_X12_165 vX12_isPerson sl_149 sk_149 (by decide) rfl rfl rfl (Nat.le_of_ble_eq_true rfl) (by decide) (Nat.le_refl _) (Nat.le_refl _) dX12_charge_19 (q_X12_isPerson hr6) ?_
      refine G_if_eq 51 dX12_charge_22 (by decide) (fun c7 => ?_) (fun c7 => ?_)
      · replace h := git c7 h
        refine G_iconst (v := -1) dX12_charge_51 rfl ?_
        refine G_iret rfl (Nat.le_refl _) (Nat.le_refl _) dX12_charge_52 ?_
        cases h
        exact ⟨rfl, rfl, rfl, rfl, rfl⟩
      · replace h := gif c7 h
        refine G_iload_n dX12_charge_25 rfl rfl ?_
        refine G_iload_n dX12_charge_26 rfl rfl ?_
        refine G_icmp_eq 51 dX12_charge_27 (by decide) (fun c8 => ?_) (fun c8 => ?_)
        · replace h := git c8 h
          refine G_iconst (v := -1) dX12_charge_51 rfl ?_
          refine G_iret rfl (Nat.le_refl _) (Nat.le_refl _) dX12_charge_52 ?_
          cases h
          exact ⟨rfl, rfl, rfl, rfl, rfl⟩
        · replace h := gif c8 h
          refine G_aload_n dX12_charge_30 rfl rfl ?_
          refine G_iload_n dX12_charge_31 rfl rfl ?_
          obtain ⟨r9, hr10, h⟩ := gB_some h
          refine G_cV (mj := gX12_isSettlement) (As := [.int x2]) (rest := []) ml_X12_308 vX12_isSettlement sl_149 sk_149 (by decide) rfl rfl rfl (Nat.le_of_ble_eq_true rfl) (by decide) (Nat.le_refl _) (Nat.le_refl _) dX12_charge_32 (q_X12_isSettlement hr10) ?_
          refine G_if_eq 51 dX12_charge_35 (by decide) (fun c11 => ?_) (fun c11 => ?_)
          · replace h := git c11 h
            refine G_iconst (v := -1) dX12_charge_51 rfl ?_
            refine G_iret rfl (Nat.le_refl _) (Nat.le_refl _) dX12_charge_52 ?_
            cases h
            exact ⟨rfl, rfl, rfl, rfl, rfl⟩
          · replace h := gif c11 h
            refine G_iload dX12_charge_38 rfl ?_
            refine G_i2l dX12_charge_40 ?_
            refine G_lconst (v := 1) dX12_charge_41 rfl ?_
            refine G_ldc2 dX12_charge_42 kc_X12_294 ?_
            obtain ⟨r12, hr13, h⟩ := gB_some h
            refine G_cS (mj := gX12_lies) (As := [.long (Int32.toInt64 x4), .long (1 : Int64), .long (100000 : Int64)]) (rest := []) ml_X12_156 vX12_lies rfl rfl (Nat.le_of_ble_eq_true rfl) (by decide) (Nat.le_refl _) (Nat.le_refl _) dX12_charge_45 (q_X12_lies hr13) ?_
            refine G_if_ne 53 dX12_charge_48 (by decide) (fun c14 => ?_) (fun c14 => ?_)
            · replace h := gif c14 h
              refine G_aload_n dX12_charge_53 rfl rfl ?_
              refine G_getR fl_X12_121 sl_149 sk_149 rfl (rr_149_54 _) dX12_charge_54 ?_
              refine G_aload_n dX12_charge_57 rfl rfl ?_
              refine G_getI fl_X12_381 sl_149 sk_149 rfl dX12_charge_58 ?_
              refine G_iload_n dX12_charge_61 rfl rfl ?_
              obtain ⟨b15, h⟩ := gck_some h
              refine G_iast sl_184 ss_184 (gin_in b15) dX12_charge_62 ?_
              refine G_mI fun I16 eI16 => ?_
              replace h := gL_some eI16 h
              refine G_aload_n dX12_charge_63 rfl rfl ?_
              refine G_getR fl_X12_124 sl_149 sk_149 rfl (rr_149_55 _) dX12_charge_64 ?_
              refine G_aload_n dX12_charge_67 rfl rfl ?_
              refine G_getI fl_X12_381 sl_149 sk_149 rfl dX12_charge_68 ?_
              refine G_iload_n dX12_charge_71 rfl rfl ?_
              obtain ⟨b17, h⟩ := gck_some h
              refine G_iast sl_185 ss_185 (gin_in b17) dX12_charge_72 ?_
              refine G_mI fun I18 eI18 => ?_
              replace h := gL_some eI18 h
              refine G_aload_n dX12_charge_73 rfl rfl ?_
              refine G_getR fl_X12_127 sl_149 sk_149 rfl (rr_149_56 _) dX12_charge_74 ?_
              refine G_aload_n dX12_charge_77 rfl rfl ?_
              refine G_getI fl_X12_381 sl_149 sk_149 rfl dX12_charge_78 ?_
              refine G_iload_n dX12_charge_81 rfl rfl ?_
              obtain ⟨b19, h⟩ := gck_some h
              refine G_iast sl_186 ss_186 (gin_in b19) dX12_charge_82 ?_
              refine G_mI fun I20 eI20 => ?_
              replace h := gL_some eI20 h
              refine G_aload_n dX12_charge_83 rfl rfl ?_
              refine G_getR fl_X12_130 sl_149 sk_149 rfl (rr_149_57 _) dX12_charge_84 ?_
              refine G_aload_n dX12_charge_87 rfl rfl ?_
              refine G_getI fl_X12_381 sl_149 sk_149 rfl dX12_charge_88 ?_
              refine G_iload dX12_charge_91 rfl ?_
              obtain ⟨b21, h⟩ := gck_some h
              refine G_iast sl_187 ss_187 (gin_in b21) dX12_charge_93 ?_
              refine G_mI fun I22 eI22 => ?_
              replace h := gL_some eI22 h
              refine G_aload_n dX12_charge_94 rfl rfl ?_
              refine G_getR fl_X12_133 sl_149 sk_149 rfl (rr_149_58 _) dX12_charge_95 ?_
              refine G_aload_n dX12_charge_98 rfl rfl ?_
              refine G_getI fl_X12_381 sl_149 sk_149 rfl dX12_charge_99 ?_
              refine G_aload_n dX12_charge_102 rfl rfl ?_
              refine G_getI fl_X12_13 sl_149 sk_149 rfl dX12_charge_103 ?_
              refine G_nI fun z23 ez23 => ?_
              replace h := gL_some ez23 h
              obtain ⟨b24, h⟩ := gck_some h
              refine G_iast sl_188 ss_188 (gin_in b24) dX12_charge_106 ?_
              refine G_mI fun I25 eI25 => ?_
              replace h := gL_some eI25 h
              refine G_aload_n dX12_charge_107 rfl rfl ?_
              refine G_dup dX12_charge_108 rfl ?_
              refine G_getI fl_X12_381 sl_149 sk_149 rfl dX12_charge_109 ?_
              refine G_iconst (v := 1) dX12_charge_112 rfl ?_
              refine G_iadd dX12_charge_113 ?_
              refine G_nI fun z26 ez26 => ?_
              replace h := gL_some ez26 h
              refine G_putI fl_X12_381 sl_149 sk_149 rfl rfl ⟨rfl, rfl⟩ dX12_charge_114 ?_
              refine G_mI fun I27 eI27 => ?_
              replace h := gL_some eI27 h
              refine G_aload_n dX12_charge_117 rfl rfl ?_
              refine G_getI fl_X12_381 sl_149 sk_149 rfl dX12_charge_118 ?_
              refine G_iconst (v := 1) dX12_charge_121 rfl ?_
              refine G_isub dX12_charge_122 ?_
              refine G_iret rfl (Nat.le_refl _) (Nat.le_refl _) dX12_charge_123 ?_
              cases h
              exact ⟨rfl, rfl, rfl, rfl, rfl⟩
            · replace h := git c14 h
              refine G_iconst (v := -1) dX12_charge_51 rfl ?_
              refine G_iret rfl (Nat.le_refl _) (Nat.le_refl _) dX12_charge_52 ?_
              cases h
              exact ⟨rfl, rfl, rfl, rfl, rfl⟩
def p_X12_isValue (x0 : Int32) : Option Int32 :=
  if x0 = (112 : Int32) then
  some (1 : Int32)
  else
  if x0 = (119 : Int32) then
  some (1 : Int32)
  else
  if x0 = (97 : Int32) then
  some (1 : Int32)
  else
  if x0 = (118 : Int32) then
  some (1 : Int32)
  else
  if x0 = (116 : Int32) then
  some (1 : Int32)
  else
  some (0 : Int32)
set_option maxRecDepth 20000 in
theorem q_X12_isValue {l : Launch} {I : gIt} {J : gJt} {w : Bool} {x0 : Int32} {v : Int32} (h : p_X12_isValue x0 = some v) : Cn l gX12_isValue 2 0 0 [.int x0] gS0 I J (gR0 w) (fun v' S' I' J' R' => v' = some (.int v) ∧ S' = gS0 ∧ I' = I ∧ J' = J ∧ R' = gR0 w) := by
  refine Cn.of [some (.int x0)] (by decide) rfl (Nat.le_of_ble_eq_true rfl) ?_
  rw [p_X12_isValue] at h
  refine G_iload_n dX12_isValue_0 rfl rfl ?_
  refine G_bipush (v := 112) dX12_isValue_1 rfl ?_
  refine G_icmp_eq 30 dX12_isValue_3 (by decide) (fun c1 => ?_) (fun c1 => ?_)
  · replace h := git c1 h
    refine G_iconst (v := 1) dX12_isValue_30 rfl ?_
    refine G_goto 35 dX12_isValue_31 (by decide) ?_
    refine G_zret rfl (Or.inr rfl) (Nat.le_refl _) (Nat.le_refl _) dX12_isValue_35 ?_
    cases h
    exact ⟨rfl, rfl, rfl, rfl, rfl⟩
  · replace h := gif c1 h
    refine G_iload_n dX12_isValue_6 rfl rfl ?_
    refine G_bipush (v := 119) dX12_isValue_7 rfl ?_
    refine G_icmp_eq 30 dX12_isValue_9 (by decide) (fun c2 => ?_) (fun c2 => ?_)
    · replace h := git c2 h
      refine G_iconst (v := 1) dX12_isValue_30 rfl ?_
      refine G_goto 35 dX12_isValue_31 (by decide) ?_
      refine G_zret rfl (Or.inr rfl) (Nat.le_refl _) (Nat.le_refl _) dX12_isValue_35 ?_
      cases h
      exact ⟨rfl, rfl, rfl, rfl, rfl⟩
    · replace h := gif c2 h
      refine G_iload_n dX12_isValue_12 rfl rfl ?_
      refine G_bipush (v := 97) dX12_isValue_13 rfl ?_
      refine G_icmp_eq 30 dX12_isValue_15 (by decide) (fun c3 => ?_) (fun c3 => ?_)
      · replace h := git c3 h
        refine G_iconst (v := 1) dX12_isValue_30 rfl ?_
        refine G_goto 35 dX12_isValue_31 (by decide) ?_
        refine G_zret rfl (Or.inr rfl) (Nat.le_refl _) (Nat.le_refl _) dX12_isValue_35 ?_
        cases h
        exact ⟨rfl, rfl, rfl, rfl, rfl⟩
      · replace h := gif c3 h
        refine G_iload_n dX12_isValue_18 rfl rfl ?_
        refine G_bipush (v := 118) dX12_isValue_19 rfl ?_
        refine G_icmp_eq 30 dX12_isValue_21 (by decide) (fun c4 => ?_) (fun c4 => ?_)
        · replace h := git c4 h
          refine G_iconst (v := 1) dX12_isValue_30 rfl ?_
          refine G_goto 35 dX12_isValue_31 (by decide) ?_
          refine G_zret rfl (Or.inr rfl) (Nat.le_refl _) (Nat.le_refl _) dX12_isValue_35 ?_
          cases h
          exact ⟨rfl, rfl, rfl, rfl, rfl⟩
        · replace h := gif c4 h
          refine G_iload_n dX12_isValue_24 rfl rfl ?_
          refine G_bipush (v := 116) dX12_isValue_25 rfl ?_
          refine G_icmp_ne 34 dX12_isValue_27 (by decide) (fun c5 => ?_) (fun c5 => ?_)
          · replace h := gif c5 h
            refine G_iconst (v := 0) dX12_isValue_34 rfl ?_
            refine G_zret rfl (Or.inl rfl) (Nat.le_refl _) (Nat.le_refl _) dX12_isValue_35 ?_
            cases h
            exact ⟨rfl, rfl, rfl, rfl, rfl⟩
          · replace h := git c5 h
            refine G_iconst (v := 1) dX12_isValue_30 rfl ?_
            refine G_goto 35 dX12_isValue_31 (by decide) ?_
            refine G_zret rfl (Or.inr rfl) (Nat.le_refl _) (Nat.le_refl _) dX12_isValue_35 ?_
            cases h
            exact ⟨rfl, rfl, rfl, rfl, rfl⟩
def p_X12_says (I : gIt) (x1 : Int32) (x2 : Int32) : Option gIt :=
  gB (p_X12_isGood I) fun r1 =>
  if r1 = 0 then
  some I
  else
  gck (gin ((100 : Int32) + (I 149 61)) 200) (
  gL (gu2 I 189 (((100 : Int32) + (I 149 61))).toNatClampNeg x1) fun I5 =>
  gck (gin ((100 : Int32) + (I5 149 61)) 200) (
  gL (gu2 I5 190 (((100 : Int32) + (I5 149 61))).toNatClampNeg x2) fun I7 =>
  gL (((I7 149 61) + (1 : Int32))) fun z8 =>
  gL (gu2 I7 149 61 z8) fun I9 =>
  some I9))
set_option maxRecDepth 20000 in
theorem q_X12_says {l : Launch} {I : gIt} {J : gJt} {w : Bool} {x1 : Int32} {x2 : Int32} {v : gIt} (h : p_X12_says I x1 x2 = some v) : Cn l gX12_says 3 0 0 [.ref 149, .int x1, .int x2] gS0 I J (gR0 w) (fun v' S' I' J' R' => v' = none ∧ S' = gS0 ∧ I' = v ∧ J' = J ∧ R' = gR0 w) := by
  refine Cn.of [some (.ref 149), some (.int x1), some (.int x2)] (by decide) rfl (Nat.le_of_ble_eq_true rfl) ?_
  rw [p_X12_says] at h
  refine G_aload_n dX12_says_0 rfl rfl ?_
  obtain ⟨r1, hr2, h⟩ := gB_some h
  refine G_cV (mj := gX12_isGood) (As := []) (rest := []) ml_X12_221 vX12_isGood sl_149 sk_149 (by decide) rfl rfl rfl (Nat.le_of_ble_eq_true rfl) (by decide) (Nat.le_refl _) (Nat.le_refl _) dX12_says_1 (q_X12_isGood hr2) ?_
  refine G_if_ne 8 dX12_says_4 (by decide) (fun c3 => ?_) (fun c3 => ?_)
  · replace h := gif c3 h
    refine G_aload_n dX12_says_8 rfl rfl ?_
    refine G_getR fl_X12_136 sl_149 sk_149 rfl (rr_149_62 _) dX12_says_9 ?_
    refine G_bipush (v := 100) dX12_says_12 rfl ?_
    refine G_aload_n dX12_says_14 rfl rfl ?_
    refine G_getI fl_X12_384 sl_149 sk_149 rfl dX12_says_15 ?_
    refine G_iadd dX12_says_18 ?_
    refine G_iload_n dX12_says_19 rfl rfl ?_
    obtain ⟨b4, h⟩ := gck_some h
    refine G_iast sl_189 ss_189 (gin_in b4) dX12_says_20 ?_
    refine G_mI fun I5 eI5 => ?_
    replace h := gL_some eI5 h
    refine G_aload_n dX12_says_21 rfl rfl ?_
    refine G_getR fl_X12_139 sl_149 sk_149 rfl (rr_149_63 _) dX12_says_22 ?_
    refine G_bipush (v := 100) dX12_says_25 rfl ?_
    refine G_aload_n dX12_says_27 rfl rfl ?_
    refine G_getI fl_X12_384 sl_149 sk_149 rfl dX12_says_28 ?_
    refine G_iadd dX12_says_31 ?_
    refine G_iload_n dX12_says_32 rfl rfl ?_
    obtain ⟨b6, h⟩ := gck_some h
    refine G_iast sl_190 ss_190 (gin_in b6) dX12_says_33 ?_
    refine G_mI fun I7 eI7 => ?_
    replace h := gL_some eI7 h
    refine G_aload_n dX12_says_34 rfl rfl ?_
    refine G_dup dX12_says_35 rfl ?_
    refine G_getI fl_X12_384 sl_149 sk_149 rfl dX12_says_36 ?_
    refine G_iconst (v := 1) dX12_says_39 rfl ?_
    refine G_iadd dX12_says_40 ?_
    refine G_nI fun z8 ez8 => ?_
    replace h := gL_some ez8 h
    refine G_putI fl_X12_384 sl_149 sk_149 rfl rfl ⟨rfl, rfl⟩ dX12_says_41 ?_
    refine G_mI fun I9 eI9 => ?_
    replace h := gL_some eI9 h
    refine G_vret rfl (Nat.le_refl _) (Nat.le_refl _) dX12_says_44 ?_
    cases h
    exact ⟨rfl, rfl, rfl, rfl, rfl⟩
  · replace h := git c3 h
    refine G_vret rfl (Nat.le_refl _) (Nat.le_refl _) dX12_says_7 ?_
    cases h
    exact ⟨rfl, rfl, rfl, rfl, rfl⟩
def p_X12_sums_0 (x1 : Int32) : Nat → gIt → Option gIt
  | 0, _ => none
  | n + 1, I =>
    gB (p_X12_top I) fun r1 =>
    if r1 = (42 : Int32) then
    gB (p_X12_top I) fun r4 =>
    gB (p_X12_says I r4 (0 : Int32)) fun r6 =>
    gL (((r6 149 34) - (1 : Int32))) fun z8 =>
    gL (gu2 r6 149 34 z8) fun I9 =>
    p_X12_sums_0 x1 n I9
    else
    if x1 = 0 then
    some I
    else
    gB (p_X12_top I) fun r11 =>
    if r11 = (43 : Int32) then
    gB (p_X12_top I) fun r14 =>
    gB (p_X12_says I r14 (0 : Int32)) fun r16 =>
    gL (((r16 149 34) - (1 : Int32))) fun z18 =>
    gL (gu2 r16 149 34 z18) fun I19 =>
    p_X12_sums_0 x1 n I19
    else
    gB (p_X12_top I) fun r20 =>
    if r20 = (45 : Int32) then
    gB (p_X12_top I) fun r23 =>
    gB (p_X12_says I r23 (0 : Int32)) fun r25 =>
    gL (((r25 149 34) - (1 : Int32))) fun z27 =>
    gL (gu2 r25 149 34 z27) fun I28 =>
    p_X12_sums_0 x1 n I28
    else
    some I
def p_X12_sums (I : gIt) (x1 : Int32) : Option gIt :=
  p_X12_sums_0 x1 gFu I
set_option maxRecDepth 20000 in
theorem q_X12_sums_0 {l : Launch} {v : gIt} {J : gJt} {w : Bool} {x1 : Int32} : ∀ (n : Nat) (I : gIt), p_X12_sums_0 x1 n I = some v → G l gX12_sums 4 0 0 (fun v' S' I' J' R' => v' = none ∧ S' = gS0 ∧ I' = v ∧ J' = J ∧ R' = gR0 w) 0 0 0 [some (.ref 149), some (.int x1)] [] gS0 I J (gR0 w) := by
  intro n
  induction n with
  | zero => intro _ h; cases h
  | succ n ih =>
    intro I h
    rw [p_X12_sums_0] at h
    refine G_aload_n dX12_sums_0 rfl rfl ?_
    obtain ⟨r1, hr2, h⟩ := gB_some h
    refine G_cV (mj := gX12_top) (As := []) (rest := []) ml_X12_268 vX12_top sl_149 sk_149 (by decide) rfl rfl rfl (Nat.le_of_ble_eq_true rfl) (by decide) (Nat.le_refl _) (Nat.le_refl _) dX12_sums_1 (q_X12_top hr2) ?_
    refine G_bipush (v := 42) dX12_sums_4 rfl ?_
    refine G_icmp_eq 31 dX12_sums_6 (by decide) (fun c3 => ?_) (fun c3 => ?_)
    · replace h := git c3 h
      refine G_aload_n dX12_sums_31 rfl rfl ?_
      refine G_aload_n dX12_sums_32 rfl rfl ?_
      obtain ⟨r4, hr5, h⟩ := gB_some h
      refine G_cV (mj := gX12_top) (As := []) (rest := [.ref 149]) ml_X12_268 vX12_top sl_149 sk_149 (by decide) rfl rfl rfl (Nat.le_of_ble_eq_true rfl) (by decide) (Nat.le_refl _) (Nat.le_refl _) dX12_sums_33 (q_X12_top hr5) ?_
      refine G_iconst (v := 0) dX12_sums_36 rfl ?_
      obtain ⟨r6, hr7, h⟩ := gB_some h
      refine G_cV (mj := gX12_says) (As := [.int r4, .int (0 : Int32)]) (rest := []) ml_X12_387 vX12_says sl_149 sk_149 (by decide) rfl rfl rfl (Nat.le_of_ble_eq_true rfl) (by decide) (Nat.le_refl _) (Nat.le_refl _) dX12_sums_37 (q_X12_says hr7) ?_
      refine G_aload_n dX12_sums_40 rfl rfl ?_
      refine G_dup dX12_sums_41 rfl ?_
      refine G_getI fl_X12_231 sl_149 sk_149 rfl dX12_sums_42 ?_
      refine G_iconst (v := 1) dX12_sums_45 rfl ?_
      refine G_isub dX12_sums_46 ?_
      refine G_nI fun z8 ez8 => ?_
      replace h := gL_some ez8 h
      refine G_putI fl_X12_231 sl_149 sk_149 rfl rfl ⟨rfl, rfl⟩ dX12_sums_47 ?_
      refine G_mI fun I9 eI9 => ?_
      replace h := gL_some eI9 h
      refine G_goto 0 dX12_sums_50 (by decide) ?_
      exact ih _ h
    · replace h := gif c3 h
      refine G_iload_n dX12_sums_9 rfl rfl ?_
      refine G_if_eq 53 dX12_sums_10 (by decide) (fun c10 => ?_) (fun c10 => ?_)
      · replace h := git c10 h
        refine G_vret rfl (Nat.le_refl _) (Nat.le_refl _) dX12_sums_53 ?_
        cases h
        exact ⟨rfl, rfl, rfl, rfl, rfl⟩
      · replace h := gif c10 h
        refine G_aload_n dX12_sums_13 rfl rfl ?_
        obtain ⟨r11, hr12, h⟩ := gB_some h
        refine G_cV (mj := gX12_top) (As := []) (rest := []) ml_X12_268 vX12_top sl_149 sk_149 (by decide) rfl rfl rfl (Nat.le_of_ble_eq_true rfl) (by decide) (Nat.le_refl _) (Nat.le_refl _) dX12_sums_14 (q_X12_top hr12) ?_
        refine G_bipush (v := 43) dX12_sums_17 rfl ?_
        refine G_icmp_eq 31 dX12_sums_19 (by decide) (fun c13 => ?_) (fun c13 => ?_)
        · replace h := git c13 h
          refine G_aload_n dX12_sums_31 rfl rfl ?_
          refine G_aload_n dX12_sums_32 rfl rfl ?_
          obtain ⟨r14, hr15, h⟩ := gB_some h
          refine G_cV (mj := gX12_top) (As := []) (rest := [.ref 149]) ml_X12_268 vX12_top sl_149 sk_149 (by decide) rfl rfl rfl (Nat.le_of_ble_eq_true rfl) (by decide) (Nat.le_refl _) (Nat.le_refl _) dX12_sums_33 (q_X12_top hr15) ?_
          refine G_iconst (v := 0) dX12_sums_36 rfl ?_
          obtain ⟨r16, hr17, h⟩ := gB_some h
          refine G_cV (mj := gX12_says) (As := [.int r14, .int (0 : Int32)]) (rest := []) ml_X12_387 vX12_says sl_149 sk_149 (by decide) rfl rfl rfl (Nat.le_of_ble_eq_true rfl) (by decide) (Nat.le_refl _) (Nat.le_refl _) dX12_sums_37 (q_X12_says hr17) ?_
          refine G_aload_n dX12_sums_40 rfl rfl ?_
          refine G_dup dX12_sums_41 rfl ?_
          refine G_getI fl_X12_231 sl_149 sk_149 rfl dX12_sums_42 ?_
          refine G_iconst (v := 1) dX12_sums_45 rfl ?_
          refine G_isub dX12_sums_46 ?_
          refine G_nI fun z18 ez18 => ?_
          replace h := gL_some ez18 h
          refine G_putI fl_X12_231 sl_149 sk_149 rfl rfl ⟨rfl, rfl⟩ dX12_sums_47 ?_
          refine G_mI fun I19 eI19 => ?_
          replace h := gL_some eI19 h
          refine G_goto 0 dX12_sums_50 (by decide) ?_
          exact ih _ h
        · replace h := gif c13 h
          refine G_aload_n dX12_sums_22 rfl rfl ?_
          obtain ⟨r20, hr21, h⟩ := gB_some h
          refine G_cV (mj := gX12_top) (As := []) (rest := []) ml_X12_268 vX12_top sl_149 sk_149 (by decide) rfl rfl rfl (Nat.le_of_ble_eq_true rfl) (by decide) (Nat.le_refl _) (Nat.le_refl _) dX12_sums_23 (q_X12_top hr21) ?_
          refine G_bipush (v := 45) dX12_sums_26 rfl ?_
          refine G_icmp_ne 53 dX12_sums_28 (by decide) (fun c22 => ?_) (fun c22 => ?_)
          · replace h := gif c22 h
            refine G_vret rfl (Nat.le_refl _) (Nat.le_refl _) dX12_sums_53 ?_
            cases h
            exact ⟨rfl, rfl, rfl, rfl, rfl⟩
          · replace h := git c22 h
            refine G_aload_n dX12_sums_31 rfl rfl ?_
            refine G_aload_n dX12_sums_32 rfl rfl ?_
            obtain ⟨r23, hr24, h⟩ := gB_some h
            refine G_cV (mj := gX12_top) (As := []) (rest := [.ref 149]) ml_X12_268 vX12_top sl_149 sk_149 (by decide) rfl rfl rfl (Nat.le_of_ble_eq_true rfl) (by decide) (Nat.le_refl _) (Nat.le_refl _) dX12_sums_33 (q_X12_top hr24) ?_
            refine G_iconst (v := 0) dX12_sums_36 rfl ?_
            obtain ⟨r25, hr26, h⟩ := gB_some h
            refine G_cV (mj := gX12_says) (As := [.int r23, .int (0 : Int32)]) (rest := []) ml_X12_387 vX12_says sl_149 sk_149 (by decide) rfl rfl rfl (Nat.le_of_ble_eq_true rfl) (by decide) (Nat.le_refl _) (Nat.le_refl _) dX12_sums_37 (q_X12_says hr26) ?_
            refine G_aload_n dX12_sums_40 rfl rfl ?_
            refine G_dup dX12_sums_41 rfl ?_
            refine G_getI fl_X12_231 sl_149 sk_149 rfl dX12_sums_42 ?_
            refine G_iconst (v := 1) dX12_sums_45 rfl ?_
            refine G_isub dX12_sums_46 ?_
            refine G_nI fun z27 ez27 => ?_
            replace h := gL_some ez27 h
            refine G_putI fl_X12_231 sl_149 sk_149 rfl rfl ⟨rfl, rfl⟩ dX12_sums_47 ?_
            refine G_mI fun I28 eI28 => ?_
            replace h := gL_some eI28 h
            refine G_goto 0 dX12_sums_50 (by decide) ?_
            exact ih _ h
set_option maxRecDepth 20000 in
theorem q_X12_sums {l : Launch} {I : gIt} {J : gJt} {w : Bool} {x1 : Int32} {v : gIt} (h : p_X12_sums I x1 = some v) : Cn l gX12_sums 4 0 0 [.ref 149, .int x1] gS0 I J (gR0 w) (fun v' S' I' J' R' => v' = none ∧ S' = gS0 ∧ I' = v ∧ J' = J ∧ R' = gR0 w) := by
  refine Cn.of [some (.ref 149), some (.int x1)] (by decide) rfl (Nat.le_of_ble_eq_true rfl) ?_
  rw [p_X12_sums] at h
  exact q_X12_sums_0   gFu _ h
def p_X12_digits_7 (x1 : Int32) : Nat → gIt → Int32 → Option gIt
  | 0, _, _ => none
  | n + 1, I, x2 =>
    gB (p_X12_isGood I) fun r2 =>
    if r2 = 0 then
    gB (p_X12_says I (1 : Int32) x2) fun r5 =>
    some r5
    else
    gB (p_X12_seesDigit I) fun r7 =>
    if r7 = 0 then
    gB (p_X12_says I (1 : Int32) x2) fun r10 =>
    some r10
    else
    gB (α := gIt) (
    if (I 149 28) = (x1 + (6 : Int32)) then
    gB (p_X12_wrongs I (2 : Int32) (I 149 28)) fun r22 =>
    some r22
    else
    some I) fun ph12 =>
    gB (p_X12_here ph12) fun r16 =>
    gL (((((10 : Int32) * x2) + r16) - (48 : Int32))) fun z18 =>
    gL (((ph12 149 28) + (1 : Int32))) fun z19 =>
    gL (gu2 ph12 149 28 z19) fun I20 =>
    p_X12_digits_7 x1 n I20 z18
def p_X12_digits (I : gIt) : Option gIt :=
  gL ((I 149 28)) fun z1 =>
  p_X12_digits_7 z1 gFu I (0 : Int32)
set_option maxRecDepth 20000 in
theorem q_X12_digits_7 {l : Launch} {v : gIt} {J : gJt} {w : Bool} {x1 : Int32} : ∀ (n : Nat) (I : gIt) (x2 : Int32), p_X12_digits_7 x1 n I x2 = some v → G l gX12_digits 4 0 0 (fun v' S' I' J' R' => v' = none ∧ S' = gS0 ∧ I' = v ∧ J' = J ∧ R' = gR0 w) 0 0 7 [some (.ref 149), some (.int x1), some (.int x2)] [] gS0 I J (gR0 w) := by
  intro n
  induction n with
  | zero => intro _ _ h; cases h
  | succ n ih =>
    intro I x2 h
    rw [p_X12_digits_7] at h
    refine G_aload_n dX12_digits_7 rfl rfl ?_
    obtain ⟨r2, hr3, h⟩ := gB_some h
    refine G_cV (mj := gX12_isGood) (As := []) (rest := []) ml_X12_221 vX12_isGood sl_149 sk_149 (by decide) rfl rfl rfl (Nat.le_of_ble_eq_true rfl) (by decide) (Nat.le_refl _) (Nat.le_refl _) dX12_digits_8 (q_X12_isGood hr3) ?_
    refine G_if_eq 67 dX12_digits_11 (by decide) (fun c4 => ?_) (fun c4 => ?_)
    · replace h := git c4 h
      refine G_aload_n dX12_digits_67 rfl rfl ?_
      refine G_iconst (v := 1) dX12_digits_68 rfl ?_
      refine G_iload_n dX12_digits_69 rfl rfl ?_
      obtain ⟨r5, hr6, h⟩ := gB_some h
      refine G_cV (mj := gX12_says) (As := [.int (1 : Int32), .int x2]) (rest := []) ml_X12_387 vX12_says sl_149 sk_149 (by decide) rfl rfl rfl (Nat.le_of_ble_eq_true rfl) (by decide) (Nat.le_refl _) (Nat.le_refl _) dX12_digits_70 (q_X12_says hr6) ?_
      refine G_vret rfl (Nat.le_refl _) (Nat.le_refl _) dX12_digits_73 ?_
      cases h
      exact ⟨rfl, rfl, rfl, rfl, rfl⟩
    · replace h := gif c4 h
      refine G_aload_n dX12_digits_14 rfl rfl ?_
      obtain ⟨r7, hr8, h⟩ := gB_some h
      refine G_cV (mj := gX12_seesDigit) (As := []) (rest := []) ml_X12_253 vX12_seesDigit sl_149 sk_149 (by decide) rfl rfl rfl (Nat.le_of_ble_eq_true rfl) (by decide) (Nat.le_refl _) (Nat.le_refl _) dX12_digits_15 (q_X12_seesDigit hr8) ?_
      refine G_if_eq 67 dX12_digits_18 (by decide) (fun c9 => ?_) (fun c9 => ?_)
      · replace h := git c9 h
        refine G_aload_n dX12_digits_67 rfl rfl ?_
        refine G_iconst (v := 1) dX12_digits_68 rfl ?_
        refine G_iload_n dX12_digits_69 rfl rfl ?_
        obtain ⟨r10, hr11, h⟩ := gB_some h
        refine G_cV (mj := gX12_says) (As := [.int (1 : Int32), .int x2]) (rest := []) ml_X12_387 vX12_says sl_149 sk_149 (by decide) rfl rfl rfl (Nat.le_of_ble_eq_true rfl) (by decide) (Nat.le_refl _) (Nat.le_refl _) dX12_digits_70 (q_X12_says hr11) ?_
        refine G_vret rfl (Nat.le_refl _) (Nat.le_refl _) dX12_digits_73 ?_
        cases h
        exact ⟨rfl, rfl, rfl, rfl, rfl⟩
      · replace h := gif c9 h
        refine G_aload_n dX12_digits_21 rfl rfl ?_
        refine G_getI fl_X12_200 sl_149 sk_149 rfl dX12_digits_22 ?_
        refine G_iload_n dX12_digits_25 rfl rfl ?_
        refine G_bipush (v := 6) dX12_digits_26 rfl ?_
        refine G_iadd dX12_digits_28 ?_
        obtain ⟨ph12, t13, r14⟩ := gB_some h
        have jn15 : G l gX12_digits 4 0 0 (fun v' S' I' J' R' => v' = none ∧ S' = gS0 ∧ I' = v ∧ J' = J ∧ R' = gR0 w) 0 0 41 [some (.ref 149), some (.int x1), some (.int x2)] [] gS0 ph12 J (gR0 w) := by
          refine G_bipush (v := 10) dX12_digits_41 rfl ?_
          refine G_iload_n dX12_digits_43 rfl rfl ?_
          refine G_imul dX12_digits_44 ?_
          refine G_aload_n dX12_digits_45 rfl rfl ?_
          obtain ⟨r16, hr17, r14⟩ := gB_some r14
          refine G_cV (mj := gX12_here) (As := []) (rest := [.int ((10 : Int32) * x2)]) ml_X12_213 vX12_here sl_149 sk_149 (by decide) rfl rfl rfl (Nat.le_of_ble_eq_true rfl) (by decide) (Nat.le_refl _) (Nat.le_refl _) dX12_digits_46 (q_X12_here hr17) ?_
          refine G_iadd dX12_digits_49 ?_
          refine G_bipush (v := 48) dX12_digits_50 rfl ?_
          refine G_isub dX12_digits_52 ?_
          refine G_nI fun z18 ez18 => ?_
          replace r14 := gL_some ez18 r14
          refine S_istore_n [some (.ref 149), some (.int x1), some (.int z18)] dX12_digits_53 rfl (by decide) rfl ?_
          refine G_aload_n dX12_digits_54 rfl rfl ?_
          refine G_dup dX12_digits_55 rfl ?_
          refine G_getI fl_X12_200 sl_149 sk_149 rfl dX12_digits_56 ?_
          refine G_iconst (v := 1) dX12_digits_59 rfl ?_
          refine G_iadd dX12_digits_60 ?_
          refine G_nI fun z19 ez19 => ?_
          replace r14 := gL_some ez19 r14
          refine G_putI fl_X12_200 sl_149 sk_149 rfl rfl ⟨rfl, rfl⟩ dX12_digits_61 ?_
          refine G_mI fun I20 eI20 => ?_
          replace r14 := gL_some eI20 r14
          refine G_goto 7 dX12_digits_64 (by decide) ?_
          exact ih _ _ r14
        refine G_icmp_ne 41 dX12_digits_29 (by decide) (fun c21 => ?_) (fun c21 => ?_)
        · replace t13 := gif c21 t13
          cases t13
          exact jn15
        · replace t13 := git c21 t13
          refine G_aload_n dX12_digits_32 rfl rfl ?_
          refine G_iconst (v := 2) dX12_digits_33 rfl ?_
          refine G_aload_n dX12_digits_34 rfl rfl ?_
          refine G_getI fl_X12_200 sl_149 sk_149 rfl dX12_digits_35 ?_
          obtain ⟨r22, hr23, t13⟩ := gB_some t13
          refine G_cV (mj := gX12_wrongs) (As := [.int (2 : Int32), .int (I 149 28)]) (rest := []) ml_X12_237 vX12_wrongs sl_149 sk_149 (by decide) rfl rfl rfl (Nat.le_of_ble_eq_true rfl) (by decide) (Nat.le_refl _) (Nat.le_refl _) dX12_digits_38 (q_X12_wrongs hr23) ?_
          cases t13
          exact jn15
set_option maxRecDepth 20000 in
theorem q_X12_digits {l : Launch} {I : gIt} {J : gJt} {w : Bool} {v : gIt} (h : p_X12_digits I = some v) : Cn l gX12_digits 4 0 0 [.ref 149] gS0 I J (gR0 w) (fun v' S' I' J' R' => v' = none ∧ S' = gS0 ∧ I' = v ∧ J' = J ∧ R' = gR0 w) := by
  refine Cn.of [some (.ref 149), none, none] (by decide) rfl (Nat.le_of_ble_eq_true rfl) ?_
  rw [p_X12_digits] at h
  refine G_aload_n dX12_digits_0 rfl rfl ?_
  refine G_getI fl_X12_200 sl_149 sk_149 rfl dX12_digits_1 ?_
  refine G_nI fun z1 ez1 => ?_
  replace h := gL_some ez1 h
  refine S_istore_n [some (.ref 149), some (.int z1), none] dX12_digits_4 rfl (by decide) rfl ?_
  refine G_iconst (v := 0) dX12_digits_5 rfl ?_
  refine S_istore_n [some (.ref 149), some (.int z1), some (.int (0 : Int32))] dX12_digits_6 rfl (by decide) rfl ?_
  exact q_X12_digits_7   gFu _ _ h
def p_X12_expression_14 : Nat → gIt → Int32 → Int32 → Option gIt
  | 0, _, _, _ => none
  | n + 1, I, x1, x2 =>
    gB (p_X12_isGood I) fun r3 =>
    if r3 = 0 then
    some I
    else
    if x2 = 0 then
    some I
    else
    gB (p_X12_here I) fun r7 =>
    if x1 = 0 then
    if x1 = 0 then
    if r7 = (42 : Int32) then
    gB (α := Int32) (
    if r7 = (42 : Int32) then
    some (0 : Int32)
    else
    some (1 : Int32)) fun ph12 =>
    gB (p_X12_sums I ph12) fun r16 =>
    gB (p_X12_puts r16 r7) fun r18 =>
    p_X12_expression_14 n r18 (1 : Int32) x2
    else
    if r7 = (43 : Int32) then
    gB (α := Int32) (
    if r7 = (42 : Int32) then
    some (0 : Int32)
    else
    some (1 : Int32)) fun ph22 =>
    gB (p_X12_sums I ph22) fun r26 =>
    gB (p_X12_puts r26 r7) fun r28 =>
    p_X12_expression_14 n r28 (1 : Int32) x2
    else
    if r7 = (45 : Int32) then
    gB (α := Int32) (
    if r7 = (42 : Int32) then
    some (0 : Int32)
    else
    some (1 : Int32)) fun ph52 =>
    gB (p_X12_sums I ph52) fun r56 =>
    gB (p_X12_puts r56 r7) fun r58 =>
    p_X12_expression_14 n r58 (1 : Int32) x2
    else
    if r7 = (41 : Int32) then
    if (I 149 33) ≤ 0 then
    gB (p_X12_sums I (1 : Int32)) fun r39 =>
    if (r39 149 33) ≤ 0 then
    p_X12_expression_14 n r39 x1 (0 : Int32)
    else
    gB (p_X12_wrongs r39 (1 : Int32) (r39 149 28)) fun r42 =>
    p_X12_expression_14 n r42 x1 (0 : Int32)
    else
    gB (p_X12_sums I (1 : Int32)) fun r44 =>
    gL (((r44 149 34) - (1 : Int32))) fun z46 =>
    gL (gu2 r44 149 34 z46) fun I47 =>
    gL (((I47 149 33) - (1 : Int32))) fun z48 =>
    gL (gu2 I47 149 33 z48) fun I49 =>
    gL (((I49 149 28) + (1 : Int32))) fun z50 =>
    gL (gu2 I49 149 28 z50) fun I51 =>
    p_X12_expression_14 n I51 x1 x2
    else
    gB (p_X12_sums I (1 : Int32)) fun r33 =>
    if (r33 149 33) ≤ 0 then
    p_X12_expression_14 n r33 x1 (0 : Int32)
    else
    gB (p_X12_wrongs r33 (1 : Int32) (r33 149 28)) fun r36 =>
    p_X12_expression_14 n r36 x1 (0 : Int32)
    else
    gB (p_X12_seesDigit I) fun r61 =>
    if r61 = 0 then
    gB (p_X12_isValue r7) fun r64 =>
    gB (α := gIt) (
    if r64 = 0 then
    gB (p_X12_wrongs I (1 : Int32) (I 149 28)) fun r75 =>
    some r75
    else
    some I) fun ph66 =>
    gB (p_X12_says ph66 (2 : Int32) r7) fun r70 =>
    gL (((r70 149 28) + (1 : Int32))) fun z72 =>
    gL (gu2 r70 149 28 z72) fun I73 =>
    p_X12_expression_14 n I73 (0 : Int32) x2
    else
    gB (p_X12_digits I) fun r77 =>
    p_X12_expression_14 n r77 (0 : Int32) x2
    else
    if r7 = (40 : Int32) then
    gB (p_X12_opens I) fun r149 =>
    p_X12_expression_14 n r149 x1 x2
    else
    if x1 = 0 then
    if r7 = (42 : Int32) then
    gB (α := Int32) (
    if r7 = (42 : Int32) then
    some (0 : Int32)
    else
    some (1 : Int32)) fun ph82 =>
    gB (p_X12_sums I ph82) fun r86 =>
    gB (p_X12_puts r86 r7) fun r88 =>
    p_X12_expression_14 n r88 (1 : Int32) x2
    else
    if r7 = (43 : Int32) then
    gB (α := Int32) (
    if r7 = (42 : Int32) then
    some (0 : Int32)
    else
    some (1 : Int32)) fun ph92 =>
    gB (p_X12_sums I ph92) fun r96 =>
    gB (p_X12_puts r96 r7) fun r98 =>
    p_X12_expression_14 n r98 (1 : Int32) x2
    else
    if r7 = (45 : Int32) then
    gB (α := Int32) (
    if r7 = (42 : Int32) then
    some (0 : Int32)
    else
    some (1 : Int32)) fun ph122 =>
    gB (p_X12_sums I ph122) fun r126 =>
    gB (p_X12_puts r126 r7) fun r128 =>
    p_X12_expression_14 n r128 (1 : Int32) x2
    else
    if r7 = (41 : Int32) then
    if (I 149 33) ≤ 0 then
    gB (p_X12_sums I (1 : Int32)) fun r109 =>
    if (r109 149 33) ≤ 0 then
    p_X12_expression_14 n r109 x1 (0 : Int32)
    else
    gB (p_X12_wrongs r109 (1 : Int32) (r109 149 28)) fun r112 =>
    p_X12_expression_14 n r112 x1 (0 : Int32)
    else
    gB (p_X12_sums I (1 : Int32)) fun r114 =>
    gL (((r114 149 34) - (1 : Int32))) fun z116 =>
    gL (gu2 r114 149 34 z116) fun I117 =>
    gL (((I117 149 33) - (1 : Int32))) fun z118 =>
    gL (gu2 I117 149 33 z118) fun I119 =>
    gL (((I119 149 28) + (1 : Int32))) fun z120 =>
    gL (gu2 I119 149 28 z120) fun I121 =>
    p_X12_expression_14 n I121 x1 x2
    else
    gB (p_X12_sums I (1 : Int32)) fun r103 =>
    if (r103 149 33) ≤ 0 then
    p_X12_expression_14 n r103 x1 (0 : Int32)
    else
    gB (p_X12_wrongs r103 (1 : Int32) (r103 149 28)) fun r106 =>
    p_X12_expression_14 n r106 x1 (0 : Int32)
    else
    gB (p_X12_seesDigit I) fun r131 =>
    if r131 = 0 then
    gB (p_X12_isValue r7) fun r134 =>
    gB (α := gIt) (
    if r134 = 0 then
    gB (p_X12_wrongs I (1 : Int32) (I 149 28)) fun r145 =>
    some r145
    else
    some I) fun ph136 =>
    gB (p_X12_says ph136 (2 : Int32) r7) fun r140 =>
    gL (((r140 149 28) + (1 : Int32))) fun z142 =>
    gL (gu2 r140 149 28 z142) fun I143 =>
    p_X12_expression_14 n I143 (0 : Int32) x2
    else
    gB (p_X12_digits I) fun r147 =>
    p_X12_expression_14 n r147 (0 : Int32) x2
def p_X12_expression (I : gIt) : Option gIt :=
  gL (gu2 I 149 34 (0 : Int32)) fun I1 =>
  gL (gu2 I1 149 33 (0 : Int32)) fun I2 =>
  p_X12_expression_14 gFu I2 (1 : Int32) (1 : Int32)
set_option maxRecDepth 20000 in
theorem q_X12_expression_14 {l : Launch} {v : gIt} {J : gJt} {w : Bool} : ∀ (n : Nat) (I : gIt) (x1 : Int32) (x2 : Int32), p_X12_expression_14 n I x1 x2 = some v → G l gX12_expression 5 0 0 (fun v' S' I' J' R' => v' = none ∧ S' = gS0 ∧ I' = v ∧ J' = J ∧ R' = gR0 w) 0 0 14 [some (.ref 149), some (.int x1), some (.int x2), none] [] gS0 I J (gR0 w) := by
  intro n
  induction n with
  | zero => intro _ _ _ h; cases h
  | succ n ih =>
    intro I x1 x2 h
    rw [p_X12_expression_14] at h
    refine G_aload_n dX12_expression_14 rfl rfl ?_
    obtain ⟨r3, hr4, h⟩ := gB_some h
    refine G_cV (mj := gX12_isGood) (As := []) (rest := []) ml_X12_221 vX12_isGood sl_149 sk_149 (by decide) rfl rfl rfl (Nat.le_of_ble_eq_true rfl) (by decide) (Nat.le_refl _) (Nat.le_refl _) dX12_expression_15 (q_X12_isGood hr4) ?_
    refine G_if_eq 222 dX12_expression_18 (by decide) (fun c5 => ?_) (fun c5 => ?_)
    · replace h := git c5 h
      refine G_vret rfl (Nat.le_refl _) (Nat.le_refl _) dX12_expression_222 ?_
      cases h
      exact ⟨rfl, rfl, rfl, rfl, rfl⟩
    · replace h := gif c5 h
      refine G_iload_n dX12_expression_21 rfl rfl ?_
      refine G_if_eq 222 dX12_expression_22 (by decide) (fun c6 => ?_) (fun c6 => ?_)
      · replace h := git c6 h
        refine G_vret rfl (Nat.le_refl _) (Nat.le_refl _) dX12_expression_222 ?_
        cases h
        exact ⟨rfl, rfl, rfl, rfl, rfl⟩
      · replace h := gif c6 h
        refine G_aload_n dX12_expression_25 rfl rfl ?_
        obtain ⟨r7, hr8, h⟩ := gB_some h
        refine G_cV (mj := gX12_here) (As := []) (rest := []) ml_X12_213 vX12_here sl_149 sk_149 (by decide) rfl rfl rfl (Nat.le_of_ble_eq_true rfl) (by decide) (Nat.le_refl _) (Nat.le_refl _) dX12_expression_26 (q_X12_here hr8) ?_
        refine S_istore_n [some (.ref 149), some (.int x1), some (.int x2), some (.int r7)] dX12_expression_29 rfl (by decide) rfl ?_
        refine G_iload_n dX12_expression_30 rfl rfl ?_
        refine G_if_eq 47 dX12_expression_31 (by decide) (fun c9 => ?_) (fun c9 => ?_)
        · replace h := git c9 h
          refine G_iload_n dX12_expression_47 rfl rfl ?_
          refine G_if_eq 102 dX12_expression_48 (by decide) (fun c10 => ?_) (fun c10 => ?_)
          · replace h := git c10 h
            refine G_iload_n dX12_expression_102 rfl rfl ?_
            refine G_bipush (v := 42) dX12_expression_103 rfl ?_
            refine G_icmp_eq 120 dX12_expression_105 (by decide) (fun c11 => ?_) (fun c11 => ?_)
            · replace h := git c11 h
              refine G_aload_n dX12_expression_120 rfl rfl ?_
              refine G_iload_n dX12_expression_121 rfl rfl ?_
              refine G_bipush (v := 42) dX12_expression_122 rfl ?_
              obtain ⟨ph12, t13, r14⟩ := gB_some h
              have jn15 : G l gX12_expression 5 0 0 (fun v' S' I' J' R' => v' = none ∧ S' = gS0 ∧ I' = v ∧ J' = J ∧ R' = gR0 w) 0 0 132 [some (.ref 149), some (.int x1), some (.int x2), some (.int r7)] [.int ph12, .ref 149] gS0 I J (gR0 w) := by
                obtain ⟨r16, hr17, r14⟩ := gB_some r14
                refine G_cV (mj := gX12_sums) (As := [.int ph12]) (rest := []) ml_X12_396 vX12_sums sl_149 sk_149 (by decide) rfl rfl rfl (Nat.le_of_ble_eq_true rfl) (by decide) (Nat.le_refl _) (Nat.le_refl _) dX12_expression_132 (q_X12_sums hr17) ?_
                refine G_aload_n dX12_expression_135 rfl rfl ?_
                refine G_iload_n dX12_expression_136 rfl rfl ?_
                obtain ⟨r18, hr19, r14⟩ := gB_some r14
                refine G_cV (mj := gX12_puts) (As := [.int r7]) (rest := []) ml_X12_241 vX12_puts sl_149 sk_149 (by decide) rfl rfl rfl (Nat.le_of_ble_eq_true rfl) (by decide) (Nat.le_refl _) (Nat.le_refl _) dX12_expression_137 (q_X12_puts hr19) ?_
                refine G_iconst (v := 1) dX12_expression_140 rfl ?_
                refine S_istore_n [some (.ref 149), some (.int (1 : Int32)), some (.int x2), some (.int r7)] dX12_expression_141 rfl (by decide) rfl ?_
                refine G_goto 219 dX12_expression_142 (by decide) ?_
                refine G_goto 14 dX12_expression_219 (by decide) ?_
                refine G_sub [some (.ref 149), some (.int (1 : Int32)), some (.int x2), none] ⟨rfl, rfl, rfl, trivial⟩ ?_
                exact ih _ _ _ r14
              refine G_icmp_eq 131 dX12_expression_124 (by decide) (fun c20 => ?_) (fun c20 => ?_)
              · replace t13 := git c20 t13
                refine G_iconst (v := 0) dX12_expression_131 rfl ?_
                cases t13
                exact jn15
              · replace t13 := gif c20 t13
                refine G_iconst (v := 1) dX12_expression_127 rfl ?_
                refine G_goto 132 dX12_expression_128 (by decide) ?_
                cases t13
                exact jn15
            · replace h := gif c11 h
              refine G_iload_n dX12_expression_108 rfl rfl ?_
              refine G_bipush (v := 43) dX12_expression_109 rfl ?_
              refine G_icmp_eq 120 dX12_expression_111 (by decide) (fun c21 => ?_) (fun c21 => ?_)
              · replace h := git c21 h
                refine G_aload_n dX12_expression_120 rfl rfl ?_
                refine G_iload_n dX12_expression_121 rfl rfl ?_
                refine G_bipush (v := 42) dX12_expression_122 rfl ?_
                obtain ⟨ph22, t23, r24⟩ := gB_some h
                have jn25 : G l gX12_expression 5 0 0 (fun v' S' I' J' R' => v' = none ∧ S' = gS0 ∧ I' = v ∧ J' = J ∧ R' = gR0 w) 0 0 132 [some (.ref 149), some (.int x1), some (.int x2), some (.int r7)] [.int ph22, .ref 149] gS0 I J (gR0 w) := by
                  obtain ⟨r26, hr27, r24⟩ := gB_some r24
                  refine G_cV (mj := gX12_sums) (As := [.int ph22]) (rest := []) ml_X12_396 vX12_sums sl_149 sk_149 (by decide) rfl rfl rfl (Nat.le_of_ble_eq_true rfl) (by decide) (Nat.le_refl _) (Nat.le_refl _) dX12_expression_132 (q_X12_sums hr27) ?_
                  refine G_aload_n dX12_expression_135 rfl rfl ?_
                  refine G_iload_n dX12_expression_136 rfl rfl ?_
                  obtain ⟨r28, hr29, r24⟩ := gB_some r24
                  refine G_cV (mj := gX12_puts) (As := [.int r7]) (rest := []) ml_X12_241 vX12_puts sl_149 sk_149 (by decide) rfl rfl rfl (Nat.le_of_ble_eq_true rfl) (by decide) (Nat.le_refl _) (Nat.le_refl _) dX12_expression_137 (q_X12_puts hr29) ?_
                  refine G_iconst (v := 1) dX12_expression_140 rfl ?_
                  refine S_istore_n [some (.ref 149), some (.int (1 : Int32)), some (.int x2), some (.int r7)] dX12_expression_141 rfl (by decide) rfl ?_
                  refine G_goto 219 dX12_expression_142 (by decide) ?_
                  refine G_goto 14 dX12_expression_219 (by decide) ?_
                  refine G_sub [some (.ref 149), some (.int (1 : Int32)), some (.int x2), none] ⟨rfl, rfl, rfl, trivial⟩ ?_
                  exact ih _ _ _ r24
                refine G_icmp_eq 131 dX12_expression_124 (by decide) (fun c30 => ?_) (fun c30 => ?_)
                · replace t23 := git c30 t23
                  refine G_iconst (v := 0) dX12_expression_131 rfl ?_
                  cases t23
                  exact jn25
                · replace t23 := gif c30 t23
                  refine G_iconst (v := 1) dX12_expression_127 rfl ?_
                  refine G_goto 132 dX12_expression_128 (by decide) ?_
                  cases t23
                  exact jn25
              · replace h := gif c21 h
                refine G_iload_n dX12_expression_114 rfl rfl ?_
                refine G_bipush (v := 45) dX12_expression_115 rfl ?_
                refine G_icmp_ne 145 dX12_expression_117 (by decide) (fun c31 => ?_) (fun c31 => ?_)
                · replace h := gif c31 h
                  refine G_iload_n dX12_expression_145 rfl rfl ?_
                  refine G_bipush (v := 41) dX12_expression_146 rfl ?_
                  refine G_icmp_ne 196 dX12_expression_148 (by decide) (fun c32 => ?_) (fun c32 => ?_)
                  · replace h := gif c32 h
                    refine G_aload_n dX12_expression_196 rfl rfl ?_
                    refine G_iconst (v := 1) dX12_expression_197 rfl ?_
                    obtain ⟨r33, hr34, h⟩ := gB_some h
                    refine G_cV (mj := gX12_sums) (As := [.int (1 : Int32)]) (rest := []) ml_X12_396 vX12_sums sl_149 sk_149 (by decide) rfl rfl rfl (Nat.le_of_ble_eq_true rfl) (by decide) (Nat.le_refl _) (Nat.le_refl _) dX12_expression_198 (q_X12_sums hr34) ?_
                    refine G_aload_n dX12_expression_201 rfl rfl ?_
                    refine G_getI fl_X12_234 sl_149 sk_149 rfl dX12_expression_202 ?_
                    refine G_if_le 217 dX12_expression_205 (by decide) (fun c35 => ?_) (fun c35 => ?_)
                    · replace h := git c35 h
                      refine G_iconst (v := 0) dX12_expression_217 rfl ?_
                      refine S_istore_n [some (.ref 149), some (.int x1), some (.int (0 : Int32)), some (.int r7)] dX12_expression_218 rfl (by decide) rfl ?_
                      refine G_goto 14 dX12_expression_219 (by decide) ?_
                      refine G_sub [some (.ref 149), some (.int x1), some (.int (0 : Int32)), none] ⟨rfl, rfl, rfl, trivial⟩ ?_
                      exact ih _ _ _ h
                    · replace h := gif c35 h
                      refine G_aload_n dX12_expression_208 rfl rfl ?_
                      refine G_iconst (v := 1) dX12_expression_209 rfl ?_
                      refine G_aload_n dX12_expression_210 rfl rfl ?_
                      refine G_getI fl_X12_200 sl_149 sk_149 rfl dX12_expression_211 ?_
                      obtain ⟨r36, hr37, h⟩ := gB_some h
                      refine G_cV (mj := gX12_wrongs) (As := [.int (1 : Int32), .int (r33 149 28)]) (rest := []) ml_X12_237 vX12_wrongs sl_149 sk_149 (by decide) rfl rfl rfl (Nat.le_of_ble_eq_true rfl) (by decide) (Nat.le_refl _) (Nat.le_refl _) dX12_expression_214 (q_X12_wrongs hr37) ?_
                      refine G_iconst (v := 0) dX12_expression_217 rfl ?_
                      refine S_istore_n [some (.ref 149), some (.int x1), some (.int (0 : Int32)), some (.int r7)] dX12_expression_218 rfl (by decide) rfl ?_
                      refine G_goto 14 dX12_expression_219 (by decide) ?_
                      refine G_sub [some (.ref 149), some (.int x1), some (.int (0 : Int32)), none] ⟨rfl, rfl, rfl, trivial⟩ ?_
                      exact ih _ _ _ h
                  · replace h := git c32 h
                    refine G_aload_n dX12_expression_151 rfl rfl ?_
                    refine G_getI fl_X12_234 sl_149 sk_149 rfl dX12_expression_152 ?_
                    refine G_if_le 196 dX12_expression_155 (by decide) (fun c38 => ?_) (fun c38 => ?_)
                    · replace h := git c38 h
                      refine G_aload_n dX12_expression_196 rfl rfl ?_
                      refine G_iconst (v := 1) dX12_expression_197 rfl ?_
                      obtain ⟨r39, hr40, h⟩ := gB_some h
                      refine G_cV (mj := gX12_sums) (As := [.int (1 : Int32)]) (rest := []) ml_X12_396 vX12_sums sl_149 sk_149 (by decide) rfl rfl rfl (Nat.le_of_ble_eq_true rfl) (by decide) (Nat.le_refl _) (Nat.le_refl _) dX12_expression_198 (q_X12_sums hr40) ?_
                      refine G_aload_n dX12_expression_201 rfl rfl ?_
                      refine G_getI fl_X12_234 sl_149 sk_149 rfl dX12_expression_202 ?_
                      refine G_if_le 217 dX12_expression_205 (by decide) (fun c41 => ?_) (fun c41 => ?_)
                      · replace h := git c41 h
                        refine G_iconst (v := 0) dX12_expression_217 rfl ?_
                        refine S_istore_n [some (.ref 149), some (.int x1), some (.int (0 : Int32)), some (.int r7)] dX12_expression_218 rfl (by decide) rfl ?_
                        refine G_goto 14 dX12_expression_219 (by decide) ?_
                        refine G_sub [some (.ref 149), some (.int x1), some (.int (0 : Int32)), none] ⟨rfl, rfl, rfl, trivial⟩ ?_
                        exact ih _ _ _ h
                      · replace h := gif c41 h
                        refine G_aload_n dX12_expression_208 rfl rfl ?_
                        refine G_iconst (v := 1) dX12_expression_209 rfl ?_
                        refine G_aload_n dX12_expression_210 rfl rfl ?_
                        refine G_getI fl_X12_200 sl_149 sk_149 rfl dX12_expression_211 ?_
                        obtain ⟨r42, hr43, h⟩ := gB_some h
                        refine G_cV (mj := gX12_wrongs) (As := [.int (1 : Int32), .int (r39 149 28)]) (rest := []) ml_X12_237 vX12_wrongs sl_149 sk_149 (by decide) rfl rfl rfl (Nat.le_of_ble_eq_true rfl) (by decide) (Nat.le_refl _) (Nat.le_refl _) dX12_expression_214 (q_X12_wrongs hr43) ?_
                        refine G_iconst (v := 0) dX12_expression_217 rfl ?_
                        refine S_istore_n [some (.ref 149), some (.int x1), some (.int (0 : Int32)), some (.int r7)] dX12_expression_218 rfl (by decide) rfl ?_
                        refine G_goto 14 dX12_expression_219 (by decide) ?_
                        refine G_sub [some (.ref 149), some (.int x1), some (.int (0 : Int32)), none] ⟨rfl, rfl, rfl, trivial⟩ ?_
                        exact ih _ _ _ h
                    · replace h := gif c38 h
                      refine G_aload_n dX12_expression_158 rfl rfl ?_
                      refine G_iconst (v := 1) dX12_expression_159 rfl ?_
                      obtain ⟨r44, hr45, h⟩ := gB_some h
                      refine G_cV (mj := gX12_sums) (As := [.int (1 : Int32)]) (rest := []) ml_X12_396 vX12_sums sl_149 sk_149 (by decide) rfl rfl rfl (Nat.le_of_ble_eq_true rfl) (by decide) (Nat.le_refl _) (Nat.le_refl _) dX12_expression_160 (q_X12_sums hr45) ?_
                      refine G_aload_n dX12_expression_163 rfl rfl ?_
                      refine G_dup dX12_expression_164 rfl ?_
                      refine G_getI fl_X12_231 sl_149 sk_149 rfl dX12_expression_165 ?_
                      refine G_iconst (v := 1) dX12_expression_168 rfl ?_
                      refine G_isub dX12_expression_169 ?_
                      refine G_nI fun z46 ez46 => ?_
                      replace h := gL_some ez46 h
                      refine G_putI fl_X12_231 sl_149 sk_149 rfl rfl ⟨rfl, rfl⟩ dX12_expression_170 ?_
                      refine G_mI fun I47 eI47 => ?_
                      replace h := gL_some eI47 h
                      refine G_aload_n dX12_expression_173 rfl rfl ?_
                      refine G_dup dX12_expression_174 rfl ?_
                      refine G_getI fl_X12_234 sl_149 sk_149 rfl dX12_expression_175 ?_
                      refine G_iconst (v := 1) dX12_expression_178 rfl ?_
                      refine G_isub dX12_expression_179 ?_
                      refine G_nI fun z48 ez48 => ?_
                      replace h := gL_some ez48 h
                      refine G_putI fl_X12_234 sl_149 sk_149 rfl rfl ⟨rfl, rfl⟩ dX12_expression_180 ?_
                      refine G_mI fun I49 eI49 => ?_
                      replace h := gL_some eI49 h
                      refine G_aload_n dX12_expression_183 rfl rfl ?_
                      refine G_dup dX12_expression_184 rfl ?_
                      refine G_getI fl_X12_200 sl_149 sk_149 rfl dX12_expression_185 ?_
                      refine G_iconst (v := 1) dX12_expression_188 rfl ?_
                      refine G_iadd dX12_expression_189 ?_
                      refine G_nI fun z50 ez50 => ?_
                      replace h := gL_some ez50 h
                      refine G_putI fl_X12_200 sl_149 sk_149 rfl rfl ⟨rfl, rfl⟩ dX12_expression_190 ?_
                      refine G_mI fun I51 eI51 => ?_
                      replace h := gL_some eI51 h
                      refine G_goto 219 dX12_expression_193 (by decide) ?_
                      refine G_goto 14 dX12_expression_219 (by decide) ?_
                      refine G_sub [some (.ref 149), some (.int x1), some (.int x2), none] ⟨rfl, rfl, rfl, trivial⟩ ?_
                      exact ih _ _ _ h
                · replace h := git c31 h
                  refine G_aload_n dX12_expression_120 rfl rfl ?_
                  refine G_iload_n dX12_expression_121 rfl rfl ?_
                  refine G_bipush (v := 42) dX12_expression_122 rfl ?_
                  obtain ⟨ph52, t53, r54⟩ := gB_some h
                  have jn55 : G l gX12_expression 5 0 0 (fun v' S' I' J' R' => v' = none ∧ S' = gS0 ∧ I' = v ∧ J' = J ∧ R' = gR0 w) 0 0 132 [some (.ref 149), some (.int x1), some (.int x2), some (.int r7)] [.int ph52, .ref 149] gS0 I J (gR0 w) := by
                    obtain ⟨r56, hr57, r54⟩ := gB_some r54
                    refine G_cV (mj := gX12_sums) (As := [.int ph52]) (rest := []) ml_X12_396 vX12_sums sl_149 sk_149 (by decide) rfl rfl rfl (Nat.le_of_ble_eq_true rfl) (by decide) (Nat.le_refl _) (Nat.le_refl _) dX12_expression_132 (q_X12_sums hr57) ?_
                    refine G_aload_n dX12_expression_135 rfl rfl ?_
                    refine G_iload_n dX12_expression_136 rfl rfl ?_
                    obtain ⟨r58, hr59, r54⟩ := gB_some r54
                    refine G_cV (mj := gX12_puts) (As := [.int r7]) (rest := []) ml_X12_241 vX12_puts sl_149 sk_149 (by decide) rfl rfl rfl (Nat.le_of_ble_eq_true rfl) (by decide) (Nat.le_refl _) (Nat.le_refl _) dX12_expression_137 (q_X12_puts hr59) ?_
                    refine G_iconst (v := 1) dX12_expression_140 rfl ?_
                    refine S_istore_n [some (.ref 149), some (.int (1 : Int32)), some (.int x2), some (.int r7)] dX12_expression_141 rfl (by decide) rfl ?_
                    refine G_goto 219 dX12_expression_142 (by decide) ?_
                    refine G_goto 14 dX12_expression_219 (by decide) ?_
                    refine G_sub [some (.ref 149), some (.int (1 : Int32)), some (.int x2), none] ⟨rfl, rfl, rfl, trivial⟩ ?_
                    exact ih _ _ _ r54
                  refine G_icmp_eq 131 dX12_expression_124 (by decide) (fun c60 => ?_) (fun c60 => ?_)
                  · replace t53 := git c60 t53
                    refine G_iconst (v := 0) dX12_expression_131 rfl ?_
                    cases t53
                    exact jn55
                  · replace t53 := gif c60 t53
                    refine G_iconst (v := 1) dX12_expression_127 rfl ?_
                    refine G_goto 132 dX12_expression_128 (by decide) ?_
                    cases t53
                    exact jn55
          · replace h := gif c10 h
            refine G_aload_n dX12_expression_51 rfl rfl ?_
            obtain ⟨r61, hr62, h⟩ := gB_some h
            refine G_cV (mj := gX12_seesDigit) (As := []) (rest := []) ml_X12_253 vX12_seesDigit sl_149 sk_149 (by decide) rfl rfl rfl (Nat.le_of_ble_eq_true rfl) (by decide) (Nat.le_refl _) (Nat.le_refl _) dX12_expression_52 (q_X12_seesDigit hr62) ?_
            refine G_if_eq 65 dX12_expression_55 (by decide) (fun c63 => ?_) (fun c63 => ?_)
            · replace h := git c63 h
              refine G_iload_n dX12_expression_65 rfl rfl ?_
              obtain ⟨r64, hr65, h⟩ := gB_some h
              refine G_cS (mj := gX12_isValue) (As := [.int r7]) (rest := []) ml_X12_393 vX12_isValue rfl rfl (Nat.le_of_ble_eq_true rfl) (by decide) (Nat.le_refl _) (Nat.le_refl _) dX12_expression_66 (q_X12_isValue hr65) ?_
              obtain ⟨ph66, t67, r68⟩ := gB_some h
              have jn69 : G l gX12_expression 5 0 0 (fun v' S' I' J' R' => v' = none ∧ S' = gS0 ∧ I' = v ∧ J' = J ∧ R' = gR0 w) 0 0 81 [some (.ref 149), some (.int x1), some (.int x2), some (.int r7)] [] gS0 ph66 J (gR0 w) := by
                refine G_aload_n dX12_expression_81 rfl rfl ?_
                refine G_iconst (v := 2) dX12_expression_82 rfl ?_
                refine G_iload_n dX12_expression_83 rfl rfl ?_
                obtain ⟨r70, hr71, r68⟩ := gB_some r68
                refine G_cV (mj := gX12_says) (As := [.int (2 : Int32), .int r7]) (rest := []) ml_X12_387 vX12_says sl_149 sk_149 (by decide) rfl rfl rfl (Nat.le_of_ble_eq_true rfl) (by decide) (Nat.le_refl _) (Nat.le_refl _) dX12_expression_84 (q_X12_says hr71) ?_
                refine G_aload_n dX12_expression_87 rfl rfl ?_
                refine G_dup dX12_expression_88 rfl ?_
                refine G_getI fl_X12_200 sl_149 sk_149 rfl dX12_expression_89 ?_
                refine G_iconst (v := 1) dX12_expression_92 rfl ?_
                refine G_iadd dX12_expression_93 ?_
                refine G_nI fun z72 ez72 => ?_
                replace r68 := gL_some ez72 r68
                refine G_putI fl_X12_200 sl_149 sk_149 rfl rfl ⟨rfl, rfl⟩ dX12_expression_94 ?_
                refine G_mI fun I73 eI73 => ?_
                replace r68 := gL_some eI73 r68
                refine G_iconst (v := 0) dX12_expression_97 rfl ?_
                refine S_istore_n [some (.ref 149), some (.int (0 : Int32)), some (.int x2), some (.int r7)] dX12_expression_98 rfl (by decide) rfl ?_
                refine G_goto 219 dX12_expression_99 (by decide) ?_
                refine G_goto 14 dX12_expression_219 (by decide) ?_
                refine G_sub [some (.ref 149), some (.int (0 : Int32)), some (.int x2), none] ⟨rfl, rfl, rfl, trivial⟩ ?_
                exact ih _ _ _ r68
              refine G_if_ne 81 dX12_expression_69 (by decide) (fun c74 => ?_) (fun c74 => ?_)
              · replace t67 := gif c74 t67
                cases t67
                exact jn69
              · replace t67 := git c74 t67
                refine G_aload_n dX12_expression_72 rfl rfl ?_
                refine G_iconst (v := 1) dX12_expression_73 rfl ?_
                refine G_aload_n dX12_expression_74 rfl rfl ?_
                refine G_getI fl_X12_200 sl_149 sk_149 rfl dX12_expression_75 ?_
                obtain ⟨r75, hr76, t67⟩ := gB_some t67
                refine G_cV (mj := gX12_wrongs) (As := [.int (1 : Int32), .int (I 149 28)]) (rest := []) ml_X12_237 vX12_wrongs sl_149 sk_149 (by decide) rfl rfl rfl (Nat.le_of_ble_eq_true rfl) (by decide) (Nat.le_refl _) (Nat.le_refl _) dX12_expression_78 (q_X12_wrongs hr76) ?_
                cases t67
                exact jn69
            · replace h := gif c63 h
              refine G_aload_n dX12_expression_58 rfl rfl ?_
              obtain ⟨r77, hr78, h⟩ := gB_some h
              refine G_cV (mj := gX12_digits) (As := []) (rest := []) ml_X12_390 vX12_digits sl_149 sk_149 (by decide) rfl rfl rfl (Nat.le_of_ble_eq_true rfl) (by decide) (Nat.le_refl _) (Nat.le_refl _) dX12_expression_59 (q_X12_digits hr78) ?_
              refine G_goto 97 dX12_expression_62 (by decide) ?_
              refine G_iconst (v := 0) dX12_expression_97 rfl ?_
              refine S_istore_n [some (.ref 149), some (.int (0 : Int32)), some (.int x2), some (.int r7)] dX12_expression_98 rfl (by decide) rfl ?_
              refine G_goto 219 dX12_expression_99 (by decide) ?_
              refine G_goto 14 dX12_expression_219 (by decide) ?_
              refine G_sub [some (.ref 149), some (.int (0 : Int32)), some (.int x2), none] ⟨rfl, rfl, rfl, trivial⟩ ?_
              exact ih _ _ _ h
        · replace h := gif c9 h
          refine G_iload_n dX12_expression_34 rfl rfl ?_
          refine G_bipush (v := 40) dX12_expression_35 rfl ?_
          refine G_icmp_ne 47 dX12_expression_37 (by decide) (fun c79 => ?_) (fun c79 => ?_)
          · replace h := gif c79 h
            refine G_iload_n dX12_expression_47 rfl rfl ?_
            refine G_if_eq 102 dX12_expression_48 (by decide) (fun c80 => ?_) (fun c80 => ?_)
            · replace h := git c80 h
              refine G_iload_n dX12_expression_102 rfl rfl ?_
              refine G_bipush (v := 42) dX12_expression_103 rfl ?_
              refine G_icmp_eq 120 dX12_expression_105 (by decide) (fun c81 => ?_) (fun c81 => ?_)
              · replace h := git c81 h
                refine G_aload_n dX12_expression_120 rfl rfl ?_
                refine G_iload_n dX12_expression_121 rfl rfl ?_
                refine G_bipush (v := 42) dX12_expression_122 rfl ?_
                obtain ⟨ph82, t83, r84⟩ := gB_some h
                have jn85 : G l gX12_expression 5 0 0 (fun v' S' I' J' R' => v' = none ∧ S' = gS0 ∧ I' = v ∧ J' = J ∧ R' = gR0 w) 0 0 132 [some (.ref 149), some (.int x1), some (.int x2), some (.int r7)] [.int ph82, .ref 149] gS0 I J (gR0 w) := by
                  obtain ⟨r86, hr87, r84⟩ := gB_some r84
                  refine G_cV (mj := gX12_sums) (As := [.int ph82]) (rest := []) ml_X12_396 vX12_sums sl_149 sk_149 (by decide) rfl rfl rfl (Nat.le_of_ble_eq_true rfl) (by decide) (Nat.le_refl _) (Nat.le_refl _) dX12_expression_132 (q_X12_sums hr87) ?_
                  refine G_aload_n dX12_expression_135 rfl rfl ?_
                  refine G_iload_n dX12_expression_136 rfl rfl ?_
                  obtain ⟨r88, hr89, r84⟩ := gB_some r84
                  refine G_cV (mj := gX12_puts) (As := [.int r7]) (rest := []) ml_X12_241 vX12_puts sl_149 sk_149 (by decide) rfl rfl rfl (Nat.le_of_ble_eq_true rfl) (by decide) (Nat.le_refl _) (Nat.le_refl _) dX12_expression_137 (q_X12_puts hr89) ?_
                  refine G_iconst (v := 1) dX12_expression_140 rfl ?_
                  refine S_istore_n [some (.ref 149), some (.int (1 : Int32)), some (.int x2), some (.int r7)] dX12_expression_141 rfl (by decide) rfl ?_
                  refine G_goto 219 dX12_expression_142 (by decide) ?_
                  refine G_goto 14 dX12_expression_219 (by decide) ?_
                  refine G_sub [some (.ref 149), some (.int (1 : Int32)), some (.int x2), none] ⟨rfl, rfl, rfl, trivial⟩ ?_
                  exact ih _ _ _ r84
                refine G_icmp_eq 131 dX12_expression_124 (by decide) (fun c90 => ?_) (fun c90 => ?_)
                · replace t83 := git c90 t83
                  refine G_iconst (v := 0) dX12_expression_131 rfl ?_
                  cases t83
                  exact jn85
                · replace t83 := gif c90 t83
                  refine G_iconst (v := 1) dX12_expression_127 rfl ?_
                  refine G_goto 132 dX12_expression_128 (by decide) ?_
                  cases t83
                  exact jn85
              · replace h := gif c81 h
                refine G_iload_n dX12_expression_108 rfl rfl ?_
                refine G_bipush (v := 43) dX12_expression_109 rfl ?_
                refine G_icmp_eq 120 dX12_expression_111 (by decide) (fun c91 => ?_) (fun c91 => ?_)
                · replace h := git c91 h
                  refine G_aload_n dX12_expression_120 rfl rfl ?_
                  refine G_iload_n dX12_expression_121 rfl rfl ?_
                  refine G_bipush (v := 42) dX12_expression_122 rfl ?_
                  obtain ⟨ph92, t93, r94⟩ := gB_some h
                  have jn95 : G l gX12_expression 5 0 0 (fun v' S' I' J' R' => v' = none ∧ S' = gS0 ∧ I' = v ∧ J' = J ∧ R' = gR0 w) 0 0 132 [some (.ref 149), some (.int x1), some (.int x2), some (.int r7)] [.int ph92, .ref 149] gS0 I J (gR0 w) := by
                    obtain ⟨r96, hr97, r94⟩ := gB_some r94
                    refine G_cV (mj := gX12_sums) (As := [.int ph92]) (rest := []) ml_X12_396 vX12_sums sl_149 sk_149 (by decide) rfl rfl rfl (Nat.le_of_ble_eq_true rfl) (by decide) (Nat.le_refl _) (Nat.le_refl _) dX12_expression_132 (q_X12_sums hr97) ?_
                    refine G_aload_n dX12_expression_135 rfl rfl ?_
                    refine G_iload_n dX12_expression_136 rfl rfl ?_
                    obtain ⟨r98, hr99, r94⟩ := gB_some r94
                    refine G_cV (mj := gX12_puts) (As := [.int r7]) (rest := []) ml_X12_241 vX12_puts sl_149 sk_149 (by decide) rfl rfl rfl (Nat.le_of_ble_eq_true rfl) (by decide) (Nat.le_refl _) (Nat.le_refl _) dX12_expression_137 (q_X12_puts hr99) ?_
                    refine G_iconst (v := 1) dX12_expression_140 rfl ?_
                    refine S_istore_n [some (.ref 149), some (.int (1 : Int32)), some (.int x2), some (.int r7)] dX12_expression_141 rfl (by decide) rfl ?_
                    refine G_goto 219 dX12_expression_142 (by decide) ?_
                    refine G_goto 14 dX12_expression_219 (by decide) ?_
                    refine G_sub [some (.ref 149), some (.int (1 : Int32)), some (.int x2), none] ⟨rfl, rfl, rfl, trivial⟩ ?_
                    exact ih _ _ _ r94
                  refine G_icmp_eq 131 dX12_expression_124 (by decide) (fun c100 => ?_) (fun c100 => ?_)
                  · replace t93 := git c100 t93
                    refine G_iconst (v := 0) dX12_expression_131 rfl ?_
                    cases t93
                    exact jn95
                  · replace t93 := gif c100 t93
                    refine G_iconst (v := 1) dX12_expression_127 rfl ?_
                    refine G_goto 132 dX12_expression_128 (by decide) ?_
                    cases t93
                    exact jn95
                · replace h := gif c91 h
                  refine G_iload_n dX12_expression_114 rfl rfl ?_
                  refine G_bipush (v := 45) dX12_expression_115 rfl ?_
                  refine G_icmp_ne 145 dX12_expression_117 (by decide) (fun c101 => ?_) (fun c101 => ?_)
                  · replace h := gif c101 h
                    refine G_iload_n dX12_expression_145 rfl rfl ?_
                    refine G_bipush (v := 41) dX12_expression_146 rfl ?_
                    refine G_icmp_ne 196 dX12_expression_148 (by decide) (fun c102 => ?_) (fun c102 => ?_)
                    · replace h := gif c102 h
                      refine G_aload_n dX12_expression_196 rfl rfl ?_
                      refine G_iconst (v := 1) dX12_expression_197 rfl ?_
                      obtain ⟨r103, hr104, h⟩ := gB_some h
                      refine G_cV (mj := gX12_sums) (As := [.int (1 : Int32)]) (rest := []) ml_X12_396 vX12_sums sl_149 sk_149 (by decide) rfl rfl rfl (Nat.le_of_ble_eq_true rfl) (by decide) (Nat.le_refl _) (Nat.le_refl _) dX12_expression_198 (q_X12_sums hr104) ?_
                      refine G_aload_n dX12_expression_201 rfl rfl ?_
                      refine G_getI fl_X12_234 sl_149 sk_149 rfl dX12_expression_202 ?_
                      refine G_if_le 217 dX12_expression_205 (by decide) (fun c105 => ?_) (fun c105 => ?_)
                      · replace h := git c105 h
                        refine G_iconst (v := 0) dX12_expression_217 rfl ?_
                        refine S_istore_n [some (.ref 149), some (.int x1), some (.int (0 : Int32)), some (.int r7)] dX12_expression_218 rfl (by decide) rfl ?_
                        refine G_goto 14 dX12_expression_219 (by decide) ?_
                        refine G_sub [some (.ref 149), some (.int x1), some (.int (0 : Int32)), none] ⟨rfl, rfl, rfl, trivial⟩ ?_
                        exact ih _ _ _ h
                      · replace h := gif c105 h
                        refine G_aload_n dX12_expression_208 rfl rfl ?_
                        refine G_iconst (v := 1) dX12_expression_209 rfl ?_
                        refine G_aload_n dX12_expression_210 rfl rfl ?_
                        refine G_getI fl_X12_200 sl_149 sk_149 rfl dX12_expression_211 ?_
                        obtain ⟨r106, hr107, h⟩ := gB_some h
                        refine G_cV (mj := gX12_wrongs) (As := [.int (1 : Int32), .int (r103 149 28)]) (rest := []) ml_X12_237 vX12_wrongs sl_149 sk_149 (by decide) rfl rfl rfl (Nat.le_of_ble_eq_true rfl) (by decide) (Nat.le_refl _) (Nat.le_refl _) dX12_expression_214 (q_X12_wrongs hr107) ?_
                        refine G_iconst (v := 0) dX12_expression_217 rfl ?_
                        refine S_istore_n [some (.ref 149), some (.int x1), some (.int (0 : Int32)), some (.int r7)] dX12_expression_218 rfl (by decide) rfl ?_
                        refine G_goto 14 dX12_expression_219 (by decide) ?_
                        refine G_sub [some (.ref 149), some (.int x1), some (.int (0 : Int32)), none] ⟨rfl, rfl, rfl, trivial⟩ ?_
                        exact ih _ _ _ h
                    · replace h := git c102 h
                      refine G_aload_n dX12_expression_151 rfl rfl ?_
                      refine G_getI fl_X12_234 sl_149 sk_149 rfl dX12_expression_152 ?_
                      refine G_if_le 196 dX12_expression_155 (by decide) (fun c108 => ?_) (fun c108 => ?_)
                      · replace h := git c108 h
                        refine G_aload_n dX12_expression_196 rfl rfl ?_
                        refine G_iconst (v := 1) dX12_expression_197 rfl ?_
                        obtain ⟨r109, hr110, h⟩ := gB_some h
                        refine G_cV (mj := gX12_sums) (As := [.int (1 : Int32)]) (rest := []) ml_X12_396 vX12_sums sl_149 sk_149 (by decide) rfl rfl rfl (Nat.le_of_ble_eq_true rfl) (by decide) (Nat.le_refl _) (Nat.le_refl _) dX12_expression_198 (q_X12_sums hr110) ?_
                        refine G_aload_n dX12_expression_201 rfl rfl ?_
                        refine G_getI fl_X12_234 sl_149 sk_149 rfl dX12_expression_202 ?_
                        refine G_if_le 217 dX12_expression_205 (by decide) (fun c111 => ?_) (fun c111 => ?_)
                        · replace h := git c111 h
                          refine G_iconst (v := 0) dX12_expression_217 rfl ?_
                          refine S_istore_n [some (.ref 149), some (.int x1), some (.int (0 : Int32)), some (.int r7)] dX12_expression_218 rfl (by decide) rfl ?_
                          refine G_goto 14 dX12_expression_219 (by decide) ?_
                          refine G_sub [some (.ref 149), some (.int x1), some (.int (0 : Int32)), none] ⟨rfl, rfl, rfl, trivial⟩ ?_
                          exact ih _ _ _ h
                        · replace h := gif c111 h
                          refine G_aload_n dX12_expression_208 rfl rfl ?_
                          refine G_iconst (v := 1) dX12_expression_209 rfl ?_
                          refine G_aload_n dX12_expression_210 rfl rfl ?_
                          refine G_getI fl_X12_200 sl_149 sk_149 rfl dX12_expression_211 ?_
                          obtain ⟨r112, hr113, h⟩ := gB_some h
                          refine G_cV (mj := gX12_wrongs) (As := [.int (1 : Int32), .int (r109 149 28)]) (rest := []) ml_X12_237 vX12_wrongs sl_149 sk_149 (by decide) rfl rfl rfl (Nat.le_of_ble_eq_true rfl) (by decide) (Nat.le_refl _) (Nat.le_refl _) dX12_expression_214 (q_X12_wrongs hr113) ?_
                          refine G_iconst (v := 0) dX12_expression_217 rfl ?_
                          refine S_istore_n [some (.ref 149), some (.int x1), some (.int (0 : Int32)), some (.int r7)] dX12_expression_218 rfl (by decide) rfl ?_
                          refine G_goto 14 dX12_expression_219 (by decide) ?_
                          refine G_sub [some (.ref 149), some (.int x1), some (.int (0 : Int32)), none] ⟨rfl, rfl, rfl, trivial⟩ ?_
                          exact ih _ _ _ h
                      · replace h := gif c108 h
                        refine G_aload_n dX12_expression_158 rfl rfl ?_
                        refine G_iconst (v := 1) dX12_expression_159 rfl ?_
                        obtain ⟨r114, hr115, h⟩ := gB_some h
                        refine G_cV (mj := gX12_sums) (As := [.int (1 : Int32)]) (rest := []) ml_X12_396 vX12_sums sl_149 sk_149 (by decide) rfl rfl rfl (Nat.le_of_ble_eq_true rfl) (by decide) (Nat.le_refl _) (Nat.le_refl _) dX12_expression_160 (q_X12_sums hr115) ?_
                        refine G_aload_n dX12_expression_163 rfl rfl ?_
                        refine G_dup dX12_expression_164 rfl ?_
                        refine G_getI fl_X12_231 sl_149 sk_149 rfl dX12_expression_165 ?_
                        refine G_iconst (v := 1) dX12_expression_168 rfl ?_
                        refine G_isub dX12_expression_169 ?_
                        refine G_nI fun z116 ez116 => ?_
                        replace h := gL_some ez116 h
                        refine G_putI fl_X12_231 sl_149 sk_149 rfl rfl ⟨rfl, rfl⟩ dX12_expression_170 ?_
                        refine G_mI fun I117 eI117 => ?_
                        replace h := gL_some eI117 h
                        refine G_aload_n dX12_expression_173 rfl rfl ?_
                        refine G_dup dX12_expression_174 rfl ?_
                        refine G_getI fl_X12_234 sl_149 sk_149 rfl dX12_expression_175 ?_
                        refine G_iconst (v := 1) dX12_expression_178 rfl ?_
                        refine G_isub dX12_expression_179 ?_
                        refine G_nI fun z118 ez118 => ?_
                        replace h := gL_some ez118 h
                        refine G_putI fl_X12_234 sl_149 sk_149 rfl rfl ⟨rfl, rfl⟩ dX12_expression_180 ?_
                        refine G_mI fun I119 eI119 => ?_
                        replace h := gL_some eI119 h
                        refine G_aload_n dX12_expression_183 rfl rfl ?_
                        refine G_dup dX12_expression_184 rfl ?_
                        refine G_getI fl_X12_200 sl_149 sk_149 rfl dX12_expression_185 ?_
                        refine G_iconst (v := 1) dX12_expression_188 rfl ?_
                        refine G_iadd dX12_expression_189 ?_
                        refine G_nI fun z120 ez120 => ?_
                        replace h := gL_some ez120 h
                        refine G_putI fl_X12_200 sl_149 sk_149 rfl rfl ⟨rfl, rfl⟩ dX12_expression_190 ?_
                        refine G_mI fun I121 eI121 => ?_
                        replace h := gL_some eI121 h
                        refine G_goto 219 dX12_expression_193 (by decide) ?_
                        refine G_goto 14 dX12_expression_219 (by decide) ?_
                        refine G_sub [some (.ref 149), some (.int x1), some (.int x2), none] ⟨rfl, rfl, rfl, trivial⟩ ?_
                        exact ih _ _ _ h
                  · replace h := git c101 h
                    refine G_aload_n dX12_expression_120 rfl rfl ?_
                    refine G_iload_n dX12_expression_121 rfl rfl ?_
                    refine G_bipush (v := 42) dX12_expression_122 rfl ?_
                    obtain ⟨ph122, t123, r124⟩ := gB_some h
                    have jn125 : G l gX12_expression 5 0 0 (fun v' S' I' J' R' => v' = none ∧ S' = gS0 ∧ I' = v ∧ J' = J ∧ R' = gR0 w) 0 0 132 [some (.ref 149), some (.int x1), some (.int x2), some (.int r7)] [.int ph122, .ref 149] gS0 I J (gR0 w) := by
                      obtain ⟨r126, hr127, r124⟩ := gB_some r124
                      refine G_cV (mj := gX12_sums) (As := [.int ph122]) (rest := []) ml_X12_396 vX12_sums sl_149 sk_149 (by decide) rfl rfl rfl (Nat.le_of_ble_eq_true rfl) (by decide) (Nat.le_refl _) (Nat.le_refl _) dX12_expression_132 (q_X12_sums hr127) ?_
                      refine G_aload_n dX12_expression_135 rfl rfl ?_
                      refine G_iload_n dX12_expression_136 rfl rfl ?_
                      obtain ⟨r128, hr129, r124⟩ := gB_some r124
                      refine G_cV (mj := gX12_puts) (As := [.int r7]) (rest := []) ml_X12_241 vX12_puts sl_149 sk_149 (by decide) rfl rfl rfl (Nat.le_of_ble_eq_true rfl) (by decide) (Nat.le_refl _) (Nat.le_refl _) dX12_expression_137 (q_X12_puts hr129) ?_
                      refine G_iconst (v := 1) dX12_expression_140 rfl ?_
                      refine S_istore_n [some (.ref 149), some (.int (1 : Int32)), some (.int x2), some (.int r7)] dX12_expression_141 rfl (by decide) rfl ?_
                      refine G_goto 219 dX12_expression_142 (by decide) ?_
                      refine G_goto 14 dX12_expression_219 (by decide) ?_
                      refine G_sub [some (.ref 149), some (.int (1 : Int32)), some (.int x2), none] ⟨rfl, rfl, rfl, trivial⟩ ?_
                      exact ih _ _ _ r124
                    refine G_icmp_eq 131 dX12_expression_124 (by decide) (fun c130 => ?_) (fun c130 => ?_)
                    · replace t123 := git c130 t123
                      refine G_iconst (v := 0) dX12_expression_131 rfl ?_
                      cases t123
                      exact jn125
                    · replace t123 := gif c130 t123
                      refine G_iconst (v := 1) dX12_expression_127 rfl ?_
                      refine G_goto 132 dX12_expression_128 (by decide) ?_
                      cases t123
                      exact jn125
            · replace h := gif c80 h
              refine G_aload_n dX12_expression_51 rfl rfl ?_
              obtain ⟨r131, hr132, h⟩ := gB_some h
              refine G_cV (mj := gX12_seesDigit) (As := []) (rest := []) ml_X12_253 vX12_seesDigit sl_149 sk_149 (by decide) rfl rfl rfl (Nat.le_of_ble_eq_true rfl) (by decide) (Nat.le_refl _) (Nat.le_refl _) dX12_expression_52 (q_X12_seesDigit hr132) ?_
              refine G_if_eq 65 dX12_expression_55 (by decide) (fun c133 => ?_) (fun c133 => ?_)
              · replace h := git c133 h
                refine G_iload_n dX12_expression_65 rfl rfl ?_
                obtain ⟨r134, hr135, h⟩ := gB_some h
                refine G_cS (mj := gX12_isValue) (As := [.int r7]) (rest := []) ml_X12_393 vX12_isValue rfl rfl (Nat.le_of_ble_eq_true rfl) (by decide) (Nat.le_refl _) (Nat.le_refl _) dX12_expression_66 (q_X12_isValue hr135) ?_
                obtain ⟨ph136, t137, r138⟩ := gB_some h
                have jn139 : G l gX12_expression 5 0 0 (fun v' S' I' J' R' => v' = none ∧ S' = gS0 ∧ I' = v ∧ J' = J ∧ R' = gR0 w) 0 0 81 [some (.ref 149), some (.int x1), some (.int x2), some (.int r7)] [] gS0 ph136 J (gR0 w) := by
                  refine G_aload_n dX12_expression_81 rfl rfl ?_
                  refine G_iconst (v := 2) dX12_expression_82 rfl ?_
                  refine G_iload_n dX12_expression_83 rfl rfl ?_
                  obtain ⟨r140, hr141, r138⟩ := gB_some r138
                  refine G_cV (mj := gX12_says) (As := [.int (2 : Int32), .int r7]) (rest := []) ml_X12_387 vX12_says sl_149 sk_149 (by decide) rfl rfl rfl (Nat.le_of_ble_eq_true rfl) (by decide) (Nat.le_refl _) (Nat.le_refl _) dX12_expression_84 (q_X12_says hr141) ?_
                  refine G_aload_n dX12_expression_87 rfl rfl ?_
                  refine G_dup dX12_expression_88 rfl ?_
                  refine G_getI fl_X12_200 sl_149 sk_149 rfl dX12_expression_89 ?_
                  refine G_iconst (v := 1) dX12_expression_92 rfl ?_
                  refine G_iadd dX12_expression_93 ?_
                  refine G_nI fun z142 ez142 => ?_
                  replace r138 := gL_some ez142 r138
                  refine G_putI fl_X12_200 sl_149 sk_149 rfl rfl ⟨rfl, rfl⟩ dX12_expression_94 ?_
                  refine G_mI fun I143 eI143 => ?_
                  replace r138 := gL_some eI143 r138
                  refine G_iconst (v := 0) dX12_expression_97 rfl ?_
                  refine S_istore_n [some (.ref 149), some (.int (0 : Int32)), some (.int x2), some (.int r7)] dX12_expression_98 rfl (by decide) rfl ?_
                  refine G_goto 219 dX12_expression_99 (by decide) ?_
                  refine G_goto 14 dX12_expression_219 (by decide) ?_
                  refine G_sub [some (.ref 149), some (.int (0 : Int32)), some (.int x2), none] ⟨rfl, rfl, rfl, trivial⟩ ?_
                  exact ih _ _ _ r138
                refine G_if_ne 81 dX12_expression_69 (by decide) (fun c144 => ?_) (fun c144 => ?_)
                · replace t137 := gif c144 t137
                  cases t137
                  exact jn139
                · replace t137 := git c144 t137
                  refine G_aload_n dX12_expression_72 rfl rfl ?_
                  refine G_iconst (v := 1) dX12_expression_73 rfl ?_
                  refine G_aload_n dX12_expression_74 rfl rfl ?_
                  refine G_getI fl_X12_200 sl_149 sk_149 rfl dX12_expression_75 ?_
                  obtain ⟨r145, hr146, t137⟩ := gB_some t137
                  refine G_cV (mj := gX12_wrongs) (As := [.int (1 : Int32), .int (I 149 28)]) (rest := []) ml_X12_237 vX12_wrongs sl_149 sk_149 (by decide) rfl rfl rfl (Nat.le_of_ble_eq_true rfl) (by decide) (Nat.le_refl _) (Nat.le_refl _) dX12_expression_78 (q_X12_wrongs hr146) ?_
                  cases t137
                  exact jn139
              · replace h := gif c133 h
                refine G_aload_n dX12_expression_58 rfl rfl ?_
                obtain ⟨r147, hr148, h⟩ := gB_some h
                refine G_cV (mj := gX12_digits) (As := []) (rest := []) ml_X12_390 vX12_digits sl_149 sk_149 (by decide) rfl rfl rfl (Nat.le_of_ble_eq_true rfl) (by decide) (Nat.le_refl _) (Nat.le_refl _) dX12_expression_59 (q_X12_digits hr148) ?_
                refine G_goto 97 dX12_expression_62 (by decide) ?_
                refine G_iconst (v := 0) dX12_expression_97 rfl ?_
                refine S_istore_n [some (.ref 149), some (.int (0 : Int32)), some (.int x2), some (.int r7)] dX12_expression_98 rfl (by decide) rfl ?_
                refine G_goto 219 dX12_expression_99 (by decide) ?_
                refine G_goto 14 dX12_expression_219 (by decide) ?_
                refine G_sub [some (.ref 149), some (.int (0 : Int32)), some (.int x2), none] ⟨rfl, rfl, rfl, trivial⟩ ?_
                exact ih _ _ _ h
          · replace h := git c79 h
            refine G_aload_n dX12_expression_40 rfl rfl ?_
            obtain ⟨r149, hr150, h⟩ := gB_some h
            refine G_cV (mj := gX12_opens) (As := []) (rest := []) ml_X12_271 vX12_opens sl_149 sk_149 (by decide) rfl rfl rfl (Nat.le_of_ble_eq_true rfl) (by decide) (Nat.le_refl _) (Nat.le_refl _) dX12_expression_41 (q_X12_opens hr150) ?_
            refine G_goto 219 dX12_expression_44 (by decide) ?_
            refine G_goto 14 dX12_expression_219 (by decide) ?_
            refine G_sub [some (.ref 149), some (.int x1), some (.int x2), none] ⟨rfl, rfl, rfl, trivial⟩ ?_
            exact ih _ _ _ h
set_option maxRecDepth 20000 in
theorem q_X12_expression {l : Launch} {I : gIt} {J : gJt} {w : Bool} {v : gIt} (h : p_X12_expression I = some v) : Cn l gX12_expression 5 0 0 [.ref 149] gS0 I J (gR0 w) (fun v' S' I' J' R' => v' = none ∧ S' = gS0 ∧ I' = v ∧ J' = J ∧ R' = gR0 w) := by
  refine Cn.of [some (.ref 149), none, none, none] (by decide) rfl (Nat.le_of_ble_eq_true rfl) ?_
  rw [p_X12_expression] at h
  refine G_iconst (v := 1) dX12_expression_0 rfl ?_
  refine S_istore_n [some (.ref 149), some (.int (1 : Int32)), none, none] dX12_expression_1 rfl (by decide) rfl ?_
  refine G_iconst (v := 1) dX12_expression_2 rfl ?_
  refine S_istore_n [some (.ref 149), some (.int (1 : Int32)), some (.int (1 : Int32)), none] dX12_expression_3 rfl (by decide) rfl ?_
  refine G_aload_n dX12_expression_4 rfl rfl ?_
  refine G_iconst (v := 0) dX12_expression_5 rfl ?_
  refine G_putI fl_X12_231 sl_149 sk_149 rfl rfl ⟨rfl, rfl⟩ dX12_expression_6 ?_
  refine G_mI fun I1 eI1 => ?_
  replace h := gL_some eI1 h
  refine G_aload_n dX12_expression_9 rfl rfl ?_
  refine G_iconst (v := 0) dX12_expression_10 rfl ?_
  refine G_putI fl_X12_234 sl_149 sk_149 rfl rfl ⟨rfl, rfl⟩ dX12_expression_11 ?_
  refine G_mI fun I2 eI2 => ?_
  replace h := gL_some eI2 h
  exact q_X12_expression_14   gFu _ _ _ h
def p_X12_act_165 (x1 : Int32) (x2 : Int32) : Nat → gIt → Int32 → Option (Int32 × gIt)
  | 0, _, _ => none
  | n + 1, I, x3 =>
    if (I 149 61) ≤ x3 then
    some ((0 : Int32), I)
    else
    gck (gin ((100 : Int32) + x3) 200) (
    gL ((I 189 (((100 : Int32) + x3)).toNatClampNeg)) fun z43 =>
    gck (gin x3 200) (
    gL (gu2 I 189 (x3).toNatClampNeg z43) fun I45 =>
    gck (gin ((100 : Int32) + x3) 200) (
    gL ((I45 190 (((100 : Int32) + x3)).toNatClampNeg)) fun z47 =>
    gck (gin x3 200) (
    gL (gu2 I45 190 (x3).toNatClampNeg z47) fun I49 =>
    p_X12_act_165 x1 x2 n I49 (x3 + (1 : Int32))))))
def p_X12_act (I : gIt) (x1 : Int32) : Option (Int32 × gIt) :=
  gB (p_X12_lies (Int32.toInt64 x1) (1 : Int64) (60 : Int64)) fun r1 =>
  if r1 = 0 then
  some ((-1 : Int32), I)
  else
  if x1 ≤ (I 149 1) then
  gL (gu2 I 149 1 (0 : Int32)) fun I5 =>
  gL (gu2 I5 149 28 (0 : Int32)) fun I6 =>
  gL (gu2 I6 149 29 x1) fun I7 =>
  gL (gu2 I7 149 30 (0 : Int32)) fun I8 =>
  gL (gu2 I8 149 61 (0 : Int32)) fun I9 =>
  gB (p_X12_expression I9) fun r10 =>
  gB (p_X12_here r10) fun r12 =>
  gB (p_X12_isGood r10) fun r14 =>
  gB (α := gIt) (
  if r14 = 0 then
  some r10
  else
  if r12 = (60 : Int32) then
  some r10
  else
  if r12 = (62 : Int32) then
  some r10
  else
  gB (p_X12_wrongs r10 (1 : Int32) (r10 149 28)) fun r60 =>
  some r60) fun ph16 =>
  gL (((ph16 149 28) + (1 : Int32))) fun z20 =>
  gL (gu2 ph16 149 28 z20) fun I21 =>
  gB (p_X12_isGood I21) fun r22 =>
  gB (α := gIt) (
  if r22 = 0 then
  some I21
  else
  gB (p_X12_expression I21) fun r55 =>
  some r55) fun ph24 =>
  gB (p_X12_isGood ph24) fun r28 =>
  gB (α := gIt) (
  if r28 = 0 then
  some ph24
  else
  if (ph24 149 29) ≤ (ph24 149 28) then
  some ph24
  else
  gB (p_X12_wrongs ph24 (1 : Int32) (ph24 149 28)) fun r52 =>
  some r52) fun ph30 =>
  gB (p_X12_says ph30 r12 (0 : Int32)) fun r34 =>
  if 0 ≤ (r34 149 30) then
  gL (gu2 r34 149 59 (1 : Int32)) fun I38 =>
  gL ((I38 149 61)) fun z39 =>
  gL (gu2 I38 149 60 z39) fun I40 =>
  p_X12_act_165 x1 r12 gFu I40 (0 : Int32)
  else
  some ((r34 149 30), r34)
  else
  some ((-1 : Int32), I)
set_option maxRecDepth 20000 in
theorem q_X12_act_165 {l : Launch} {v : (Int32 × gIt)} {J : gJt} {w : Bool} {x1 : Int32} {x2 : Int32} : ∀ (n : Nat) (I : gIt) (x3 : Int32), p_X12_act_165 x1 x2 n I x3 = some v → G l gX12_act 6 0 0 (fun v' S' I' J' R' => v' = some (.int v.1) ∧ S' = gS0 ∧ I' = v.2 ∧ J' = J ∧ R' = gR0 w) 0 0 165 [some (.ref 149), some (.int x1), some (.int x2), some (.int x3)] [] gS0 I J (gR0 w) := by
  intro n
  induction n with
  | zero => intro _ _ h; cases h
  | succ n ih =>
    intro I x3 h
    rw [p_X12_act_165] at h
    refine G_iload_n dX12_act_165 rfl rfl ?_
    refine G_aload_n dX12_act_166 rfl rfl ?_
    refine G_getI fl_X12_384 sl_149 sk_149 rfl dX12_act_167 ?_
    refine G_icmp_ge 209 dX12_act_170 (by decide) (fun c41 => ?_) (fun c41 => ?_)
    · replace h := git c41 h
      refine G_iconst (v := 0) dX12_act_209 rfl ?_
      refine G_iret rfl (Nat.le_refl _) (Nat.le_refl _) dX12_act_210 ?_
      cases h
      exact ⟨rfl, rfl, rfl, rfl, rfl⟩
    · replace h := gif c41 h
      refine G_aload_n dX12_act_173 rfl rfl ?_
      refine G_getR fl_X12_136 sl_149 sk_149 rfl (rr_149_62 _) dX12_act_174 ?_
      refine G_iload_n dX12_act_177 rfl rfl ?_
      refine G_aload_n dX12_act_178 rfl rfl ?_
      refine G_getR fl_X12_136 sl_149 sk_149 rfl (rr_149_62 _) dX12_act_179 ?_
      refine G_bipush (v := 100) dX12_act_182 rfl ?_
      refine G_iload_n dX12_act_184 rfl rfl ?_
      refine G_iadd dX12_act_185 ?_
      obtain ⟨b42, h⟩ := gck_some h
      refine G_iald sl_189 ss_189 (gin_in b42) dX12_act_186 ?_
      refine G_nI fun z43 ez43 => ?_
      replace h := gL_some ez43 h
      obtain ⟨b44, h⟩ := gck_some h
      refine G_iast sl_189 ss_189 (gin_in b44) dX12_act_187 ?_
      refine G_mI fun I45 eI45 => ?_
      replace h := gL_some eI45 h
      refine G_aload_n dX12_act_188 rfl rfl ?_
      refine G_getR fl_X12_139 sl_149 sk_149 rfl (rr_149_63 _) dX12_act_189 ?_
      refine G_iload_n dX12_act_192 rfl rfl ?_
      refine G_aload_n dX12_act_193 rfl rfl ?_
      refine G_getR fl_X12_139 sl_149 sk_149 rfl (rr_149_63 _) dX12_act_194 ?_
      refine G_bipush (v := 100) dX12_act_197 rfl ?_
      refine G_iload_n dX12_act_199 rfl rfl ?_
      refine G_iadd dX12_act_200 ?_
      obtain ⟨b46, h⟩ := gck_some h
      refine G_iald sl_190 ss_190 (gin_in b46) dX12_act_201 ?_
      refine G_nI fun z47 ez47 => ?_
      replace h := gL_some ez47 h
      obtain ⟨b48, h⟩ := gck_some h
      refine G_iast sl_190 ss_190 (gin_in b48) dX12_act_202 ?_
      refine G_mI fun I49 eI49 => ?_
      replace h := gL_some eI49 h
      refine S_iinc (v := (1 : Int32)) [some (.ref 149), some (.int x1), some (.int x2), some (.int (x3 + (1 : Int32)))] dX12_act_203 rfl rfl (by decide) rfl ?_
      refine G_goto 165 dX12_act_206 (by decide) ?_
      exact ih _ _ h
set_option maxRecDepth 20000 in
theorem q_X12_act {l : Launch} {I : gIt} {J : gJt} {w : Bool} {x1 : Int32} {v : (Int32 × gIt)} (h : p_X12_act I x1 = some v) : Cn l gX12_act 6 0 0 [.ref 149, .int x1] gS0 I J (gR0 w) (fun v' S' I' J' R' => v' = some (.int v.1) ∧ S' = gS0 ∧ I' = v.2 ∧ J' = J ∧ R' = gR0 w) := by
  refine Cn.of [some (.ref 149), some (.int x1), none, none] (by decide) rfl (Nat.le_of_ble_eq_true rfl) ?_
  rw [p_X12_act] at h
  refine G_iload_n dX12_act_0 rfl rfl ?_
  refine G_i2l dX12_act_1 ?_
  refine G_lconst (v := 1) dX12_act_2 rfl ?_
  refine G_ldc2 dX12_act_3 kc_X12_399 ?_
  obtain ⟨r1, hr2, h⟩ := gB_some h
  refine G_cS (mj := gX12_lies) (As := [.long (Int32.toInt64 x1), .long (1 : Int64), .long (60 : Int64)]) (rest := []) ml_X12_156 vX12_lies rfl rfl (Nat.le_of_ble_eq_true rfl) (by decide) (Nat.le_refl _) (Nat.le_refl _) dX12_act_6 (q_X12_lies hr2) ?_
  refine G_if_eq 20 dX12_act_9 (by decide) (fun c3 => ?_) (fun c3 => ?_)
  · replace h := git c3 h
    refine G_iconst (v := -1) dX12_act_20 rfl ?_
    refine G_iret rfl (Nat.le_refl _) (Nat.le_refl _) dX12_act_21 ?_
    cases h
    exact ⟨rfl, rfl, rfl, rfl, rfl⟩
  · replace h := gif c3 h
    refine G_iload_n dX12_act_12 rfl rfl ?_
    refine G_aload_n dX12_act_13 rfl rfl ?_
    refine G_getI fl_X12_193 sl_149 sk_149 rfl dX12_act_14 ?_
    refine G_icmp_le 22 dX12_act_17 (by decide) (fun c4 => ?_) (fun c4 => ?_)
    · replace h := git c4 h
      refine G_aload_n dX12_act_22 rfl rfl ?_
      refine G_iconst (v := 0) dX12_act_23 rfl ?_
      refine G_putI fl_X12_193 sl_149 sk_149 rfl rfl ⟨rfl, rfl⟩ dX12_act_24 ?_
      refine G_mI fun I5 eI5 => ?_
      replace h := gL_some eI5 h
      refine G_aload_n dX12_act_27 rfl rfl ?_
      refine G_iconst (v := 0) dX12_act_28 rfl ?_
      refine G_putI fl_X12_200 sl_149 sk_149 rfl rfl ⟨rfl, rfl⟩ dX12_act_29 ?_
      refine G_mI fun I6 eI6 => ?_
      replace h := gL_some eI6 h
      refine G_aload_n dX12_act_32 rfl rfl ?_
      refine G_iload_n dX12_act_33 rfl rfl ?_
      refine G_putI fl_X12_203 sl_149 sk_149 rfl rfl ⟨rfl, rfl⟩ dX12_act_34 ?_
      refine G_mI fun I7 eI7 => ?_
      replace h := gL_some eI7 h
      refine G_aload_n dX12_act_37 rfl rfl ?_
      refine G_iconst (v := 0) dX12_act_38 rfl ?_
      refine G_putI fl_X12_206 sl_149 sk_149 rfl rfl ⟨rfl, rfl⟩ dX12_act_39 ?_
      refine G_mI fun I8 eI8 => ?_
      replace h := gL_some eI8 h
      refine G_aload_n dX12_act_42 rfl rfl ?_
      refine G_iconst (v := 0) dX12_act_43 rfl ?_
      refine G_putI fl_X12_384 sl_149 sk_149 rfl rfl ⟨rfl, rfl⟩ dX12_act_44 ?_
      refine G_mI fun I9 eI9 => ?_
      replace h := gL_some eI9 h
      refine G_aload_n dX12_act_47 rfl rfl ?_
      obtain ⟨r10, hr11, h⟩ := gB_some h
      refine G_cV (mj := gX12_expression) (As := []) (rest := []) ml_X12_401 vX12_expression sl_149 sk_149 (by decide) rfl rfl rfl (Nat.le_of_ble_eq_true rfl) (by decide) (Nat.le_refl _) (Nat.le_refl _) dX12_act_48 (q_X12_expression hr11) ?_
      refine G_aload_n dX12_act_51 rfl rfl ?_
      obtain ⟨r12, hr13, h⟩ := gB_some h
      refine G_cV (mj := gX12_here) (As := []) (rest := []) ml_X12_213 vX12_here sl_149 sk_149 (by decide) rfl rfl rfl (Nat.le_of_ble_eq_true rfl) (by decide) (Nat.le_refl _) (Nat.le_refl _) dX12_act_52 (q_X12_here hr13) ?_
      refine S_istore_n [some (.ref 149), some (.int x1), some (.int r12), none] dX12_act_55 rfl (by decide) rfl ?_
      refine G_aload_n dX12_act_56 rfl rfl ?_
      obtain ⟨r14, hr15, h⟩ := gB_some h
      refine G_cV (mj := gX12_isGood) (As := []) (rest := []) ml_X12_221 vX12_isGood sl_149 sk_149 (by decide) rfl rfl rfl (Nat.le_of_ble_eq_true rfl) (by decide) (Nat.le_refl _) (Nat.le_refl _) dX12_act_57 (q_X12_isGood hr15) ?_
      obtain ⟨ph16, t17, r18⟩ := gB_some h
      have jn19 : G l gX12_act 6 0 0 (fun v' S' I' J' R' => v' = some (.int v.1) ∧ S' = gS0 ∧ I' = v.2 ∧ J' = J ∧ R' = gR0 w) 0 0 84 [some (.ref 149), some (.int x1), some (.int r12), none] [] gS0 ph16 J (gR0 w) := by
        refine G_aload_n dX12_act_84 rfl rfl ?_
        refine G_dup dX12_act_85 rfl ?_
        refine G_getI fl_X12_200 sl_149 sk_149 rfl dX12_act_86 ?_
        refine G_iconst (v := 1) dX12_act_89 rfl ?_
        refine G_iadd dX12_act_90 ?_
        refine G_nI fun z20 ez20 => ?_
        replace r18 := gL_some ez20 r18
        refine G_putI fl_X12_200 sl_149 sk_149 rfl rfl ⟨rfl, rfl⟩ dX12_act_91 ?_
        refine G_mI fun I21 eI21 => ?_
        replace r18 := gL_some eI21 r18
        refine G_aload_n dX12_act_94 rfl rfl ?_
        obtain ⟨r22, hr23, r18⟩ := gB_some r18
        refine G_cV (mj := gX12_isGood) (As := []) (rest := []) ml_X12_221 vX12_isGood sl_149 sk_149 (by decide) rfl rfl rfl (Nat.le_of_ble_eq_true rfl) (by decide) (Nat.le_refl _) (Nat.le_refl _) dX12_act_95 (q_X12_isGood hr23) ?_
        obtain ⟨ph24, t25, r26⟩ := gB_some r18
        have jn27 : G l gX12_act 6 0 0 (fun v' S' I' J' R' => v' = some (.int v.1) ∧ S' = gS0 ∧ I' = v.2 ∧ J' = J ∧ R' = gR0 w) 0 0 105 [some (.ref 149), some (.int x1), some (.int r12), none] [] gS0 ph24 J (gR0 w) := by
          refine G_aload_n dX12_act_105 rfl rfl ?_
          obtain ⟨r28, hr29, r26⟩ := gB_some r26
          refine G_cV (mj := gX12_isGood) (As := []) (rest := []) ml_X12_221 vX12_isGood sl_149 sk_149 (by decide) rfl rfl rfl (Nat.le_of_ble_eq_true rfl) (by decide) (Nat.le_refl _) (Nat.le_refl _) dX12_act_106 (q_X12_isGood hr29) ?_
          obtain ⟨ph30, t31, r32⟩ := gB_some r26
          have jn33 : G l gX12_act 6 0 0 (fun v' S' I' J' R' => v' = some (.int v.1) ∧ S' = gS0 ∧ I' = v.2 ∧ J' = J ∧ R' = gR0 w) 0 0 132 [some (.ref 149), some (.int x1), some (.int r12), none] [] gS0 ph30 J (gR0 w) := by
            refine G_aload_n dX12_act_132 rfl rfl ?_
            refine G_iload_n dX12_act_133 rfl rfl ?_
            refine G_iconst (v := 0) dX12_act_134 rfl ?_
            obtain ⟨r34, hr35, r32⟩ := gB_some r32
            refine G_cV (mj := gX12_says) (As := [.int r12, .int (0 : Int32)]) (rest := []) ml_X12_387 vX12_says sl_149 sk_149 (by decide) rfl rfl rfl (Nat.le_of_ble_eq_true rfl) (by decide) (Nat.le_refl _) (Nat.le_refl _) dX12_act_135 (q_X12_says hr35) ?_
            refine G_aload_n dX12_act_138 rfl rfl ?_
            refine G_getI fl_X12_206 sl_149 sk_149 rfl dX12_act_139 ?_
            refine G_if_ge 150 dX12_act_142 (by decide) (fun c36 => ?_) (fun c36 => ?_)
            · replace r32 := git c36 r32
              refine G_aload_n dX12_act_150 rfl rfl ?_
              refine G_iconst (v := 1) dX12_act_151 rfl ?_
              refine G_putI fl_X12_404 sl_149 sk_149 rfl rfl ⟨rfl, rfl⟩ dX12_act_152 ?_
              refine G_mI fun I38 eI38 => ?_
              replace r32 := gL_some eI38 r32
              refine G_aload_n dX12_act_155 rfl rfl ?_
              refine G_aload_n dX12_act_156 rfl rfl ?_
              refine G_getI fl_X12_384 sl_149 sk_149 rfl dX12_act_157 ?_
              refine G_nI fun z39 ez39 => ?_
              replace r32 := gL_some ez39 r32
              refine G_putI fl_X12_408 sl_149 sk_149 rfl rfl ⟨rfl, rfl⟩ dX12_act_160 ?_
              refine G_mI fun I40 eI40 => ?_
              replace r32 := gL_some eI40 r32
              refine G_iconst (v := 0) dX12_act_163 rfl ?_
              refine S_istore_n [some (.ref 149), some (.int x1), some (.int r12), some (.int (0 : Int32))] dX12_act_164 rfl (by decide) rfl ?_
              exact q_X12_act_165   gFu _ _ r32
            · replace r32 := gif c36 r32
              refine G_aload_n dX12_act_145 rfl rfl ?_
              refine G_getI fl_X12_206 sl_149 sk_149 rfl dX12_act_146 ?_
              refine G_iret rfl (Nat.le_refl _) (Nat.le_refl _) dX12_act_149 ?_
              cases r32
              exact ⟨rfl, rfl, rfl, rfl, rfl⟩
          refine G_if_eq 132 dX12_act_109 (by decide) (fun c50 => ?_) (fun c50 => ?_)
          · replace t31 := git c50 t31
            cases t31
            exact jn33
          · replace t31 := gif c50 t31
            refine G_aload_n dX12_act_112 rfl rfl ?_
            refine G_getI fl_X12_200 sl_149 sk_149 rfl dX12_act_113 ?_
            refine G_aload_n dX12_act_116 rfl rfl ?_
            refine G_getI fl_X12_203 sl_149 sk_149 rfl dX12_act_117 ?_
            refine G_icmp_ge 132 dX12_act_120 (by decide) (fun c51 => ?_) (fun c51 => ?_)
            · replace t31 := git c51 t31
              cases t31
              exact jn33
            · replace t31 := gif c51 t31
              refine G_aload_n dX12_act_123 rfl rfl ?_
              refine G_iconst (v := 1) dX12_act_124 rfl ?_
              refine G_aload_n dX12_act_125 rfl rfl ?_
              refine G_getI fl_X12_200 sl_149 sk_149 rfl dX12_act_126 ?_
              obtain ⟨r52, hr53, t31⟩ := gB_some t31
              refine G_cV (mj := gX12_wrongs) (As := [.int (1 : Int32), .int (ph24 149 28)]) (rest := []) ml_X12_237 vX12_wrongs sl_149 sk_149 (by decide) rfl rfl rfl (Nat.le_of_ble_eq_true rfl) (by decide) (Nat.le_refl _) (Nat.le_refl _) dX12_act_129 (q_X12_wrongs hr53) ?_
              cases t31
              exact jn33
        refine G_if_eq 105 dX12_act_98 (by decide) (fun c54 => ?_) (fun c54 => ?_)
        · replace t25 := git c54 t25
          cases t25
          exact jn27
        · replace t25 := gif c54 t25
          refine G_aload_n dX12_act_101 rfl rfl ?_
          obtain ⟨r55, hr56, t25⟩ := gB_some t25
          refine G_cV (mj := gX12_expression) (As := []) (rest := []) ml_X12_401 vX12_expression sl_149 sk_149 (by decide) rfl rfl rfl (Nat.le_of_ble_eq_true rfl) (by decide) (Nat.le_refl _) (Nat.le_refl _) dX12_act_102 (q_X12_expression hr56) ?_
          cases t25
          exact jn27
      refine G_if_eq 84 dX12_act_60 (by decide) (fun c57 => ?_) (fun c57 => ?_)
      · replace t17 := git c57 t17
        cases t17
        exact jn19
      · replace t17 := gif c57 t17
        refine G_iload_n dX12_act_63 rfl rfl ?_
        refine G_bipush (v := 60) dX12_act_64 rfl ?_
        refine G_icmp_eq 84 dX12_act_66 (by decide) (fun c58 => ?_) (fun c58 => ?_)
        · replace t17 := git c58 t17
          cases t17
          exact jn19
        · replace t17 := gif c58 t17
          refine G_iload_n dX12_act_69 rfl rfl ?_
          refine G_bipush (v := 62) dX12_act_70 rfl ?_
          refine G_icmp_eq 84 dX12_act_72 (by decide) (fun c59 => ?_) (fun c59 => ?_)
          · replace t17 := git c59 t17
            cases t17
            exact jn19
          · replace t17 := gif c59 t17
            refine G_aload_n dX12_act_75 rfl rfl ?_
            refine G_iconst (v := 1) dX12_act_76 rfl ?_
            refine G_aload_n dX12_act_77 rfl rfl ?_
            refine G_getI fl_X12_200 sl_149 sk_149 rfl dX12_act_78 ?_
            obtain ⟨r60, hr61, t17⟩ := gB_some t17
            refine G_cV (mj := gX12_wrongs) (As := [.int (1 : Int32), .int (r10 149 28)]) (rest := []) ml_X12_237 vX12_wrongs sl_149 sk_149 (by decide) rfl rfl rfl (Nat.le_of_ble_eq_true rfl) (by decide) (Nat.le_refl _) (Nat.le_refl _) dX12_act_81 (q_X12_wrongs hr61) ?_
            cases t17
            exact jn19
    · replace h := gif c4 h
      refine G_iconst (v := -1) dX12_act_20 rfl ?_
      refine G_iret rfl (Nat.le_refl _) (Nat.le_refl _) dX12_act_21 ?_
      cases h
      exact ⟨rfl, rfl, rfl, rfl, rfl⟩
def p_X12_valueOf (x0 : Int32) (y1 : Int64) (y3 : Int64) (x5 : Int32) (x6 : Int32) (x7 : Int32) : Option Int64 :=
  if x0 = (112 : Int32) then
  some y1
  else
  if x0 = (119 : Int32) then
  some y3
  else
  if x0 = (97 : Int32) then
  some (Int32.toInt64 x5)
  else
  if x0 = (118 : Int32) then
  some (Int32.toInt64 x6)
  else
  some (Int32.toInt64 x7)
set_option maxRecDepth 20000 in
theorem q_X12_valueOf {l : Launch} {I : gIt} {J : gJt} {w : Bool} {x0 : Int32} {y1 : Int64} {y3 : Int64} {x5 : Int32} {x6 : Int32} {x7 : Int32} {v : Int64} (h : p_X12_valueOf x0 y1 y3 x5 x6 x7 = some v) : Cn l gX12_valueOf 2 0 0 [.int x0, .long y1, .long y3, .int x5, .int x6, .int x7] gS0 I J (gR0 w) (fun v' S' I' J' R' => v' = some (.long v) ∧ S' = gS0 ∧ I' = I ∧ J' = J ∧ R' = gR0 w) := by
  refine Cn.of [some (.int x0), some (.long y1), none, some (.long y3), none, some (.int x5), some (.int x6), some (.int x7)] (by decide) rfl (Nat.le_of_ble_eq_true rfl) ?_
  rw [p_X12_valueOf] at h
  refine G_iload_n dX12_valueOf_0 rfl rfl ?_
  refine G_bipush (v := 112) dX12_valueOf_1 rfl ?_
  refine G_icmp_ne 10 dX12_valueOf_3 (by decide) (fun c1 => ?_) (fun c1 => ?_)
  · replace h := gif c1 h
    refine G_iload_n dX12_valueOf_10 rfl rfl ?_
    refine G_bipush (v := 119) dX12_valueOf_11 rfl ?_
    refine G_icmp_ne 20 dX12_valueOf_13 (by decide) (fun c2 => ?_) (fun c2 => ?_)
    · replace h := gif c2 h
      refine G_iload_n dX12_valueOf_20 rfl rfl ?_
      refine G_bipush (v := 97) dX12_valueOf_21 rfl ?_
      refine G_icmp_ne 32 dX12_valueOf_23 (by decide) (fun c3 => ?_) (fun c3 => ?_)
      · replace h := gif c3 h
        refine G_iload_n dX12_valueOf_32 rfl rfl ?_
        refine G_bipush (v := 118) dX12_valueOf_33 rfl ?_
        refine G_icmp_ne 44 dX12_valueOf_35 (by decide) (fun c4 => ?_) (fun c4 => ?_)
        · replace h := gif c4 h
          refine G_iload dX12_valueOf_44 rfl ?_
          refine G_i2l dX12_valueOf_46 ?_
          refine G_lret rfl (Nat.le_refl _) (Nat.le_refl _) dX12_valueOf_47 ?_
          cases h
          exact ⟨rfl, rfl, rfl, rfl, rfl⟩
        · replace h := git c4 h
          refine G_iload dX12_valueOf_38 rfl ?_
          refine G_i2l dX12_valueOf_40 ?_
          refine G_goto 47 dX12_valueOf_41 (by decide) ?_
          refine G_lret rfl (Nat.le_refl _) (Nat.le_refl _) dX12_valueOf_47 ?_
          cases h
          exact ⟨rfl, rfl, rfl, rfl, rfl⟩
      · replace h := git c3 h
        refine G_iload dX12_valueOf_26 rfl ?_
        refine G_i2l dX12_valueOf_28 ?_
        refine G_goto 47 dX12_valueOf_29 (by decide) ?_
        refine G_lret rfl (Nat.le_refl _) (Nat.le_refl _) dX12_valueOf_47 ?_
        cases h
        exact ⟨rfl, rfl, rfl, rfl, rfl⟩
    · replace h := git c2 h
      refine G_lload_n dX12_valueOf_16 rfl rfl ?_
      refine G_goto 47 dX12_valueOf_17 (by decide) ?_
      refine G_lret rfl (Nat.le_refl _) (Nat.le_refl _) dX12_valueOf_47 ?_
      cases h
      exact ⟨rfl, rfl, rfl, rfl, rfl⟩
  · replace h := git c1 h
    refine G_lload_n dX12_valueOf_6 rfl rfl ?_
    refine G_goto 47 dX12_valueOf_7 (by decide) ?_
    refine G_lret rfl (Nat.le_refl _) (Nat.le_refl _) dX12_valueOf_47 ?_
    cases h
    exact ⟨rfl, rfl, rfl, rfl, rfl⟩
def p_X12_isHard_6 (I : gIt) (y1 : Int64) (y3 : Int64) (x5 : Int32) (x6 : Int32) (x7 : Int32) : Nat → gJt → Int32 → Int32 → Option (Int32 × gJt)
  | 0, _, _, _ => none
  | n + 1, J, x8, x9 =>
    if (I 149 60) ≤ x9 then
    gck (gin (0 : Int32) 120) (
    if (lg_cmp (J 191 ((0 : Int32)).toNatClampNeg) (1 : Int64)) = 0 then
    some ((1 : Int32), J)
    else
    some ((0 : Int32), J))
    else
    gck (gin x9 200) (
    gL ((I 189 (x9).toNatClampNeg)) fun z5 =>
    if z5 = (1 : Int32) then
    gB (α := Int64) (
    if z5 = (1 : Int32) then
    gck (gin x9 200) (
    some (Int32.toInt64 (I 190 (x9).toNatClampNeg)))
    else
    gck (gin x9 200) (
    gB (α := Int32) (
    if x6 = 0 then
    some (0 : Int32)
    else
    some (1 : Int32)) fun ph15 =>
    gB (p_X12_valueOf (I 190 (x9).toNatClampNeg) y1 y3 x5 ph15 x7) fun r19 =>
    some r19)) fun ph7 =>
    gck (gin x8 120) (
    gL (gu2 J 191 (x8).toNatClampNeg ph7) fun J12 =>
    p_X12_isHard_6 I y1 y3 x5 x6 x7 n J12 (x8 + (1 : Int32)) (x9 + (1 : Int32)))
    else
    if z5 = (2 : Int32) then
    gB (α := Int64) (
    if z5 = (1 : Int32) then
    gck (gin x9 200) (
    some (Int32.toInt64 (I 190 (x9).toNatClampNeg)))
    else
    gck (gin x9 200) (
    gB (α := Int32) (
    if x6 = 0 then
    some (0 : Int32)
    else
    some (1 : Int32)) fun ph59 =>
    gB (p_X12_valueOf (I 190 (x9).toNatClampNeg) y1 y3 x5 ph59 x7) fun r63 =>
    some r63)) fun ph51 =>
    gck (gin x8 120) (
    gL (gu2 J 191 (x8).toNatClampNeg ph51) fun J56 =>
    p_X12_isHard_6 I y1 y3 x5 x6 x7 n J56 (x8 + (1 : Int32)) (x9 + (1 : Int32)))
    else
    gck (gin ((x8 + (-1 : Int32)) - (1 : Int32)) 120) (
    gL ((J 191 (((x8 + (-1 : Int32)) - (1 : Int32))).toNatClampNeg)) fun u25 =>
    gck (gin (x8 + (-1 : Int32)) 120) (
    gL ((J 191 ((x8 + (-1 : Int32))).toNatClampNeg)) fun u27 =>
    if z5 = (43 : Int32) then
    gL ((u25 + u27)) fun u48 =>
    gck (gin ((x8 + (-1 : Int32)) - (1 : Int32)) 120) (
    gL (gu2 J 191 (((x8 + (-1 : Int32)) - (1 : Int32))).toNatClampNeg u48) fun J50 =>
    p_X12_isHard_6 I y1 y3 x5 x6 x7 n J50 (x8 + (-1 : Int32)) (x9 + (1 : Int32)))
    else
    if z5 = (45 : Int32) then
    gL ((u25 - u27)) fun u45 =>
    gck (gin ((x8 + (-1 : Int32)) - (1 : Int32)) 120) (
    gL (gu2 J 191 (((x8 + (-1 : Int32)) - (1 : Int32))).toNatClampNeg u45) fun J47 =>
    p_X12_isHard_6 I y1 y3 x5 x6 x7 n J47 (x8 + (-1 : Int32)) (x9 + (1 : Int32)))
    else
    if z5 = (42 : Int32) then
    gL ((u25 * u27)) fun u42 =>
    gck (gin ((x8 + (-1 : Int32)) - (1 : Int32)) 120) (
    gL (gu2 J 191 (((x8 + (-1 : Int32)) - (1 : Int32))).toNatClampNeg u42) fun J44 =>
    p_X12_isHard_6 I y1 y3 x5 x6 x7 n J44 (x8 + (-1 : Int32)) (x9 + (1 : Int32)))
    else
    if z5 = (60 : Int32) then
    if 0 ≤ (lg_cmp u25 u27) then
    gck (gin ((x8 + (-1 : Int32)) - (1 : Int32)) 120) (
    gL (gu2 J 191 (((x8 + (-1 : Int32)) - (1 : Int32))).toNatClampNeg (0 : Int64)) fun J39 =>
    p_X12_isHard_6 I y1 y3 x5 x6 x7 n J39 (x8 + (-1 : Int32)) (x9 + (1 : Int32)))
    else
    gck (gin ((x8 + (-1 : Int32)) - (1 : Int32)) 120) (
    gL (gu2 J 191 (((x8 + (-1 : Int32)) - (1 : Int32))).toNatClampNeg (1 : Int64)) fun J41 =>
    p_X12_isHard_6 I y1 y3 x5 x6 x7 n J41 (x8 + (-1 : Int32)) (x9 + (1 : Int32)))
    else
    if (lg_cmp u25 u27) ≤ 0 then
    gck (gin ((x8 + (-1 : Int32)) - (1 : Int32)) 120) (
    gL (gu2 J 191 (((x8 + (-1 : Int32)) - (1 : Int32))).toNatClampNeg (0 : Int64)) fun J34 =>
    p_X12_isHard_6 I y1 y3 x5 x6 x7 n J34 (x8 + (-1 : Int32)) (x9 + (1 : Int32)))
    else
    gck (gin ((x8 + (-1 : Int32)) - (1 : Int32)) 120) (
    gL (gu2 J 191 (((x8 + (-1 : Int32)) - (1 : Int32))).toNatClampNeg (1 : Int64)) fun J36 =>
    p_X12_isHard_6 I y1 y3 x5 x6 x7 n J36 (x8 + (-1 : Int32)) (x9 + (1 : Int32))))))
def p_X12_isHard (I : gIt) (J : gJt) (y1 : Int64) (y3 : Int64) (x5 : Int32) (x6 : Int32) (x7 : Int32) : Option (Int32 × gJt) :=
  p_X12_isHard_6 I y1 y3 x5 x6 x7 gFu J (0 : Int32) (0 : Int32)
set_option maxRecDepth 20000 in
theorem q_X12_isHard_6 {l : Launch} {v : (Int32 × gJt)} {w : Bool} {I : gIt} {y1 : Int64} {y3 : Int64} {x5 : Int32} {x6 : Int32} {x7 : Int32} : ∀ (n : Nat) (J : gJt) (x8 : Int32) (x9 : Int32), p_X12_isHard_6 I y1 y3 x5 x6 x7 n J x8 x9 = some v → G l gX12_isHard 3 0 0 (fun v' S' I' J' R' => v' = some (.int v.1) ∧ S' = gS0 ∧ I' = I ∧ J' = v.2 ∧ R' = gR0 w) 0 0 6 [some (.ref 149), some (.long y1), none, some (.long y3), none, some (.int x5), some (.int x6), some (.int x7), some (.int x8), some (.int x9), none, none, none, none, none] [] gS0 I J (gR0 w) := by
  intro n
  induction n with
  | zero => intro _ _ _ h; cases h
  | succ n ih =>
    intro J x8 x9 h
    rw [p_X12_isHard_6] at h
    refine G_iload dX12_isHard_6 rfl ?_
    refine G_aload_n dX12_isHard_8 rfl rfl ?_
    refine G_getI fl_X12_408 sl_149 sk_149 rfl dX12_isHard_9 ?_
    refine G_icmp_ge 211 dX12_isHard_12 (by decide) (fun c1 => ?_) (fun c1 => ?_)
    · replace h := git c1 h
      refine G_aload_n dX12_isHard_211 rfl rfl ?_
      refine G_getR fl_X12_142 sl_149 sk_149 rfl (rr_149_64 _) dX12_isHard_212 ?_
      refine G_iconst (v := 0) dX12_isHard_215 rfl ?_
      obtain ⟨b2, h⟩ := gck_some h
      refine G_lald sl_191 ss_191 (gin_in b2) dX12_isHard_216 ?_
      refine G_lconst (v := 1) dX12_isHard_217 rfl ?_
      refine G_lcmp dX12_isHard_218 ?_
      refine G_if_ne 226 dX12_isHard_219 (by decide) (fun c3 => ?_) (fun c3 => ?_)
      · replace h := gif c3 h
        refine G_iconst (v := 0) dX12_isHard_226 rfl ?_
        refine G_zret rfl (Or.inl rfl) (Nat.le_refl _) (Nat.le_refl _) dX12_isHard_227 ?_
        cases h
        exact ⟨rfl, rfl, rfl, rfl, rfl⟩
      · replace h := git c3 h
        refine G_iconst (v := 1) dX12_isHard_222 rfl ?_
        refine G_goto 227 dX12_isHard_223 (by decide) ?_
        refine G_zret rfl (Or.inr rfl) (Nat.le_refl _) (Nat.le_refl _) dX12_isHard_227 ?_
        cases h
        exact ⟨rfl, rfl, rfl, rfl, rfl⟩
    · replace h := gif c1 h
      refine G_aload_n dX12_isHard_15 rfl rfl ?_
      refine G_getR fl_X12_136 sl_149 sk_149 rfl (rr_149_62 _) dX12_isHard_16 ?_
      refine G_iload dX12_isHard_19 rfl ?_
      obtain ⟨b4, h⟩ := gck_some h
      refine G_iald sl_189 ss_189 (gin_in b4) dX12_isHard_21 ?_
      refine G_nI fun z5 ez5 => ?_
      replace h := gL_some ez5 h
      refine S_istore [some (.ref 149), some (.long y1), none, some (.long y3), none, some (.int x5), some (.int x6), some (.int x7), some (.int x8), some (.int x9), some (.int z5), none, none, none, none] dX12_isHard_22 (by decide) rfl ?_
      refine G_iload dX12_isHard_24 rfl ?_
      refine G_iconst (v := 1) dX12_isHard_26 rfl ?_
      refine G_icmp_eq 36 dX12_isHard_27 (by decide) (fun c6 => ?_) (fun c6 => ?_)
      · replace h := git c6 h
        refine G_aload_n dX12_isHard_36 rfl rfl ?_
        refine G_getR fl_X12_142 sl_149 sk_149 rfl (rr_149_64 _) dX12_isHard_37 ?_
        refine G_iload dX12_isHard_40 rfl ?_
        refine G_iload dX12_isHard_42 rfl ?_
        refine G_iconst (v := 1) dX12_isHard_44 rfl ?_
        obtain ⟨ph7, t8, r9⟩ := gB_some h
        have jn10 : G l gX12_isHard 3 0 0 (fun v' S' I' J' R' => v' = some (.int v.1) ∧ S' = gS0 ∧ I' = I ∧ J' = v.2 ∧ R' = gR0 w) 0 0 85 [some (.ref 149), some (.long y1), none, some (.long y3), none, some (.int x5), some (.int x6), some (.int x7), some (.int x8), some (.int x9), some (.int z5), none, none, none, none] [.long ph7, .int x8, .ref 191] gS0 I J (gR0 w) := by
          obtain ⟨b11, r9⟩ := gck_some r9
          refine G_last sl_191 ss_191 (gin_in b11) dX12_isHard_85 ?_
          refine G_mJ fun J12 eJ12 => ?_
          replace r9 := gL_some eJ12 r9
          refine S_iinc (v := (1 : Int32)) [some (.ref 149), some (.long y1), none, some (.long y3), none, some (.int x5), some (.int x6), some (.int x7), some (.int (x8 + (1 : Int32))), some (.int x9), some (.int z5), none, none, none, none] dX12_isHard_86 rfl rfl (by decide) rfl ?_
          refine G_goto 205 dX12_isHard_89 (by decide) ?_
          refine S_iinc (v := (1 : Int32)) [some (.ref 149), some (.long y1), none, some (.long y3), none, some (.int x5), some (.int x6), some (.int x7), some (.int (x8 + (1 : Int32))), some (.int (x9 + (1 : Int32))), some (.int z5), none, none, none, none] dX12_isHard_205 rfl rfl (by decide) rfl ?_
          refine G_goto 6 dX12_isHard_208 (by decide) ?_
          refine G_sub [some (.ref 149), some (.long y1), none, some (.long y3), none, some (.int x5), some (.int x6), some (.int x7), some (.int (x8 + (1 : Int32))), some (.int (x9 + (1 : Int32))), none, none, none, none, none] ⟨rfl, rfl, rfl, rfl, rfl, rfl, rfl, rfl, trivial⟩ ?_
          exact ih _ _ _ r9
        refine G_icmp_ne 59 dX12_isHard_45 (by decide) (fun c13 => ?_) (fun c13 => ?_)
        · replace t8 := gif c13 t8
          refine G_aload_n dX12_isHard_59 rfl rfl ?_
          refine G_getR fl_X12_139 sl_149 sk_149 rfl (rr_149_63 _) dX12_isHard_60 ?_
          refine G_iload dX12_isHard_63 rfl ?_
          obtain ⟨b14, t8⟩ := gck_some t8
          refine G_iald sl_190 ss_190 (gin_in b14) dX12_isHard_65 ?_
          refine G_lload_n dX12_isHard_66 rfl rfl ?_
          refine G_lload_n dX12_isHard_67 rfl rfl ?_
          refine G_iload dX12_isHard_68 rfl ?_
          refine G_iload dX12_isHard_70 rfl ?_
          obtain ⟨ph15, t16, r17⟩ := gB_some t8
          have jn18 : G l gX12_isHard 3 0 0 (fun v' S' I' J' R' => v' = some (.int v.1) ∧ S' = gS0 ∧ I' = I ∧ J' = v.2 ∧ R' = gR0 w) 0 0 80 [some (.ref 149), some (.long y1), none, some (.long y3), none, some (.int x5), some (.int x6), some (.int x7), some (.int x8), some (.int x9), some (.int z5), none, none, none, none] [.int ph15, .int x5, .long y3, .long y1, .int (I 190 (x9).toNatClampNeg), .int x8, .ref 191] gS0 I J (gR0 w) := by
            refine G_iload dX12_isHard_80 rfl ?_
            obtain ⟨r19, hr20, r17⟩ := gB_some r17
            refine G_cS (mj := gX12_valueOf) (As := [.int (I 190 (x9).toNatClampNeg), .long y1, .long y3, .int x5, .int ph15, .int x7]) (rest := [.int x8, .ref 191]) ml_X12_411 vX12_valueOf rfl rfl (Nat.le_of_ble_eq_true rfl) (by decide) (Nat.le_refl _) (Nat.le_refl _) dX12_isHard_82 (q_X12_valueOf hr20) ?_
            cases r17
            exact jn10
          refine G_if_eq 79 dX12_isHard_72 (by decide) (fun c21 => ?_) (fun c21 => ?_)
          · replace t16 := git c21 t16
            refine G_iconst (v := 0) dX12_isHard_79 rfl ?_
            cases t16
            exact jn18
          · replace t16 := gif c21 t16
            refine G_iconst (v := 1) dX12_isHard_75 rfl ?_
            refine G_goto 80 dX12_isHard_76 (by decide) ?_
            cases t16
            exact jn18
        · replace t8 := git c13 t8
          refine G_aload_n dX12_isHard_48 rfl rfl ?_
          refine G_getR fl_X12_139 sl_149 sk_149 rfl (rr_149_63 _) dX12_isHard_49 ?_
          refine G_iload dX12_isHard_52 rfl ?_
          obtain ⟨b22, t8⟩ := gck_some t8
          refine G_iald sl_190 ss_190 (gin_in b22) dX12_isHard_54 ?_
          refine G_i2l dX12_isHard_55 ?_
          refine G_goto 85 dX12_isHard_56 (by decide) ?_
          cases t8
          exact jn10
      · replace h := gif c6 h
        refine G_iload dX12_isHard_30 rfl ?_
        refine G_iconst (v := 2) dX12_isHard_32 rfl ?_
        refine G_icmp_ne 92 dX12_isHard_33 (by decide) (fun c23 => ?_) (fun c23 => ?_)
        · replace h := gif c23 h
          refine S_iinc (v := (-1 : Int32)) [some (.ref 149), some (.long y1), none, some (.long y3), none, some (.int x5), some (.int x6), some (.int x7), some (.int (x8 + (-1 : Int32))), some (.int x9), some (.int z5), none, none, none, none] dX12_isHard_92 rfl rfl (by decide) rfl ?_
          refine G_aload_n dX12_isHard_95 rfl rfl ?_
          refine G_getR fl_X12_142 sl_149 sk_149 rfl (rr_149_64 _) dX12_isHard_96 ?_
          refine G_iload dX12_isHard_99 rfl ?_
          refine G_iconst (v := 1) dX12_isHard_101 rfl ?_
          refine G_isub dX12_isHard_102 ?_
          obtain ⟨b24, h⟩ := gck_some h
          refine G_lald sl_191 ss_191 (gin_in b24) dX12_isHard_103 ?_
          refine G_nJ fun u25 eu25 => ?_
          replace h := gL_some eu25 h
          refine S_lstore [some (.ref 149), some (.long y1), none, some (.long y3), none, some (.int x5), some (.int x6), some (.int x7), some (.int (x8 + (-1 : Int32))), some (.int x9), some (.int z5), some (.long u25), none, none, none] dX12_isHard_104 (by decide) rfl ?_
          refine G_aload_n dX12_isHard_106 rfl rfl ?_
          refine G_getR fl_X12_142 sl_149 sk_149 rfl (rr_149_64 _) dX12_isHard_107 ?_
          refine G_iload dX12_isHard_110 rfl ?_
          obtain ⟨b26, h⟩ := gck_some h
          refine G_lald sl_191 ss_191 (gin_in b26) dX12_isHard_112 ?_
          refine G_nJ fun u27 eu27 => ?_
          replace h := gL_some eu27 h
          refine S_lstore [some (.ref 149), some (.long y1), none, some (.long y3), none, some (.int x5), some (.int x6), some (.int x7), some (.int (x8 + (-1 : Int32))), some (.int x9), some (.int z5), some (.long u25), none, some (.long u27), none] dX12_isHard_113 (by decide) rfl ?_
          refine G_aload_n dX12_isHard_115 rfl rfl ?_
          refine G_getR fl_X12_142 sl_149 sk_149 rfl (rr_149_64 _) dX12_isHard_116 ?_
          refine G_iload dX12_isHard_119 rfl ?_
          refine G_iconst (v := 1) dX12_isHard_121 rfl ?_
          refine G_isub dX12_isHard_122 ?_
          refine G_iload dX12_isHard_123 rfl ?_
          refine G_bipush (v := 43) dX12_isHard_125 rfl ?_
          refine G_icmp_ne 138 dX12_isHard_127 (by decide) (fun c28 => ?_) (fun c28 => ?_)
          · replace h := gif c28 h
            refine G_iload dX12_isHard_138 rfl ?_
            refine G_bipush (v := 45) dX12_isHard_140 rfl ?_
            refine G_icmp_ne 153 dX12_isHard_142 (by decide) (fun c29 => ?_) (fun c29 => ?_)
            · replace h := gif c29 h
              refine G_iload dX12_isHard_153 rfl ?_
              refine G_bipush (v := 42) dX12_isHard_155 rfl ?_
              refine G_icmp_ne 168 dX12_isHard_157 (by decide) (fun c30 => ?_) (fun c30 => ?_)
              · replace h := gif c30 h
                refine G_iload dX12_isHard_168 rfl ?_
                refine G_bipush (v := 60) dX12_isHard_170 rfl ?_
                refine G_icmp_ne 191 dX12_isHard_172 (by decide) (fun c31 => ?_) (fun c31 => ?_)
                · replace h := gif c31 h
                  refine G_lload dX12_isHard_191 rfl ?_
                  refine G_lload dX12_isHard_193 rfl ?_
                  refine G_lcmp dX12_isHard_195 ?_
                  refine G_if_le 203 dX12_isHard_196 (by decide) (fun c32 => ?_) (fun c32 => ?_)
                  · replace h := git c32 h
                    refine G_lconst (v := 0) dX12_isHard_203 rfl ?_
                    obtain ⟨b33, h⟩ := gck_some h
                    refine G_last sl_191 ss_191 (gin_in b33) dX12_isHard_204 ?_
                    refine G_mJ fun J34 eJ34 => ?_
                    replace h := gL_some eJ34 h
                    refine S_iinc (v := (1 : Int32)) [some (.ref 149), some (.long y1), none, some (.long y3), none, some (.int x5), some (.int x6), some (.int x7), some (.int (x8 + (-1 : Int32))), some (.int (x9 + (1 : Int32))), some (.int z5), some (.long u25), none, some (.long u27), none] dX12_isHard_205 rfl rfl (by decide) rfl ?_
                    refine G_goto 6 dX12_isHard_208 (by decide) ?_
                    refine G_sub [some (.ref 149), some (.long y1), none, some (.long y3), none, some (.int x5), some (.int x6), some (.int x7), some (.int (x8 + (-1 : Int32))), some (.int (x9 + (1 : Int32))), none, none, none, none, none] ⟨rfl, rfl, rfl, rfl, rfl, rfl, rfl, rfl, trivial⟩ ?_
                    exact ih _ _ _ h
                  · replace h := gif c32 h
                    refine G_lconst (v := 1) dX12_isHard_199 rfl ?_
                    refine G_goto 204 dX12_isHard_200 (by decide) ?_
                    obtain ⟨b35, h⟩ := gck_some h
                    refine G_last sl_191 ss_191 (gin_in b35) dX12_isHard_204 ?_
                    refine G_mJ fun J36 eJ36 => ?_
                    replace h := gL_some eJ36 h
                    refine S_iinc (v := (1 : Int32)) [some (.ref 149), some (.long y1), none, some (.long y3), none, some (.int x5), some (.int x6), some (.int x7), some (.int (x8 + (-1 : Int32))), some (.int (x9 + (1 : Int32))), some (.int z5), some (.long u25), none, some (.long u27), none] dX12_isHard_205 rfl rfl (by decide) rfl ?_
                    refine G_goto 6 dX12_isHard_208 (by decide) ?_
                    refine G_sub [some (.ref 149), some (.long y1), none, some (.long y3), none, some (.int x5), some (.int x6), some (.int x7), some (.int (x8 + (-1 : Int32))), some (.int (x9 + (1 : Int32))), none, none, none, none, none] ⟨rfl, rfl, rfl, rfl, rfl, rfl, rfl, rfl, trivial⟩ ?_
                    exact ih _ _ _ h
                · replace h := git c31 h
                  refine G_lload dX12_isHard_175 rfl ?_
                  refine G_lload dX12_isHard_177 rfl ?_
                  refine G_lcmp dX12_isHard_179 ?_
                  refine G_if_ge 187 dX12_isHard_180 (by decide) (fun c37 => ?_) (fun c37 => ?_)
                  · replace h := git c37 h
                    refine G_lconst (v := 0) dX12_isHard_187 rfl ?_
                    refine G_goto 204 dX12_isHard_188 (by decide) ?_
                    obtain ⟨b38, h⟩ := gck_some h
                    refine G_last sl_191 ss_191 (gin_in b38) dX12_isHard_204 ?_
                    refine G_mJ fun J39 eJ39 => ?_
                    replace h := gL_some eJ39 h
                    refine S_iinc (v := (1 : Int32)) [some (.ref 149), some (.long y1), none, some (.long y3), none, some (.int x5), some (.int x6), some (.int x7), some (.int (x8 + (-1 : Int32))), some (.int (x9 + (1 : Int32))), some (.int z5), some (.long u25), none, some (.long u27), none] dX12_isHard_205 rfl rfl (by decide) rfl ?_
                    refine G_goto 6 dX12_isHard_208 (by decide) ?_
                    refine G_sub [some (.ref 149), some (.long y1), none, some (.long y3), none, some (.int x5), some (.int x6), some (.int x7), some (.int (x8 + (-1 : Int32))), some (.int (x9 + (1 : Int32))), none, none, none, none, none] ⟨rfl, rfl, rfl, rfl, rfl, rfl, rfl, rfl, trivial⟩ ?_
                    exact ih _ _ _ h
                  · replace h := gif c37 h
                    refine G_lconst (v := 1) dX12_isHard_183 rfl ?_
                    refine G_goto 204 dX12_isHard_184 (by decide) ?_
                    obtain ⟨b40, h⟩ := gck_some h
                    refine G_last sl_191 ss_191 (gin_in b40) dX12_isHard_204 ?_
                    refine G_mJ fun J41 eJ41 => ?_
                    replace h := gL_some eJ41 h
                    refine S_iinc (v := (1 : Int32)) [some (.ref 149), some (.long y1), none, some (.long y3), none, some (.int x5), some (.int x6), some (.int x7), some (.int (x8 + (-1 : Int32))), some (.int (x9 + (1 : Int32))), some (.int z5), some (.long u25), none, some (.long u27), none] dX12_isHard_205 rfl rfl (by decide) rfl ?_
                    refine G_goto 6 dX12_isHard_208 (by decide) ?_
                    refine G_sub [some (.ref 149), some (.long y1), none, some (.long y3), none, some (.int x5), some (.int x6), some (.int x7), some (.int (x8 + (-1 : Int32))), some (.int (x9 + (1 : Int32))), none, none, none, none, none] ⟨rfl, rfl, rfl, rfl, rfl, rfl, rfl, rfl, trivial⟩ ?_
                    exact ih _ _ _ h
              · replace h := git c30 h
                refine G_lload dX12_isHard_160 rfl ?_
                refine G_lload dX12_isHard_162 rfl ?_
                refine G_lmul dX12_isHard_164 ?_
                refine G_goto 204 dX12_isHard_165 (by decide) ?_
                refine G_nJ fun u42 eu42 => ?_
                replace h := gL_some eu42 h
                obtain ⟨b43, h⟩ := gck_some h
                refine G_last sl_191 ss_191 (gin_in b43) dX12_isHard_204 ?_
                refine G_mJ fun J44 eJ44 => ?_
                replace h := gL_some eJ44 h
                refine S_iinc (v := (1 : Int32)) [some (.ref 149), some (.long y1), none, some (.long y3), none, some (.int x5), some (.int x6), some (.int x7), some (.int (x8 + (-1 : Int32))), some (.int (x9 + (1 : Int32))), some (.int z5), some (.long u25), none, some (.long u27), none] dX12_isHard_205 rfl rfl (by decide) rfl ?_
                refine G_goto 6 dX12_isHard_208 (by decide) ?_
                refine G_sub [some (.ref 149), some (.long y1), none, some (.long y3), none, some (.int x5), some (.int x6), some (.int x7), some (.int (x8 + (-1 : Int32))), some (.int (x9 + (1 : Int32))), none, none, none, none, none] ⟨rfl, rfl, rfl, rfl, rfl, rfl, rfl, rfl, trivial⟩ ?_
                exact ih _ _ _ h
            · replace h := git c29 h
              refine G_lload dX12_isHard_145 rfl ?_
              refine G_lload dX12_isHard_147 rfl ?_
              refine G_lsub dX12_isHard_149 ?_
              refine G_goto 204 dX12_isHard_150 (by decide) ?_
              refine G_nJ fun u45 eu45 => ?_
              replace h := gL_some eu45 h
              obtain ⟨b46, h⟩ := gck_some h
              refine G_last sl_191 ss_191 (gin_in b46) dX12_isHard_204 ?_
              refine G_mJ fun J47 eJ47 => ?_
              replace h := gL_some eJ47 h
              refine S_iinc (v := (1 : Int32)) [some (.ref 149), some (.long y1), none, some (.long y3), none, some (.int x5), some (.int x6), some (.int x7), some (.int (x8 + (-1 : Int32))), some (.int (x9 + (1 : Int32))), some (.int z5), some (.long u25), none, some (.long u27), none] dX12_isHard_205 rfl rfl (by decide) rfl ?_
              refine G_goto 6 dX12_isHard_208 (by decide) ?_
              refine G_sub [some (.ref 149), some (.long y1), none, some (.long y3), none, some (.int x5), some (.int x6), some (.int x7), some (.int (x8 + (-1 : Int32))), some (.int (x9 + (1 : Int32))), none, none, none, none, none] ⟨rfl, rfl, rfl, rfl, rfl, rfl, rfl, rfl, trivial⟩ ?_
              exact ih _ _ _ h
          · replace h := git c28 h
            refine G_lload dX12_isHard_130 rfl ?_
            refine G_lload dX12_isHard_132 rfl ?_
            refine G_ladd dX12_isHard_134 ?_
            refine G_goto 204 dX12_isHard_135 (by decide) ?_
            refine G_nJ fun u48 eu48 => ?_
            replace h := gL_some eu48 h
            obtain ⟨b49, h⟩ := gck_some h
            refine G_last sl_191 ss_191 (gin_in b49) dX12_isHard_204 ?_
            refine G_mJ fun J50 eJ50 => ?_
            replace h := gL_some eJ50 h
            refine S_iinc (v := (1 : Int32)) [some (.ref 149), some (.long y1), none, some (.long y3), none, some (.int x5), some (.int x6), some (.int x7), some (.int (x8 + (-1 : Int32))), some (.int (x9 + (1 : Int32))), some (.int z5), some (.long u25), none, some (.long u27), none] dX12_isHard_205 rfl rfl (by decide) rfl ?_
            refine G_goto 6 dX12_isHard_208 (by decide) ?_
            refine G_sub [some (.ref 149), some (.long y1), none, some (.long y3), none, some (.int x5), some (.int x6), some (.int x7), some (.int (x8 + (-1 : Int32))), some (.int (x9 + (1 : Int32))), none, none, none, none, none] ⟨rfl, rfl, rfl, rfl, rfl, rfl, rfl, rfl, trivial⟩ ?_
            exact ih _ _ _ h
        · replace h := git c23 h
          refine G_aload_n dX12_isHard_36 rfl rfl ?_
          refine G_getR fl_X12_142 sl_149 sk_149 rfl (rr_149_64 _) dX12_isHard_37 ?_
          refine G_iload dX12_isHard_40 rfl ?_
          refine G_iload dX12_isHard_42 rfl ?_
          refine G_iconst (v := 1) dX12_isHard_44 rfl ?_
          obtain ⟨ph51, t52, r53⟩ := gB_some h
          have jn54 : G l gX12_isHard 3 0 0 (fun v' S' I' J' R' => v' = some (.int v.1) ∧ S' = gS0 ∧ I' = I ∧ J' = v.2 ∧ R' = gR0 w) 0 0 85 [some (.ref 149), some (.long y1), none, some (.long y3), none, some (.int x5), some (.int x6), some (.int x7), some (.int x8), some (.int x9), some (.int z5), none, none, none, none] [.long ph51, .int x8, .ref 191] gS0 I J (gR0 w) := by
            obtain ⟨b55, r53⟩ := gck_some r53
            refine G_last sl_191 ss_191 (gin_in b55) dX12_isHard_85 ?_
            refine G_mJ fun J56 eJ56 => ?_
            replace r53 := gL_some eJ56 r53
            refine S_iinc (v := (1 : Int32)) [some (.ref 149), some (.long y1), none, some (.long y3), none, some (.int x5), some (.int x6), some (.int x7), some (.int (x8 + (1 : Int32))), some (.int x9), some (.int z5), none, none, none, none] dX12_isHard_86 rfl rfl (by decide) rfl ?_
            refine G_goto 205 dX12_isHard_89 (by decide) ?_
            refine S_iinc (v := (1 : Int32)) [some (.ref 149), some (.long y1), none, some (.long y3), none, some (.int x5), some (.int x6), some (.int x7), some (.int (x8 + (1 : Int32))), some (.int (x9 + (1 : Int32))), some (.int z5), none, none, none, none] dX12_isHard_205 rfl rfl (by decide) rfl ?_
            refine G_goto 6 dX12_isHard_208 (by decide) ?_
            refine G_sub [some (.ref 149), some (.long y1), none, some (.long y3), none, some (.int x5), some (.int x6), some (.int x7), some (.int (x8 + (1 : Int32))), some (.int (x9 + (1 : Int32))), none, none, none, none, none] ⟨rfl, rfl, rfl, rfl, rfl, rfl, rfl, rfl, trivial⟩ ?_
            exact ih _ _ _ r53
          refine G_icmp_ne 59 dX12_isHard_45 (by decide) (fun c57 => ?_) (fun c57 => ?_)
          · replace t52 := gif c57 t52
            refine G_aload_n dX12_isHard_59 rfl rfl ?_
            refine G_getR fl_X12_139 sl_149 sk_149 rfl (rr_149_63 _) dX12_isHard_60 ?_
            refine G_iload dX12_isHard_63 rfl ?_
            obtain ⟨b58, t52⟩ := gck_some t52
            refine G_iald sl_190 ss_190 (gin_in b58) dX12_isHard_65 ?_
            refine G_lload_n dX12_isHard_66 rfl rfl ?_
            refine G_lload_n dX12_isHard_67 rfl rfl ?_
            refine G_iload dX12_isHard_68 rfl ?_
            refine G_iload dX12_isHard_70 rfl ?_
            obtain ⟨ph59, t60, r61⟩ := gB_some t52
            have jn62 : G l gX12_isHard 3 0 0 (fun v' S' I' J' R' => v' = some (.int v.1) ∧ S' = gS0 ∧ I' = I ∧ J' = v.2 ∧ R' = gR0 w) 0 0 80 [some (.ref 149), some (.long y1), none, some (.long y3), none, some (.int x5), some (.int x6), some (.int x7), some (.int x8), some (.int x9), some (.int z5), none, none, none, none] [.int ph59, .int x5, .long y3, .long y1, .int (I 190 (x9).toNatClampNeg), .int x8, .ref 191] gS0 I J (gR0 w) := by
              refine G_iload dX12_isHard_80 rfl ?_
              obtain ⟨r63, hr64, r61⟩ := gB_some r61
              refine G_cS (mj := gX12_valueOf) (As := [.int (I 190 (x9).toNatClampNeg), .long y1, .long y3, .int x5, .int ph59, .int x7]) (rest := [.int x8, .ref 191]) ml_X12_411 vX12_valueOf rfl rfl (Nat.le_of_ble_eq_true rfl) (by decide) (Nat.le_refl _) (Nat.le_refl _) dX12_isHard_82 (q_X12_valueOf hr64) ?_
              cases r61
              exact jn54
            refine G_if_eq 79 dX12_isHard_72 (by decide) (fun c65 => ?_) (fun c65 => ?_)
            · replace t60 := git c65 t60
              refine G_iconst (v := 0) dX12_isHard_79 rfl ?_
              cases t60
              exact jn62
            · replace t60 := gif c65 t60
              refine G_iconst (v := 1) dX12_isHard_75 rfl ?_
              refine G_goto 80 dX12_isHard_76 (by decide) ?_
              cases t60
              exact jn62
          · replace t52 := git c57 t52
            refine G_aload_n dX12_isHard_48 rfl rfl ?_
            refine G_getR fl_X12_139 sl_149 sk_149 rfl (rr_149_63 _) dX12_isHard_49 ?_
            refine G_iload dX12_isHard_52 rfl ?_
            obtain ⟨b66, t52⟩ := gck_some t52
            refine G_iald sl_190 ss_190 (gin_in b66) dX12_isHard_54 ?_
            refine G_i2l dX12_isHard_55 ?_
            refine G_goto 85 dX12_isHard_56 (by decide) ?_
            cases t52
            exact jn54
set_option maxRecDepth 20000 in
theorem q_X12_isHard {l : Launch} {I : gIt} {J : gJt} {w : Bool} {y1 : Int64} {y3 : Int64} {x5 : Int32} {x6 : Int32} {x7 : Int32} {v : (Int32 × gJt)} (h : p_X12_isHard I J y1 y3 x5 x6 x7 = some v) : Cn l gX12_isHard 3 0 0 [.ref 149, .long y1, .long y3, .int x5, .int x6, .int x7] gS0 I J (gR0 w) (fun v' S' I' J' R' => v' = some (.int v.1) ∧ S' = gS0 ∧ I' = I ∧ J' = v.2 ∧ R' = gR0 w) := by
  refine Cn.of [some (.ref 149), some (.long y1), none, some (.long y3), none, some (.int x5), some (.int x6), some (.int x7), none, none, none, none, none, none, none] (by decide) rfl (Nat.le_of_ble_eq_true rfl) ?_
  rw [p_X12_isHard] at h
  refine G_iconst (v := 0) dX12_isHard_0 rfl ?_
  refine S_istore [some (.ref 149), some (.long y1), none, some (.long y3), none, some (.int x5), some (.int x6), some (.int x7), some (.int (0 : Int32)), none, none, none, none, none, none] dX12_isHard_1 (by decide) rfl ?_
  refine G_iconst (v := 0) dX12_isHard_3 rfl ?_
  refine S_istore [some (.ref 149), some (.long y1), none, some (.long y3), none, some (.int x5), some (.int x6), some (.int x7), some (.int (0 : Int32)), some (.int (0 : Int32)), none, none, none, none, none] dX12_isHard_4 (by decide) rfl ?_
  exact q_X12_isHard_6   gFu _ _ _ h
def p_X12_hardOf (I : gIt) (J : gJt) (x1 : Int32) : Option (Int32 × gIt × gJt) :=
  gck (gin x1 40) (
  gL ((I 179 (x1).toNatClampNeg)) fun z2 =>
  if (I 149 59) = 0 then
  some ((0 : Int32), I, J)
  else
  gck (gin x1 40) (
  gB (p_X12_isReckoned I J (I 175 (x1).toNatClampNeg) z2 z2) fun r5 =>
  if r5.1 = 0 then
  some ((0 : Int32), r5.2.1, r5.2.2)
  else
  gck (gin x1 40) (
  gck (gin x1 40) (
  gck (gin x1 40) (
  gB (p_X12_worthOf r5.2.1 r5.2.2 (r5.2.1 175 (x1).toNatClampNeg) (r5.2.1 174 (x1).toNatClampNeg) z2) fun r11 =>
  gck (gin x1 40) (
  gck (gin x1 40) (
  gck (gin (r11.2 174 (x1).toNatClampNeg) 16) (
  gck (gin x1 40) (
  gck (gin x1 40) (
  gB (p_X12_isHard r11.2 r5.2.2 (Int32.toInt64 (r5.2.1 178 (x1).toNatClampNeg)) ((r11.1 * (Int32.toInt64 (r11.2 176 (x1).toNatClampNeg))) / (1000 : Int64)) (z2 - (r11.2 151 ((r11.2 174 (x1).toNatClampNeg)).toNatClampNeg)) (r11.2 180 (x1).toNatClampNeg) (r11.2 176 (x1).toNatClampNeg)) fun r19 =>
  gck (gbo r19.1) (
  some (r19.1, r11.2, r19.2))))))))))))
set_option maxRecDepth 20000 in
theorem q_X12_hardOf {l : Launch} {I : gIt} {J : gJt} {w : Bool} {x1 : Int32} {v : (Int32 × gIt × gJt)} (h : p_X12_hardOf I J x1 = some v) : Cn l gX12_hardOf 9 0 0 [.ref 149, .int x1] gS0 I J (gR0 w) (fun v' S' I' J' R' => v' = some (.int v.1) ∧ S' = gS0 ∧ I' = v.2.1 ∧ J' = v.2.2 ∧ R' = gR0 w) := by
  refine Cn.of [some (.ref 149), some (.int x1), none] (by decide) rfl (Nat.le_of_ble_eq_true rfl) ?_
  rw [p_X12_hardOf] at h
  refine G_aload_n dX12_hardOf_0 rfl rfl ?_
  refine G_getR fl_X12_106 sl_149 sk_149 rfl (rr_149_49 _) dX12_hardOf_1 ?_
  refine G_iload_n dX12_hardOf_4 rfl rfl ?_
  obtain ⟨b1, h⟩ := gck_some h
  refine G_iald sl_179 ss_179 (gin_in b1) dX12_hardOf_5 ?_
  refine G_nI fun z2 ez2 => ?_
  replace h := gL_some ez2 h
  refine S_istore_n [some (.ref 149), some (.int x1), some (.int z2)] dX12_hardOf_6 rfl (by decide) rfl ?_
  refine G_aload_n dX12_hardOf_7 rfl rfl ?_
  refine G_getI fl_X12_404 sl_149 sk_149 rfl dX12_hardOf_8 ?_
  refine G_if_eq 29 dX12_hardOf_11 (by decide) (fun c3 => ?_) (fun c3 => ?_)
  · replace h := git c3 h
    refine G_iconst (v := 0) dX12_hardOf_29 rfl ?_
    refine G_zret rfl (Or.inl rfl) (Nat.le_refl _) (Nat.le_refl _) dX12_hardOf_30 ?_
    cases h
    exact ⟨rfl, rfl, rfl, rfl, rfl⟩
  · replace h := gif c3 h
    refine G_aload_n dX12_hardOf_14 rfl rfl ?_
    refine G_aload_n dX12_hardOf_15 rfl rfl ?_
    refine G_getR fl_X12_94 sl_149 sk_149 rfl (rr_149_45 _) dX12_hardOf_16 ?_
    refine G_iload_n dX12_hardOf_19 rfl rfl ?_
    obtain ⟨b4, h⟩ := gck_some h
    refine G_iald sl_175 ss_175 (gin_in b4) dX12_hardOf_20 ?_
    refine G_iload_n dX12_hardOf_21 rfl rfl ?_
    refine G_iload_n dX12_hardOf_22 rfl rfl ?_
    obtain ⟨r5, hr6, h⟩ := gB_some h
    refine G_cV (mj := gX12_isReckoned) (As := [.int (I 175 (x1).toNatClampNeg), .int z2, .int z2]) (rest := []) ml_X12_346 vX12_isReckoned sl_149 sk_149 (by decide) rfl rfl rfl (Nat.le_of_ble_eq_true rfl) (by decide) (Nat.le_refl _) (Nat.le_refl _) dX12_hardOf_23 (q_X12_isReckoned hr6) ?_
    refine G_if_ne 31 dX12_hardOf_26 (by decide) (fun c7 => ?_) (fun c7 => ?_)
    · replace h := gif c7 h
      refine G_aload_n dX12_hardOf_31 rfl rfl ?_
      refine G_aload_n dX12_hardOf_32 rfl rfl ?_
      refine G_getR fl_X12_103 sl_149 sk_149 rfl (rr_149_48 _) dX12_hardOf_33 ?_
      refine G_iload_n dX12_hardOf_36 rfl rfl ?_
      obtain ⟨b8, h⟩ := gck_some h
      refine G_iald sl_178 ss_178 (gin_in b8) dX12_hardOf_37 ?_
      refine G_i2l dX12_hardOf_38 ?_
      refine G_aload_n dX12_hardOf_39 rfl rfl ?_
      refine G_aload_n dX12_hardOf_40 rfl rfl ?_
      refine G_getR fl_X12_94 sl_149 sk_149 rfl (rr_149_45 _) dX12_hardOf_41 ?_
      refine G_iload_n dX12_hardOf_44 rfl rfl ?_
      obtain ⟨b9, h⟩ := gck_some h
      refine G_iald sl_175 ss_175 (gin_in b9) dX12_hardOf_45 ?_
      refine G_aload_n dX12_hardOf_46 rfl rfl ?_
      refine G_getR fl_X12_91 sl_149 sk_149 rfl (rr_149_44 _) dX12_hardOf_47 ?_
      refine G_iload_n dX12_hardOf_50 rfl rfl ?_
      obtain ⟨b10, h⟩ := gck_some h
      refine G_iald sl_174 ss_174 (gin_in b10) dX12_hardOf_51 ?_
      refine G_iload_n dX12_hardOf_52 rfl rfl ?_
      obtain ⟨r11, hr12, h⟩ := gB_some h
      refine G_cV (mj := gX12_worthOf) (As := [.int (r5.2.1 175 (x1).toNatClampNeg), .int (r5.2.1 174 (x1).toNatClampNeg), .int z2]) (rest := [.long (Int32.toInt64 (r5.2.1 178 (x1).toNatClampNeg)), .ref 149]) ml_X12_364 vX12_worthOf sl_149 sk_149 (by decide) rfl rfl rfl (Nat.le_of_ble_eq_true rfl) (by decide) (Nat.le_refl _) (Nat.le_refl _) dX12_hardOf_53 (q_X12_worthOf hr12) ?_
      refine G_aload_n dX12_hardOf_56 rfl rfl ?_
      refine G_getR fl_X12_97 sl_149 sk_149 rfl (rr_149_46 _) dX12_hardOf_57 ?_
      refine G_iload_n dX12_hardOf_60 rfl rfl ?_
      obtain ⟨b13, h⟩ := gck_some h
      refine G_iald sl_176 ss_176 (gin_in b13) dX12_hardOf_61 ?_
      refine G_i2l dX12_hardOf_62 ?_
      refine G_lmul dX12_hardOf_63 ?_
      refine G_ldc2 dX12_hardOf_64 kc_X12_371 ?_
      refine G_ldiv dX12_hardOf_67 (by decide) ?_
      refine G_iload_n dX12_hardOf_68 rfl rfl ?_
      refine G_aload_n dX12_hardOf_69 rfl rfl ?_
      refine G_getR fl_X12_20 sl_149 sk_149 rfl (rr_149_10 _) dX12_hardOf_70 ?_
      refine G_aload_n dX12_hardOf_73 rfl rfl ?_
      refine G_getR fl_X12_91 sl_149 sk_149 rfl (rr_149_44 _) dX12_hardOf_74 ?_
      refine G_iload_n dX12_hardOf_77 rfl rfl ?_
      obtain ⟨b15, h⟩ := gck_some h
      refine G_iald sl_174 ss_174 (gin_in b15) dX12_hardOf_78 ?_
      obtain ⟨b16, h⟩ := gck_some h
      refine G_iald sl_151 ss_151 (gin_in b16) dX12_hardOf_79 ?_
      refine G_isub dX12_hardOf_80 ?_
      refine G_aload_n dX12_hardOf_81 rfl rfl ?_
      refine G_getR fl_X12_109 sl_149 sk_149 rfl (rr_149_50 _) dX12_hardOf_82 ?_
      refine G_iload_n dX12_hardOf_85 rfl rfl ?_
      obtain ⟨b17, h⟩ := gck_some h
      refine G_zald sl_180 ss_180 (gin_in b17) dX12_hardOf_86 ?_
      refine G_aload_n dX12_hardOf_87 rfl rfl ?_
      refine G_getR fl_X12_97 sl_149 sk_149 rfl (rr_149_46 _) dX12_hardOf_88 ?_
      refine G_iload_n dX12_hardOf_91 rfl rfl ?_
      obtain ⟨b18, h⟩ := gck_some h
      refine G_iald sl_176 ss_176 (gin_in b18) dX12_hardOf_92 ?_
      obtain ⟨r19, hr20, h⟩ := gB_some h
      refine G_cV (mj := gX12_isHard) (As := [.long (Int32.toInt64 (r5.2.1 178 (x1).toNatClampNeg)), .long ((r11.1 * (Int32.toInt64 (r11.2 176 (x1).toNatClampNeg))) / (1000 : Int64)), .int (z2 - (r11.2 151 ((r11.2 174 (x1).toNatClampNeg)).toNatClampNeg)), .int (r11.2 180 (x1).toNatClampNeg), .int (r11.2 176 (x1).toNatClampNeg)]) (rest := []) ml_X12_415 vX12_isHard sl_149 sk_149 (by decide) rfl rfl rfl (Nat.le_of_ble_eq_true rfl) (by decide) (Nat.le_refl _) (Nat.le_refl _) dX12_hardOf_93 (q_X12_isHard hr20) ?_
      obtain ⟨b21, h⟩ := gck_some h
      refine G_zret rfl (gbo_or b21) (Nat.le_refl _) (Nat.le_refl _) dX12_hardOf_96 ?_
      cases h
      exact ⟨rfl, rfl, rfl, rfl, rfl⟩
    · replace h := git c7 h
      refine G_iconst (v := 0) dX12_hardOf_29 rfl ?_
      refine G_zret rfl (Or.inl rfl) (Nat.le_refl _) (Nat.le_refl _) dX12_hardOf_30 ?_
      cases h
      exact ⟨rfl, rfl, rfl, rfl, rfl⟩
def p_X12_hard (I : gIt) (J : gJt) (x1 : Int32) : Option (Int32 × gIt × gJt) :=
  gB (p_X12_isSale I x1) fun r1 =>
  if r1 = 0 then
  some ((-1 : Int32), I, J)
  else
  gB (p_X12_hardOf I J x1) fun r4 =>
  if r4.1 = 0 then
  some ((0 : Int32), r4.2.1, r4.2.2)
  else
  some ((1 : Int32), r4.2.1, r4.2.2)
set_option maxRecDepth 20000 in
theorem q_X12_hard {l : Launch} {I : gIt} {J : gJt} {w : Bool} {x1 : Int32} {v : (Int32 × gIt × gJt)} (h : p_X12_hard I J x1 = some v) : Cn l gX12_hard 10 0 0 [.ref 149, .int x1] gS0 I J (gR0 w) (fun v' S' I' J' R' => v' = some (.int v.1) ∧ S' = gS0 ∧ I' = v.2.1 ∧ J' = v.2.2 ∧ R' = gR0 w) := by
  refine Cn.of [some (.ref 149), some (.int x1)] (by decide) rfl (Nat.le_of_ble_eq_true rfl) ?_
  rw [p_X12_hard] at h
  refine G_aload_n dX12_hard_0 rfl rfl ?_
  refine G_iload_n dX12_hard_1 rfl rfl ?_
  obtain ⟨r1, hr2, h⟩ := gB_some h
  refine G_cV (mj := gX12_isSale) (As := [.int x1]) (rest := []) ml_X12_376 vX12_isSale sl_149 sk_149 (by decide) rfl rfl rfl (Nat.le_of_ble_eq_true rfl) (by decide) (Nat.le_refl _) (Nat.le_refl _) dX12_hard_2 (q_X12_isSale hr2) ?_
  refine G_if_ne 12 dX12_hard_5 (by decide) (fun c3 => ?_) (fun c3 => ?_)
  · replace h := gif c3 h
    refine G_aload_n dX12_hard_12 rfl rfl ?_
    refine G_iload_n dX12_hard_13 rfl rfl ?_
    obtain ⟨r4, hr5, h⟩ := gB_some h
    refine G_cV (mj := gX12_hardOf) (As := [.int x1]) (rest := []) ml_X12_419 vX12_hardOf sl_149 sk_149 (by decide) rfl rfl rfl (Nat.le_of_ble_eq_true rfl) (by decide) (Nat.le_refl _) (Nat.le_refl _) dX12_hard_14 (q_X12_hardOf hr5) ?_
    refine G_if_eq 24 dX12_hard_17 (by decide) (fun c6 => ?_) (fun c6 => ?_)
    · replace h := git c6 h
      refine G_iconst (v := 0) dX12_hard_24 rfl ?_
      refine G_iret rfl (Nat.le_refl _) (Nat.le_refl _) dX12_hard_25 ?_
      cases h
      exact ⟨rfl, rfl, rfl, rfl, rfl⟩
    · replace h := gif c6 h
      refine G_iconst (v := 1) dX12_hard_20 rfl ?_
      refine G_goto 25 dX12_hard_21 (by decide) ?_
      refine G_iret rfl (Nat.le_refl _) (Nat.le_refl _) dX12_hard_25 ?_
      cases h
      exact ⟨rfl, rfl, rfl, rfl, rfl⟩
  · replace h := git c3 h
    refine G_iconst (v := -1) dX12_hard_8 rfl ?_
    refine G_goto 25 dX12_hard_9 (by decide) ?_
    refine G_iret rfl (Nat.le_refl _) (Nat.le_refl _) dX12_hard_25 ?_
    cases h
    exact ⟨rfl, rfl, rfl, rfl, rfl⟩
def p_X12_undo_78 (I : gIt) (J : gJt) (x1 : Int32) : Nat → Int64 → Int32 → Option (Int64 × gIt × gJt)
  | 0, _, _ => none
  | n + 1, y2, x4 =>
    if (I 149 2) ≤ x4 then
    some (y2, I, J)
    else
    gL (((((100 : Int64) + (Int32.toInt64 (I 149 8))) * y2) / (100 : Int64))) fun u23 =>
    if 0 ≤ (lg_cmp u23 (1000000000000 : Int64)) then
    p_X12_undo_78 I J x1 n (1000000000000 : Int64) (x4 + (1 : Int32))
    else
    p_X12_undo_78 I J x1 n u23 (x4 + (1 : Int32))
def p_X12_undo (I : gIt) (J : gJt) (x1 : Int32) : Option (Int64 × gIt × gJt) :=
  gB (p_X12_isSale I x1) fun r1 =>
  if r1 = 0 then
  some ((-1 : Int64), I, J)
  else
  gck (gin x1 40) (
  if (I 183 (x1).toNatClampNeg) = (-1 : Int32) then
  gck (gin x1 40) (
  gck (gin (I 175 (x1).toNatClampNeg) 10) (
  gB (p_X12_isDead I (I 158 ((I 175 (x1).toNatClampNeg)).toNatClampNeg) (I 149 2)) fun r8 =>
  if r8 = 0 then
  gB (p_X12_hardOf I J x1) fun r11 =>
  if r11.1 = 0 then
  some ((-1 : Int64), r11.2.1, r11.2.2)
  else
  gL ((r11.2.1 149 2)) fun z14 =>
  gck (gin x1 40) (
  gL (gu2 r11.2.1 183 (x1).toNatClampNeg z14) fun I16 =>
  gck (gin x1 40) (
  gL ((Int32.toInt64 (I16 178 (x1).toNatClampNeg))) fun u18 =>
  gck (gin x1 40) (
  gL ((I16 179 (x1).toNatClampNeg)) fun z20 =>
  p_X12_undo_78 I16 r11.2.2 x1 gFu u18 z20)))
  else
  some ((-1 : Int64), I, J)))
  else
  some ((-1 : Int64), I, J))
set_option maxRecDepth 20000 in
theorem q_X12_undo_78 {l : Launch} {v : (Int64 × gIt × gJt)} {w : Bool} {I : gIt} {J : gJt} {x1 : Int32} : ∀ (n : Nat) (y2 : Int64) (x4 : Int32), p_X12_undo_78 I J x1 n y2 x4 = some v → G l gX12_undo 10 0 0 (fun v' S' I' J' R' => v' = some (.long v.1) ∧ S' = gS0 ∧ I' = v.2.1 ∧ J' = v.2.2 ∧ R' = gR0 w) 0 0 78 [some (.ref 149), some (.int x1), some (.long y2), none, some (.int x4)] [] gS0 I J (gR0 w) := by
  intro n
  induction n with
  | zero => intro _ _ h; cases h
  | succ n ih =>
    intro y2 x4 h
    rw [p_X12_undo_78] at h
    refine G_iload dX12_undo_78 rfl ?_
    refine G_aload_n dX12_undo_80 rfl rfl ?_
    refine G_getI fl_X12_13 sl_149 sk_149 rfl dX12_undo_81 ?_
    refine G_icmp_ge 125 dX12_undo_84 (by decide) (fun c21 => ?_) (fun c21 => ?_)
    · replace h := git c21 h
      refine G_lload_n dX12_undo_125 rfl rfl ?_
      refine G_lret rfl (Nat.le_refl _) (Nat.le_refl _) dX12_undo_126 ?_
      cases h
      exact ⟨rfl, rfl, rfl, rfl, rfl⟩
    · replace h := gif c21 h
      refine G_ldc2 dX12_undo_87 kc_X12_296 ?_
      refine G_aload_n dX12_undo_90 rfl rfl ?_
      refine G_getI fl_X12_17 sl_149 sk_149 rfl dX12_undo_91 ?_
      refine G_i2l dX12_undo_94 ?_
      refine G_ladd dX12_undo_95 ?_
      refine G_lload_n dX12_undo_96 rfl rfl ?_
      refine G_lmul dX12_undo_97 ?_
      refine G_ldc2 dX12_undo_98 kc_X12_296 ?_
      refine G_ldiv dX12_undo_101 (by decide) ?_
      refine G_nJ fun u23 eu23 => ?_
      replace h := gL_some eu23 h
      refine S_lstore_n [some (.ref 149), some (.int x1), some (.long u23), none, some (.int x4)] dX12_undo_102 rfl (by decide) rfl ?_
      refine G_lload_n dX12_undo_103 rfl rfl ?_
      refine G_ldc2 dX12_undo_104 kc_X12_422 ?_
      refine G_lcmp dX12_undo_107 ?_
      refine G_if_ge 115 dX12_undo_108 (by decide) (fun c24 => ?_) (fun c24 => ?_)
      · replace h := git c24 h
        refine G_ldc2 dX12_undo_115 kc_X12_422 ?_
        refine S_lstore_n [some (.ref 149), some (.int x1), some (.long (1000000000000 : Int64)), none, some (.int x4)] dX12_undo_118 rfl (by decide) rfl ?_
        refine S_iinc (v := (1 : Int32)) [some (.ref 149), some (.int x1), some (.long (1000000000000 : Int64)), none, some (.int (x4 + (1 : Int32)))] dX12_undo_119 rfl rfl (by decide) rfl ?_
        refine G_goto 78 dX12_undo_122 (by decide) ?_
        exact ih _ _ h
      · replace h := gif c24 h
        refine G_lload_n dX12_undo_111 rfl rfl ?_
        refine G_goto 118 dX12_undo_112 (by decide) ?_
        refine S_lstore_n [some (.ref 149), some (.int x1), some (.long u23), none, some (.int x4)] dX12_undo_118 rfl (by decide) rfl ?_
        refine S_iinc (v := (1 : Int32)) [some (.ref 149), some (.int x1), some (.long u23), none, some (.int (x4 + (1 : Int32)))] dX12_undo_119 rfl rfl (by decide) rfl ?_
        refine G_goto 78 dX12_undo_122 (by decide) ?_
        exact ih _ _ h
set_option maxRecDepth 20000 in
theorem q_X12_undo {l : Launch} {I : gIt} {J : gJt} {w : Bool} {x1 : Int32} {v : (Int64 × gIt × gJt)} (h : p_X12_undo I J x1 = some v) : Cn l gX12_undo 10 0 0 [.ref 149, .int x1] gS0 I J (gR0 w) (fun v' S' I' J' R' => v' = some (.long v.1) ∧ S' = gS0 ∧ I' = v.2.1 ∧ J' = v.2.2 ∧ R' = gR0 w) := by
  refine Cn.of [some (.ref 149), some (.int x1), none, none, none] (by decide) rfl (Nat.le_of_ble_eq_true rfl) ?_
  rw [p_X12_undo] at h
  refine G_aload_n dX12_undo_0 rfl rfl ?_
  refine G_iload_n dX12_undo_1 rfl rfl ?_
  obtain ⟨r1, hr2, h⟩ := gB_some h
  refine G_cV (mj := gX12_isSale) (As := [.int x1]) (rest := []) ml_X12_376 vX12_isSale sl_149 sk_149 (by decide) rfl rfl rfl (Nat.le_of_ble_eq_true rfl) (by decide) (Nat.le_refl _) (Nat.le_refl _) dX12_undo_2 (q_X12_isSale hr2) ?_
  refine G_if_eq 48 dX12_undo_5 (by decide) (fun c3 => ?_) (fun c3 => ?_)
  · replace h := git c3 h
    refine G_ldc2 dX12_undo_48 kc_X12_353 ?_
    refine G_lret rfl (Nat.le_refl _) (Nat.le_refl _) dX12_undo_51 ?_
    cases h
    exact ⟨rfl, rfl, rfl, rfl, rfl⟩
  · replace h := gif c3 h
    refine G_aload_n dX12_undo_8 rfl rfl ?_
    refine G_getR fl_X12_118 sl_149 sk_149 rfl (rr_149_53 _) dX12_undo_9 ?_
    refine G_iload_n dX12_undo_12 rfl rfl ?_
    obtain ⟨b4, h⟩ := gck_some h
    refine G_iald sl_183 ss_183 (gin_in b4) dX12_undo_13 ?_
    refine G_iconst (v := -1) dX12_undo_14 rfl ?_
    refine G_icmp_ne 48 dX12_undo_15 (by decide) (fun c5 => ?_) (fun c5 => ?_)
    · replace h := gif c5 h
      refine G_ldc2 dX12_undo_48 kc_X12_353 ?_
      refine G_lret rfl (Nat.le_refl _) (Nat.le_refl _) dX12_undo_51 ?_
      cases h
      exact ⟨rfl, rfl, rfl, rfl, rfl⟩
    · replace h := git c5 h
      refine G_aload_n dX12_undo_18 rfl rfl ?_
      refine G_aload_n dX12_undo_19 rfl rfl ?_
      refine G_getR fl_X12_42 sl_149 sk_149 rfl (rr_149_17 _) dX12_undo_20 ?_
      refine G_aload_n dX12_undo_23 rfl rfl ?_
      refine G_getR fl_X12_94 sl_149 sk_149 rfl (rr_149_45 _) dX12_undo_24 ?_
      refine G_iload_n dX12_undo_27 rfl rfl ?_
      obtain ⟨b6, h⟩ := gck_some h
      refine G_iald sl_175 ss_175 (gin_in b6) dX12_undo_28 ?_
      obtain ⟨b7, h⟩ := gck_some h
      refine G_iald sl_158 ss_158 (gin_in b7) dX12_undo_29 ?_
      refine G_aload_n dX12_undo_30 rfl rfl ?_
      refine G_getI fl_X12_13 sl_149 sk_149 rfl dX12_undo_31 ?_
      obtain ⟨r8, hr9, h⟩ := gB_some h
      refine G_cV (mj := gX12_isDead) (As := [.int (I 158 ((I 175 (x1).toNatClampNeg)).toNatClampNeg), .int (I 149 2)]) (rest := []) ml_X12_336 vX12_isDead sl_149 sk_149 (by decide) rfl rfl rfl (Nat.le_of_ble_eq_true rfl) (by decide) (Nat.le_refl _) (Nat.le_refl _) dX12_undo_34 (q_X12_isDead hr9) ?_
      refine G_if_ne 48 dX12_undo_37 (by decide) (fun c10 => ?_) (fun c10 => ?_)
      · replace h := gif c10 h
        refine G_ldc2 dX12_undo_48 kc_X12_353 ?_
        refine G_lret rfl (Nat.le_refl _) (Nat.le_refl _) dX12_undo_51 ?_
        cases h
        exact ⟨rfl, rfl, rfl, rfl, rfl⟩
      · replace h := git c10 h
        refine G_aload_n dX12_undo_40 rfl rfl ?_
        refine G_iload_n dX12_undo_41 rfl rfl ?_
        obtain ⟨r11, hr12, h⟩ := gB_some h
        refine G_cV (mj := gX12_hardOf) (As := [.int x1]) (rest := []) ml_X12_419 vX12_hardOf sl_149 sk_149 (by decide) rfl rfl rfl (Nat.le_of_ble_eq_true rfl) (by decide) (Nat.le_refl _) (Nat.le_refl _) dX12_undo_42 (q_X12_hardOf hr12) ?_
        refine G_if_ne 52 dX12_undo_45 (by decide) (fun c13 => ?_) (fun c13 => ?_)
        · replace h := gif c13 h
          refine G_aload_n dX12_undo_52 rfl rfl ?_
          refine G_getR fl_X12_118 sl_149 sk_149 rfl (rr_149_53 _) dX12_undo_53 ?_
          refine G_iload_n dX12_undo_56 rfl rfl ?_
          refine G_aload_n dX12_undo_57 rfl rfl ?_
          refine G_getI fl_X12_13 sl_149 sk_149 rfl dX12_undo_58 ?_
          refine G_nI fun z14 ez14 => ?_
          replace h := gL_some ez14 h
          obtain ⟨b15, h⟩ := gck_some h
          refine G_iast sl_183 ss_183 (gin_in b15) dX12_undo_61 ?_
          refine G_mI fun I16 eI16 => ?_
          replace h := gL_some eI16 h
          refine G_aload_n dX12_undo_62 rfl rfl ?_
          refine G_getR fl_X12_103 sl_149 sk_149 rfl (rr_149_48 _) dX12_undo_63 ?_
          refine G_iload_n dX12_undo_66 rfl rfl ?_
          obtain ⟨b17, h⟩ := gck_some h
          refine G_iald sl_178 ss_178 (gin_in b17) dX12_undo_67 ?_
          refine G_i2l dX12_undo_68 ?_
          refine G_nJ fun u18 eu18 => ?_
          replace h := gL_some eu18 h
          refine S_lstore_n [some (.ref 149), some (.int x1), some (.long u18), none, none] dX12_undo_69 rfl (by decide) rfl ?_
          refine G_aload_n dX12_undo_70 rfl rfl ?_
          refine G_getR fl_X12_106 sl_149 sk_149 rfl (rr_149_49 _) dX12_undo_71 ?_
          refine G_iload_n dX12_undo_74 rfl rfl ?_
          obtain ⟨b19, h⟩ := gck_some h
          refine G_iald sl_179 ss_179 (gin_in b19) dX12_undo_75 ?_
          refine G_nI fun z20 ez20 => ?_
          replace h := gL_some ez20 h
          refine S_istore [some (.ref 149), some (.int x1), some (.long u18), none, some (.int z20)] dX12_undo_76 (by decide) rfl ?_
          exact q_X12_undo_78   gFu _ _ h
        · replace h := git c13 h
          refine G_ldc2 dX12_undo_48 kc_X12_353 ?_
          refine G_lret rfl (Nat.le_refl _) (Nat.le_refl _) dX12_undo_51 ?_
          cases h
          exact ⟨rfl, rfl, rfl, rfl, rfl⟩
def p_X12_least_72 (I : gIt) (x1 : Int32) (x2 : Int32) (x3 : Int32) (x4 : Int32) (y5 : Int64) : Nat → gJt → Int32 → Option (Int32 × gIt × gJt)
  | 0, _, _ => none
  | n + 1, J, x7 =>
    if (100000 : Int32) < x7 then
    some ((-1 : Int32), I, J)
    else
    gck (gin x1 16) (
    gB (p_X12_isHard I J (Int32.toInt64 x7) y5 ((I 149 2) - (I 151 (x1).toNatClampNeg)) x4 x3) fun r20 =>
    if r20.1 = 0 then
    some (x7, I, r20.2)
    else
    p_X12_least_72 I x1 x2 x3 x4 y5 n r20.2 (x7 + (1 : Int32)))
def p_X12_least (I : gIt) (J : gJt) (x1 : Int32) (x2 : Int32) (x3 : Int32) (x4 : Int32) : Option (Int32 × gIt × gJt) :=
  gB (p_X12_isPerson I x1) fun r1 =>
  if r1 = 0 then
  some ((-1 : Int32), I, J)
  else
  gB (p_X12_isSettlement I x2) fun r4 =>
  if r4 = 0 then
  some ((-1 : Int32), I, J)
  else
  gB (p_X12_isParts x3) fun r7 =>
  if r7 = 0 then
  some ((-1 : Int32), I, J)
  else
  if (I 149 59) = 0 then
  some ((0 : Int32), I, J)
  else
  gB (p_X12_isReckoned I J x2 (I 149 2) (I 149 2)) fun r11 =>
  if r11.1 = 0 then
  some ((0 : Int32), r11.2.1, r11.2.2)
  else
  gB (p_X12_worthOf r11.2.1 r11.2.2 x2 x1 (r11.2.1 149 2)) fun r14 =>
  gL (((r14.1 * (Int32.toInt64 x3)) / (1000 : Int64))) fun u17 =>
  p_X12_least_72 r14.2 x1 x2 x3 x4 u17 gFu r11.2.2 (0 : Int32)
set_option maxRecDepth 20000 in
theorem q_X12_least_72 {l : Launch} {v : (Int32 × gIt × gJt)} {w : Bool} {I : gIt} {x1 : Int32} {x2 : Int32} {x3 : Int32} {x4 : Int32} {y5 : Int64} : ∀ (n : Nat) (J : gJt) (x7 : Int32), p_X12_least_72 I x1 x2 x3 x4 y5 n J x7 = some v → G l gX12_least 9 0 0 (fun v' S' I' J' R' => v' = some (.int v.1) ∧ S' = gS0 ∧ I' = v.2.1 ∧ J' = v.2.2 ∧ R' = gR0 w) 0 0 72 [some (.ref 149), some (.int x1), some (.int x2), some (.int x3), some (.int x4), some (.long y5), none, some (.int x7)] [] gS0 I J (gR0 w) := by
  intro n
  induction n with
  | zero => intro _ _ h; cases h
  | succ n ih =>
    intro J x7 h
    rw [p_X12_least_72] at h
    refine G_iload dX12_least_72 rfl ?_
    refine G_ldcw dX12_least_74 kc_X12_424 ?_
    refine G_icmp_gt 115 dX12_least_77 (by decide) (fun c18 => ?_) (fun c18 => ?_)
    · replace h := git c18 h
      refine G_iconst (v := -1) dX12_least_115 rfl ?_
      refine G_iret rfl (Nat.le_refl _) (Nat.le_refl _) dX12_least_116 ?_
      cases h
      exact ⟨rfl, rfl, rfl, rfl, rfl⟩
    · replace h := gif c18 h
      refine G_aload_n dX12_least_80 rfl rfl ?_
      refine G_iload dX12_least_81 rfl ?_
      refine G_i2l dX12_least_83 ?_
      refine G_lload dX12_least_84 rfl ?_
      refine G_aload_n dX12_least_86 rfl rfl ?_
      refine G_getI fl_X12_13 sl_149 sk_149 rfl dX12_least_87 ?_
      refine G_aload_n dX12_least_90 rfl rfl ?_
      refine G_getR fl_X12_20 sl_149 sk_149 rfl (rr_149_10 _) dX12_least_91 ?_
      refine G_iload_n dX12_least_94 rfl rfl ?_
      obtain ⟨b19, h⟩ := gck_some h
      refine G_iald sl_151 ss_151 (gin_in b19) dX12_least_95 ?_
      refine G_isub dX12_least_96 ?_
      refine G_iload dX12_least_97 rfl ?_
      refine G_iload_n dX12_least_99 rfl rfl ?_
      obtain ⟨r20, hr21, h⟩ := gB_some h
      refine G_cV (mj := gX12_isHard) (As := [.long (Int32.toInt64 x7), .long y5, .int ((I 149 2) - (I 151 (x1).toNatClampNeg)), .int x4, .int x3]) (rest := []) ml_X12_415 vX12_isHard sl_149 sk_149 (by decide) rfl rfl rfl (Nat.le_of_ble_eq_true rfl) (by decide) (Nat.le_refl _) (Nat.le_refl _) dX12_least_100 (q_X12_isHard hr21) ?_
      refine G_if_ne 109 dX12_least_103 (by decide) (fun c22 => ?_) (fun c22 => ?_)
      · replace h := gif c22 h
        refine S_iinc (v := (1 : Int32)) [some (.ref 149), some (.int x1), some (.int x2), some (.int x3), some (.int x4), some (.long y5), none, some (.int (x7 + (1 : Int32)))] dX12_least_109 rfl rfl (by decide) rfl ?_
        refine G_goto 72 dX12_least_112 (by decide) ?_
        exact ih _ _ h
      · replace h := git c22 h
        refine G_iload dX12_least_106 rfl ?_
        refine G_iret rfl (Nat.le_refl _) (Nat.le_refl _) dX12_least_108 ?_
        cases h
        exact ⟨rfl, rfl, rfl, rfl, rfl⟩
set_option maxRecDepth 20000 in
theorem q_X12_least {l : Launch} {I : gIt} {J : gJt} {w : Bool} {x1 : Int32} {x2 : Int32} {x3 : Int32} {x4 : Int32} {v : (Int32 × gIt × gJt)} (h : p_X12_least I J x1 x2 x3 x4 = some v) : Cn l gX12_least 9 0 0 [.ref 149, .int x1, .int x2, .int x3, .int x4] gS0 I J (gR0 w) (fun v' S' I' J' R' => v' = some (.int v.1) ∧ S' = gS0 ∧ I' = v.2.1 ∧ J' = v.2.2 ∧ R' = gR0 w) := by
  refine Cn.of [some (.ref 149), some (.int x1), some (.int x2), some (.int x3), some (.int x4), none, none, none] (by decide) rfl (Nat.le_of_ble_eq_true rfl) ?_
  rw [p_X12_least] at h
  refine G_aload_n dX12_least_0 rfl rfl ?_
  refine G_iload_n dX12_least_1 rfl rfl ?_
  obtain ⟨r1, hr2, h⟩ := gB_some h
  refine G_cV (mj := gX12_isPerson) (As := [.int x1]) (rest := []) ml_X12_165 vX12_isPerson sl_149 sk_149 (by decide) rfl rfl rfl (Nat.le_of_ble_eq_true rfl) (by decide) (Nat.le_refl _) (Nat.le_refl _) dX12_least_2 (q_X12_isPerson hr2) ?_
  refine G_if_eq 23 dX12_least_5 (by decide) (fun c3 => ?_) (fun c3 => ?_)
  · replace h := git c3 h
    refine G_iconst (v := -1) dX12_least_23 rfl ?_
    refine G_iret rfl (Nat.le_refl _) (Nat.le_refl _) dX12_least_24 ?_
    cases h
    exact ⟨rfl, rfl, rfl, rfl, rfl⟩
  · replace h := gif c3 h
    refine G_aload_n dX12_least_8 rfl rfl ?_
    refine G_iload_n dX12_least_9 rfl rfl ?_
    obtain ⟨r4, hr5, h⟩ := gB_some h
    refine G_cV (mj := gX12_isSettlement) (As := [.int x2]) (rest := []) ml_X12_308 vX12_isSettlement sl_149 sk_149 (by decide) rfl rfl rfl (Nat.le_of_ble_eq_true rfl) (by decide) (Nat.le_refl _) (Nat.le_refl _) dX12_least_10 (q_X12_isSettlement hr5) ?_
    refine G_if_eq 23 dX12_least_13 (by decide) (fun c6 => ?_) (fun c6 => ?_)
    · replace h := git c6 h
      refine G_iconst (v := -1) dX12_least_23 rfl ?_
      refine G_iret rfl (Nat.le_refl _) (Nat.le_refl _) dX12_least_24 ?_
      cases h
      exact ⟨rfl, rfl, rfl, rfl, rfl⟩
    · replace h := gif c6 h
      refine G_iload_n dX12_least_16 rfl rfl ?_
      obtain ⟨r7, hr8, h⟩ := gB_some h
      refine G_cS (mj := gX12_isParts) (As := [.int x3]) (rest := []) ml_X12_373 vX12_isParts rfl rfl (Nat.le_of_ble_eq_true rfl) (by decide) (Nat.le_refl _) (Nat.le_refl _) dX12_least_17 (q_X12_isParts hr8) ?_
      refine G_if_ne 25 dX12_least_20 (by decide) (fun c9 => ?_) (fun c9 => ?_)
      · replace h := gif c9 h
        refine G_aload_n dX12_least_25 rfl rfl ?_
        refine G_getI fl_X12_404 sl_149 sk_149 rfl dX12_least_26 ?_
        refine G_if_eq 48 dX12_least_29 (by decide) (fun c10 => ?_) (fun c10 => ?_)
        · replace h := git c10 h
          refine G_iconst (v := 0) dX12_least_48 rfl ?_
          refine G_iret rfl (Nat.le_refl _) (Nat.le_refl _) dX12_least_49 ?_
          cases h
          exact ⟨rfl, rfl, rfl, rfl, rfl⟩
        · replace h := gif c10 h
          refine G_aload_n dX12_least_32 rfl rfl ?_
          refine G_iload_n dX12_least_33 rfl rfl ?_
          refine G_aload_n dX12_least_34 rfl rfl ?_
          refine G_getI fl_X12_13 sl_149 sk_149 rfl dX12_least_35 ?_
          refine G_aload_n dX12_least_38 rfl rfl ?_
          refine G_getI fl_X12_13 sl_149 sk_149 rfl dX12_least_39 ?_
          obtain ⟨r11, hr12, h⟩ := gB_some h
          refine G_cV (mj := gX12_isReckoned) (As := [.int x2, .int (I 149 2), .int (I 149 2)]) (rest := []) ml_X12_346 vX12_isReckoned sl_149 sk_149 (by decide) rfl rfl rfl (Nat.le_of_ble_eq_true rfl) (by decide) (Nat.le_refl _) (Nat.le_refl _) dX12_least_42 (q_X12_isReckoned hr12) ?_
          refine G_if_ne 50 dX12_least_45 (by decide) (fun c13 => ?_) (fun c13 => ?_)
          · replace h := gif c13 h
            refine G_aload_n dX12_least_50 rfl rfl ?_
            refine G_iload_n dX12_least_51 rfl rfl ?_
            refine G_iload_n dX12_least_52 rfl rfl ?_
            refine G_aload_n dX12_least_53 rfl rfl ?_
            refine G_getI fl_X12_13 sl_149 sk_149 rfl dX12_least_54 ?_
            obtain ⟨r14, hr15, h⟩ := gB_some h
            refine G_cV (mj := gX12_worthOf) (As := [.int x2, .int x1, .int (r11.2.1 149 2)]) (rest := []) ml_X12_364 vX12_worthOf sl_149 sk_149 (by decide) rfl rfl rfl (Nat.le_of_ble_eq_true rfl) (by decide) (Nat.le_refl _) (Nat.le_refl _) dX12_least_57 (q_X12_worthOf hr15) ?_
            refine G_iload_n dX12_least_60 rfl rfl ?_
            refine G_i2l dX12_least_61 ?_
            refine G_lmul dX12_least_62 ?_
            refine G_ldc2 dX12_least_63 kc_X12_371 ?_
            refine G_ldiv dX12_least_66 (by decide) ?_
            refine G_nJ fun u17 eu17 => ?_
            replace h := gL_some eu17 h
            refine S_lstore [some (.ref 149), some (.int x1), some (.int x2), some (.int x3), some (.int x4), some (.long u17), none, none] dX12_least_67 (by decide) rfl ?_
            refine G_iconst (v := 0) dX12_least_69 rfl ?_
            refine S_istore [some (.ref 149), some (.int x1), some (.int x2), some (.int x3), some (.int x4), some (.long u17), none, some (.int (0 : Int32))] dX12_least_70 (by decide) rfl ?_
            exact q_X12_least_72   gFu _ _ h
          · replace h := git c13 h
            refine G_iconst (v := 0) dX12_least_48 rfl ?_
            refine G_iret rfl (Nat.le_refl _) (Nat.le_refl _) dX12_least_49 ?_
            cases h
            exact ⟨rfl, rfl, rfl, rfl, rfl⟩
      · replace h := git c9 h
        refine G_iconst (v := -1) dX12_least_23 rfl ?_
        refine G_iret rfl (Nat.le_refl _) (Nat.le_refl _) dX12_least_24 ?_
        cases h
        exact ⟨rfl, rfl, rfl, rfl, rfl⟩
def p_X12_cover_152 (I : gIt) (x1 : Int32) (x2 : Int32) (x3 : Int32) (x4 : Int32) (x5 : Int32) (x6 : Int32) (y7 : Int64) : Nat → Int64 → Int32 → Int32 → Option Int64
  | 0, _, _, _ => none
  | n + 1, y9, x11, x12 =>
    if (400 : Int32) ≤ x12 then
    some y9
    else
    gck (decide (¬ ((100 : Int32) + (I 149 8)) = 0)) (
    gL ((((100 : Int32) * x11) / ((100 : Int32) + (I 149 8)))) fun z34 =>
    gB (p_X12_livesAt I x4 (x5 + x12)) fun r35 =>
    gB (p_X12_livesAt I x4 ((x5 + x12) + (1 : Int32))) fun r37 =>
    gB (p_X12_livesAt I x4 (x6 + x12)) fun r39 =>
    gck (decide (¬ y7 = 0)) (
    gL (((((Int32.toInt64 x3) * (Int32.toInt64 (r35 - r37))) * (Int32.toInt64 r39)) / y7)) fun u42 =>
    gL ((y9 + ((u42 * (Int32.toInt64 z34)) / (1000000 : Int64)))) fun u44 =>
    p_X12_cover_152 I x1 x2 x3 x4 x5 x6 y7 n u44 z34 (x12 + (1 : Int32))))
def p_X12_cover (I : gIt) (x1 : Int32) (x2 : Int32) (x3 : Int32) : Option Int64 :=
  gB (p_X12_isSettlement I x1) fun r1 =>
  if r1 = 0 then
  some (-1 : Int64)
  else
  gB (p_X12_isPerson I x2) fun r4 =>
  if r4 = 0 then
  some (-1 : Int64)
  else
  gck (gin x1 10) (
  if x2 = (I 158 (x1).toNatClampNeg) then
  some (-1 : Int64)
  else
  gB (p_X12_lies (Int32.toInt64 x3) (1 : Int64) (100000 : Int64)) fun r9 =>
  if r9 = 0 then
  some (-1 : Int64)
  else
  gB (p_X12_isDead I x2 (I 149 2)) fun r12 =>
  if r12 = 0 then
  gck (gin x1 10) (
  gB (p_X12_isDead I (I 158 (x1).toNatClampNeg) (I 149 2)) fun r16 =>
  if r16 = 0 then
  gck (gin x1 10) (
  gL ((I 159 (x1).toNatClampNeg)) fun z20 =>
  gck (gin x2 16) (
  gL (((I 149 2) - (I 151 (x2).toNatClampNeg))) fun z22 =>
  gck (gin x1 10) (
  gck (gin (I 158 (x1).toNatClampNeg) 16) (
  gL (((I 149 2) - (I 151 ((I 158 (x1).toNatClampNeg)).toNatClampNeg))) fun z25 =>
  gB (p_X12_livesAt I z20 z22) fun r26 =>
  gB (p_X12_livesAt I z20 z25) fun r28 =>
  gL (((Int32.toInt64 r26) * (Int32.toInt64 r28))) fun u30 =>
  if (lg_cmp u30 (0 : Int64)) = 0 then
  some (-1 : Int64)
  else
  p_X12_cover_152 I x1 x2 x3 z20 z22 z25 u30 gFu (0 : Int64) (1000000 : Int32) (0 : Int32)))))
  else
  some (-1 : Int64))
  else
  some (-1 : Int64))
set_option maxRecDepth 20000 in
theorem q_X12_cover_152 {l : Launch} {v : Int64} {J : gJt} {w : Bool} {I : gIt} {x1 : Int32} {x2 : Int32} {x3 : Int32} {x4 : Int32} {x5 : Int32} {x6 : Int32} {y7 : Int64} : ∀ (n : Nat) (y9 : Int64) (x11 : Int32) (x12 : Int32), p_X12_cover_152 I x1 x2 x3 x4 x5 x6 y7 n y9 x11 x12 = some v → G l gX12_cover 4 0 0 (fun v' S' I' J' R' => v' = some (.long v) ∧ S' = gS0 ∧ I' = I ∧ J' = J ∧ R' = gR0 w) 0 0 152 [some (.ref 149), some (.int x1), some (.int x2), some (.int x3), some (.int x4), some (.int x5), some (.int x6), some (.long y7), none, some (.long y9), none, some (.int x11), some (.int x12), none, none] [] gS0 I J (gR0 w) := by
  intro n
  induction n with
  | zero => intro _ _ _ h; cases h
  | succ n ih =>
    intro y9 x11 x12 h
    rw [p_X12_cover_152] at h
    refine G_iload dX12_cover_152 rfl ?_
    refine G_sipush (v := 400) dX12_cover_154 rfl ?_
    refine G_icmp_ge 243 dX12_cover_157 (by decide) (fun c32 => ?_) (fun c32 => ?_)
    · replace h := git c32 h
      refine G_lload dX12_cover_243 rfl ?_
      refine G_lret rfl (Nat.le_refl _) (Nat.le_refl _) dX12_cover_245 ?_
      cases h
      exact ⟨rfl, rfl, rfl, rfl, rfl⟩
    · replace h := gif c32 h
      refine G_bipush (v := 100) dX12_cover_160 rfl ?_
      refine G_iload dX12_cover_162 rfl ?_
      refine G_imul dX12_cover_164 ?_
      refine G_bipush (v := 100) dX12_cover_165 rfl ?_
      refine G_aload_n dX12_cover_167 rfl rfl ?_
      refine G_getI fl_X12_17 sl_149 sk_149 rfl dX12_cover_168 ?_
      refine G_iadd dX12_cover_171 ?_
      obtain ⟨b33, h⟩ := gck_some h
      refine G_idiv dX12_cover_172 (of_decide_eq_true b33) ?_
      refine G_nI fun z34 ez34 => ?_
      replace h := gL_some ez34 h
      refine S_istore [some (.ref 149), some (.int x1), some (.int x2), some (.int x3), some (.int x4), some (.int x5), some (.int x6), some (.long y7), none, some (.long y9), none, some (.int z34), some (.int x12), none, none] dX12_cover_173 (by decide) rfl ?_
      refine G_iload_n dX12_cover_175 rfl rfl ?_
      refine G_i2l dX12_cover_176 ?_
      refine G_aload_n dX12_cover_177 rfl rfl ?_
      refine G_iload dX12_cover_178 rfl ?_
      refine G_iload dX12_cover_180 rfl ?_
      refine G_iload dX12_cover_182 rfl ?_
      refine G_iadd dX12_cover_184 ?_
      obtain ⟨r35, hr36, h⟩ := gB_some h
      refine G_cV (mj := gX12_livesAt) (As := [.int x4, .int (x5 + x12)]) (rest := [.long (Int32.toInt64 x3)]) ml_X12_177 vX12_livesAt sl_149 sk_149 (by decide) rfl rfl rfl (Nat.le_of_ble_eq_true rfl) (by decide) (Nat.le_refl _) (Nat.le_refl _) dX12_cover_185 (q_X12_livesAt hr36) ?_
      refine G_aload_n dX12_cover_188 rfl rfl ?_
      refine G_iload dX12_cover_189 rfl ?_
      refine G_iload dX12_cover_191 rfl ?_
      refine G_iload dX12_cover_193 rfl ?_
      refine G_iadd dX12_cover_195 ?_
      refine G_iconst (v := 1) dX12_cover_196 rfl ?_
      refine G_iadd dX12_cover_197 ?_
      obtain ⟨r37, hr38, h⟩ := gB_some h
      refine G_cV (mj := gX12_livesAt) (As := [.int x4, .int ((x5 + x12) + (1 : Int32))]) (rest := [.int r35, .long (Int32.toInt64 x3)]) ml_X12_177 vX12_livesAt sl_149 sk_149 (by decide) rfl rfl rfl (Nat.le_of_ble_eq_true rfl) (by decide) (Nat.le_refl _) (Nat.le_refl _) dX12_cover_198 (q_X12_livesAt hr38) ?_
      refine G_isub dX12_cover_201 ?_
      refine G_i2l dX12_cover_202 ?_
      refine G_lmul dX12_cover_203 ?_
      refine G_aload_n dX12_cover_204 rfl rfl ?_
      refine G_iload dX12_cover_205 rfl ?_
      refine G_iload dX12_cover_207 rfl ?_
      refine G_iload dX12_cover_209 rfl ?_
      refine G_iadd dX12_cover_211 ?_
      obtain ⟨r39, hr40, h⟩ := gB_some h
      refine G_cV (mj := gX12_livesAt) (As := [.int x4, .int (x6 + x12)]) (rest := [.long ((Int32.toInt64 x3) * (Int32.toInt64 (r35 - r37)))]) ml_X12_177 vX12_livesAt sl_149 sk_149 (by decide) rfl rfl rfl (Nat.le_of_ble_eq_true rfl) (by decide) (Nat.le_refl _) (Nat.le_refl _) dX12_cover_212 (q_X12_livesAt hr40) ?_
      refine G_i2l dX12_cover_215 ?_
      refine G_lmul dX12_cover_216 ?_
      refine G_lload dX12_cover_217 rfl ?_
      obtain ⟨b41, h⟩ := gck_some h
      refine G_ldiv dX12_cover_219 (of_decide_eq_true b41) ?_
      refine G_nJ fun u42 eu42 => ?_
      replace h := gL_some eu42 h
      refine S_lstore [some (.ref 149), some (.int x1), some (.int x2), some (.int x3), some (.int x4), some (.int x5), some (.int x6), some (.long y7), none, some (.long y9), none, some (.int z34), some (.int x12), some (.long u42), none] dX12_cover_220 (by decide) rfl ?_
      refine G_lload dX12_cover_222 rfl ?_
      refine G_lload dX12_cover_224 rfl ?_
      refine G_iload dX12_cover_226 rfl ?_
      refine G_i2l dX12_cover_228 ?_
      refine G_lmul dX12_cover_229 ?_
      refine G_ldc2 dX12_cover_230 kc_X12_362 ?_
      refine G_ldiv dX12_cover_233 (by decide) ?_
      refine G_ladd dX12_cover_234 ?_
      refine G_nJ fun u44 eu44 => ?_
      replace h := gL_some eu44 h
      refine S_lstore [some (.ref 149), some (.int x1), some (.int x2), some (.int x3), some (.int x4), some (.int x5), some (.int x6), some (.long y7), none, some (.long u44), none, some (.int z34), some (.int x12), some (.long u42), none] dX12_cover_235 (by decide) rfl ?_
      refine S_iinc (v := (1 : Int32)) [some (.ref 149), some (.int x1), some (.int x2), some (.int x3), some (.int x4), some (.int x5), some (.int x6), some (.long y7), none, some (.long u44), none, some (.int z34), some (.int (x12 + (1 : Int32))), some (.long u42), none] dX12_cover_237 rfl rfl (by decide) rfl ?_
      refine G_goto 152 dX12_cover_240 (by decide) ?_
      refine G_sub [some (.ref 149), some (.int x1), some (.int x2), some (.int x3), some (.int x4), some (.int x5), some (.int x6), some (.long y7), none, some (.long u44), none, some (.int z34), some (.int (x12 + (1 : Int32))), none, none] ⟨rfl, rfl, rfl, rfl, rfl, rfl, rfl, rfl, rfl, rfl, rfl, trivial⟩ ?_
      exact ih _ _ _ h
set_option maxRecDepth 20000 in
theorem q_X12_cover {l : Launch} {I : gIt} {J : gJt} {w : Bool} {x1 : Int32} {x2 : Int32} {x3 : Int32} {v : Int64} (h : p_X12_cover I x1 x2 x3 = some v) : Cn l gX12_cover 4 0 0 [.ref 149, .int x1, .int x2, .int x3] gS0 I J (gR0 w) (fun v' S' I' J' R' => v' = some (.long v) ∧ S' = gS0 ∧ I' = I ∧ J' = J ∧ R' = gR0 w) := by
  refine Cn.of [some (.ref 149), some (.int x1), some (.int x2), some (.int x3), none, none, none, none, none, none, none, none, none, none, none] (by decide) rfl (Nat.le_of_ble_eq_true rfl) ?_
  rw [p_X12_cover] at h
  refine G_aload_n dX12_cover_0 rfl rfl ?_
  refine G_iload_n dX12_cover_1 rfl rfl ?_
  obtain ⟨r1, hr2, h⟩ := gB_some h
  refine G_cV (mj := gX12_isSettlement) (As := [.int x1]) (rest := []) ml_X12_308 vX12_isSettlement sl_149 sk_149 (by decide) rfl rfl rfl (Nat.le_of_ble_eq_true rfl) (by decide) (Nat.le_refl _) (Nat.le_refl _) dX12_cover_2 (q_X12_isSettlement hr2) ?_
  refine G_if_eq 67 dX12_cover_5 (by decide) (fun c3 => ?_) (fun c3 => ?_)
  · replace h := git c3 h
    refine G_ldc2 dX12_cover_67 kc_X12_353 ?_
    refine G_lret rfl (Nat.le_refl _) (Nat.le_refl _) dX12_cover_70 ?_
    cases h
    exact ⟨rfl, rfl, rfl, rfl, rfl⟩
  · replace h := gif c3 h
    refine G_aload_n dX12_cover_8 rfl rfl ?_
    refine G_iload_n dX12_cover_9 rfl rfl ?_
    obtain ⟨r4, hr5, h⟩ := gB_some h
    refine G_cV (mj := gX12_isPerson) (As := [.int x2]) (rest := []) ml_X12_165 vX12_isPerson sl_149 sk_149 (by decide) rfl rfl rfl (Nat.le_of_ble_eq_true rfl) (by decide) (Nat.le_refl _) (Nat.le_refl _) dX12_cover_10 (q_X12_isPerson hr5) ?_
    refine G_if_eq 67 dX12_cover_13 (by decide) (fun c6 => ?_) (fun c6 => ?_)
    · replace h := git c6 h
      refine G_ldc2 dX12_cover_67 kc_X12_353 ?_
      refine G_lret rfl (Nat.le_refl _) (Nat.le_refl _) dX12_cover_70 ?_
      cases h
      exact ⟨rfl, rfl, rfl, rfl, rfl⟩
    · replace h := gif c6 h
      refine G_iload_n dX12_cover_16 rfl rfl ?_
      refine G_aload_n dX12_cover_17 rfl rfl ?_
      refine G_getR fl_X12_42 sl_149 sk_149 rfl (rr_149_17 _) dX12_cover_18 ?_
      refine G_iload_n dX12_cover_21 rfl rfl ?_
      obtain ⟨b7, h⟩ := gck_some h
      refine G_iald sl_158 ss_158 (gin_in b7) dX12_cover_22 ?_
      refine G_icmp_eq 67 dX12_cover_23 (by decide) (fun c8 => ?_) (fun c8 => ?_)
      · replace h := git c8 h
        refine G_ldc2 dX12_cover_67 kc_X12_353 ?_
        refine G_lret rfl (Nat.le_refl _) (Nat.le_refl _) dX12_cover_70 ?_
        cases h
        exact ⟨rfl, rfl, rfl, rfl, rfl⟩
      · replace h := gif c8 h
        refine G_iload_n dX12_cover_26 rfl rfl ?_
        refine G_i2l dX12_cover_27 ?_
        refine G_lconst (v := 1) dX12_cover_28 rfl ?_
        refine G_ldc2 dX12_cover_29 kc_X12_294 ?_
        obtain ⟨r9, hr10, h⟩ := gB_some h
        refine G_cS (mj := gX12_lies) (As := [.long (Int32.toInt64 x3), .long (1 : Int64), .long (100000 : Int64)]) (rest := []) ml_X12_156 vX12_lies rfl rfl (Nat.le_of_ble_eq_true rfl) (by decide) (Nat.le_refl _) (Nat.le_refl _) dX12_cover_32 (q_X12_lies hr10) ?_
        refine G_if_eq 67 dX12_cover_35 (by decide) (fun c11 => ?_) (fun c11 => ?_)
        · replace h := git c11 h
          refine G_ldc2 dX12_cover_67 kc_X12_353 ?_
          refine G_lret rfl (Nat.le_refl _) (Nat.le_refl _) dX12_cover_70 ?_
          cases h
          exact ⟨rfl, rfl, rfl, rfl, rfl⟩
        · replace h := gif c11 h
          refine G_aload_n dX12_cover_38 rfl rfl ?_
          refine G_iload_n dX12_cover_39 rfl rfl ?_
          refine G_aload_n dX12_cover_40 rfl rfl ?_
          refine G_getI fl_X12_13 sl_149 sk_149 rfl dX12_cover_41 ?_
          obtain ⟨r12, hr13, h⟩ := gB_some h
          refine G_cV (mj := gX12_isDead) (As := [.int x2, .int (I 149 2)]) (rest := []) ml_X12_336 vX12_isDead sl_149 sk_149 (by decide) rfl rfl rfl (Nat.le_of_ble_eq_true rfl) (by decide) (Nat.le_refl _) (Nat.le_refl _) dX12_cover_44 (q_X12_isDead hr13) ?_
          refine G_if_ne 67 dX12_cover_47 (by decide) (fun c14 => ?_) (fun c14 => ?_)
          · replace h := gif c14 h
            refine G_ldc2 dX12_cover_67 kc_X12_353 ?_
            refine G_lret rfl (Nat.le_refl _) (Nat.le_refl _) dX12_cover_70 ?_
            cases h
            exact ⟨rfl, rfl, rfl, rfl, rfl⟩
          · replace h := git c14 h
            refine G_aload_n dX12_cover_50 rfl rfl ?_
            refine G_aload_n dX12_cover_51 rfl rfl ?_
            refine G_getR fl_X12_42 sl_149 sk_149 rfl (rr_149_17 _) dX12_cover_52 ?_
            refine G_iload_n dX12_cover_55 rfl rfl ?_
            obtain ⟨b15, h⟩ := gck_some h
            refine G_iald sl_158 ss_158 (gin_in b15) dX12_cover_56 ?_
            refine G_aload_n dX12_cover_57 rfl rfl ?_
            refine G_getI fl_X12_13 sl_149 sk_149 rfl dX12_cover_58 ?_
            obtain ⟨r16, hr17, h⟩ := gB_some h
            refine G_cV (mj := gX12_isDead) (As := [.int (I 158 (x1).toNatClampNeg), .int (I 149 2)]) (rest := []) ml_X12_336 vX12_isDead sl_149 sk_149 (by decide) rfl rfl rfl (Nat.le_of_ble_eq_true rfl) (by decide) (Nat.le_refl _) (Nat.le_refl _) dX12_cover_61 (q_X12_isDead hr17) ?_
            refine G_if_eq 71 dX12_cover_64 (by decide) (fun c18 => ?_) (fun c18 => ?_)
            · replace h := git c18 h
              refine G_aload_n dX12_cover_71 rfl rfl ?_
              refine G_getR fl_X12_45 sl_149 sk_149 rfl (rr_149_18 _) dX12_cover_72 ?_
              refine G_iload_n dX12_cover_75 rfl rfl ?_
              obtain ⟨b19, h⟩ := gck_some h
              refine G_iald sl_159 ss_159 (gin_in b19) dX12_cover_76 ?_
              refine G_nI fun z20 ez20 => ?_
              replace h := gL_some ez20 h
              refine S_istore [some (.ref 149), some (.int x1), some (.int x2), some (.int x3), some (.int z20), none, none, none, none, none, none, none, none, none, none] dX12_cover_77 (by decide) rfl ?_
              refine G_aload_n dX12_cover_79 rfl rfl ?_
              refine G_getI fl_X12_13 sl_149 sk_149 rfl dX12_cover_80 ?_
              refine G_aload_n dX12_cover_83 rfl rfl ?_
              refine G_getR fl_X12_20 sl_149 sk_149 rfl (rr_149_10 _) dX12_cover_84 ?_
              refine G_iload_n dX12_cover_87 rfl rfl ?_
              obtain ⟨b21, h⟩ := gck_some h
              refine G_iald sl_151 ss_151 (gin_in b21) dX12_cover_88 ?_
              refine G_isub dX12_cover_89 ?_
              refine G_nI fun z22 ez22 => ?_
              replace h := gL_some ez22 h
              refine S_istore [some (.ref 149), some (.int x1), some (.int x2), some (.int x3), some (.int z20), some (.int z22), none, none, none, none, none, none, none, none, none] dX12_cover_90 (by decide) rfl ?_
              refine G_aload_n dX12_cover_92 rfl rfl ?_
              refine G_getI fl_X12_13 sl_149 sk_149 rfl dX12_cover_93 ?_
              refine G_aload_n dX12_cover_96 rfl rfl ?_
              refine G_getR fl_X12_20 sl_149 sk_149 rfl (rr_149_10 _) dX12_cover_97 ?_
              refine G_aload_n dX12_cover_100 rfl rfl ?_
              refine G_getR fl_X12_42 sl_149 sk_149 rfl (rr_149_17 _) dX12_cover_101 ?_
              refine G_iload_n dX12_cover_104 rfl rfl ?_
              obtain ⟨b23, h⟩ := gck_some h
              refine G_iald sl_158 ss_158 (gin_in b23) dX12_cover_105 ?_
              obtain ⟨b24, h⟩ := gck_some h
              refine G_iald sl_151 ss_151 (gin_in b24) dX12_cover_106 ?_
              refine G_isub dX12_cover_107 ?_
              refine G_nI fun z25 ez25 => ?_
              replace h := gL_some ez25 h
              refine S_istore [some (.ref 149), some (.int x1), some (.int x2), some (.int x3), some (.int z20), some (.int z22), some (.int z25), none, none, none, none, none, none, none, none] dX12_cover_108 (by decide) rfl ?_
              refine G_aload_n dX12_cover_110 rfl rfl ?_
              refine G_iload dX12_cover_111 rfl ?_
              refine G_iload dX12_cover_113 rfl ?_
              obtain ⟨r26, hr27, h⟩ := gB_some h
              refine G_cV (mj := gX12_livesAt) (As := [.int z20, .int z22]) (rest := []) ml_X12_177 vX12_livesAt sl_149 sk_149 (by decide) rfl rfl rfl (Nat.le_of_ble_eq_true rfl) (by decide) (Nat.le_refl _) (Nat.le_refl _) dX12_cover_115 (q_X12_livesAt hr27) ?_
              refine G_i2l dX12_cover_118 ?_
              refine G_aload_n dX12_cover_119 rfl rfl ?_
              refine G_iload dX12_cover_120 rfl ?_
              refine G_iload dX12_cover_122 rfl ?_
              obtain ⟨r28, hr29, h⟩ := gB_some h
              refine G_cV (mj := gX12_livesAt) (As := [.int z20, .int z25]) (rest := [.long (Int32.toInt64 r26)]) ml_X12_177 vX12_livesAt sl_149 sk_149 (by decide) rfl rfl rfl (Nat.le_of_ble_eq_true rfl) (by decide) (Nat.le_refl _) (Nat.le_refl _) dX12_cover_124 (q_X12_livesAt hr29) ?_
              refine G_i2l dX12_cover_127 ?_
              refine G_lmul dX12_cover_128 ?_
              refine G_nJ fun u30 eu30 => ?_
              replace h := gL_some eu30 h
              refine S_lstore [some (.ref 149), some (.int x1), some (.int x2), some (.int x3), some (.int z20), some (.int z22), some (.int z25), some (.long u30), none, none, none, none, none, none, none] dX12_cover_129 (by decide) rfl ?_
              refine G_lload dX12_cover_131 rfl ?_
              refine G_lconst (v := 0) dX12_cover_133 rfl ?_
              refine G_lcmp dX12_cover_134 ?_
              refine G_if_ne 142 dX12_cover_135 (by decide) (fun c31 => ?_) (fun c31 => ?_)
              · replace h := gif c31 h
                refine G_lconst (v := 0) dX12_cover_142 rfl ?_
                refine S_lstore [some (.ref 149), some (.int x1), some (.int x2), some (.int x3), some (.int z20), some (.int z22), some (.int z25), some (.long u30), none, some (.long (0 : Int64)), none, none, none, none, none] dX12_cover_143 (by decide) rfl ?_
                refine G_ldc dX12_cover_145 kc_X12_188 ?_
                refine S_istore [some (.ref 149), some (.int x1), some (.int x2), some (.int x3), some (.int z20), some (.int z22), some (.int z25), some (.long u30), none, some (.long (0 : Int64)), none, some (.int (1000000 : Int32)), none, none, none] dX12_cover_147 (by decide) rfl ?_
                refine G_iconst (v := 0) dX12_cover_149 rfl ?_
                refine S_istore [some (.ref 149), some (.int x1), some (.int x2), some (.int x3), some (.int z20), some (.int z22), some (.int z25), some (.long u30), none, some (.long (0 : Int64)), none, some (.int (1000000 : Int32)), some (.int (0 : Int32)), none, none] dX12_cover_150 (by decide) rfl ?_
                exact q_X12_cover_152   gFu _ _ _ h
              · replace h := git c31 h
                refine G_ldc2 dX12_cover_138 kc_X12_353 ?_
                refine G_lret rfl (Nat.le_refl _) (Nat.le_refl _) dX12_cover_141 ?_
                cases h
                exact ⟨rfl, rfl, rfl, rfl, rfl⟩
            · replace h := gif c18 h
              refine G_ldc2 dX12_cover_67 kc_X12_353 ?_
              refine G_lret rfl (Nat.le_refl _) (Nat.le_refl _) dX12_cover_70 ?_
              cases h
              exact ⟨rfl, rfl, rfl, rfl, rfl⟩
def p_X12_hasFallen (I : gIt) (x1 : Int32) (x2 : Int32) : Option Int32 :=
  gck (gin x1 10) (
  gB (p_X12_isThere I (I 158 (x1).toNatClampNeg) x2) fun r2 =>
  if r2 = 0 then
  some (0 : Int32)
  else
  gck (gin x1 10) (
  gB (p_X12_isDead I (I 158 (x1).toNatClampNeg) x2) fun r6 =>
  if r6 = 0 then
  some (0 : Int32)
  else
  some (1 : Int32)))
set_option maxRecDepth 20000 in
theorem q_X12_hasFallen {l : Launch} {I : gIt} {J : gJt} {w : Bool} {x1 : Int32} {x2 : Int32} {v : Int32} (h : p_X12_hasFallen I x1 x2 = some v) : Cn l gX12_hasFallen 5 0 0 [.ref 149, .int x1, .int x2] gS0 I J (gR0 w) (fun v' S' I' J' R' => v' = some (.int v) ∧ S' = gS0 ∧ I' = I ∧ J' = J ∧ R' = gR0 w) := by
  refine Cn.of [some (.ref 149), some (.int x1), some (.int x2)] (by decide) rfl (Nat.le_of_ble_eq_true rfl) ?_
  rw [p_X12_hasFallen] at h
  refine G_aload_n dX12_hasFallen_0 rfl rfl ?_
  refine G_aload_n dX12_hasFallen_1 rfl rfl ?_
  refine G_getR fl_X12_42 sl_149 sk_149 rfl (rr_149_17 _) dX12_hasFallen_2 ?_
  refine G_iload_n dX12_hasFallen_5 rfl rfl ?_
  obtain ⟨b1, h⟩ := gck_some h
  refine G_iald sl_158 ss_158 (gin_in b1) dX12_hasFallen_6 ?_
  refine G_iload_n dX12_hasFallen_7 rfl rfl ?_
  obtain ⟨r2, hr3, h⟩ := gB_some h
  refine G_cV (mj := gX12_isThere) (As := [.int (I 158 (x1).toNatClampNeg), .int x2]) (rest := []) ml_X12_301 vX12_isThere sl_149 sk_149 (by decide) rfl rfl rfl (Nat.le_of_ble_eq_true rfl) (by decide) (Nat.le_refl _) (Nat.le_refl _) dX12_hasFallen_8 (q_X12_isThere hr3) ?_
  refine G_if_eq 32 dX12_hasFallen_11 (by decide) (fun c4 => ?_) (fun c4 => ?_)
  · replace h := git c4 h
    refine G_iconst (v := 0) dX12_hasFallen_32 rfl ?_
    refine G_zret rfl (Or.inl rfl) (Nat.le_refl _) (Nat.le_refl _) dX12_hasFallen_33 ?_
    cases h
    exact ⟨rfl, rfl, rfl, rfl, rfl⟩
  · replace h := gif c4 h
    refine G_aload_n dX12_hasFallen_14 rfl rfl ?_
    refine G_aload_n dX12_hasFallen_15 rfl rfl ?_
    refine G_getR fl_X12_42 sl_149 sk_149 rfl (rr_149_17 _) dX12_hasFallen_16 ?_
    refine G_iload_n dX12_hasFallen_19 rfl rfl ?_
    obtain ⟨b5, h⟩ := gck_some h
    refine G_iald sl_158 ss_158 (gin_in b5) dX12_hasFallen_20 ?_
    refine G_iload_n dX12_hasFallen_21 rfl rfl ?_
    obtain ⟨r6, hr7, h⟩ := gB_some h
    refine G_cV (mj := gX12_isDead) (As := [.int (I 158 (x1).toNatClampNeg), .int x2]) (rest := []) ml_X12_336 vX12_isDead sl_149 sk_149 (by decide) rfl rfl rfl (Nat.le_of_ble_eq_true rfl) (by decide) (Nat.le_refl _) (Nat.le_refl _) dX12_hasFallen_22 (q_X12_isDead hr7) ?_
    refine G_if_eq 32 dX12_hasFallen_25 (by decide) (fun c8 => ?_) (fun c8 => ?_)
    · replace h := git c8 h
      refine G_iconst (v := 0) dX12_hasFallen_32 rfl ?_
      refine G_zret rfl (Or.inl rfl) (Nat.le_refl _) (Nat.le_refl _) dX12_hasFallen_33 ?_
      cases h
      exact ⟨rfl, rfl, rfl, rfl, rfl⟩
    · replace h := gif c8 h
      refine G_iconst (v := 1) dX12_hasFallen_28 rfl ?_
      refine G_goto 33 dX12_hasFallen_29 (by decide) ?_
      refine G_zret rfl (Or.inr rfl) (Nat.le_refl _) (Nat.le_refl _) dX12_hasFallen_33 ?_
      cases h
      exact ⟨rfl, rfl, rfl, rfl, rfl⟩
def p_X12_aliveAt_26 (I : gIt) (x1 : Int32) (x2 : Int32) (x3 : Int32) (x4 : Int32) : Nat → Int32 → Int32 → Option Int32
  | 0, _, _ => none
  | n + 1, x5, x6 =>
    if (I 149 3) ≤ x6 then
    some x5
    else
    gB (p_X12_has x3 x6) fun r7 =>
    if r7 = 0 then
    gL ((x5 ||| (0 : Int32))) fun z10 =>
    p_X12_aliveAt_26 I x1 x2 x3 x4 n z10 (x6 + (1 : Int32))
    else
    gck (gin x6 16) (
    if x4 < (I 151 (x6).toNatClampNeg) then
    gL ((x5 ||| (0 : Int32))) fun z13 =>
    p_X12_aliveAt_26 I x1 x2 x3 x4 n z13 (x6 + (1 : Int32))
    else
    gB (p_X12_isDead I x6 x2) fun r14 =>
    if r14 = 0 then
    gL ((x5 ||| (gshl (1 : Int32) x6))) fun z17 =>
    p_X12_aliveAt_26 I x1 x2 x3 x4 n z17 (x6 + (1 : Int32))
    else
    gck (gin x6 16) (
    if (I 154 (x6).toNatClampNeg) ≤ x4 then
    gL ((x5 ||| (0 : Int32))) fun z20 =>
    p_X12_aliveAt_26 I x1 x2 x3 x4 n z20 (x6 + (1 : Int32))
    else
    gL ((x5 ||| (gshl (1 : Int32) x6))) fun z21 =>
    p_X12_aliveAt_26 I x1 x2 x3 x4 n z21 (x6 + (1 : Int32))))
def p_X12_aliveAt (I : gIt) (x1 : Int32) (x2 : Int32) : Option Int32 :=
  gB (p_X12_namedSet I x1 x2) fun r1 =>
  gck (gin x1 10) (
  gck (gin (I 158 (x1).toNatClampNeg) 16) (
  gL ((I 154 ((I 158 (x1).toNatClampNeg)).toNatClampNeg)) fun z5 =>
  p_X12_aliveAt_26 I x1 x2 r1 z5 gFu (0 : Int32) (0 : Int32)))
set_option maxRecDepth 20000 in
theorem q_X12_aliveAt_26 {l : Launch} {v : Int32} {J : gJt} {w : Bool} {I : gIt} {x1 : Int32} {x2 : Int32} {x3 : Int32} {x4 : Int32} : ∀ (n : Nat) (x5 : Int32) (x6 : Int32), p_X12_aliveAt_26 I x1 x2 x3 x4 n x5 x6 = some v → G l gX12_aliveAt 7 0 0 (fun v' S' I' J' R' => v' = some (.int v) ∧ S' = gS0 ∧ I' = I ∧ J' = J ∧ R' = gR0 w) 0 0 26 [some (.ref 149), some (.int x1), some (.int x2), some (.int x3), some (.int x4), some (.int x5), some (.int x6)] [] gS0 I J (gR0 w) := by
  intro n
  induction n with
  | zero => intro _ _ h; cases h
  | succ n ih =>
    intro x5 x6 h
    rw [p_X12_aliveAt_26] at h
    refine G_iload dX12_aliveAt_26 rfl ?_
    refine G_aload_n dX12_aliveAt_28 rfl rfl ?_
    refine G_getI fl_X12_160 sl_149 sk_149 rfl dX12_aliveAt_29 ?_
    refine G_icmp_ge 97 dX12_aliveAt_32 (by decide) (fun c6 => ?_) (fun c6 => ?_)
    · replace h := git c6 h
      refine G_iload dX12_aliveAt_97 rfl ?_
      refine G_iret rfl (Nat.le_refl _) (Nat.le_refl _) dX12_aliveAt_99 ?_
      cases h
      exact ⟨rfl, rfl, rfl, rfl, rfl⟩
    · replace h := gif c6 h
      refine G_iload dX12_aliveAt_35 rfl ?_
      refine G_iload_n dX12_aliveAt_37 rfl rfl ?_
      refine G_iload dX12_aliveAt_38 rfl ?_
      obtain ⟨r7, hr8, h⟩ := gB_some h
      refine G_cS (mj := gX12_has) (As := [.int x3, .int x6]) (rest := [.int x5]) ml_X12_320 vX12_has rfl rfl (Nat.le_of_ble_eq_true rfl) (by decide) (Nat.le_refl _) (Nat.le_refl _) dX12_aliveAt_40 (q_X12_has hr8) ?_
      refine G_if_eq 87 dX12_aliveAt_43 (by decide) (fun c9 => ?_) (fun c9 => ?_)
      · replace h := git c9 h
        refine G_iconst (v := 0) dX12_aliveAt_87 rfl ?_
        refine G_ior dX12_aliveAt_88 ?_
        refine G_nI fun z10 ez10 => ?_
        replace h := gL_some ez10 h
        refine S_istore [some (.ref 149), some (.int x1), some (.int x2), some (.int x3), some (.int x4), some (.int z10), some (.int x6)] dX12_aliveAt_89 (by decide) rfl ?_
        refine S_iinc (v := (1 : Int32)) [some (.ref 149), some (.int x1), some (.int x2), some (.int x3), some (.int x4), some (.int z10), some (.int (x6 + (1 : Int32)))] dX12_aliveAt_91 rfl rfl (by decide) rfl ?_
        refine G_goto 26 dX12_aliveAt_94 (by decide) ?_
        exact ih _ _ h
      · replace h := gif c9 h
        refine G_aload_n dX12_aliveAt_46 rfl rfl ?_
        refine G_getR fl_X12_20 sl_149 sk_149 rfl (rr_149_10 _) dX12_aliveAt_47 ?_
        refine G_iload dX12_aliveAt_50 rfl ?_
        obtain ⟨b11, h⟩ := gck_some h
        refine G_iald sl_151 ss_151 (gin_in b11) dX12_aliveAt_52 ?_
        refine G_iload dX12_aliveAt_53 rfl ?_
        refine G_icmp_gt 87 dX12_aliveAt_55 (by decide) (fun c12 => ?_) (fun c12 => ?_)
        · replace h := git c12 h
          refine G_iconst (v := 0) dX12_aliveAt_87 rfl ?_
          refine G_ior dX12_aliveAt_88 ?_
          refine G_nI fun z13 ez13 => ?_
          replace h := gL_some ez13 h
          refine S_istore [some (.ref 149), some (.int x1), some (.int x2), some (.int x3), some (.int x4), some (.int z13), some (.int x6)] dX12_aliveAt_89 (by decide) rfl ?_
          refine S_iinc (v := (1 : Int32)) [some (.ref 149), some (.int x1), some (.int x2), some (.int x3), some (.int x4), some (.int z13), some (.int (x6 + (1 : Int32)))] dX12_aliveAt_91 rfl rfl (by decide) rfl ?_
          refine G_goto 26 dX12_aliveAt_94 (by decide) ?_
          exact ih _ _ h
        · replace h := gif c12 h
          refine G_aload_n dX12_aliveAt_58 rfl rfl ?_
          refine G_iload dX12_aliveAt_59 rfl ?_
          refine G_iload_n dX12_aliveAt_61 rfl rfl ?_
          obtain ⟨r14, hr15, h⟩ := gB_some h
          refine G_cV (mj := gX12_isDead) (As := [.int x6, .int x2]) (rest := [.int x5]) ml_X12_336 vX12_isDead sl_149 sk_149 (by decide) rfl rfl rfl (Nat.le_of_ble_eq_true rfl) (by decide) (Nat.le_refl _) (Nat.le_refl _) dX12_aliveAt_62 (q_X12_isDead hr15) ?_
          refine G_if_eq 80 dX12_aliveAt_65 (by decide) (fun c16 => ?_) (fun c16 => ?_)
          · replace h := git c16 h
            refine G_iconst (v := 1) dX12_aliveAt_80 rfl ?_
            refine G_iload dX12_aliveAt_81 rfl ?_
            refine G_shl dX12_aliveAt_83 ?_
            refine G_goto 88 dX12_aliveAt_84 (by decide) ?_
            refine G_ior dX12_aliveAt_88 ?_
            refine G_nI fun z17 ez17 => ?_
            replace h := gL_some ez17 h
            refine S_istore [some (.ref 149), some (.int x1), some (.int x2), some (.int x3), some (.int x4), some (.int z17), some (.int x6)] dX12_aliveAt_89 (by decide) rfl ?_
            refine S_iinc (v := (1 : Int32)) [some (.ref 149), some (.int x1), some (.int x2), some (.int x3), some (.int x4), some (.int z17), some (.int (x6 + (1 : Int32)))] dX12_aliveAt_91 rfl rfl (by decide) rfl ?_
            refine G_goto 26 dX12_aliveAt_94 (by decide) ?_
            exact ih _ _ h
          · replace h := gif c16 h
            refine G_aload_n dX12_aliveAt_68 rfl rfl ?_
            refine G_getR fl_X12_30 sl_149 sk_149 rfl (rr_149_13 _) dX12_aliveAt_69 ?_
            refine G_iload dX12_aliveAt_72 rfl ?_
            obtain ⟨b18, h⟩ := gck_some h
            refine G_iald sl_154 ss_154 (gin_in b18) dX12_aliveAt_74 ?_
            refine G_iload dX12_aliveAt_75 rfl ?_
            refine G_icmp_le 87 dX12_aliveAt_77 (by decide) (fun c19 => ?_) (fun c19 => ?_)
            · replace h := git c19 h
              refine G_iconst (v := 0) dX12_aliveAt_87 rfl ?_
              refine G_ior dX12_aliveAt_88 ?_
              refine G_nI fun z20 ez20 => ?_
              replace h := gL_some ez20 h
              refine S_istore [some (.ref 149), some (.int x1), some (.int x2), some (.int x3), some (.int x4), some (.int z20), some (.int x6)] dX12_aliveAt_89 (by decide) rfl ?_
              refine S_iinc (v := (1 : Int32)) [some (.ref 149), some (.int x1), some (.int x2), some (.int x3), some (.int x4), some (.int z20), some (.int (x6 + (1 : Int32)))] dX12_aliveAt_91 rfl rfl (by decide) rfl ?_
              refine G_goto 26 dX12_aliveAt_94 (by decide) ?_
              exact ih _ _ h
            · replace h := gif c19 h
              refine G_iconst (v := 1) dX12_aliveAt_80 rfl ?_
              refine G_iload dX12_aliveAt_81 rfl ?_
              refine G_shl dX12_aliveAt_83 ?_
              refine G_goto 88 dX12_aliveAt_84 (by decide) ?_
              refine G_ior dX12_aliveAt_88 ?_
              refine G_nI fun z21 ez21 => ?_
              replace h := gL_some ez21 h
              refine S_istore [some (.ref 149), some (.int x1), some (.int x2), some (.int x3), some (.int x4), some (.int z21), some (.int x6)] dX12_aliveAt_89 (by decide) rfl ?_
              refine S_iinc (v := (1 : Int32)) [some (.ref 149), some (.int x1), some (.int x2), some (.int x3), some (.int x4), some (.int z21), some (.int (x6 + (1 : Int32)))] dX12_aliveAt_91 rfl rfl (by decide) rfl ?_
              refine G_goto 26 dX12_aliveAt_94 (by decide) ?_
              exact ih _ _ h
set_option maxRecDepth 20000 in
theorem q_X12_aliveAt {l : Launch} {I : gIt} {J : gJt} {w : Bool} {x1 : Int32} {x2 : Int32} {v : Int32} (h : p_X12_aliveAt I x1 x2 = some v) : Cn l gX12_aliveAt 7 0 0 [.ref 149, .int x1, .int x2] gS0 I J (gR0 w) (fun v' S' I' J' R' => v' = some (.int v) ∧ S' = gS0 ∧ I' = I ∧ J' = J ∧ R' = gR0 w) := by
  refine Cn.of [some (.ref 149), some (.int x1), some (.int x2), none, none, none, none] (by decide) rfl (Nat.le_of_ble_eq_true rfl) ?_
  rw [p_X12_aliveAt] at h
  refine G_aload_n dX12_aliveAt_0 rfl rfl ?_
  refine G_iload_n dX12_aliveAt_1 rfl rfl ?_
  refine G_iload_n dX12_aliveAt_2 rfl rfl ?_
  obtain ⟨r1, hr2, h⟩ := gB_some h
  refine G_cV (mj := gX12_namedSet) (As := [.int x1, .int x2]) (rest := []) ml_X12_314 vX12_namedSet sl_149 sk_149 (by decide) rfl rfl rfl (Nat.le_of_ble_eq_true rfl) (by decide) (Nat.le_refl _) (Nat.le_refl _) dX12_aliveAt_3 (q_X12_namedSet hr2) ?_
  refine S_istore_n [some (.ref 149), some (.int x1), some (.int x2), some (.int r1), none, none, none] dX12_aliveAt_6 rfl (by decide) rfl ?_
  refine G_aload_n dX12_aliveAt_7 rfl rfl ?_
  refine G_getR fl_X12_30 sl_149 sk_149 rfl (rr_149_13 _) dX12_aliveAt_8 ?_
  refine G_aload_n dX12_aliveAt_11 rfl rfl ?_
  refine G_getR fl_X12_42 sl_149 sk_149 rfl (rr_149_17 _) dX12_aliveAt_12 ?_
  refine G_iload_n dX12_aliveAt_15 rfl rfl ?_
  obtain ⟨b3, h⟩ := gck_some h
  refine G_iald sl_158 ss_158 (gin_in b3) dX12_aliveAt_16 ?_
  obtain ⟨b4, h⟩ := gck_some h
  refine G_iald sl_154 ss_154 (gin_in b4) dX12_aliveAt_17 ?_
  refine G_nI fun z5 ez5 => ?_
  replace h := gL_some ez5 h
  refine S_istore [some (.ref 149), some (.int x1), some (.int x2), some (.int r1), some (.int z5), none, none] dX12_aliveAt_18 (by decide) rfl ?_
  refine G_iconst (v := 0) dX12_aliveAt_20 rfl ?_
  refine S_istore [some (.ref 149), some (.int x1), some (.int x2), some (.int r1), some (.int z5), some (.int (0 : Int32)), none] dX12_aliveAt_21 (by decide) rfl ?_
  refine G_iconst (v := 0) dX12_aliveAt_23 rfl ?_
  refine S_istore [some (.ref 149), some (.int x1), some (.int x2), some (.int r1), some (.int z5), some (.int (0 : Int32)), some (.int (0 : Int32))] dX12_aliveAt_24 (by decide) rfl ?_
  exact q_X12_aliveAt_26   gFu _ _ h
def p_X12_gain (I : gIt) (x1 : Int32) (x2 : Int32) (x3 : Int32) : Option (Int32 × gIt) :=
  gB (p_X12_isSettlement I x1) fun r1 =>
  if r1 = 0 then
  some ((-1 : Int32), I)
  else
  gB (p_X12_isPerson I x2) fun r4 =>
  if r4 = 0 then
  some ((-1 : Int32), I)
  else
  gB (p_X12_isYear x3) fun r7 =>
  if r7 = 0 then
  some ((-1 : Int32), I)
  else
  gB (p_X12_hasFallen I x1 x3) fun r10 =>
  if r10 = 0 then
  some ((-1 : Int32), I)
  else
  gB (p_X12_aliveAt I x1 x3) fun r13 =>
  gB (p_X12_lets I x1 r13) fun r15 =>
  gck (gin x2 16) (
  some ((r15 171 (x2).toNatClampNeg), r15))
set_option maxRecDepth 20000 in
theorem q_X12_gain {l : Launch} {I : gIt} {J : gJt} {w : Bool} {x1 : Int32} {x2 : Int32} {x3 : Int32} {v : (Int32 × gIt)} (h : p_X12_gain I x1 x2 x3 = some v) : Cn l gX12_gain 8 0 0 [.ref 149, .int x1, .int x2, .int x3] gS0 I J (gR0 w) (fun v' S' I' J' R' => v' = some (.int v.1) ∧ S' = gS0 ∧ I' = v.2 ∧ J' = J ∧ R' = gR0 w) := by
  refine Cn.of [some (.ref 149), some (.int x1), some (.int x2), some (.int x3)] (by decide) rfl (Nat.le_of_ble_eq_true rfl) ?_
  rw [p_X12_gain] at h
  refine G_aload_n dX12_gain_0 rfl rfl ?_
  refine G_iload_n dX12_gain_1 rfl rfl ?_
  obtain ⟨r1, hr2, h⟩ := gB_some h
  refine G_cV (mj := gX12_isSettlement) (As := [.int x1]) (rest := []) ml_X12_308 vX12_isSettlement sl_149 sk_149 (by decide) rfl rfl rfl (Nat.le_of_ble_eq_true rfl) (by decide) (Nat.le_refl _) (Nat.le_refl _) dX12_gain_2 (q_X12_isSettlement hr2) ?_
  refine G_if_eq 32 dX12_gain_5 (by decide) (fun c3 => ?_) (fun c3 => ?_)
  · replace h := git c3 h
    refine G_iconst (v := -1) dX12_gain_32 rfl ?_
    refine G_iret rfl (Nat.le_refl _) (Nat.le_refl _) dX12_gain_33 ?_
    cases h
    exact ⟨rfl, rfl, rfl, rfl, rfl⟩
  · replace h := gif c3 h
    refine G_aload_n dX12_gain_8 rfl rfl ?_
    refine G_iload_n dX12_gain_9 rfl rfl ?_
    obtain ⟨r4, hr5, h⟩ := gB_some h
    refine G_cV (mj := gX12_isPerson) (As := [.int x2]) (rest := []) ml_X12_165 vX12_isPerson sl_149 sk_149 (by decide) rfl rfl rfl (Nat.le_of_ble_eq_true rfl) (by decide) (Nat.le_refl _) (Nat.le_refl _) dX12_gain_10 (q_X12_isPerson hr5) ?_
    refine G_if_eq 32 dX12_gain_13 (by decide) (fun c6 => ?_) (fun c6 => ?_)
    · replace h := git c6 h
      refine G_iconst (v := -1) dX12_gain_32 rfl ?_
      refine G_iret rfl (Nat.le_refl _) (Nat.le_refl _) dX12_gain_33 ?_
      cases h
      exact ⟨rfl, rfl, rfl, rfl, rfl⟩
    · replace h := gif c6 h
      refine G_iload_n dX12_gain_16 rfl rfl ?_
      obtain ⟨r7, hr8, h⟩ := gB_some h
      refine G_cS (mj := gX12_isYear) (As := [.int x3]) (rest := []) ml_X12_311 vX12_isYear rfl rfl (Nat.le_of_ble_eq_true rfl) (by decide) (Nat.le_refl _) (Nat.le_refl _) dX12_gain_17 (q_X12_isYear hr8) ?_
      refine G_if_eq 32 dX12_gain_20 (by decide) (fun c9 => ?_) (fun c9 => ?_)
      · replace h := git c9 h
        refine G_iconst (v := -1) dX12_gain_32 rfl ?_
        refine G_iret rfl (Nat.le_refl _) (Nat.le_refl _) dX12_gain_33 ?_
        cases h
        exact ⟨rfl, rfl, rfl, rfl, rfl⟩
      · replace h := gif c9 h
        refine G_aload_n dX12_gain_23 rfl rfl ?_
        refine G_iload_n dX12_gain_24 rfl rfl ?_
        refine G_iload_n dX12_gain_25 rfl rfl ?_
        obtain ⟨r10, hr11, h⟩ := gB_some h
        refine G_cV (mj := gX12_hasFallen) (As := [.int x1, .int x3]) (rest := []) ml_X12_425 vX12_hasFallen sl_149 sk_149 (by decide) rfl rfl rfl (Nat.le_of_ble_eq_true rfl) (by decide) (Nat.le_refl _) (Nat.le_refl _) dX12_gain_26 (q_X12_hasFallen hr11) ?_
        refine G_if_ne 34 dX12_gain_29 (by decide) (fun c12 => ?_) (fun c12 => ?_)
        · replace h := gif c12 h
          refine G_aload_n dX12_gain_34 rfl rfl ?_
          refine G_iload_n dX12_gain_35 rfl rfl ?_
          refine G_aload_n dX12_gain_36 rfl rfl ?_
          refine G_iload_n dX12_gain_37 rfl rfl ?_
          refine G_iload_n dX12_gain_38 rfl rfl ?_
          obtain ⟨r13, hr14, h⟩ := gB_some h
          refine G_cV (mj := gX12_aliveAt) (As := [.int x1, .int x3]) (rest := [.int x1, .ref 149]) ml_X12_428 vX12_aliveAt sl_149 sk_149 (by decide) rfl rfl rfl (Nat.le_of_ble_eq_true rfl) (by decide) (Nat.le_refl _) (Nat.le_refl _) dX12_gain_39 (q_X12_aliveAt hr14) ?_
          obtain ⟨r15, hr16, h⟩ := gB_some h
          refine G_cV (mj := gX12_lets) (As := [.int x1, .int r13]) (rest := []) ml_X12_333 vX12_lets sl_149 sk_149 (by decide) rfl rfl rfl (Nat.le_of_ble_eq_true rfl) (by decide) (Nat.le_refl _) (Nat.le_refl _) dX12_gain_42 (q_X12_lets hr16) ?_
          refine G_aload_n dX12_gain_45 rfl rfl ?_
          refine G_getR fl_X12_82 sl_149 sk_149 rfl (rr_149_38 _) dX12_gain_46 ?_
          refine G_iload_n dX12_gain_49 rfl rfl ?_
          obtain ⟨b17, h⟩ := gck_some h
          refine G_iald sl_171 ss_171 (gin_in b17) dX12_gain_50 ?_
          refine G_iret rfl (Nat.le_refl _) (Nat.le_refl _) dX12_gain_51 ?_
          cases h
          exact ⟨rfl, rfl, rfl, rfl, rfl⟩
        · replace h := git c12 h
          refine G_iconst (v := -1) dX12_gain_32 rfl ?_
          refine G_iret rfl (Nat.le_refl _) (Nat.le_refl _) dX12_gain_33 ?_
          cases h
          exact ⟨rfl, rfl, rfl, rfl, rfl⟩
def p_X12_isOn (I : gIt) (x1 : Int32) (x2 : Int32) (x3 : Int32) (x4 : Int32) : Option Int32 :=
  gck (gin x1 40) (
  if (I 174 (x1).toNatClampNeg) = x2 then
  gck (gin x1 40) (
  if (I 175 (x1).toNatClampNeg) = x3 then
  gck (gin x1 40) (
  if x4 < (I 179 (x1).toNatClampNeg) then
  some (0 : Int32)
  else
  gck (gin x1 40) (
  if (I 183 (x1).toNatClampNeg) = (-1 : Int32) then
  some (1 : Int32)
  else
  gck (gin x1 40) (
  if (I 183 (x1).toNatClampNeg) ≤ x4 then
  some (0 : Int32)
  else
  some (1 : Int32))))
  else
  some (0 : Int32))
  else
  some (0 : Int32))
set_option maxRecDepth 20000 in
theorem q_X12_isOn {l : Launch} {I : gIt} {J : gJt} {w : Bool} {x1 : Int32} {x2 : Int32} {x3 : Int32} {x4 : Int32} {v : Int32} (h : p_X12_isOn I x1 x2 x3 x4 = some v) : Cn l gX12_isOn 2 0 0 [.ref 149, .int x1, .int x2, .int x3, .int x4] gS0 I J (gR0 w) (fun v' S' I' J' R' => v' = some (.int v) ∧ S' = gS0 ∧ I' = I ∧ J' = J ∧ R' = gR0 w) := by
  refine Cn.of [some (.ref 149), some (.int x1), some (.int x2), some (.int x3), some (.int x4)] (by decide) rfl (Nat.le_of_ble_eq_true rfl) ?_
  rw [p_X12_isOn] at h
  refine G_aload_n dX12_isOn_0 rfl rfl ?_
  refine G_getR fl_X12_91 sl_149 sk_149 rfl (rr_149_44 _) dX12_isOn_1 ?_
  refine G_iload_n dX12_isOn_4 rfl rfl ?_
  obtain ⟨b1, h⟩ := gck_some h
  refine G_iald sl_174 ss_174 (gin_in b1) dX12_isOn_5 ?_
  refine G_iload_n dX12_isOn_6 rfl rfl ?_
  refine G_icmp_ne 56 dX12_isOn_7 (by decide) (fun c2 => ?_) (fun c2 => ?_)
  · replace h := gif c2 h
    refine G_iconst (v := 0) dX12_isOn_56 rfl ?_
    refine G_zret rfl (Or.inl rfl) (Nat.le_refl _) (Nat.le_refl _) dX12_isOn_57 ?_
    cases h
    exact ⟨rfl, rfl, rfl, rfl, rfl⟩
  · replace h := git c2 h
    refine G_aload_n dX12_isOn_10 rfl rfl ?_
    refine G_getR fl_X12_94 sl_149 sk_149 rfl (rr_149_45 _) dX12_isOn_11 ?_
    refine G_iload_n dX12_isOn_14 rfl rfl ?_
    obtain ⟨b3, h⟩ := gck_some h
    refine G_iald sl_175 ss_175 (gin_in b3) dX12_isOn_15 ?_
    refine G_iload_n dX12_isOn_16 rfl rfl ?_
    refine G_icmp_ne 56 dX12_isOn_17 (by decide) (fun c4 => ?_) (fun c4 => ?_)
    · replace h := gif c4 h
      refine G_iconst (v := 0) dX12_isOn_56 rfl ?_
      refine G_zret rfl (Or.inl rfl) (Nat.le_refl _) (Nat.le_refl _) dX12_isOn_57 ?_
      cases h
      exact ⟨rfl, rfl, rfl, rfl, rfl⟩
    · replace h := git c4 h
      refine G_aload_n dX12_isOn_20 rfl rfl ?_
      refine G_getR fl_X12_106 sl_149 sk_149 rfl (rr_149_49 _) dX12_isOn_21 ?_
      refine G_iload_n dX12_isOn_24 rfl rfl ?_
      obtain ⟨b5, h⟩ := gck_some h
      refine G_iald sl_179 ss_179 (gin_in b5) dX12_isOn_25 ?_
      refine G_iload dX12_isOn_26 rfl ?_
      refine G_icmp_gt 56 dX12_isOn_28 (by decide) (fun c6 => ?_) (fun c6 => ?_)
      · replace h := git c6 h
        refine G_iconst (v := 0) dX12_isOn_56 rfl ?_
        refine G_zret rfl (Or.inl rfl) (Nat.le_refl _) (Nat.le_refl _) dX12_isOn_57 ?_
        cases h
        exact ⟨rfl, rfl, rfl, rfl, rfl⟩
      · replace h := gif c6 h
        refine G_aload_n dX12_isOn_31 rfl rfl ?_
        refine G_getR fl_X12_118 sl_149 sk_149 rfl (rr_149_53 _) dX12_isOn_32 ?_
        refine G_iload_n dX12_isOn_35 rfl rfl ?_
        obtain ⟨b7, h⟩ := gck_some h
        refine G_iald sl_183 ss_183 (gin_in b7) dX12_isOn_36 ?_
        refine G_iconst (v := -1) dX12_isOn_37 rfl ?_
        refine G_icmp_eq 52 dX12_isOn_38 (by decide) (fun c8 => ?_) (fun c8 => ?_)
        · replace h := git c8 h
          refine G_iconst (v := 1) dX12_isOn_52 rfl ?_
          refine G_goto 57 dX12_isOn_53 (by decide) ?_
          refine G_zret rfl (Or.inr rfl) (Nat.le_refl _) (Nat.le_refl _) dX12_isOn_57 ?_
          cases h
          exact ⟨rfl, rfl, rfl, rfl, rfl⟩
        · replace h := gif c8 h
          refine G_aload_n dX12_isOn_41 rfl rfl ?_
          refine G_getR fl_X12_118 sl_149 sk_149 rfl (rr_149_53 _) dX12_isOn_42 ?_
          refine G_iload_n dX12_isOn_45 rfl rfl ?_
          obtain ⟨b9, h⟩ := gck_some h
          refine G_iald sl_183 ss_183 (gin_in b9) dX12_isOn_46 ?_
          refine G_iload dX12_isOn_47 rfl ?_
          refine G_icmp_le 56 dX12_isOn_49 (by decide) (fun c10 => ?_) (fun c10 => ?_)
          · replace h := git c10 h
            refine G_iconst (v := 0) dX12_isOn_56 rfl ?_
            refine G_zret rfl (Or.inl rfl) (Nat.le_refl _) (Nat.le_refl _) dX12_isOn_57 ?_
            cases h
            exact ⟨rfl, rfl, rfl, rfl, rfl⟩
          · replace h := gif c10 h
            refine G_iconst (v := 1) dX12_isOn_52 rfl ?_
            refine G_goto 57 dX12_isOn_53 (by decide) ?_
            refine G_zret rfl (Or.inr rfl) (Nat.le_refl _) (Nat.le_refl _) dX12_isOn_57 ?_
            cases h
            exact ⟨rfl, rfl, rfl, rfl, rfl⟩
def p_X12_isAhead (I : gIt) (x1 : Int32) (x2 : Int32) (x3 : Int32) : Option Int32 :=
  gck (gin x1 40) (
  gB (α := Int32) (
  if (I 181 (x1).toNatClampNeg) = (-1 : Int32) then
  some (0 : Int32)
  else
  gck (gin x1 40) (
  if x3 < (I 181 (x1).toNatClampNeg) then
  some (0 : Int32)
  else
  some (1 : Int32))) fun ph2 =>
  gck (gin x2 40) (
  gB (α := Int32) (
  if (I 181 (x2).toNatClampNeg) = (-1 : Int32) then
  some (0 : Int32)
  else
  gck (gin x2 40) (
  if x3 < (I 181 (x2).toNatClampNeg) then
  some (0 : Int32)
  else
  some (1 : Int32))) fun ph7 =>
  if ph2 = ph7 then
  if ph2 = 0 then
  if x2 ≤ x1 then
  some (0 : Int32)
  else
  some (1 : Int32)
  else
  gck (gin x1 40) (
  gck (gin x2 40) (
  if (I 181 (x1).toNatClampNeg) = (I 181 (x2).toNatClampNeg) then
  gck (gin x1 40) (
  gck (gin x2 40) (
  if (I 182 (x1).toNatClampNeg) = (I 182 (x2).toNatClampNeg) then
  if x2 ≤ x1 then
  some (0 : Int32)
  else
  some (1 : Int32)
  else
  gck (gin x1 40) (
  gck (gin x2 40) (
  if (I 182 (x2).toNatClampNeg) ≤ (I 182 (x1).toNatClampNeg) then
  some (0 : Int32)
  else
  some (1 : Int32)))))
  else
  gck (gin x1 40) (
  gck (gin x2 40) (
  if (I 181 (x2).toNatClampNeg) ≤ (I 181 (x1).toNatClampNeg) then
  some (0 : Int32)
  else
  some (1 : Int32)))))
  else
  gck (gbo ph2) (
  some ph2)))
set_option maxRecDepth 20000 in
theorem q_X12_isAhead {l : Launch} {I : gIt} {J : gJt} {w : Bool} {x1 : Int32} {x2 : Int32} {x3 : Int32} {v : Int32} (h : p_X12_isAhead I x1 x2 x3 = some v) : Cn l gX12_isAhead 2 0 0 [.ref 149, .int x1, .int x2, .int x3] gS0 I J (gR0 w) (fun v' S' I' J' R' => v' = some (.int v) ∧ S' = gS0 ∧ I' = I ∧ J' = J ∧ R' = gR0 w) := by
  refine Cn.of [some (.ref 149), some (.int x1), some (.int x2), some (.int x3), none, none] (by decide) rfl (Nat.le_of_ble_eq_true rfl) ?_
  rw [p_X12_isAhead] at h
  refine G_aload_n dX12_isAhead_0 rfl rfl ?_
  refine G_getR fl_X12_112 sl_149 sk_149 rfl (rr_149_51 _) dX12_isAhead_1 ?_
  refine G_iload_n dX12_isAhead_4 rfl rfl ?_
  obtain ⟨b1, h⟩ := gck_some h
  refine G_iald sl_181 ss_181 (gin_in b1) dX12_isAhead_5 ?_
  refine G_iconst (v := -1) dX12_isAhead_6 rfl ?_
  obtain ⟨ph2, t3, r4⟩ := gB_some h
  have jn5 : G l gX12_isAhead 2 0 0 (fun v' S' I' J' R' => v' = some (.int v) ∧ S' = gS0 ∧ I' = I ∧ J' = J ∧ R' = gR0 w) 0 0 25 [some (.ref 149), some (.int x1), some (.int x2), some (.int x3), none, none] [.int ph2] gS0 I J (gR0 w) := by
    refine S_istore [some (.ref 149), some (.int x1), some (.int x2), some (.int x3), some (.int ph2), none] dX12_isAhead_25 (by decide) rfl ?_
    refine G_aload_n dX12_isAhead_27 rfl rfl ?_
    refine G_getR fl_X12_112 sl_149 sk_149 rfl (rr_149_51 _) dX12_isAhead_28 ?_
    refine G_iload_n dX12_isAhead_31 rfl rfl ?_
    obtain ⟨b6, r4⟩ := gck_some r4
    refine G_iald sl_181 ss_181 (gin_in b6) dX12_isAhead_32 ?_
    refine G_iconst (v := -1) dX12_isAhead_33 rfl ?_
    obtain ⟨ph7, t8, r9⟩ := gB_some r4
    have jn10 : G l gX12_isAhead 2 0 0 (fun v' S' I' J' R' => v' = some (.int v) ∧ S' = gS0 ∧ I' = I ∧ J' = J ∧ R' = gR0 w) 0 0 52 [some (.ref 149), some (.int x1), some (.int x2), some (.int x3), some (.int ph2), none] [.int ph7] gS0 I J (gR0 w) := by
      refine S_istore [some (.ref 149), some (.int x1), some (.int x2), some (.int x3), some (.int ph2), some (.int ph7)] dX12_isAhead_52 (by decide) rfl ?_
      refine G_iload dX12_isAhead_54 rfl ?_
      refine G_iload dX12_isAhead_56 rfl ?_
      refine G_icmp_eq 64 dX12_isAhead_58 (by decide) (fun c11 => ?_) (fun c11 => ?_)
      · replace r9 := git c11 r9
        refine G_iload dX12_isAhead_64 rfl ?_
        refine G_if_ne 80 dX12_isAhead_66 (by decide) (fun c12 => ?_) (fun c12 => ?_)
        · replace r9 := gif c12 r9
          refine G_aload_n dX12_isAhead_80 rfl rfl ?_
          refine G_getR fl_X12_112 sl_149 sk_149 rfl (rr_149_51 _) dX12_isAhead_81 ?_
          refine G_iload_n dX12_isAhead_84 rfl rfl ?_
          obtain ⟨b13, r9⟩ := gck_some r9
          refine G_iald sl_181 ss_181 (gin_in b13) dX12_isAhead_85 ?_
          refine G_aload_n dX12_isAhead_86 rfl rfl ?_
          refine G_getR fl_X12_112 sl_149 sk_149 rfl (rr_149_51 _) dX12_isAhead_87 ?_
          refine G_iload_n dX12_isAhead_90 rfl rfl ?_
          obtain ⟨b14, r9⟩ := gck_some r9
          refine G_iald sl_181 ss_181 (gin_in b14) dX12_isAhead_91 ?_
          refine G_icmp_eq 116 dX12_isAhead_92 (by decide) (fun c15 => ?_) (fun c15 => ?_)
          · replace r9 := git c15 r9
            refine G_aload_n dX12_isAhead_116 rfl rfl ?_
            refine G_getR fl_X12_115 sl_149 sk_149 rfl (rr_149_52 _) dX12_isAhead_117 ?_
            refine G_iload_n dX12_isAhead_120 rfl rfl ?_
            obtain ⟨b16, r9⟩ := gck_some r9
            refine G_iald sl_182 ss_182 (gin_in b16) dX12_isAhead_121 ?_
            refine G_aload_n dX12_isAhead_122 rfl rfl ?_
            refine G_getR fl_X12_115 sl_149 sk_149 rfl (rr_149_52 _) dX12_isAhead_123 ?_
            refine G_iload_n dX12_isAhead_126 rfl rfl ?_
            obtain ⟨b17, r9⟩ := gck_some r9
            refine G_iald sl_182 ss_182 (gin_in b17) dX12_isAhead_127 ?_
            refine G_icmp_eq 154 dX12_isAhead_128 (by decide) (fun c18 => ?_) (fun c18 => ?_)
            · replace r9 := git c18 r9
              refine G_iload_n dX12_isAhead_154 rfl rfl ?_
              refine G_iload_n dX12_isAhead_155 rfl rfl ?_
              refine G_icmp_ge 163 dX12_isAhead_156 (by decide) (fun c19 => ?_) (fun c19 => ?_)
              · replace r9 := git c19 r9
                refine G_iconst (v := 0) dX12_isAhead_163 rfl ?_
                refine G_zret rfl (Or.inl rfl) (Nat.le_refl _) (Nat.le_refl _) dX12_isAhead_164 ?_
                cases r9
                exact ⟨rfl, rfl, rfl, rfl, rfl⟩
              · replace r9 := gif c19 r9
                refine G_iconst (v := 1) dX12_isAhead_159 rfl ?_
                refine G_goto 164 dX12_isAhead_160 (by decide) ?_
                refine G_zret rfl (Or.inr rfl) (Nat.le_refl _) (Nat.le_refl _) dX12_isAhead_164 ?_
                cases r9
                exact ⟨rfl, rfl, rfl, rfl, rfl⟩
            · replace r9 := gif c18 r9
              refine G_aload_n dX12_isAhead_131 rfl rfl ?_
              refine G_getR fl_X12_115 sl_149 sk_149 rfl (rr_149_52 _) dX12_isAhead_132 ?_
              refine G_iload_n dX12_isAhead_135 rfl rfl ?_
              obtain ⟨b20, r9⟩ := gck_some r9
              refine G_iald sl_182 ss_182 (gin_in b20) dX12_isAhead_136 ?_
              refine G_aload_n dX12_isAhead_137 rfl rfl ?_
              refine G_getR fl_X12_115 sl_149 sk_149 rfl (rr_149_52 _) dX12_isAhead_138 ?_
              refine G_iload_n dX12_isAhead_141 rfl rfl ?_
              obtain ⟨b21, r9⟩ := gck_some r9
              refine G_iald sl_182 ss_182 (gin_in b21) dX12_isAhead_142 ?_
              refine G_icmp_ge 150 dX12_isAhead_143 (by decide) (fun c22 => ?_) (fun c22 => ?_)
              · replace r9 := git c22 r9
                refine G_iconst (v := 0) dX12_isAhead_150 rfl ?_
                refine G_goto 164 dX12_isAhead_151 (by decide) ?_
                refine G_zret rfl (Or.inl rfl) (Nat.le_refl _) (Nat.le_refl _) dX12_isAhead_164 ?_
                cases r9
                exact ⟨rfl, rfl, rfl, rfl, rfl⟩
              · replace r9 := gif c22 r9
                refine G_iconst (v := 1) dX12_isAhead_146 rfl ?_
                refine G_goto 164 dX12_isAhead_147 (by decide) ?_
                refine G_zret rfl (Or.inr rfl) (Nat.le_refl _) (Nat.le_refl _) dX12_isAhead_164 ?_
                cases r9
                exact ⟨rfl, rfl, rfl, rfl, rfl⟩
          · replace r9 := gif c15 r9
            refine G_aload_n dX12_isAhead_95 rfl rfl ?_
            refine G_getR fl_X12_112 sl_149 sk_149 rfl (rr_149_51 _) dX12_isAhead_96 ?_
            refine G_iload_n dX12_isAhead_99 rfl rfl ?_
            obtain ⟨b23, r9⟩ := gck_some r9
            refine G_iald sl_181 ss_181 (gin_in b23) dX12_isAhead_100 ?_
            refine G_aload_n dX12_isAhead_101 rfl rfl ?_
            refine G_getR fl_X12_112 sl_149 sk_149 rfl (rr_149_51 _) dX12_isAhead_102 ?_
            refine G_iload_n dX12_isAhead_105 rfl rfl ?_
            obtain ⟨b24, r9⟩ := gck_some r9
            refine G_iald sl_181 ss_181 (gin_in b24) dX12_isAhead_106 ?_
            refine G_icmp_ge 114 dX12_isAhead_107 (by decide) (fun c25 => ?_) (fun c25 => ?_)
            · replace r9 := git c25 r9
              refine G_iconst (v := 0) dX12_isAhead_114 rfl ?_
              refine G_zret rfl (Or.inl rfl) (Nat.le_refl _) (Nat.le_refl _) dX12_isAhead_115 ?_
              cases r9
              exact ⟨rfl, rfl, rfl, rfl, rfl⟩
            · replace r9 := gif c25 r9
              refine G_iconst (v := 1) dX12_isAhead_110 rfl ?_
              refine G_goto 115 dX12_isAhead_111 (by decide) ?_
              refine G_zret rfl (Or.inr rfl) (Nat.le_refl _) (Nat.le_refl _) dX12_isAhead_115 ?_
              cases r9
              exact ⟨rfl, rfl, rfl, rfl, rfl⟩
        · replace r9 := git c12 r9
          refine G_iload_n dX12_isAhead_69 rfl rfl ?_
          refine G_iload_n dX12_isAhead_70 rfl rfl ?_
          refine G_icmp_ge 78 dX12_isAhead_71 (by decide) (fun c26 => ?_) (fun c26 => ?_)
          · replace r9 := git c26 r9
            refine G_iconst (v := 0) dX12_isAhead_78 rfl ?_
            refine G_zret rfl (Or.inl rfl) (Nat.le_refl _) (Nat.le_refl _) dX12_isAhead_79 ?_
            cases r9
            exact ⟨rfl, rfl, rfl, rfl, rfl⟩
          · replace r9 := gif c26 r9
            refine G_iconst (v := 1) dX12_isAhead_74 rfl ?_
            refine G_goto 79 dX12_isAhead_75 (by decide) ?_
            refine G_zret rfl (Or.inr rfl) (Nat.le_refl _) (Nat.le_refl _) dX12_isAhead_79 ?_
            cases r9
            exact ⟨rfl, rfl, rfl, rfl, rfl⟩
      · replace r9 := gif c11 r9
        refine G_iload dX12_isAhead_61 rfl ?_
        obtain ⟨b27, r9⟩ := gck_some r9
        refine G_zret rfl (gbo_or b27) (Nat.le_refl _) (Nat.le_refl _) dX12_isAhead_63 ?_
        cases r9
        exact ⟨rfl, rfl, rfl, rfl, rfl⟩
    refine G_icmp_eq 51 dX12_isAhead_34 (by decide) (fun c28 => ?_) (fun c28 => ?_)
    · replace t8 := git c28 t8
      refine G_iconst (v := 0) dX12_isAhead_51 rfl ?_
      cases t8
      exact jn10
    · replace t8 := gif c28 t8
      refine G_aload_n dX12_isAhead_37 rfl rfl ?_
      refine G_getR fl_X12_112 sl_149 sk_149 rfl (rr_149_51 _) dX12_isAhead_38 ?_
      refine G_iload_n dX12_isAhead_41 rfl rfl ?_
      obtain ⟨b29, t8⟩ := gck_some t8
      refine G_iald sl_181 ss_181 (gin_in b29) dX12_isAhead_42 ?_
      refine G_iload_n dX12_isAhead_43 rfl rfl ?_
      refine G_icmp_gt 51 dX12_isAhead_44 (by decide) (fun c30 => ?_) (fun c30 => ?_)
      · replace t8 := git c30 t8
        refine G_iconst (v := 0) dX12_isAhead_51 rfl ?_
        cases t8
        exact jn10
      · replace t8 := gif c30 t8
        refine G_iconst (v := 1) dX12_isAhead_47 rfl ?_
        refine G_goto 52 dX12_isAhead_48 (by decide) ?_
        cases t8
        exact jn10
  refine G_icmp_eq 24 dX12_isAhead_7 (by decide) (fun c31 => ?_) (fun c31 => ?_)
  · replace t3 := git c31 t3
    refine G_iconst (v := 0) dX12_isAhead_24 rfl ?_
    cases t3
    exact jn5
  · replace t3 := gif c31 t3
    refine G_aload_n dX12_isAhead_10 rfl rfl ?_
    refine G_getR fl_X12_112 sl_149 sk_149 rfl (rr_149_51 _) dX12_isAhead_11 ?_
    refine G_iload_n dX12_isAhead_14 rfl rfl ?_
    obtain ⟨b32, t3⟩ := gck_some t3
    refine G_iald sl_181 ss_181 (gin_in b32) dX12_isAhead_15 ?_
    refine G_iload_n dX12_isAhead_16 rfl rfl ?_
    refine G_icmp_gt 24 dX12_isAhead_17 (by decide) (fun c33 => ?_) (fun c33 => ?_)
    · replace t3 := git c33 t3
      refine G_iconst (v := 0) dX12_isAhead_24 rfl ?_
      cases t3
      exact jn5
    · replace t3 := gif c33 t3
      refine G_iconst (v := 1) dX12_isAhead_20 rfl ?_
      refine G_goto 25 dX12_isAhead_21 (by decide) ?_
      cases t3
      exact jn5
def p_X12_partsOf_5 (I : gIt) (x1 : Int32) (x2 : Int32) : Nat → Int32 → Int32 → Option Int32
  | 0, _, _ => none
  | n + 1, x3, x4 =>
    if (I 149 5) ≤ x4 then
    gL (((1000 : Int32) - x3)) fun z2 =>
    if 0 < z2 then
    gck (gin x1 40) (
    if (I 176 (x1).toNatClampNeg) ≤ z2 then
    gck (gin x1 40) (
    some (I 176 (x1).toNatClampNeg))
    else
    some z2)
    else
    some (0 : Int32)
    else
    if x4 = x1 then
    gL ((x3 + (0 : Int32))) fun z8 =>
    p_X12_partsOf_5 I x1 x2 n z8 (x4 + (1 : Int32))
    else
    gck (gin x1 40) (
    gck (gin x1 40) (
    gB (p_X12_isOn I x4 (I 174 (x1).toNatClampNeg) (I 175 (x1).toNatClampNeg) x2) fun r11 =>
    if r11 = 0 then
    gL ((x3 + (0 : Int32))) fun z14 =>
    p_X12_partsOf_5 I x1 x2 n z14 (x4 + (1 : Int32))
    else
    gB (p_X12_isAhead I x4 x1 x2) fun r15 =>
    if r15 = 0 then
    gL ((x3 + (0 : Int32))) fun z18 =>
    p_X12_partsOf_5 I x1 x2 n z18 (x4 + (1 : Int32))
    else
    gck (gin x4 40) (
    gL ((x3 + (I 176 (x4).toNatClampNeg))) fun z20 =>
    p_X12_partsOf_5 I x1 x2 n z20 (x4 + (1 : Int32)))))
def p_X12_partsOf (I : gIt) (x1 : Int32) (x2 : Int32) : Option Int32 :=
  p_X12_partsOf_5 I x1 x2 gFu (0 : Int32) (0 : Int32)
set_option maxRecDepth 20000 in
theorem q_X12_partsOf_5 {l : Launch} {v : Int32} {J : gJt} {w : Bool} {I : gIt} {x1 : Int32} {x2 : Int32} : ∀ (n : Nat) (x3 : Int32) (x4 : Int32), p_X12_partsOf_5 I x1 x2 n x3 x4 = some v → G l gX12_partsOf 3 0 0 (fun v' S' I' J' R' => v' = some (.int v) ∧ S' = gS0 ∧ I' = I ∧ J' = J ∧ R' = gR0 w) 0 0 5 [some (.ref 149), some (.int x1), some (.int x2), some (.int x3), some (.int x4)] [] gS0 I J (gR0 w) := by
  intro n
  induction n with
  | zero => intro _ _ h; cases h
  | succ n ih =>
    intro x3 x4 h
    rw [p_X12_partsOf_5] at h
    refine G_iload dX12_partsOf_5 rfl ?_
    refine G_aload_n dX12_partsOf_7 rfl rfl ?_
    refine G_getI fl_X12_368 sl_149 sk_149 rfl dX12_partsOf_8 ?_
    refine G_icmp_ge 73 dX12_partsOf_11 (by decide) (fun c1 => ?_) (fun c1 => ?_)
    · replace h := git c1 h
      refine G_sipush (v := 1000) dX12_partsOf_73 rfl ?_
      refine G_iload_n dX12_partsOf_76 rfl rfl ?_
      refine G_isub dX12_partsOf_77 ?_
      refine G_nI fun z2 ez2 => ?_
      replace h := gL_some ez2 h
      refine S_istore [some (.ref 149), some (.int x1), some (.int x2), some (.int x3), some (.int z2)] dX12_partsOf_78 (by decide) rfl ?_
      refine G_iload dX12_partsOf_80 rfl ?_
      refine G_if_gt 89 dX12_partsOf_82 (by decide) (fun c3 => ?_) (fun c3 => ?_)
      · replace h := git c3 h
        refine G_iload dX12_partsOf_89 rfl ?_
        refine G_aload_n dX12_partsOf_91 rfl rfl ?_
        refine G_getR fl_X12_97 sl_149 sk_149 rfl (rr_149_46 _) dX12_partsOf_92 ?_
        refine G_iload_n dX12_partsOf_95 rfl rfl ?_
        obtain ⟨b4, h⟩ := gck_some h
        refine G_iald sl_176 ss_176 (gin_in b4) dX12_partsOf_96 ?_
        refine G_icmp_ge 105 dX12_partsOf_97 (by decide) (fun c5 => ?_) (fun c5 => ?_)
        · replace h := git c5 h
          refine G_aload_n dX12_partsOf_105 rfl rfl ?_
          refine G_getR fl_X12_97 sl_149 sk_149 rfl (rr_149_46 _) dX12_partsOf_106 ?_
          refine G_iload_n dX12_partsOf_109 rfl rfl ?_
          obtain ⟨b6, h⟩ := gck_some h
          refine G_iald sl_176 ss_176 (gin_in b6) dX12_partsOf_110 ?_
          refine G_iret rfl (Nat.le_refl _) (Nat.le_refl _) dX12_partsOf_111 ?_
          cases h
          exact ⟨rfl, rfl, rfl, rfl, rfl⟩
        · replace h := gif c5 h
          refine G_iload dX12_partsOf_100 rfl ?_
          refine G_goto 111 dX12_partsOf_102 (by decide) ?_
          refine G_iret rfl (Nat.le_refl _) (Nat.le_refl _) dX12_partsOf_111 ?_
          cases h
          exact ⟨rfl, rfl, rfl, rfl, rfl⟩
      · replace h := gif c3 h
        refine G_iconst (v := 0) dX12_partsOf_85 rfl ?_
        refine G_goto 111 dX12_partsOf_86 (by decide) ?_
        refine G_iret rfl (Nat.le_refl _) (Nat.le_refl _) dX12_partsOf_111 ?_
        cases h
        exact ⟨rfl, rfl, rfl, rfl, rfl⟩
    · replace h := gif c1 h
      refine G_iload_n dX12_partsOf_14 rfl rfl ?_
      refine G_iload dX12_partsOf_15 rfl ?_
      refine G_iload_n dX12_partsOf_17 rfl rfl ?_
      refine G_icmp_eq 64 dX12_partsOf_18 (by decide) (fun c7 => ?_) (fun c7 => ?_)
      · replace h := git c7 h
        refine G_iconst (v := 0) dX12_partsOf_64 rfl ?_
        refine G_iadd dX12_partsOf_65 ?_
        refine G_nI fun z8 ez8 => ?_
        replace h := gL_some ez8 h
        refine S_istore_n [some (.ref 149), some (.int x1), some (.int x2), some (.int z8), some (.int x4)] dX12_partsOf_66 rfl (by decide) rfl ?_
        refine S_iinc (v := (1 : Int32)) [some (.ref 149), some (.int x1), some (.int x2), some (.int z8), some (.int (x4 + (1 : Int32)))] dX12_partsOf_67 rfl rfl (by decide) rfl ?_
        refine G_goto 5 dX12_partsOf_70 (by decide) ?_
        exact ih _ _ h
      · replace h := gif c7 h
        refine G_aload_n dX12_partsOf_21 rfl rfl ?_
        refine G_iload dX12_partsOf_22 rfl ?_
        refine G_aload_n dX12_partsOf_24 rfl rfl ?_
        refine G_getR fl_X12_91 sl_149 sk_149 rfl (rr_149_44 _) dX12_partsOf_25 ?_
        refine G_iload_n dX12_partsOf_28 rfl rfl ?_
        obtain ⟨b9, h⟩ := gck_some h
        refine G_iald sl_174 ss_174 (gin_in b9) dX12_partsOf_29 ?_
        refine G_aload_n dX12_partsOf_30 rfl rfl ?_
        refine G_getR fl_X12_94 sl_149 sk_149 rfl (rr_149_45 _) dX12_partsOf_31 ?_
        refine G_iload_n dX12_partsOf_34 rfl rfl ?_
        obtain ⟨b10, h⟩ := gck_some h
        refine G_iald sl_175 ss_175 (gin_in b10) dX12_partsOf_35 ?_
        refine G_iload_n dX12_partsOf_36 rfl rfl ?_
        obtain ⟨r11, hr12, h⟩ := gB_some h
        refine G_cV (mj := gX12_isOn) (As := [.int x4, .int (I 174 (x1).toNatClampNeg), .int (I 175 (x1).toNatClampNeg), .int x2]) (rest := [.int x3]) ml_X12_431 vX12_isOn sl_149 sk_149 (by decide) rfl rfl rfl (Nat.le_of_ble_eq_true rfl) (by decide) (Nat.le_refl _) (Nat.le_refl _) dX12_partsOf_37 (q_X12_isOn hr12) ?_
        refine G_if_eq 64 dX12_partsOf_40 (by decide) (fun c13 => ?_) (fun c13 => ?_)
        · replace h := git c13 h
          refine G_iconst (v := 0) dX12_partsOf_64 rfl ?_
          refine G_iadd dX12_partsOf_65 ?_
          refine G_nI fun z14 ez14 => ?_
          replace h := gL_some ez14 h
          refine S_istore_n [some (.ref 149), some (.int x1), some (.int x2), some (.int z14), some (.int x4)] dX12_partsOf_66 rfl (by decide) rfl ?_
          refine S_iinc (v := (1 : Int32)) [some (.ref 149), some (.int x1), some (.int x2), some (.int z14), some (.int (x4 + (1 : Int32)))] dX12_partsOf_67 rfl rfl (by decide) rfl ?_
          refine G_goto 5 dX12_partsOf_70 (by decide) ?_
          exact ih _ _ h
        · replace h := gif c13 h
          refine G_aload_n dX12_partsOf_43 rfl rfl ?_
          refine G_iload dX12_partsOf_44 rfl ?_
          refine G_iload_n dX12_partsOf_46 rfl rfl ?_
          refine G_iload_n dX12_partsOf_47 rfl rfl ?_
          obtain ⟨r15, hr16, h⟩ := gB_some h
          refine G_cV (mj := gX12_isAhead) (As := [.int x4, .int x1, .int x2]) (rest := [.int x3]) ml_X12_434 vX12_isAhead sl_149 sk_149 (by decide) rfl rfl rfl (Nat.le_of_ble_eq_true rfl) (by decide) (Nat.le_refl _) (Nat.le_refl _) dX12_partsOf_48 (q_X12_isAhead hr16) ?_
          refine G_if_eq 64 dX12_partsOf_51 (by decide) (fun c17 => ?_) (fun c17 => ?_)
          · replace h := git c17 h
            refine G_iconst (v := 0) dX12_partsOf_64 rfl ?_
            refine G_iadd dX12_partsOf_65 ?_
            refine G_nI fun z18 ez18 => ?_
            replace h := gL_some ez18 h
            refine S_istore_n [some (.ref 149), some (.int x1), some (.int x2), some (.int z18), some (.int x4)] dX12_partsOf_66 rfl (by decide) rfl ?_
            refine S_iinc (v := (1 : Int32)) [some (.ref 149), some (.int x1), some (.int x2), some (.int z18), some (.int (x4 + (1 : Int32)))] dX12_partsOf_67 rfl rfl (by decide) rfl ?_
            refine G_goto 5 dX12_partsOf_70 (by decide) ?_
            exact ih _ _ h
          · replace h := gif c17 h
            refine G_aload_n dX12_partsOf_54 rfl rfl ?_
            refine G_getR fl_X12_97 sl_149 sk_149 rfl (rr_149_46 _) dX12_partsOf_55 ?_
            refine G_iload dX12_partsOf_58 rfl ?_
            obtain ⟨b19, h⟩ := gck_some h
            refine G_iald sl_176 ss_176 (gin_in b19) dX12_partsOf_60 ?_
            refine G_goto 65 dX12_partsOf_61 (by decide) ?_
            refine G_iadd dX12_partsOf_65 ?_
            refine G_nI fun z20 ez20 => ?_
            replace h := gL_some ez20 h
            refine S_istore_n [some (.ref 149), some (.int x1), some (.int x2), some (.int z20), some (.int x4)] dX12_partsOf_66 rfl (by decide) rfl ?_
            refine S_iinc (v := (1 : Int32)) [some (.ref 149), some (.int x1), some (.int x2), some (.int z20), some (.int (x4 + (1 : Int32)))] dX12_partsOf_67 rfl rfl (by decide) rfl ?_
            refine G_goto 5 dX12_partsOf_70 (by decide) ?_
            exact ih _ _ h
set_option maxRecDepth 20000 in
theorem q_X12_partsOf {l : Launch} {I : gIt} {J : gJt} {w : Bool} {x1 : Int32} {x2 : Int32} {v : Int32} (h : p_X12_partsOf I x1 x2 = some v) : Cn l gX12_partsOf 3 0 0 [.ref 149, .int x1, .int x2] gS0 I J (gR0 w) (fun v' S' I' J' R' => v' = some (.int v) ∧ S' = gS0 ∧ I' = I ∧ J' = J ∧ R' = gR0 w) := by
  refine Cn.of [some (.ref 149), some (.int x1), some (.int x2), none, none] (by decide) rfl (Nat.le_of_ble_eq_true rfl) ?_
  rw [p_X12_partsOf] at h
  refine G_iconst (v := 0) dX12_partsOf_0 rfl ?_
  refine S_istore_n [some (.ref 149), some (.int x1), some (.int x2), some (.int (0 : Int32)), none] dX12_partsOf_1 rfl (by decide) rfl ?_
  refine G_iconst (v := 0) dX12_partsOf_2 rfl ?_
  refine S_istore [some (.ref 149), some (.int x1), some (.int x2), some (.int (0 : Int32)), some (.int (0 : Int32))] dX12_partsOf_3 (by decide) rfl ?_
  exact q_X12_partsOf_5   gFu _ _ h
def p_X12_paid_163 (I : gIt) (x1 : Int32) (x2 : Int32) (x3 : Int32) (x4 : Int32) (x5 : Int32) : Nat → Int32 → Int32 → Int32 → Option (Int32 × gIt)
  | 0, _, _, _ => none
  | n + 1, x6, x7, x8 =>
    if (I 149 5) ≤ x8 then
    if x3 = x2 then
    some ((x6 + x7), I)
    else
    some (x6, I)
    else
    gB (p_X12_isOn I x8 x2 x1 x4) fun r12 =>
    if r12 = 0 then
    p_X12_paid_163 I x1 x2 x3 x4 x5 n x6 x7 (x8 + (1 : Int32))
    else
    gB (p_X12_partsOf I x8 x4) fun r15 =>
    gL ((Int64.toInt32 (((Int32.toInt64 x5) * (Int32.toInt64 r15)) / (1000 : Int64)))) fun z18 =>
    gL ((x7 - z18)) fun z19 =>
    gck (gin x8 40) (
    if (I 177 (x8).toNatClampNeg) = x3 then
    gL ((x6 + z18)) fun z23 =>
    p_X12_paid_163 I x1 x2 x3 x4 x5 n z23 z19 (x8 + (1 : Int32))
    else
    gL ((x6 + (0 : Int32))) fun z22 =>
    p_X12_paid_163 I x1 x2 x3 x4 x5 n z22 z19 (x8 + (1 : Int32)))
def p_X12_paid_49 (I : gIt) (x1 : Int32) (x2 : Int32) (x3 : Int32) (x4 : Int32) : Nat → Int32 → Int32 → Int32 → Option (Int32 × gIt)
  | 0, _, _, _ => none
  | n + 1, x5, x6, x7 =>
    if (I 149 6) ≤ x7 then
    p_X12_paid_163 I x1 x2 x3 x4 x5 gFu x6 x5 (0 : Int32)
    else
    gck (gin x7 20) (
    if (I 184 (x7).toNatClampNeg) = x2 then
    gck (gin x7 20) (
    if (I 185 (x7).toNatClampNeg) = x1 then
    gck (gin x7 20) (
    if (I 188 (x7).toNatClampNeg) ≤ x4 then
    gck (gin x7 20) (
    gB (α := Int32) (
    if x5 ≤ (I 187 (x7).toNatClampNeg) then
    some x5
    else
    gck (gin x7 20) (
    some (I 187 (x7).toNatClampNeg))) fun ph31 =>
    gL ((x5 - ph31)) fun z35 =>
    gck (gin x7 20) (
    if (I 186 (x7).toNatClampNeg) = x3 then
    gL ((x6 + ph31)) fun z39 =>
    p_X12_paid_49 I x1 x2 x3 x4 n z35 z39 (x7 + (1 : Int32))
    else
    gL ((x6 + (0 : Int32))) fun z38 =>
    p_X12_paid_49 I x1 x2 x3 x4 n z35 z38 (x7 + (1 : Int32))))
    else
    p_X12_paid_49 I x1 x2 x3 x4 n x5 x6 (x7 + (1 : Int32)))
    else
    p_X12_paid_49 I x1 x2 x3 x4 n x5 x6 (x7 + (1 : Int32)))
    else
    p_X12_paid_49 I x1 x2 x3 x4 n x5 x6 (x7 + (1 : Int32)))
def p_X12_paid (I : gIt) (x1 : Int32) (x2 : Int32) (x3 : Int32) (x4 : Int32) : Option (Int32 × gIt) :=
  gB (p_X12_isPerson I x3) fun r1 =>
  if r1 = 0 then
  some ((-1 : Int32), I)
  else
  gB (p_X12_gain I x1 x2 x4) fun r4 =>
  if r4.1 = (-1 : Int32) then
  some ((-1 : Int32), r4.2)
  else
  gL ((r4.1 - ((r4.1 * (r4.2 149 9)) / (100 : Int32)))) fun z8 =>
  p_X12_paid_49 r4.2 x1 x2 x3 x4 gFu z8 (0 : Int32) (0 : Int32)
set_option maxRecDepth 20000 in
theorem q_X12_paid_163 {l : Launch} {v : (Int32 × gIt)} {J : gJt} {w : Bool} {I : gIt} {x1 : Int32} {x2 : Int32} {x3 : Int32} {x4 : Int32} {x5 : Int32} : ∀ (n : Nat) (x6 : Int32) (x7 : Int32) (x8 : Int32), p_X12_paid_163 I x1 x2 x3 x4 x5 n x6 x7 x8 = some v → G l gX12_paid 9 0 0 (fun v' S' I' J' R' => v' = some (.int v.1) ∧ S' = gS0 ∧ I' = v.2 ∧ J' = J ∧ R' = gR0 w) 0 0 163 [some (.ref 149), some (.int x1), some (.int x2), some (.int x3), some (.int x4), some (.int x5), some (.int x6), some (.int x7), some (.int x8), none] [] gS0 I J (gR0 w) := by
  intro n
  induction n with
  | zero => intro _ _ _ h; cases h
  | succ n ih =>
    intro x6 x7 x8 h
    rw [p_X12_paid_163] at h
    refine G_iload dX12_paid_163 rfl ?_
    refine G_aload_n dX12_paid_165 rfl rfl ?_
    refine G_getI fl_X12_368 sl_149 sk_149 rfl dX12_paid_166 ?_
    refine G_icmp_ge 243 dX12_paid_169 (by decide) (fun c10 => ?_) (fun c10 => ?_)
    · replace h := git c10 h
      refine G_iload_n dX12_paid_243 rfl rfl ?_
      refine G_iload_n dX12_paid_244 rfl rfl ?_
      refine G_icmp_ne 256 dX12_paid_245 (by decide) (fun c11 => ?_) (fun c11 => ?_)
      · replace h := gif c11 h
        refine G_iload dX12_paid_256 rfl ?_
        refine G_iret rfl (Nat.le_refl _) (Nat.le_refl _) dX12_paid_258 ?_
        cases h
        exact ⟨rfl, rfl, rfl, rfl, rfl⟩
      · replace h := git c11 h
        refine G_iload dX12_paid_248 rfl ?_
        refine G_iload dX12_paid_250 rfl ?_
        refine G_iadd dX12_paid_252 ?_
        refine G_goto 258 dX12_paid_253 (by decide) ?_
        refine G_iret rfl (Nat.le_refl _) (Nat.le_refl _) dX12_paid_258 ?_
        cases h
        exact ⟨rfl, rfl, rfl, rfl, rfl⟩
    · replace h := gif c10 h
      refine G_aload_n dX12_paid_172 rfl rfl ?_
      refine G_iload dX12_paid_173 rfl ?_
      refine G_iload_n dX12_paid_175 rfl rfl ?_
      refine G_iload_n dX12_paid_176 rfl rfl ?_
      refine G_iload dX12_paid_177 rfl ?_
      obtain ⟨r12, hr13, h⟩ := gB_some h
      refine G_cV (mj := gX12_isOn) (As := [.int x8, .int x2, .int x1, .int x4]) (rest := []) ml_X12_431 vX12_isOn sl_149 sk_149 (by decide) rfl rfl rfl (Nat.le_of_ble_eq_true rfl) (by decide) (Nat.le_refl _) (Nat.le_refl _) dX12_paid_179 (q_X12_isOn hr13) ?_
      refine G_if_ne 188 dX12_paid_182 (by decide) (fun c14 => ?_) (fun c14 => ?_)
      · replace h := gif c14 h
        refine G_iload dX12_paid_188 rfl ?_
        refine G_i2l dX12_paid_190 ?_
        refine G_aload_n dX12_paid_191 rfl rfl ?_
        refine G_iload dX12_paid_192 rfl ?_
        refine G_iload dX12_paid_194 rfl ?_
        obtain ⟨r15, hr16, h⟩ := gB_some h
        refine G_cV (mj := gX12_partsOf) (As := [.int x8, .int x4]) (rest := [.long (Int32.toInt64 x5)]) ml_X12_440 vX12_partsOf sl_149 sk_149 (by decide) rfl rfl rfl (Nat.le_of_ble_eq_true rfl) (by decide) (Nat.le_refl _) (Nat.le_refl _) dX12_paid_196 (q_X12_partsOf hr16) ?_
        refine G_i2l dX12_paid_199 ?_
        refine G_lmul dX12_paid_200 ?_
        refine G_ldc2 dX12_paid_201 kc_X12_371 ?_
        refine G_ldiv dX12_paid_204 (by decide) ?_
        refine G_l2i dX12_paid_205 ?_
        refine G_nI fun z18 ez18 => ?_
        replace h := gL_some ez18 h
        refine S_istore [some (.ref 149), some (.int x1), some (.int x2), some (.int x3), some (.int x4), some (.int x5), some (.int x6), some (.int x7), some (.int x8), some (.int z18)] dX12_paid_206 (by decide) rfl ?_
        refine G_iload dX12_paid_208 rfl ?_
        refine G_iload dX12_paid_210 rfl ?_
        refine G_isub dX12_paid_212 ?_
        refine G_nI fun z19 ez19 => ?_
        replace h := gL_some ez19 h
        refine S_istore [some (.ref 149), some (.int x1), some (.int x2), some (.int x3), some (.int x4), some (.int x5), some (.int x6), some (.int z19), some (.int x8), some (.int z18)] dX12_paid_213 (by decide) rfl ?_
        refine G_iload dX12_paid_215 rfl ?_
        refine G_aload_n dX12_paid_217 rfl rfl ?_
        refine G_getR fl_X12_100 sl_149 sk_149 rfl (rr_149_47 _) dX12_paid_218 ?_
        refine G_iload dX12_paid_221 rfl ?_
        obtain ⟨b20, h⟩ := gck_some h
        refine G_iald sl_177 ss_177 (gin_in b20) dX12_paid_223 ?_
        refine G_iload_n dX12_paid_224 rfl rfl ?_
        refine G_icmp_ne 233 dX12_paid_225 (by decide) (fun c21 => ?_) (fun c21 => ?_)
        · replace h := gif c21 h
          refine G_iconst (v := 0) dX12_paid_233 rfl ?_
          refine G_iadd dX12_paid_234 ?_
          refine G_nI fun z22 ez22 => ?_
          replace h := gL_some ez22 h
          refine S_istore [some (.ref 149), some (.int x1), some (.int x2), some (.int x3), some (.int x4), some (.int x5), some (.int z22), some (.int z19), some (.int x8), some (.int z18)] dX12_paid_235 (by decide) rfl ?_
          refine S_iinc (v := (1 : Int32)) [some (.ref 149), some (.int x1), some (.int x2), some (.int x3), some (.int x4), some (.int x5), some (.int z22), some (.int z19), some (.int (x8 + (1 : Int32))), some (.int z18)] dX12_paid_237 rfl rfl (by decide) rfl ?_
          refine G_goto 163 dX12_paid_240 (by decide) ?_
          refine G_sub [some (.ref 149), some (.int x1), some (.int x2), some (.int x3), some (.int x4), some (.int x5), some (.int z22), some (.int z19), some (.int (x8 + (1 : Int32))), none] ⟨rfl, rfl, rfl, rfl, rfl, rfl, rfl, rfl, rfl, trivial⟩ ?_
          exact ih _ _ _ h
        · replace h := git c21 h
          refine G_iload dX12_paid_228 rfl ?_
          refine G_goto 234 dX12_paid_230 (by decide) ?_
          refine G_iadd dX12_paid_234 ?_
          refine G_nI fun z23 ez23 => ?_
          replace h := gL_some ez23 h
          refine S_istore [some (.ref 149), some (.int x1), some (.int x2), some (.int x3), some (.int x4), some (.int x5), some (.int z23), some (.int z19), some (.int x8), some (.int z18)] dX12_paid_235 (by decide) rfl ?_
          refine S_iinc (v := (1 : Int32)) [some (.ref 149), some (.int x1), some (.int x2), some (.int x3), some (.int x4), some (.int x5), some (.int z23), some (.int z19), some (.int (x8 + (1 : Int32))), some (.int z18)] dX12_paid_237 rfl rfl (by decide) rfl ?_
          refine G_goto 163 dX12_paid_240 (by decide) ?_
          refine G_sub [some (.ref 149), some (.int x1), some (.int x2), some (.int x3), some (.int x4), some (.int x5), some (.int z23), some (.int z19), some (.int (x8 + (1 : Int32))), none] ⟨rfl, rfl, rfl, rfl, rfl, rfl, rfl, rfl, rfl, trivial⟩ ?_
          exact ih _ _ _ h
      · replace h := git c14 h
        refine G_goto 237 dX12_paid_185 (by decide) ?_
        refine S_iinc (v := (1 : Int32)) [some (.ref 149), some (.int x1), some (.int x2), some (.int x3), some (.int x4), some (.int x5), some (.int x6), some (.int x7), some (.int (x8 + (1 : Int32))), none] dX12_paid_237 rfl rfl (by decide) rfl ?_
        refine G_goto 163 dX12_paid_240 (by decide) ?_
        exact ih _ _ _ h
set_option maxRecDepth 20000 in
theorem q_X12_paid_49 {l : Launch} {v : (Int32 × gIt)} {J : gJt} {w : Bool} {I : gIt} {x1 : Int32} {x2 : Int32} {x3 : Int32} {x4 : Int32} : ∀ (n : Nat) (x5 : Int32) (x6 : Int32) (x7 : Int32), p_X12_paid_49 I x1 x2 x3 x4 n x5 x6 x7 = some v → G l gX12_paid 9 0 0 (fun v' S' I' J' R' => v' = some (.int v.1) ∧ S' = gS0 ∧ I' = v.2 ∧ J' = J ∧ R' = gR0 w) 0 0 49 [some (.ref 149), some (.int x1), some (.int x2), some (.int x3), some (.int x4), some (.int x5), some (.int x6), some (.int x7), none, none] [] gS0 I J (gR0 w) := by
  intro n
  induction n with
  | zero => intro _ _ _ h; cases h
  | succ n ih =>
    intro x5 x6 x7 h
    rw [p_X12_paid_49] at h
    refine G_iload dX12_paid_49 rfl ?_
    refine G_aload_n dX12_paid_51 rfl rfl ?_
    refine G_getI fl_X12_381 sl_149 sk_149 rfl dX12_paid_52 ?_
    refine G_icmp_ge 156 dX12_paid_55 (by decide) (fun c9 => ?_) (fun c9 => ?_)
    · replace h := git c9 h
      refine G_iload dX12_paid_156 rfl ?_
      refine S_istore [some (.ref 149), some (.int x1), some (.int x2), some (.int x3), some (.int x4), some (.int x5), some (.int x6), some (.int x5), none, none] dX12_paid_158 (by decide) rfl ?_
      refine G_iconst (v := 0) dX12_paid_160 rfl ?_
      refine S_istore [some (.ref 149), some (.int x1), some (.int x2), some (.int x3), some (.int x4), some (.int x5), some (.int x6), some (.int x5), some (.int (0 : Int32)), none] dX12_paid_161 (by decide) rfl ?_
      exact q_X12_paid_163   gFu _ _ _ h
    · replace h := gif c9 h
      refine G_aload_n dX12_paid_58 rfl rfl ?_
      refine G_getR fl_X12_121 sl_149 sk_149 rfl (rr_149_54 _) dX12_paid_59 ?_
      refine G_iload dX12_paid_62 rfl ?_
      obtain ⟨b24, h⟩ := gck_some h
      refine G_iald sl_184 ss_184 (gin_in b24) dX12_paid_64 ?_
      refine G_iload_n dX12_paid_65 rfl rfl ?_
      refine G_icmp_ne 150 dX12_paid_66 (by decide) (fun c25 => ?_) (fun c25 => ?_)
      · replace h := gif c25 h
        refine S_iinc (v := (1 : Int32)) [some (.ref 149), some (.int x1), some (.int x2), some (.int x3), some (.int x4), some (.int x5), some (.int x6), some (.int (x7 + (1 : Int32))), none, none] dX12_paid_150 rfl rfl (by decide) rfl ?_
        refine G_goto 49 dX12_paid_153 (by decide) ?_
        exact ih _ _ _ h
      · replace h := git c25 h
        refine G_aload_n dX12_paid_69 rfl rfl ?_
        refine G_getR fl_X12_124 sl_149 sk_149 rfl (rr_149_55 _) dX12_paid_70 ?_
        refine G_iload dX12_paid_73 rfl ?_
        obtain ⟨b26, h⟩ := gck_some h
        refine G_iald sl_185 ss_185 (gin_in b26) dX12_paid_75 ?_
        refine G_iload_n dX12_paid_76 rfl rfl ?_
        refine G_icmp_ne 150 dX12_paid_77 (by decide) (fun c27 => ?_) (fun c27 => ?_)
        · replace h := gif c27 h
          refine S_iinc (v := (1 : Int32)) [some (.ref 149), some (.int x1), some (.int x2), some (.int x3), some (.int x4), some (.int x5), some (.int x6), some (.int (x7 + (1 : Int32))), none, none] dX12_paid_150 rfl rfl (by decide) rfl ?_
          refine G_goto 49 dX12_paid_153 (by decide) ?_
          exact ih _ _ _ h
        · replace h := git c27 h
          refine G_aload_n dX12_paid_80 rfl rfl ?_
          refine G_getR fl_X12_133 sl_149 sk_149 rfl (rr_149_58 _) dX12_paid_81 ?_
          refine G_iload dX12_paid_84 rfl ?_
          obtain ⟨b28, h⟩ := gck_some h
          refine G_iald sl_188 ss_188 (gin_in b28) dX12_paid_86 ?_
          refine G_iload dX12_paid_87 rfl ?_
          refine G_icmp_le 95 dX12_paid_89 (by decide) (fun c29 => ?_) (fun c29 => ?_)
          · replace h := git c29 h
            refine G_aload_n dX12_paid_95 rfl rfl ?_
            refine G_getR fl_X12_130 sl_149 sk_149 rfl (rr_149_57 _) dX12_paid_96 ?_
            refine G_iload dX12_paid_99 rfl ?_
            obtain ⟨b30, h⟩ := gck_some h
            refine G_iald sl_187 ss_187 (gin_in b30) dX12_paid_101 ?_
            refine G_iload dX12_paid_102 rfl ?_
            obtain ⟨ph31, t32, r33⟩ := gB_some h
            have jn34 : G l gX12_paid 9 0 0 (fun v' S' I' J' R' => v' = some (.int v.1) ∧ S' = gS0 ∧ I' = v.2 ∧ J' = J ∧ R' = gR0 w) 0 0 119 [some (.ref 149), some (.int x1), some (.int x2), some (.int x3), some (.int x4), some (.int x5), some (.int x6), some (.int x7), none, none] [.int ph31] gS0 I J (gR0 w) := by
              refine S_istore [some (.ref 149), some (.int x1), some (.int x2), some (.int x3), some (.int x4), some (.int x5), some (.int x6), some (.int x7), some (.int ph31), none] dX12_paid_119 (by decide) rfl ?_
              refine G_iload dX12_paid_121 rfl ?_
              refine G_iload dX12_paid_123 rfl ?_
              refine G_isub dX12_paid_125 ?_
              refine G_nI fun z35 ez35 => ?_
              replace r33 := gL_some ez35 r33
              refine S_istore [some (.ref 149), some (.int x1), some (.int x2), some (.int x3), some (.int x4), some (.int z35), some (.int x6), some (.int x7), some (.int ph31), none] dX12_paid_126 (by decide) rfl ?_
              refine G_iload dX12_paid_128 rfl ?_
              refine G_aload_n dX12_paid_130 rfl rfl ?_
              refine G_getR fl_X12_127 sl_149 sk_149 rfl (rr_149_56 _) dX12_paid_131 ?_
              refine G_iload dX12_paid_134 rfl ?_
              obtain ⟨b36, r33⟩ := gck_some r33
              refine G_iald sl_186 ss_186 (gin_in b36) dX12_paid_136 ?_
              refine G_iload_n dX12_paid_137 rfl rfl ?_
              refine G_icmp_ne 146 dX12_paid_138 (by decide) (fun c37 => ?_) (fun c37 => ?_)
              · replace r33 := gif c37 r33
                refine G_iconst (v := 0) dX12_paid_146 rfl ?_
                refine G_iadd dX12_paid_147 ?_
                refine G_nI fun z38 ez38 => ?_
                replace r33 := gL_some ez38 r33
                refine S_istore [some (.ref 149), some (.int x1), some (.int x2), some (.int x3), some (.int x4), some (.int z35), some (.int z38), some (.int x7), some (.int ph31), none] dX12_paid_148 (by decide) rfl ?_
                refine S_iinc (v := (1 : Int32)) [some (.ref 149), some (.int x1), some (.int x2), some (.int x3), some (.int x4), some (.int z35), some (.int z38), some (.int (x7 + (1 : Int32))), some (.int ph31), none] dX12_paid_150 rfl rfl (by decide) rfl ?_
                refine G_goto 49 dX12_paid_153 (by decide) ?_
                refine G_sub [some (.ref 149), some (.int x1), some (.int x2), some (.int x3), some (.int x4), some (.int z35), some (.int z38), some (.int (x7 + (1 : Int32))), none, none] ⟨rfl, rfl, rfl, rfl, rfl, rfl, rfl, rfl, trivial⟩ ?_
                exact ih _ _ _ r33
              · replace r33 := git c37 r33
                refine G_iload dX12_paid_141 rfl ?_
                refine G_goto 147 dX12_paid_143 (by decide) ?_
                refine G_iadd dX12_paid_147 ?_
                refine G_nI fun z39 ez39 => ?_
                replace r33 := gL_some ez39 r33
                refine S_istore [some (.ref 149), some (.int x1), some (.int x2), some (.int x3), some (.int x4), some (.int z35), some (.int z39), some (.int x7), some (.int ph31), none] dX12_paid_148 (by decide) rfl ?_
                refine S_iinc (v := (1 : Int32)) [some (.ref 149), some (.int x1), some (.int x2), some (.int x3), some (.int x4), some (.int z35), some (.int z39), some (.int (x7 + (1 : Int32))), some (.int ph31), none] dX12_paid_150 rfl rfl (by decide) rfl ?_
                refine G_goto 49 dX12_paid_153 (by decide) ?_
                refine G_sub [some (.ref 149), some (.int x1), some (.int x2), some (.int x3), some (.int x4), some (.int z35), some (.int z39), some (.int (x7 + (1 : Int32))), none, none] ⟨rfl, rfl, rfl, rfl, rfl, rfl, rfl, rfl, trivial⟩ ?_
                exact ih _ _ _ r33
            refine G_icmp_ge 117 dX12_paid_104 (by decide) (fun c40 => ?_) (fun c40 => ?_)
            · replace t32 := git c40 t32
              refine G_iload dX12_paid_117 rfl ?_
              cases t32
              exact jn34
            · replace t32 := gif c40 t32
              refine G_aload_n dX12_paid_107 rfl rfl ?_
              refine G_getR fl_X12_130 sl_149 sk_149 rfl (rr_149_57 _) dX12_paid_108 ?_
              refine G_iload dX12_paid_111 rfl ?_
              obtain ⟨b41, t32⟩ := gck_some t32
              refine G_iald sl_187 ss_187 (gin_in b41) dX12_paid_113 ?_
              refine G_goto 119 dX12_paid_114 (by decide) ?_
              cases t32
              exact jn34
          · replace h := gif c29 h
            refine G_goto 150 dX12_paid_92 (by decide) ?_
            refine S_iinc (v := (1 : Int32)) [some (.ref 149), some (.int x1), some (.int x2), some (.int x3), some (.int x4), some (.int x5), some (.int x6), some (.int (x7 + (1 : Int32))), none, none] dX12_paid_150 rfl rfl (by decide) rfl ?_
            refine G_goto 49 dX12_paid_153 (by decide) ?_
            exact ih _ _ _ h
set_option maxRecDepth 20000 in
theorem q_X12_paid {l : Launch} {I : gIt} {J : gJt} {w : Bool} {x1 : Int32} {x2 : Int32} {x3 : Int32} {x4 : Int32} {v : (Int32 × gIt)} (h : p_X12_paid I x1 x2 x3 x4 = some v) : Cn l gX12_paid 9 0 0 [.ref 149, .int x1, .int x2, .int x3, .int x4] gS0 I J (gR0 w) (fun v' S' I' J' R' => v' = some (.int v.1) ∧ S' = gS0 ∧ I' = v.2 ∧ J' = J ∧ R' = gR0 w) := by
  refine Cn.of [some (.ref 149), some (.int x1), some (.int x2), some (.int x3), some (.int x4), none, none, none, none, none] (by decide) rfl (Nat.le_of_ble_eq_true rfl) ?_
  rw [p_X12_paid] at h
  refine G_aload_n dX12_paid_0 rfl rfl ?_
  refine G_iload_n dX12_paid_1 rfl rfl ?_
  obtain ⟨r1, hr2, h⟩ := gB_some h
  refine G_cV (mj := gX12_isPerson) (As := [.int x3]) (rest := []) ml_X12_165 vX12_isPerson sl_149 sk_149 (by decide) rfl rfl rfl (Nat.le_of_ble_eq_true rfl) (by decide) (Nat.le_refl _) (Nat.le_refl _) dX12_paid_2 (q_X12_isPerson hr2) ?_
  refine G_if_ne 10 dX12_paid_5 (by decide) (fun c3 => ?_) (fun c3 => ?_)
  · replace h := gif c3 h
    refine G_aload_n dX12_paid_10 rfl rfl ?_
    refine G_iload_n dX12_paid_11 rfl rfl ?_
    refine G_iload_n dX12_paid_12 rfl rfl ?_
    refine G_iload dX12_paid_13 rfl ?_
    obtain ⟨r4, hr5, h⟩ := gB_some h
    refine G_cV (mj := gX12_gain) (As := [.int x1, .int x2, .int x4]) (rest := []) ml_X12_437 vX12_gain sl_149 sk_149 (by decide) rfl rfl rfl (Nat.le_of_ble_eq_true rfl) (by decide) (Nat.le_refl _) (Nat.le_refl _) dX12_paid_15 (q_X12_gain hr5) ?_
    refine S_istore [some (.ref 149), some (.int x1), some (.int x2), some (.int x3), some (.int x4), some (.int r4.1), none, none, none, none] dX12_paid_18 (by decide) rfl ?_
    refine G_iload dX12_paid_20 rfl ?_
    refine G_iconst (v := -1) dX12_paid_22 rfl ?_
    refine G_icmp_ne 28 dX12_paid_23 (by decide) (fun c6 => ?_) (fun c6 => ?_)
    · replace h := gif c6 h
      refine G_iconst (v := 0) dX12_paid_28 rfl ?_
      refine S_istore [some (.ref 149), some (.int x1), some (.int x2), some (.int x3), some (.int x4), some (.int r4.1), some (.int (0 : Int32)), none, none, none] dX12_paid_29 (by decide) rfl ?_
      refine G_iload dX12_paid_31 rfl ?_
      refine G_iload dX12_paid_33 rfl ?_
      refine G_aload_n dX12_paid_35 rfl rfl ?_
      refine G_getI fl_X12_185 sl_149 sk_149 rfl dX12_paid_36 ?_
      refine G_imul dX12_paid_39 ?_
      refine G_bipush (v := 100) dX12_paid_40 rfl ?_
      refine G_idiv dX12_paid_42 (by decide) ?_
      refine G_isub dX12_paid_43 ?_
      refine G_nI fun z8 ez8 => ?_
      replace h := gL_some ez8 h
      refine S_istore [some (.ref 149), some (.int x1), some (.int x2), some (.int x3), some (.int x4), some (.int z8), some (.int (0 : Int32)), none, none, none] dX12_paid_44 (by decide) rfl ?_
      refine G_iconst (v := 0) dX12_paid_46 rfl ?_
      refine S_istore [some (.ref 149), some (.int x1), some (.int x2), some (.int x3), some (.int x4), some (.int z8), some (.int (0 : Int32)), some (.int (0 : Int32)), none, none] dX12_paid_47 (by decide) rfl ?_
      exact q_X12_paid_49   gFu _ _ _ h
    · replace h := git c6 h
      refine G_iconst (v := -1) dX12_paid_26 rfl ?_
      refine G_iret rfl (Nat.le_refl _) (Nat.le_refl _) dX12_paid_27 ?_
      cases h
      exact ⟨rfl, rfl, rfl, rfl, rfl⟩
  · replace h := git c3 h
    refine G_iconst (v := -1) dX12_paid_8 rfl ?_
    refine G_iret rfl (Nat.le_refl _) (Nat.le_refl _) dX12_paid_9 ?_
    cases h
    exact ⟨rfl, rfl, rfl, rfl, rfl⟩
def p_X12_isHeld (I : gIt) (x1 : Int32) (x2 : Int32) : Option Int32 :=
  gck (gin x1 40) (
  if (I 177 (x1).toNatClampNeg) = x2 then
  gck (gin x1 40) (
  if (I 183 (x1).toNatClampNeg) = (-1 : Int32) then
  gck (gin x1 40) (
  gck (gin (I 175 (x1).toNatClampNeg) 10) (
  gB (p_X12_isDead I (I 158 ((I 175 (x1).toNatClampNeg)).toNatClampNeg) (I 149 2)) fun r7 =>
  if r7 = 0 then
  some (1 : Int32)
  else
  some (0 : Int32)))
  else
  some (0 : Int32))
  else
  some (0 : Int32))
set_option maxRecDepth 20000 in
theorem q_X12_isHeld {l : Launch} {I : gIt} {J : gJt} {w : Bool} {x1 : Int32} {x2 : Int32} {v : Int32} (h : p_X12_isHeld I x1 x2 = some v) : Cn l gX12_isHeld 3 0 0 [.ref 149, .int x1, .int x2] gS0 I J (gR0 w) (fun v' S' I' J' R' => v' = some (.int v) ∧ S' = gS0 ∧ I' = I ∧ J' = J ∧ R' = gR0 w) := by
  refine Cn.of [some (.ref 149), some (.int x1), some (.int x2)] (by decide) rfl (Nat.le_of_ble_eq_true rfl) ?_
  rw [p_X12_isHeld] at h
  refine G_aload_n dX12_isHeld_0 rfl rfl ?_
  refine G_getR fl_X12_100 sl_149 sk_149 rfl (rr_149_47 _) dX12_isHeld_1 ?_
  refine G_iload_n dX12_isHeld_4 rfl rfl ?_
  obtain ⟨b1, h⟩ := gck_some h
  refine G_iald sl_177 ss_177 (gin_in b1) dX12_isHeld_5 ?_
  refine G_iload_n dX12_isHeld_6 rfl rfl ?_
  refine G_icmp_ne 46 dX12_isHeld_7 (by decide) (fun c2 => ?_) (fun c2 => ?_)
  · replace h := gif c2 h
    refine G_iconst (v := 0) dX12_isHeld_46 rfl ?_
    refine G_zret rfl (Or.inl rfl) (Nat.le_refl _) (Nat.le_refl _) dX12_isHeld_47 ?_
    cases h
    exact ⟨rfl, rfl, rfl, rfl, rfl⟩
  · replace h := git c2 h
    refine G_aload_n dX12_isHeld_10 rfl rfl ?_
    refine G_getR fl_X12_118 sl_149 sk_149 rfl (rr_149_53 _) dX12_isHeld_11 ?_
    refine G_iload_n dX12_isHeld_14 rfl rfl ?_
    obtain ⟨b3, h⟩ := gck_some h
    refine G_iald sl_183 ss_183 (gin_in b3) dX12_isHeld_15 ?_
    refine G_iconst (v := -1) dX12_isHeld_16 rfl ?_
    refine G_icmp_ne 46 dX12_isHeld_17 (by decide) (fun c4 => ?_) (fun c4 => ?_)
    · replace h := gif c4 h
      refine G_iconst (v := 0) dX12_isHeld_46 rfl ?_
      refine G_zret rfl (Or.inl rfl) (Nat.le_refl _) (Nat.le_refl _) dX12_isHeld_47 ?_
      cases h
      exact ⟨rfl, rfl, rfl, rfl, rfl⟩
    · replace h := git c4 h
      refine G_aload_n dX12_isHeld_20 rfl rfl ?_
      refine G_aload_n dX12_isHeld_21 rfl rfl ?_
      refine G_getR fl_X12_42 sl_149 sk_149 rfl (rr_149_17 _) dX12_isHeld_22 ?_
      refine G_aload_n dX12_isHeld_25 rfl rfl ?_
      refine G_getR fl_X12_94 sl_149 sk_149 rfl (rr_149_45 _) dX12_isHeld_26 ?_
      refine G_iload_n dX12_isHeld_29 rfl rfl ?_
      obtain ⟨b5, h⟩ := gck_some h
      refine G_iald sl_175 ss_175 (gin_in b5) dX12_isHeld_30 ?_
      obtain ⟨b6, h⟩ := gck_some h
      refine G_iald sl_158 ss_158 (gin_in b6) dX12_isHeld_31 ?_
      refine G_aload_n dX12_isHeld_32 rfl rfl ?_
      refine G_getI fl_X12_13 sl_149 sk_149 rfl dX12_isHeld_33 ?_
      obtain ⟨r7, hr8, h⟩ := gB_some h
      refine G_cV (mj := gX12_isDead) (As := [.int (I 158 ((I 175 (x1).toNatClampNeg)).toNatClampNeg), .int (I 149 2)]) (rest := []) ml_X12_336 vX12_isDead sl_149 sk_149 (by decide) rfl rfl rfl (Nat.le_of_ble_eq_true rfl) (by decide) (Nat.le_refl _) (Nat.le_refl _) dX12_isHeld_36 (q_X12_isDead hr8) ?_
      refine G_if_ne 46 dX12_isHeld_39 (by decide) (fun c9 => ?_) (fun c9 => ?_)
      · replace h := gif c9 h
        refine G_iconst (v := 0) dX12_isHeld_46 rfl ?_
        refine G_zret rfl (Or.inl rfl) (Nat.le_refl _) (Nat.le_refl _) dX12_isHeld_47 ?_
        cases h
        exact ⟨rfl, rfl, rfl, rfl, rfl⟩
      · replace h := git c9 h
        refine G_iconst (v := 1) dX12_isHeld_42 rfl ?_
        refine G_goto 47 dX12_isHeld_43 (by decide) ?_
        refine G_zret rfl (Or.inr rfl) (Nat.le_refl _) (Nat.le_refl _) dX12_isHeld_47 ?_
        cases h
        exact ⟨rfl, rfl, rfl, rfl, rfl⟩
def p_X12_tenantsOf_4 (I : gIt) (x1 : Int32) : Nat → Int32 → Int32 → Option Int32
  | 0, _, _ => none
  | n + 1, x2, x3 =>
    if (I 149 5) ≤ x3 then
    some x2
    else
    gB (p_X12_isHeld I x3 x1) fun r2 =>
    if r2 = 0 then
    gL ((x2 ||| (0 : Int32))) fun z5 =>
    p_X12_tenantsOf_4 I x1 n z5 (x3 + (1 : Int32))
    else
    gck (gin x3 40) (
    gck (gin (I 175 (x3).toNatClampNeg) 10) (
    gL ((x2 ||| (gshl (1 : Int32) (I 158 ((I 175 (x3).toNatClampNeg)).toNatClampNeg)))) fun z8 =>
    p_X12_tenantsOf_4 I x1 n z8 (x3 + (1 : Int32))))
def p_X12_tenantsOf (I : gIt) (x1 : Int32) : Option Int32 :=
  p_X12_tenantsOf_4 I x1 gFu (0 : Int32) (0 : Int32)
set_option maxRecDepth 20000 in
theorem q_X12_tenantsOf_4 {l : Launch} {v : Int32} {J : gJt} {w : Bool} {I : gIt} {x1 : Int32} : ∀ (n : Nat) (x2 : Int32) (x3 : Int32), p_X12_tenantsOf_4 I x1 n x2 x3 = some v → G l gX12_tenantsOf 4 0 0 (fun v' S' I' J' R' => v' = some (.int v) ∧ S' = gS0 ∧ I' = I ∧ J' = J ∧ R' = gR0 w) 0 0 4 [some (.ref 149), some (.int x1), some (.int x2), some (.int x3)] [] gS0 I J (gR0 w) := by
  intro n
  induction n with
  | zero => intro _ _ h; cases h
  | succ n ih =>
    intro x2 x3 h
    rw [p_X12_tenantsOf_4] at h
    refine G_iload_n dX12_tenantsOf_4 rfl rfl ?_
    refine G_aload_n dX12_tenantsOf_5 rfl rfl ?_
    refine G_getI fl_X12_368 sl_149 sk_149 rfl dX12_tenantsOf_6 ?_
    refine G_icmp_ge 47 dX12_tenantsOf_9 (by decide) (fun c1 => ?_) (fun c1 => ?_)
    · replace h := git c1 h
      refine G_iload_n dX12_tenantsOf_47 rfl rfl ?_
      refine G_iret rfl (Nat.le_refl _) (Nat.le_refl _) dX12_tenantsOf_48 ?_
      cases h
      exact ⟨rfl, rfl, rfl, rfl, rfl⟩
    · replace h := gif c1 h
      refine G_iload_n dX12_tenantsOf_12 rfl rfl ?_
      refine G_aload_n dX12_tenantsOf_13 rfl rfl ?_
      refine G_iload_n dX12_tenantsOf_14 rfl rfl ?_
      refine G_iload_n dX12_tenantsOf_15 rfl rfl ?_
      obtain ⟨r2, hr3, h⟩ := gB_some h
      refine G_cV (mj := gX12_isHeld) (As := [.int x3, .int x1]) (rest := [.int x2]) ml_X12_443 vX12_isHeld sl_149 sk_149 (by decide) rfl rfl rfl (Nat.le_of_ble_eq_true rfl) (by decide) (Nat.le_refl _) (Nat.le_refl _) dX12_tenantsOf_16 (q_X12_isHeld hr3) ?_
      refine G_if_eq 38 dX12_tenantsOf_19 (by decide) (fun c4 => ?_) (fun c4 => ?_)
      · replace h := git c4 h
        refine G_iconst (v := 0) dX12_tenantsOf_38 rfl ?_
        refine G_ior dX12_tenantsOf_39 ?_
        refine G_nI fun z5 ez5 => ?_
        replace h := gL_some ez5 h
        refine S_istore_n [some (.ref 149), some (.int x1), some (.int z5), some (.int x3)] dX12_tenantsOf_40 rfl (by decide) rfl ?_
        refine S_iinc (v := (1 : Int32)) [some (.ref 149), some (.int x1), some (.int z5), some (.int (x3 + (1 : Int32)))] dX12_tenantsOf_41 rfl rfl (by decide) rfl ?_
        refine G_goto 4 dX12_tenantsOf_44 (by decide) ?_
        exact ih _ _ h
      · replace h := gif c4 h
        refine G_iconst (v := 1) dX12_tenantsOf_22 rfl ?_
        refine G_aload_n dX12_tenantsOf_23 rfl rfl ?_
        refine G_getR fl_X12_42 sl_149 sk_149 rfl (rr_149_17 _) dX12_tenantsOf_24 ?_
        refine G_aload_n dX12_tenantsOf_27 rfl rfl ?_
        refine G_getR fl_X12_94 sl_149 sk_149 rfl (rr_149_45 _) dX12_tenantsOf_28 ?_
        refine G_iload_n dX12_tenantsOf_31 rfl rfl ?_
        obtain ⟨b6, h⟩ := gck_some h
        refine G_iald sl_175 ss_175 (gin_in b6) dX12_tenantsOf_32 ?_
        obtain ⟨b7, h⟩ := gck_some h
        refine G_iald sl_158 ss_158 (gin_in b7) dX12_tenantsOf_33 ?_
        refine G_shl dX12_tenantsOf_34 ?_
        refine G_goto 39 dX12_tenantsOf_35 (by decide) ?_
        refine G_ior dX12_tenantsOf_39 ?_
        refine G_nI fun z8 ez8 => ?_
        replace h := gL_some ez8 h
        refine S_istore_n [some (.ref 149), some (.int x1), some (.int z8), some (.int x3)] dX12_tenantsOf_40 rfl (by decide) rfl ?_
        refine S_iinc (v := (1 : Int32)) [some (.ref 149), some (.int x1), some (.int z8), some (.int (x3 + (1 : Int32)))] dX12_tenantsOf_41 rfl rfl (by decide) rfl ?_
        refine G_goto 4 dX12_tenantsOf_44 (by decide) ?_
        exact ih _ _ h
set_option maxRecDepth 20000 in
theorem q_X12_tenantsOf {l : Launch} {I : gIt} {J : gJt} {w : Bool} {x1 : Int32} {v : Int32} (h : p_X12_tenantsOf I x1 = some v) : Cn l gX12_tenantsOf 4 0 0 [.ref 149, .int x1] gS0 I J (gR0 w) (fun v' S' I' J' R' => v' = some (.int v) ∧ S' = gS0 ∧ I' = I ∧ J' = J ∧ R' = gR0 w) := by
  refine Cn.of [some (.ref 149), some (.int x1), none, none] (by decide) rfl (Nat.le_of_ble_eq_true rfl) ?_
  rw [p_X12_tenantsOf] at h
  refine G_iconst (v := 0) dX12_tenantsOf_0 rfl ?_
  refine S_istore_n [some (.ref 149), some (.int x1), some (.int (0 : Int32)), none] dX12_tenantsOf_1 rfl (by decide) rfl ?_
  refine G_iconst (v := 0) dX12_tenantsOf_2 rfl ?_
  refine S_istore_n [some (.ref 149), some (.int x1), some (.int (0 : Int32)), some (.int (0 : Int32))] dX12_tenantsOf_3 rfl (by decide) rfl ?_
  exact q_X12_tenantsOf_4   gFu _ _ h
def p_X12_livingOf_53 (I : gIt) (x1 : Int32) (x2 : Int32) : Nat → Int32 → Int32 → Option Int32
  | 0, _, _ => none
  | n + 1, x3, x4 =>
    if (I 149 3) ≤ x4 then
    some x3
    else
    gB (p_X12_tenantsOf I x1) fun r3 =>
    gB (p_X12_has (x2 &&& (r3 ^^^ (-1 : Int32))) x4) fun r5 =>
    if r5 = 0 then
    gL ((x3 ||| (0 : Int32))) fun z8 =>
    p_X12_livingOf_53 I x1 x2 n z8 (x4 + (1 : Int32))
    else
    gB (p_X12_isDead I x4 (I 149 2)) fun r9 =>
    if r9 = 0 then
    gL ((x3 ||| (gshl (1 : Int32) x4))) fun z13 =>
    p_X12_livingOf_53 I x1 x2 n z13 (x4 + (1 : Int32))
    else
    gL ((x3 ||| (0 : Int32))) fun z12 =>
    p_X12_livingOf_53 I x1 x2 n z12 (x4 + (1 : Int32))
def p_X12_livingOf_4 (I : gIt) (x1 : Int32) : Nat → Int32 → Int32 → Option Int32
  | 0, _, _ => none
  | n + 1, x2, x3 =>
    if (I 149 5) ≤ x3 then
    p_X12_livingOf_53 I x1 x2 gFu (0 : Int32) (0 : Int32)
    else
    gB (p_X12_isHeld I x3 x1) fun r14 =>
    if r14 = 0 then
    gL ((x2 ||| (0 : Int32))) fun z17 =>
    p_X12_livingOf_4 I x1 n z17 (x3 + (1 : Int32))
    else
    gck (gin x3 40) (
    gB (p_X12_namedSet I (I 175 (x3).toNatClampNeg) (I 149 2)) fun r19 =>
    gL ((x2 ||| r19)) fun z21 =>
    p_X12_livingOf_4 I x1 n z21 (x3 + (1 : Int32)))
def p_X12_livingOf (I : gIt) (x1 : Int32) : Option Int32 :=
  p_X12_livingOf_4 I x1 gFu (0 : Int32) (0 : Int32)
set_option maxRecDepth 20000 in
theorem q_X12_livingOf_53 {l : Launch} {v : Int32} {J : gJt} {w : Bool} {I : gIt} {x1 : Int32} {x2 : Int32} : ∀ (n : Nat) (x3 : Int32) (x4 : Int32), p_X12_livingOf_53 I x1 x2 n x3 x4 = some v → G l gX12_livingOf 7 0 0 (fun v' S' I' J' R' => v' = some (.int v) ∧ S' = gS0 ∧ I' = I ∧ J' = J ∧ R' = gR0 w) 0 0 53 [some (.ref 149), some (.int x1), some (.int x2), some (.int x3), some (.int x4)] [] gS0 I J (gR0 w) := by
  intro n
  induction n with
  | zero => intro _ _ h; cases h
  | succ n ih =>
    intro x3 x4 h
    rw [p_X12_livingOf_53] at h
    refine G_iload dX12_livingOf_53 rfl ?_
    refine G_aload_n dX12_livingOf_55 rfl rfl ?_
    refine G_getI fl_X12_160 sl_149 sk_149 rfl dX12_livingOf_56 ?_
    refine G_icmp_ge 109 dX12_livingOf_59 (by decide) (fun c2 => ?_) (fun c2 => ?_)
    · replace h := git c2 h
      refine G_iload_n dX12_livingOf_109 rfl rfl ?_
      refine G_iret rfl (Nat.le_refl _) (Nat.le_refl _) dX12_livingOf_110 ?_
      cases h
      exact ⟨rfl, rfl, rfl, rfl, rfl⟩
    · replace h := gif c2 h
      refine G_iload_n dX12_livingOf_62 rfl rfl ?_
      refine G_iload_n dX12_livingOf_63 rfl rfl ?_
      refine G_aload_n dX12_livingOf_64 rfl rfl ?_
      refine G_iload_n dX12_livingOf_65 rfl rfl ?_
      obtain ⟨r3, hr4, h⟩ := gB_some h
      refine G_cV (mj := gX12_tenantsOf) (As := [.int x1]) (rest := [.int x2, .int x3]) ml_X12_446 vX12_tenantsOf sl_149 sk_149 (by decide) rfl rfl rfl (Nat.le_of_ble_eq_true rfl) (by decide) (Nat.le_refl _) (Nat.le_refl _) dX12_livingOf_66 (q_X12_tenantsOf hr4) ?_
      refine G_iconst (v := -1) dX12_livingOf_69 rfl ?_
      refine G_ixor dX12_livingOf_70 ?_
      refine G_iand dX12_livingOf_71 ?_
      refine G_iload dX12_livingOf_72 rfl ?_
      obtain ⟨r5, hr6, h⟩ := gB_some h
      refine G_cS (mj := gX12_has) (As := [.int (x2 &&& (r3 ^^^ (-1 : Int32))), .int x4]) (rest := [.int x3]) ml_X12_320 vX12_has rfl rfl (Nat.le_of_ble_eq_true rfl) (by decide) (Nat.le_refl _) (Nat.le_refl _) dX12_livingOf_74 (q_X12_has hr6) ?_
      refine G_if_eq 100 dX12_livingOf_77 (by decide) (fun c7 => ?_) (fun c7 => ?_)
      · replace h := git c7 h
        refine G_iconst (v := 0) dX12_livingOf_100 rfl ?_
        refine G_ior dX12_livingOf_101 ?_
        refine G_nI fun z8 ez8 => ?_
        replace h := gL_some ez8 h
        refine S_istore_n [some (.ref 149), some (.int x1), some (.int x2), some (.int z8), some (.int x4)] dX12_livingOf_102 rfl (by decide) rfl ?_
        refine S_iinc (v := (1 : Int32)) [some (.ref 149), some (.int x1), some (.int x2), some (.int z8), some (.int (x4 + (1 : Int32)))] dX12_livingOf_103 rfl rfl (by decide) rfl ?_
        refine G_goto 53 dX12_livingOf_106 (by decide) ?_
        exact ih _ _ h
      · replace h := gif c7 h
        refine G_aload_n dX12_livingOf_80 rfl rfl ?_
        refine G_iload dX12_livingOf_81 rfl ?_
        refine G_aload_n dX12_livingOf_83 rfl rfl ?_
        refine G_getI fl_X12_13 sl_149 sk_149 rfl dX12_livingOf_84 ?_
        obtain ⟨r9, hr10, h⟩ := gB_some h
        refine G_cV (mj := gX12_isDead) (As := [.int x4, .int (I 149 2)]) (rest := [.int x3]) ml_X12_336 vX12_isDead sl_149 sk_149 (by decide) rfl rfl rfl (Nat.le_of_ble_eq_true rfl) (by decide) (Nat.le_refl _) (Nat.le_refl _) dX12_livingOf_87 (q_X12_isDead hr10) ?_
        refine G_if_ne 100 dX12_livingOf_90 (by decide) (fun c11 => ?_) (fun c11 => ?_)
        · replace h := gif c11 h
          refine G_iconst (v := 0) dX12_livingOf_100 rfl ?_
          refine G_ior dX12_livingOf_101 ?_
          refine G_nI fun z12 ez12 => ?_
          replace h := gL_some ez12 h
          refine S_istore_n [some (.ref 149), some (.int x1), some (.int x2), some (.int z12), some (.int x4)] dX12_livingOf_102 rfl (by decide) rfl ?_
          refine S_iinc (v := (1 : Int32)) [some (.ref 149), some (.int x1), some (.int x2), some (.int z12), some (.int (x4 + (1 : Int32)))] dX12_livingOf_103 rfl rfl (by decide) rfl ?_
          refine G_goto 53 dX12_livingOf_106 (by decide) ?_
          exact ih _ _ h
        · replace h := git c11 h
          refine G_iconst (v := 1) dX12_livingOf_93 rfl ?_
          refine G_iload dX12_livingOf_94 rfl ?_
          refine G_shl dX12_livingOf_96 ?_
          refine G_goto 101 dX12_livingOf_97 (by decide) ?_
          refine G_ior dX12_livingOf_101 ?_
          refine G_nI fun z13 ez13 => ?_
          replace h := gL_some ez13 h
          refine S_istore_n [some (.ref 149), some (.int x1), some (.int x2), some (.int z13), some (.int x4)] dX12_livingOf_102 rfl (by decide) rfl ?_
          refine S_iinc (v := (1 : Int32)) [some (.ref 149), some (.int x1), some (.int x2), some (.int z13), some (.int (x4 + (1 : Int32)))] dX12_livingOf_103 rfl rfl (by decide) rfl ?_
          refine G_goto 53 dX12_livingOf_106 (by decide) ?_
          exact ih _ _ h
set_option maxRecDepth 20000 in
theorem q_X12_livingOf_4 {l : Launch} {v : Int32} {J : gJt} {w : Bool} {I : gIt} {x1 : Int32} : ∀ (n : Nat) (x2 : Int32) (x3 : Int32), p_X12_livingOf_4 I x1 n x2 x3 = some v → G l gX12_livingOf 7 0 0 (fun v' S' I' J' R' => v' = some (.int v) ∧ S' = gS0 ∧ I' = I ∧ J' = J ∧ R' = gR0 w) 0 0 4 [some (.ref 149), some (.int x1), some (.int x2), some (.int x3), none] [] gS0 I J (gR0 w) := by
  intro n
  induction n with
  | zero => intro _ _ h; cases h
  | succ n ih =>
    intro x2 x3 h
    rw [p_X12_livingOf_4] at h
    refine G_iload_n dX12_livingOf_4 rfl rfl ?_
    refine G_aload_n dX12_livingOf_5 rfl rfl ?_
    refine G_getI fl_X12_368 sl_149 sk_149 rfl dX12_livingOf_6 ?_
    refine G_icmp_ge 48 dX12_livingOf_9 (by decide) (fun c1 => ?_) (fun c1 => ?_)
    · replace h := git c1 h
      refine G_iconst (v := 0) dX12_livingOf_48 rfl ?_
      refine S_istore_n [some (.ref 149), some (.int x1), some (.int x2), some (.int (0 : Int32)), none] dX12_livingOf_49 rfl (by decide) rfl ?_
      refine G_iconst (v := 0) dX12_livingOf_50 rfl ?_
      refine S_istore [some (.ref 149), some (.int x1), some (.int x2), some (.int (0 : Int32)), some (.int (0 : Int32))] dX12_livingOf_51 (by decide) rfl ?_
      exact q_X12_livingOf_53   gFu _ _ h
    · replace h := gif c1 h
      refine G_iload_n dX12_livingOf_12 rfl rfl ?_
      refine G_aload_n dX12_livingOf_13 rfl rfl ?_
      refine G_iload_n dX12_livingOf_14 rfl rfl ?_
      refine G_iload_n dX12_livingOf_15 rfl rfl ?_
      obtain ⟨r14, hr15, h⟩ := gB_some h
      refine G_cV (mj := gX12_isHeld) (As := [.int x3, .int x1]) (rest := [.int x2]) ml_X12_443 vX12_isHeld sl_149 sk_149 (by decide) rfl rfl rfl (Nat.le_of_ble_eq_true rfl) (by decide) (Nat.le_refl _) (Nat.le_refl _) dX12_livingOf_16 (q_X12_isHeld hr15) ?_
      refine G_if_eq 39 dX12_livingOf_19 (by decide) (fun c16 => ?_) (fun c16 => ?_)
      · replace h := git c16 h
        refine G_iconst (v := 0) dX12_livingOf_39 rfl ?_
        refine G_ior dX12_livingOf_40 ?_
        refine G_nI fun z17 ez17 => ?_
        replace h := gL_some ez17 h
        refine S_istore_n [some (.ref 149), some (.int x1), some (.int z17), some (.int x3), none] dX12_livingOf_41 rfl (by decide) rfl ?_
        refine S_iinc (v := (1 : Int32)) [some (.ref 149), some (.int x1), some (.int z17), some (.int (x3 + (1 : Int32))), none] dX12_livingOf_42 rfl rfl (by decide) rfl ?_
        refine G_goto 4 dX12_livingOf_45 (by decide) ?_
        exact ih _ _ h
      · replace h := gif c16 h
        refine G_aload_n dX12_livingOf_22 rfl rfl ?_
        refine G_aload_n dX12_livingOf_23 rfl rfl ?_
        refine G_getR fl_X12_94 sl_149 sk_149 rfl (rr_149_45 _) dX12_livingOf_24 ?_
        refine G_iload_n dX12_livingOf_27 rfl rfl ?_
        obtain ⟨b18, h⟩ := gck_some h
        refine G_iald sl_175 ss_175 (gin_in b18) dX12_livingOf_28 ?_
        refine G_aload_n dX12_livingOf_29 rfl rfl ?_
        refine G_getI fl_X12_13 sl_149 sk_149 rfl dX12_livingOf_30 ?_
        obtain ⟨r19, hr20, h⟩ := gB_some h
        refine G_cV (mj := gX12_namedSet) (As := [.int (I 175 (x3).toNatClampNeg), .int (I 149 2)]) (rest := [.int x2]) ml_X12_314 vX12_namedSet sl_149 sk_149 (by decide) rfl rfl rfl (Nat.le_of_ble_eq_true rfl) (by decide) (Nat.le_refl _) (Nat.le_refl _) dX12_livingOf_33 (q_X12_namedSet hr20) ?_
        refine G_goto 40 dX12_livingOf_36 (by decide) ?_
        refine G_ior dX12_livingOf_40 ?_
        refine G_nI fun z21 ez21 => ?_
        replace h := gL_some ez21 h
        refine S_istore_n [some (.ref 149), some (.int x1), some (.int z21), some (.int x3), none] dX12_livingOf_41 rfl (by decide) rfl ?_
        refine S_iinc (v := (1 : Int32)) [some (.ref 149), some (.int x1), some (.int z21), some (.int (x3 + (1 : Int32))), none] dX12_livingOf_42 rfl rfl (by decide) rfl ?_
        refine G_goto 4 dX12_livingOf_45 (by decide) ?_
        exact ih _ _ h
set_option maxRecDepth 20000 in
theorem q_X12_livingOf {l : Launch} {I : gIt} {J : gJt} {w : Bool} {x1 : Int32} {v : Int32} (h : p_X12_livingOf I x1 = some v) : Cn l gX12_livingOf 7 0 0 [.ref 149, .int x1] gS0 I J (gR0 w) (fun v' S' I' J' R' => v' = some (.int v) ∧ S' = gS0 ∧ I' = I ∧ J' = J ∧ R' = gR0 w) := by
  refine Cn.of [some (.ref 149), some (.int x1), none, none, none] (by decide) rfl (Nat.le_of_ble_eq_true rfl) ?_
  rw [p_X12_livingOf] at h
  refine G_iconst (v := 0) dX12_livingOf_0 rfl ?_
  refine S_istore_n [some (.ref 149), some (.int x1), some (.int (0 : Int32)), none, none] dX12_livingOf_1 rfl (by decide) rfl ?_
  refine G_iconst (v := 0) dX12_livingOf_2 rfl ?_
  refine S_istore_n [some (.ref 149), some (.int x1), some (.int (0 : Int32)), some (.int (0 : Int32)), none] dX12_livingOf_3 rfl (by decide) rfl ?_
  exact q_X12_livingOf_4   gFu _ _ h
def p_X12_bringsOf_5 (x1 : Int32) (x2 : Int32) : Nat → gIt → Int64 → Int32 → Option (Int64 × gIt)
  | 0, _, _, _ => none
  | n + 1, I, y3, x5 =>
    if (I 149 5) ≤ x5 then
    some (y3, I)
    else
    gB (p_X12_isHeld I x5 x1) fun r2 =>
    if r2 = 0 then
    p_X12_bringsOf_5 x1 x2 n I y3 (x5 + (1 : Int32))
    else
    gck (gin x5 40) (
    gck (gin x5 40) (
    gB (p_X12_namedSet I (I 175 (x5).toNatClampNeg) (I 149 2)) fun r7 =>
    gB (p_X12_lets I (I 175 (x5).toNatClampNeg) (x2 &&& r7)) fun r9 =>
    gck (gin x5 40) (
    gck (gin (r9 174 (x5).toNatClampNeg) 16) (
    gB (p_X12_partsOf r9 x5 (r9 149 2)) fun r13 =>
    gL ((y3 + (((Int32.toInt64 (r9 171 ((r9 174 (x5).toNatClampNeg)).toNatClampNeg)) * (Int32.toInt64 r13)) / (1000 : Int64)))) fun u16 =>
    p_X12_bringsOf_5 x1 x2 n r9 u16 (x5 + (1 : Int32))))))
def p_X12_bringsOf (I : gIt) (x1 : Int32) (x2 : Int32) : Option (Int64 × gIt) :=
  p_X12_bringsOf_5 x1 x2 gFu I (0 : Int64) (0 : Int32)
set_option maxRecDepth 20000 in
theorem q_X12_bringsOf_5 {l : Launch} {v : (Int64 × gIt)} {J : gJt} {w : Bool} {x1 : Int32} {x2 : Int32} : ∀ (n : Nat) (I : gIt) (y3 : Int64) (x5 : Int32), p_X12_bringsOf_5 x1 x2 n I y3 x5 = some v → G l gX12_bringsOf 8 0 0 (fun v' S' I' J' R' => v' = some (.long v.1) ∧ S' = gS0 ∧ I' = v.2 ∧ J' = J ∧ R' = gR0 w) 0 0 5 [some (.ref 149), some (.int x1), some (.int x2), some (.long y3), none, some (.int x5)] [] gS0 I J (gR0 w) := by
  intro n
  induction n with
  | zero => intro _ _ _ h; cases h
  | succ n ih =>
    intro I y3 x5 h
    rw [p_X12_bringsOf_5] at h
    refine G_iload dX12_bringsOf_5 rfl ?_
    refine G_aload_n dX12_bringsOf_7 rfl rfl ?_
    refine G_getI fl_X12_368 sl_149 sk_149 rfl dX12_bringsOf_8 ?_
    refine G_icmp_ge 93 dX12_bringsOf_11 (by decide) (fun c1 => ?_) (fun c1 => ?_)
    · replace h := git c1 h
      refine G_lload_n dX12_bringsOf_93 rfl rfl ?_
      refine G_lret rfl (Nat.le_refl _) (Nat.le_refl _) dX12_bringsOf_94 ?_
      cases h
      exact ⟨rfl, rfl, rfl, rfl, rfl⟩
    · replace h := gif c1 h
      refine G_aload_n dX12_bringsOf_14 rfl rfl ?_
      refine G_iload dX12_bringsOf_15 rfl ?_
      refine G_iload_n dX12_bringsOf_17 rfl rfl ?_
      obtain ⟨r2, hr3, h⟩ := gB_some h
      refine G_cV (mj := gX12_isHeld) (As := [.int x5, .int x1]) (rest := []) ml_X12_443 vX12_isHeld sl_149 sk_149 (by decide) rfl rfl rfl (Nat.le_of_ble_eq_true rfl) (by decide) (Nat.le_refl _) (Nat.le_refl _) dX12_bringsOf_18 (q_X12_isHeld hr3) ?_
      refine G_if_ne 27 dX12_bringsOf_21 (by decide) (fun c4 => ?_) (fun c4 => ?_)
      · replace h := gif c4 h
        refine G_aload_n dX12_bringsOf_27 rfl rfl ?_
        refine G_aload_n dX12_bringsOf_28 rfl rfl ?_
        refine G_getR fl_X12_94 sl_149 sk_149 rfl (rr_149_45 _) dX12_bringsOf_29 ?_
        refine G_iload dX12_bringsOf_32 rfl ?_
        obtain ⟨b5, h⟩ := gck_some h
        refine G_iald sl_175 ss_175 (gin_in b5) dX12_bringsOf_34 ?_
        refine G_iload_n dX12_bringsOf_35 rfl rfl ?_
        refine G_aload_n dX12_bringsOf_36 rfl rfl ?_
        refine G_aload_n dX12_bringsOf_37 rfl rfl ?_
        refine G_getR fl_X12_94 sl_149 sk_149 rfl (rr_149_45 _) dX12_bringsOf_38 ?_
        refine G_iload dX12_bringsOf_41 rfl ?_
        obtain ⟨b6, h⟩ := gck_some h
        refine G_iald sl_175 ss_175 (gin_in b6) dX12_bringsOf_43 ?_
        refine G_aload_n dX12_bringsOf_44 rfl rfl ?_
        refine G_getI fl_X12_13 sl_149 sk_149 rfl dX12_bringsOf_45 ?_
        obtain ⟨r7, hr8, h⟩ := gB_some h
        refine G_cV (mj := gX12_namedSet) (As := [.int (I 175 (x5).toNatClampNeg), .int (I 149 2)]) (rest := [.int x2, .int (I 175 (x5).toNatClampNeg), .ref 149]) ml_X12_314 vX12_namedSet sl_149 sk_149 (by decide) rfl rfl rfl (Nat.le_of_ble_eq_true rfl) (by decide) (Nat.le_refl _) (Nat.le_refl _) dX12_bringsOf_48 (q_X12_namedSet hr8) ?_
        refine G_iand dX12_bringsOf_51 ?_
        obtain ⟨r9, hr10, h⟩ := gB_some h
        refine G_cV (mj := gX12_lets) (As := [.int (I 175 (x5).toNatClampNeg), .int (x2 &&& r7)]) (rest := []) ml_X12_333 vX12_lets sl_149 sk_149 (by decide) rfl rfl rfl (Nat.le_of_ble_eq_true rfl) (by decide) (Nat.le_refl _) (Nat.le_refl _) dX12_bringsOf_52 (q_X12_lets hr10) ?_
        refine G_lload_n dX12_bringsOf_55 rfl rfl ?_
        refine G_aload_n dX12_bringsOf_56 rfl rfl ?_
        refine G_getR fl_X12_82 sl_149 sk_149 rfl (rr_149_38 _) dX12_bringsOf_57 ?_
        refine G_aload_n dX12_bringsOf_60 rfl rfl ?_
        refine G_getR fl_X12_91 sl_149 sk_149 rfl (rr_149_44 _) dX12_bringsOf_61 ?_
        refine G_iload dX12_bringsOf_64 rfl ?_
        obtain ⟨b11, h⟩ := gck_some h
        refine G_iald sl_174 ss_174 (gin_in b11) dX12_bringsOf_66 ?_
        obtain ⟨b12, h⟩ := gck_some h
        refine G_iald sl_171 ss_171 (gin_in b12) dX12_bringsOf_67 ?_
        refine G_i2l dX12_bringsOf_68 ?_
        refine G_aload_n dX12_bringsOf_69 rfl rfl ?_
        refine G_iload dX12_bringsOf_70 rfl ?_
        refine G_aload_n dX12_bringsOf_72 rfl rfl ?_
        refine G_getI fl_X12_13 sl_149 sk_149 rfl dX12_bringsOf_73 ?_
        obtain ⟨r13, hr14, h⟩ := gB_some h
        refine G_cV (mj := gX12_partsOf) (As := [.int x5, .int (r9 149 2)]) (rest := [.long (Int32.toInt64 (r9 171 ((r9 174 (x5).toNatClampNeg)).toNatClampNeg)), .long y3]) ml_X12_440 vX12_partsOf sl_149 sk_149 (by decide) rfl rfl rfl (Nat.le_of_ble_eq_true rfl) (by decide) (Nat.le_refl _) (Nat.le_refl _) dX12_bringsOf_76 (q_X12_partsOf hr14) ?_
        refine G_i2l dX12_bringsOf_79 ?_
        refine G_lmul dX12_bringsOf_80 ?_
        refine G_ldc2 dX12_bringsOf_81 kc_X12_371 ?_
        refine G_ldiv dX12_bringsOf_84 (by decide) ?_
        refine G_ladd dX12_bringsOf_85 ?_
        refine G_nJ fun u16 eu16 => ?_
        replace h := gL_some eu16 h
        refine S_lstore_n [some (.ref 149), some (.int x1), some (.int x2), some (.long u16), none, some (.int x5)] dX12_bringsOf_86 rfl (by decide) rfl ?_
        refine S_iinc (v := (1 : Int32)) [some (.ref 149), some (.int x1), some (.int x2), some (.long u16), none, some (.int (x5 + (1 : Int32)))] dX12_bringsOf_87 rfl rfl (by decide) rfl ?_
        refine G_goto 5 dX12_bringsOf_90 (by decide) ?_
        exact ih _ _ _ h
      · replace h := git c4 h
        refine G_goto 87 dX12_bringsOf_24 (by decide) ?_
        refine S_iinc (v := (1 : Int32)) [some (.ref 149), some (.int x1), some (.int x2), some (.long y3), none, some (.int (x5 + (1 : Int32)))] dX12_bringsOf_87 rfl rfl (by decide) rfl ?_
        refine G_goto 5 dX12_bringsOf_90 (by decide) ?_
        exact ih _ _ _ h
set_option maxRecDepth 20000 in
theorem q_X12_bringsOf {l : Launch} {I : gIt} {J : gJt} {w : Bool} {x1 : Int32} {x2 : Int32} {v : (Int64 × gIt)} (h : p_X12_bringsOf I x1 x2 = some v) : Cn l gX12_bringsOf 8 0 0 [.ref 149, .int x1, .int x2] gS0 I J (gR0 w) (fun v' S' I' J' R' => v' = some (.long v.1) ∧ S' = gS0 ∧ I' = v.2 ∧ J' = J ∧ R' = gR0 w) := by
  refine Cn.of [some (.ref 149), some (.int x1), some (.int x2), none, none, none] (by decide) rfl (Nat.le_of_ble_eq_true rfl) ?_
  rw [p_X12_bringsOf] at h
  refine G_lconst (v := 0) dX12_bringsOf_0 rfl ?_
  refine S_lstore_n [some (.ref 149), some (.int x1), some (.int x2), some (.long (0 : Int64)), none, none] dX12_bringsOf_1 rfl (by decide) rfl ?_
  refine G_iconst (v := 0) dX12_bringsOf_2 rfl ?_
  refine S_istore [some (.ref 149), some (.int x1), some (.int x2), some (.long (0 : Int64)), none, some (.int (0 : Int32))] dX12_bringsOf_3 (by decide) rfl ?_
  exact q_X12_bringsOf_5   gFu _ _ _ h
def p_X12_holds_138 (x1 : Int32) (x2 : Int32) (x3 : Int32) (x4 : Int32) (x5 : Int32) : Nat → gIt → Int64 → Int32 → Int32 → Int32 → Option (Int32 × gIt)
  | 0, _, _, _, _, _ => none
  | n + 1, I, y6, x8, x9, x10 =>
    if x10 = 0 then
    if x2 = (2 : Int32) then
    some ((Int64.toInt32 y6), I)
    else
    some (x8, I)
    else
    gB (p_X12_bringsOf I x1 x9) fun r16 =>
    gB (α := Int32) (
    if (lg_cmp y6 (-1 : Int64)) = 0 then
    some (1 : Int32)
    else
    if 0 ≤ (lg_cmp r16.1 y6) then
    if (lg_cmp r16.1 y6) = 0 then
    some (x8 + (1 : Int32))
    else
    some x8
    else
    some (1 : Int32)) fun ph18 =>
    gB (α := Int64) (
    if (lg_cmp y6 (-1 : Int64)) = 0 then
    some r16.1
    else
    if 0 ≤ (lg_cmp r16.1 y6) then
    some y6
    else
    some r16.1) fun ph22 =>
    gL (((x9 - x5) &&& x5)) fun z26 =>
    if z26 = 0 then
    p_X12_holds_138 x1 x2 x3 x4 x5 n r16.2 ph22 ph18 z26 (0 : Int32)
    else
    p_X12_holds_138 x1 x2 x3 x4 x5 n r16.2 ph22 ph18 z26 (1 : Int32)
def p_X12_holds_30 (I : gIt) (x1 : Int32) (x2 : Int32) : Nat → Int32 → Int32 → Int32 → Option (Int32 × gIt)
  | 0, _, _, _ => none
  | n + 1, x3, x4, x5 =>
    if (I 149 5) ≤ x5 then
    if (2 : Int32) ≤ x2 then
    gB (p_X12_livingOf I x1) fun r9 =>
    gB (p_X12_sizeOf r9) fun r11 =>
    if r11 ≤ (8 : Int32) then
    p_X12_holds_138 x1 x2 x3 x4 r9 gFu I (-1 : Int64) (0 : Int32) (0 : Int32) (1 : Int32)
    else
    some ((-1 : Int32), I)
    else
    if x2 = 0 then
    some (x3, I)
    else
    some (x4, I)
    else
    gB (p_X12_isHeld I x5 x1) fun r34 =>
    gB (α := Int32) (
    if r34 = 0 then
    some (0 : Int32)
    else
    some (1 : Int32)) fun ph36 =>
    gL ((x3 + ph36)) fun z40 =>
    gB (p_X12_isHeld I x5 x1) fun r41 =>
    if r41 = 0 then
    gL ((x4 + (0 : Int32))) fun z44 =>
    p_X12_holds_30 I x1 x2 n z40 z44 (x5 + (1 : Int32))
    else
    gck (gin x5 40) (
    gL ((x4 + (I 176 (x5).toNatClampNeg))) fun z46 =>
    p_X12_holds_30 I x1 x2 n z40 z46 (x5 + (1 : Int32)))
def p_X12_holds (I : gIt) (x1 : Int32) (x2 : Int32) : Option (Int32 × gIt) :=
  gB (p_X12_isPerson I x1) fun r1 =>
  if r1 = 0 then
  some ((-1 : Int32), I)
  else
  gB (p_X12_lies (Int32.toInt64 x2) (0 : Int64) (3 : Int64)) fun r4 =>
  if r4 = 0 then
  some ((-1 : Int32), I)
  else
  p_X12_holds_30 I x1 x2 gFu (0 : Int32) (0 : Int32) (0 : Int32)
set_option maxRecDepth 20000 in
theorem q_X12_holds_138 {l : Launch} {v : (Int32 × gIt)} {J : gJt} {w : Bool} {x1 : Int32} {x2 : Int32} {x3 : Int32} {x4 : Int32} {x5 : Int32} : ∀ (n : Nat) (I : gIt) (y6 : Int64) (x8 : Int32) (x9 : Int32) (x10 : Int32), p_X12_holds_138 x1 x2 x3 x4 x5 n I y6 x8 x9 x10 = some v → G l gX12_holds 9 0 0 (fun v' S' I' J' R' => v' = some (.int v.1) ∧ S' = gS0 ∧ I' = v.2 ∧ J' = J ∧ R' = gR0 w) 0 0 138 [some (.ref 149), some (.int x1), some (.int x2), some (.int x3), some (.int x4), some (.int x5), some (.long y6), none, some (.int x8), some (.int x9), some (.int x10), none, none] [] gS0 I J (gR0 w) := by
  intro n
  induction n with
  | zero => intro _ _ _ _ _ h; cases h
  | succ n ih =>
    intro I y6 x8 x9 x10 h
    rw [p_X12_holds_138] at h
    refine G_iload dX12_holds_138 rfl ?_
    refine G_if_eq 243 dX12_holds_140 (by decide) (fun c14 => ?_) (fun c14 => ?_)
    · replace h := git c14 h
      refine G_iload_n dX12_holds_243 rfl rfl ?_
      refine G_iconst (v := 2) dX12_holds_244 rfl ?_
      refine G_icmp_ne 254 dX12_holds_245 (by decide) (fun c15 => ?_) (fun c15 => ?_)
      · replace h := gif c15 h
        refine G_iload dX12_holds_254 rfl ?_
        refine G_iret rfl (Nat.le_refl _) (Nat.le_refl _) dX12_holds_256 ?_
        cases h
        exact ⟨rfl, rfl, rfl, rfl, rfl⟩
      · replace h := git c15 h
        refine G_lload dX12_holds_248 rfl ?_
        refine G_l2i dX12_holds_250 ?_
        refine G_goto 256 dX12_holds_251 (by decide) ?_
        refine G_iret rfl (Nat.le_refl _) (Nat.le_refl _) dX12_holds_256 ?_
        cases h
        exact ⟨rfl, rfl, rfl, rfl, rfl⟩
    · replace h := gif c14 h
      refine G_aload_n dX12_holds_143 rfl rfl ?_
      refine G_iload_n dX12_holds_144 rfl rfl ?_
      refine G_iload dX12_holds_145 rfl ?_
      obtain ⟨r16, hr17, h⟩ := gB_some h
      refine G_cV (mj := gX12_bringsOf) (As := [.int x1, .int x9]) (rest := []) ml_X12_452 vX12_bringsOf sl_149 sk_149 (by decide) rfl rfl rfl (Nat.le_of_ble_eq_true rfl) (by decide) (Nat.le_refl _) (Nat.le_refl _) dX12_holds_147 (q_X12_bringsOf hr17) ?_
      refine S_lstore [some (.ref 149), some (.int x1), some (.int x2), some (.int x3), some (.int x4), some (.int x5), some (.long y6), none, some (.int x8), some (.int x9), some (.int x10), some (.long r16.1), none] dX12_holds_150 (by decide) rfl ?_
      refine G_lload dX12_holds_152 rfl ?_
      refine G_ldc2 dX12_holds_154 kc_X12_353 ?_
      refine G_lcmp dX12_holds_157 ?_
      obtain ⟨ph18, t19, r20⟩ := gB_some h
      have jn21 : G l gX12_holds 9 0 0 (fun v' S' I' J' R' => v' = some (.int v.1) ∧ S' = gS0 ∧ I' = v.2 ∧ J' = J ∧ R' = gR0 w) 0 0 190 [some (.ref 149), some (.int x1), some (.int x2), some (.int x3), some (.int x4), some (.int x5), some (.long y6), none, some (.int x8), some (.int x9), some (.int x10), some (.long r16.1), none] [.int ph18] gS0 r16.2 J (gR0 w) := by
        refine S_istore [some (.ref 149), some (.int x1), some (.int x2), some (.int x3), some (.int x4), some (.int x5), some (.long y6), none, some (.int ph18), some (.int x9), some (.int x10), some (.long r16.1), none] dX12_holds_190 (by decide) rfl ?_
        refine G_lload dX12_holds_192 rfl ?_
        refine G_ldc2 dX12_holds_194 kc_X12_353 ?_
        refine G_lcmp dX12_holds_197 ?_
        obtain ⟨ph22, t23, r24⟩ := gB_some r20
        have jn25 : G l gX12_holds 9 0 0 (fun v' S' I' J' R' => v' = some (.int v.1) ∧ S' = gS0 ∧ I' = v.2 ∧ J' = J ∧ R' = gR0 w) 0 0 216 [some (.ref 149), some (.int x1), some (.int x2), some (.int x3), some (.int x4), some (.int x5), some (.long y6), none, some (.int ph18), some (.int x9), some (.int x10), some (.long r16.1), none] [.long ph22] gS0 r16.2 J (gR0 w) := by
          refine S_lstore [some (.ref 149), some (.int x1), some (.int x2), some (.int x3), some (.int x4), some (.int x5), some (.long ph22), none, some (.int ph18), some (.int x9), some (.int x10), some (.long r16.1), none] dX12_holds_216 (by decide) rfl ?_
          refine G_iload dX12_holds_218 rfl ?_
          refine G_iload dX12_holds_220 rfl ?_
          refine G_isub dX12_holds_222 ?_
          refine G_iload dX12_holds_223 rfl ?_
          refine G_iand dX12_holds_225 ?_
          refine G_nI fun z26 ez26 => ?_
          replace r24 := gL_some ez26 r24
          refine S_istore [some (.ref 149), some (.int x1), some (.int x2), some (.int x3), some (.int x4), some (.int x5), some (.long ph22), none, some (.int ph18), some (.int z26), some (.int x10), some (.long r16.1), none] dX12_holds_226 (by decide) rfl ?_
          refine G_iload dX12_holds_228 rfl ?_
          refine G_if_eq 237 dX12_holds_230 (by decide) (fun c27 => ?_) (fun c27 => ?_)
          · replace r24 := git c27 r24
            refine G_iconst (v := 0) dX12_holds_237 rfl ?_
            refine S_istore [some (.ref 149), some (.int x1), some (.int x2), some (.int x3), some (.int x4), some (.int x5), some (.long ph22), none, some (.int ph18), some (.int z26), some (.int (0 : Int32)), some (.long r16.1), none] dX12_holds_238 (by decide) rfl ?_
            refine G_goto 138 dX12_holds_240 (by decide) ?_
            refine G_sub [some (.ref 149), some (.int x1), some (.int x2), some (.int x3), some (.int x4), some (.int x5), some (.long ph22), none, some (.int ph18), some (.int z26), some (.int (0 : Int32)), none, none] ⟨rfl, rfl, rfl, rfl, rfl, rfl, rfl, rfl, rfl, rfl, trivial⟩ ?_
            exact ih _ _ _ _ _ r24
          · replace r24 := gif c27 r24
            refine G_iconst (v := 1) dX12_holds_233 rfl ?_
            refine G_goto 238 dX12_holds_234 (by decide) ?_
            refine S_istore [some (.ref 149), some (.int x1), some (.int x2), some (.int x3), some (.int x4), some (.int x5), some (.long ph22), none, some (.int ph18), some (.int z26), some (.int (1 : Int32)), some (.long r16.1), none] dX12_holds_238 (by decide) rfl ?_
            refine G_goto 138 dX12_holds_240 (by decide) ?_
            refine G_sub [some (.ref 149), some (.int x1), some (.int x2), some (.int x3), some (.int x4), some (.int x5), some (.long ph22), none, some (.int ph18), some (.int z26), some (.int (1 : Int32)), none, none] ⟨rfl, rfl, rfl, rfl, rfl, rfl, rfl, rfl, rfl, rfl, trivial⟩ ?_
            exact ih _ _ _ _ _ r24
        refine G_if_eq 209 dX12_holds_198 (by decide) (fun c28 => ?_) (fun c28 => ?_)
        · replace t23 := git c28 t23
          refine G_lload dX12_holds_209 rfl ?_
          refine G_goto 216 dX12_holds_211 (by decide) ?_
          cases t23
          exact jn25
        · replace t23 := gif c28 t23
          refine G_lload dX12_holds_201 rfl ?_
          refine G_lload dX12_holds_203 rfl ?_
          refine G_lcmp dX12_holds_205 ?_
          refine G_if_ge 214 dX12_holds_206 (by decide) (fun c29 => ?_) (fun c29 => ?_)
          · replace t23 := git c29 t23
            refine G_lload dX12_holds_214 rfl ?_
            cases t23
            exact jn25
          · replace t23 := gif c29 t23
            refine G_lload dX12_holds_209 rfl ?_
            refine G_goto 216 dX12_holds_211 (by decide) ?_
            cases t23
            exact jn25
      refine G_if_eq 169 dX12_holds_158 (by decide) (fun c30 => ?_) (fun c30 => ?_)
      · replace t19 := git c30 t19
        refine G_iconst (v := 1) dX12_holds_169 rfl ?_
        refine G_goto 190 dX12_holds_170 (by decide) ?_
        cases t19
        exact jn21
      · replace t19 := gif c30 t19
        refine G_lload dX12_holds_161 rfl ?_
        refine G_lload dX12_holds_163 rfl ?_
        refine G_lcmp dX12_holds_165 ?_
        refine G_if_ge 173 dX12_holds_166 (by decide) (fun c31 => ?_) (fun c31 => ?_)
        · replace t19 := git c31 t19
          refine G_lload dX12_holds_173 rfl ?_
          refine G_lload dX12_holds_175 rfl ?_
          refine G_lcmp dX12_holds_177 ?_
          refine G_if_ne 188 dX12_holds_178 (by decide) (fun c32 => ?_) (fun c32 => ?_)
          · replace t19 := gif c32 t19
            refine G_iload dX12_holds_188 rfl ?_
            cases t19
            exact jn21
          · replace t19 := git c32 t19
            refine G_iload dX12_holds_181 rfl ?_
            refine G_iconst (v := 1) dX12_holds_183 rfl ?_
            refine G_iadd dX12_holds_184 ?_
            refine G_goto 190 dX12_holds_185 (by decide) ?_
            cases t19
            exact jn21
        · replace t19 := gif c31 t19
          refine G_iconst (v := 1) dX12_holds_169 rfl ?_
          refine G_goto 190 dX12_holds_170 (by decide) ?_
          cases t19
          exact jn21
set_option maxRecDepth 20000 in
theorem q_X12_holds_30 {l : Launch} {v : (Int32 × gIt)} {J : gJt} {w : Bool} {I : gIt} {x1 : Int32} {x2 : Int32} : ∀ (n : Nat) (x3 : Int32) (x4 : Int32) (x5 : Int32), p_X12_holds_30 I x1 x2 n x3 x4 x5 = some v → G l gX12_holds 9 0 0 (fun v' S' I' J' R' => v' = some (.int v.1) ∧ S' = gS0 ∧ I' = v.2 ∧ J' = J ∧ R' = gR0 w) 0 0 30 [some (.ref 149), some (.int x1), some (.int x2), some (.int x3), some (.int x4), some (.int x5), none, none, none, none, none, none, none] [] gS0 I J (gR0 w) := by
  intro n
  induction n with
  | zero => intro _ _ _ h; cases h
  | succ n ih =>
    intro x3 x4 x5 h
    rw [p_X12_holds_30] at h
    refine G_iload dX12_holds_30 rfl ?_
    refine G_aload_n dX12_holds_32 rfl rfl ?_
    refine G_getI fl_X12_368 sl_149 sk_149 rfl dX12_holds_33 ?_
    refine G_icmp_ge 89 dX12_holds_36 (by decide) (fun c7 => ?_) (fun c7 => ?_)
    · replace h := git c7 h
      refine G_iload_n dX12_holds_89 rfl rfl ?_
      refine G_iconst (v := 2) dX12_holds_90 rfl ?_
      refine G_icmp_ge 105 dX12_holds_91 (by decide) (fun c8 => ?_) (fun c8 => ?_)
      · replace h := git c8 h
        refine G_aload_n dX12_holds_105 rfl rfl ?_
        refine G_iload_n dX12_holds_106 rfl rfl ?_
        obtain ⟨r9, hr10, h⟩ := gB_some h
        refine G_cV (mj := gX12_livingOf) (As := [.int x1]) (rest := []) ml_X12_449 vX12_livingOf sl_149 sk_149 (by decide) rfl rfl rfl (Nat.le_of_ble_eq_true rfl) (by decide) (Nat.le_refl _) (Nat.le_refl _) dX12_holds_107 (q_X12_livingOf hr10) ?_
        refine S_istore [some (.ref 149), some (.int x1), some (.int x2), some (.int x3), some (.int x4), some (.int r9), none, none, none, none, none, none, none] dX12_holds_110 (by decide) rfl ?_
        refine G_iload dX12_holds_112 rfl ?_
        obtain ⟨r11, hr12, h⟩ := gB_some h
        refine G_cS (mj := gX12_sizeOf) (As := [.int r9]) (rest := []) ml_X12_317 vX12_sizeOf rfl rfl (Nat.le_of_ble_eq_true rfl) (by decide) (Nat.le_refl _) (Nat.le_refl _) dX12_holds_114 (q_X12_sizeOf hr12) ?_
        refine G_bipush (v := 8) dX12_holds_117 rfl ?_
        refine G_icmp_le 124 dX12_holds_119 (by decide) (fun c13 => ?_) (fun c13 => ?_)
        · replace h := git c13 h
          refine G_ldc2 dX12_holds_124 kc_X12_353 ?_
          refine S_lstore [some (.ref 149), some (.int x1), some (.int x2), some (.int x3), some (.int x4), some (.int r9), some (.long (-1 : Int64)), none, none, none, none, none, none] dX12_holds_127 (by decide) rfl ?_
          refine G_iconst (v := 0) dX12_holds_129 rfl ?_
          refine S_istore [some (.ref 149), some (.int x1), some (.int x2), some (.int x3), some (.int x4), some (.int r9), some (.long (-1 : Int64)), none, some (.int (0 : Int32)), none, none, none, none] dX12_holds_130 (by decide) rfl ?_
          refine G_iconst (v := 0) dX12_holds_132 rfl ?_
          refine S_istore [some (.ref 149), some (.int x1), some (.int x2), some (.int x3), some (.int x4), some (.int r9), some (.long (-1 : Int64)), none, some (.int (0 : Int32)), some (.int (0 : Int32)), none, none, none] dX12_holds_133 (by decide) rfl ?_
          refine G_iconst (v := 1) dX12_holds_135 rfl ?_
          refine S_istore [some (.ref 149), some (.int x1), some (.int x2), some (.int x3), some (.int x4), some (.int r9), some (.long (-1 : Int64)), none, some (.int (0 : Int32)), some (.int (0 : Int32)), some (.int (1 : Int32)), none, none] dX12_holds_136 (by decide) rfl ?_
          exact q_X12_holds_138   gFu _ _ _ _ _ h
        · replace h := gif c13 h
          refine G_iconst (v := -1) dX12_holds_122 rfl ?_
          refine G_iret rfl (Nat.le_refl _) (Nat.le_refl _) dX12_holds_123 ?_
          cases h
          exact ⟨rfl, rfl, rfl, rfl, rfl⟩
      · replace h := gif c8 h
        refine G_iload_n dX12_holds_94 rfl rfl ?_
        refine G_if_ne 102 dX12_holds_95 (by decide) (fun c33 => ?_) (fun c33 => ?_)
        · replace h := gif c33 h
          refine G_iload dX12_holds_102 rfl ?_
          refine G_iret rfl (Nat.le_refl _) (Nat.le_refl _) dX12_holds_104 ?_
          cases h
          exact ⟨rfl, rfl, rfl, rfl, rfl⟩
        · replace h := git c33 h
          refine G_iload_n dX12_holds_98 rfl rfl ?_
          refine G_goto 104 dX12_holds_99 (by decide) ?_
          refine G_iret rfl (Nat.le_refl _) (Nat.le_refl _) dX12_holds_104 ?_
          cases h
          exact ⟨rfl, rfl, rfl, rfl, rfl⟩
    · replace h := gif c7 h
      refine G_iload_n dX12_holds_39 rfl rfl ?_
      refine G_aload_n dX12_holds_40 rfl rfl ?_
      refine G_iload dX12_holds_41 rfl ?_
      refine G_iload_n dX12_holds_43 rfl rfl ?_
      obtain ⟨r34, hr35, h⟩ := gB_some h
      refine G_cV (mj := gX12_isHeld) (As := [.int x5, .int x1]) (rest := [.int x3]) ml_X12_443 vX12_isHeld sl_149 sk_149 (by decide) rfl rfl rfl (Nat.le_of_ble_eq_true rfl) (by decide) (Nat.le_refl _) (Nat.le_refl _) dX12_holds_44 (q_X12_isHeld hr35) ?_
      obtain ⟨ph36, t37, r38⟩ := gB_some h
      have jn39 : G l gX12_holds 9 0 0 (fun v' S' I' J' R' => v' = some (.int v.1) ∧ S' = gS0 ∧ I' = v.2 ∧ J' = J ∧ R' = gR0 w) 0 0 55 [some (.ref 149), some (.int x1), some (.int x2), some (.int x3), some (.int x4), some (.int x5), none, none, none, none, none, none, none] [.int ph36, .int x3] gS0 I J (gR0 w) := by
        refine G_iadd dX12_holds_55 ?_
        refine G_nI fun z40 ez40 => ?_
        replace r38 := gL_some ez40 r38
        refine S_istore_n [some (.ref 149), some (.int x1), some (.int x2), some (.int z40), some (.int x4), some (.int x5), none, none, none, none, none, none, none] dX12_holds_56 rfl (by decide) rfl ?_
        refine G_iload dX12_holds_57 rfl ?_
        refine G_aload_n dX12_holds_59 rfl rfl ?_
        refine G_iload dX12_holds_60 rfl ?_
        refine G_iload_n dX12_holds_62 rfl rfl ?_
        obtain ⟨r41, hr42, r38⟩ := gB_some r38
        refine G_cV (mj := gX12_isHeld) (As := [.int x5, .int x1]) (rest := [.int x4]) ml_X12_443 vX12_isHeld sl_149 sk_149 (by decide) rfl rfl rfl (Nat.le_of_ble_eq_true rfl) (by decide) (Nat.le_refl _) (Nat.le_refl _) dX12_holds_63 (q_X12_isHeld hr42) ?_
        refine G_if_eq 79 dX12_holds_66 (by decide) (fun c43 => ?_) (fun c43 => ?_)
        · replace r38 := git c43 r38
          refine G_iconst (v := 0) dX12_holds_79 rfl ?_
          refine G_iadd dX12_holds_80 ?_
          refine G_nI fun z44 ez44 => ?_
          replace r38 := gL_some ez44 r38
          refine S_istore [some (.ref 149), some (.int x1), some (.int x2), some (.int z40), some (.int z44), some (.int x5), none, none, none, none, none, none, none] dX12_holds_81 (by decide) rfl ?_
          refine S_iinc (v := (1 : Int32)) [some (.ref 149), some (.int x1), some (.int x2), some (.int z40), some (.int z44), some (.int (x5 + (1 : Int32))), none, none, none, none, none, none, none] dX12_holds_83 rfl rfl (by decide) rfl ?_
          refine G_goto 30 dX12_holds_86 (by decide) ?_
          exact ih _ _ _ r38
        · replace r38 := gif c43 r38
          refine G_aload_n dX12_holds_69 rfl rfl ?_
          refine G_getR fl_X12_97 sl_149 sk_149 rfl (rr_149_46 _) dX12_holds_70 ?_
          refine G_iload dX12_holds_73 rfl ?_
          obtain ⟨b45, r38⟩ := gck_some r38
          refine G_iald sl_176 ss_176 (gin_in b45) dX12_holds_75 ?_
          refine G_goto 80 dX12_holds_76 (by decide) ?_
          refine G_iadd dX12_holds_80 ?_
          refine G_nI fun z46 ez46 => ?_
          replace r38 := gL_some ez46 r38
          refine S_istore [some (.ref 149), some (.int x1), some (.int x2), some (.int z40), some (.int z46), some (.int x5), none, none, none, none, none, none, none] dX12_holds_81 (by decide) rfl ?_
          refine S_iinc (v := (1 : Int32)) [some (.ref 149), some (.int x1), some (.int x2), some (.int z40), some (.int z46), some (.int (x5 + (1 : Int32))), none, none, none, none, none, none, none] dX12_holds_83 rfl rfl (by decide) rfl ?_
          refine G_goto 30 dX12_holds_86 (by decide) ?_
          exact ih _ _ _ r38
      refine G_if_eq 54 dX12_holds_47 (by decide) (fun c47 => ?_) (fun c47 => ?_)
      · replace t37 := git c47 t37
        refine G_iconst (v := 0) dX12_holds_54 rfl ?_
        cases t37
        exact jn39
      · replace t37 := gif c47 t37
        refine G_iconst (v := 1) dX12_holds_50 rfl ?_
        refine G_goto 55 dX12_holds_51 (by decide) ?_
        cases t37
        exact jn39
set_option maxRecDepth 20000 in
theorem q_X12_holds {l : Launch} {I : gIt} {J : gJt} {w : Bool} {x1 : Int32} {x2 : Int32} {v : (Int32 × gIt)} (h : p_X12_holds I x1 x2 = some v) : Cn l gX12_holds 9 0 0 [.ref 149, .int x1, .int x2] gS0 I J (gR0 w) (fun v' S' I' J' R' => v' = some (.int v.1) ∧ S' = gS0 ∧ I' = v.2 ∧ J' = J ∧ R' = gR0 w) := by
  refine Cn.of [some (.ref 149), some (.int x1), some (.int x2), none, none, none, none, none, none, none, none, none, none] (by decide) rfl (Nat.le_of_ble_eq_true rfl) ?_
  rw [p_X12_holds] at h
  refine G_aload_n dX12_holds_0 rfl rfl ?_
  refine G_iload_n dX12_holds_1 rfl rfl ?_
  obtain ⟨r1, hr2, h⟩ := gB_some h
  refine G_cV (mj := gX12_isPerson) (As := [.int x1]) (rest := []) ml_X12_165 vX12_isPerson sl_149 sk_149 (by decide) rfl rfl rfl (Nat.le_of_ble_eq_true rfl) (by decide) (Nat.le_refl _) (Nat.le_refl _) dX12_holds_2 (q_X12_isPerson hr2) ?_
  refine G_if_eq 20 dX12_holds_5 (by decide) (fun c3 => ?_) (fun c3 => ?_)
  · replace h := git c3 h
    refine G_iconst (v := -1) dX12_holds_20 rfl ?_
    refine G_iret rfl (Nat.le_refl _) (Nat.le_refl _) dX12_holds_21 ?_
    cases h
    exact ⟨rfl, rfl, rfl, rfl, rfl⟩
  · replace h := gif c3 h
    refine G_iload_n dX12_holds_8 rfl rfl ?_
    refine G_i2l dX12_holds_9 ?_
    refine G_lconst (v := 0) dX12_holds_10 rfl ?_
    refine G_ldc2 dX12_holds_11 kc_X12_169 ?_
    obtain ⟨r4, hr5, h⟩ := gB_some h
    refine G_cS (mj := gX12_lies) (As := [.long (Int32.toInt64 x2), .long (0 : Int64), .long (3 : Int64)]) (rest := []) ml_X12_156 vX12_lies rfl rfl (Nat.le_of_ble_eq_true rfl) (by decide) (Nat.le_refl _) (Nat.le_refl _) dX12_holds_14 (q_X12_lies hr5) ?_
    refine G_if_ne 22 dX12_holds_17 (by decide) (fun c6 => ?_) (fun c6 => ?_)
    · replace h := gif c6 h
      refine G_iconst (v := 0) dX12_holds_22 rfl ?_
      refine S_istore_n [some (.ref 149), some (.int x1), some (.int x2), some (.int (0 : Int32)), none, none, none, none, none, none, none, none, none] dX12_holds_23 rfl (by decide) rfl ?_
      refine G_iconst (v := 0) dX12_holds_24 rfl ?_
      refine S_istore [some (.ref 149), some (.int x1), some (.int x2), some (.int (0 : Int32)), some (.int (0 : Int32)), none, none, none, none, none, none, none, none] dX12_holds_25 (by decide) rfl ?_
      refine G_iconst (v := 0) dX12_holds_27 rfl ?_
      refine S_istore [some (.ref 149), some (.int x1), some (.int x2), some (.int (0 : Int32)), some (.int (0 : Int32)), some (.int (0 : Int32)), none, none, none, none, none, none, none] dX12_holds_28 (by decide) rfl ?_
      exact q_X12_holds_30   gFu _ _ _ h
    · replace h := git c6 h
      refine G_iconst (v := -1) dX12_holds_20 rfl ?_
      refine G_iret rfl (Nat.le_refl _) (Nat.le_refl _) dX12_holds_21 ?_
      cases h
      exact ⟨rfl, rfl, rfl, rfl, rfl⟩
def p_X12_papers (I : gIt) (x1 : Int32) (x2 : Int32) : Option (Int32 × gIt) :=
  if (I 149 7) = (100 : Int32) then
  some ((0 : Int32), I)
  else
  gB (p_X12_isPerson I x1) fun r2 =>
  if r2 = 0 then
  some ((0 : Int32), I)
  else
  gB (p_X12_lies (Int32.toInt64 x2) (0 : Int64) (Int32.toInt64 (I 149 2))) fun r5 =>
  if r5 = 0 then
  some ((0 : Int32), I)
  else
  gck (gin (I 149 7) 100) (
  gL (gu2 I 192 ((I 149 7)).toNatClampNeg x1) fun I9 =>
  gck (gin (I9 149 7) 100) (
  gL (gu2 I9 193 ((I9 149 7)).toNatClampNeg x2) fun I11 =>
  gL (((I11 149 7) + (1 : Int32))) fun z12 =>
  gL (gu2 I11 149 7 z12) fun I13 =>
  some ((1 : Int32), I13)))
set_option maxRecDepth 20000 in
theorem q_X12_papers {l : Launch} {I : gIt} {J : gJt} {w : Bool} {x1 : Int32} {x2 : Int32} {v : (Int32 × gIt)} (h : p_X12_papers I x1 x2 = some v) : Cn l gX12_papers 4 0 0 [.ref 149, .int x1, .int x2] gS0 I J (gR0 w) (fun v' S' I' J' R' => v' = some (.int v.1) ∧ S' = gS0 ∧ I' = v.2 ∧ J' = J ∧ R' = gR0 w) := by
  refine Cn.of [some (.ref 149), some (.int x1), some (.int x2)] (by decide) rfl (Nat.le_of_ble_eq_true rfl) ?_
  rw [p_X12_papers] at h
  refine G_aload_n dX12_papers_0 rfl rfl ?_
  refine G_getI fl_X12_456 sl_149 sk_149 rfl dX12_papers_1 ?_
  refine G_bipush (v := 100) dX12_papers_4 rfl ?_
  refine G_icmp_eq 31 dX12_papers_6 (by decide) (fun c1 => ?_) (fun c1 => ?_)
  · replace h := git c1 h
    refine G_iconst (v := 0) dX12_papers_31 rfl ?_
    refine G_zret rfl (Or.inl rfl) (Nat.le_refl _) (Nat.le_refl _) dX12_papers_32 ?_
    cases h
    exact ⟨rfl, rfl, rfl, rfl, rfl⟩
  · replace h := gif c1 h
    refine G_aload_n dX12_papers_9 rfl rfl ?_
    refine G_iload_n dX12_papers_10 rfl rfl ?_
    obtain ⟨r2, hr3, h⟩ := gB_some h
    refine G_cV (mj := gX12_isPerson) (As := [.int x1]) (rest := []) ml_X12_165 vX12_isPerson sl_149 sk_149 (by decide) rfl rfl rfl (Nat.le_of_ble_eq_true rfl) (by decide) (Nat.le_refl _) (Nat.le_refl _) dX12_papers_11 (q_X12_isPerson hr3) ?_
    refine G_if_eq 31 dX12_papers_14 (by decide) (fun c4 => ?_) (fun c4 => ?_)
    · replace h := git c4 h
      refine G_iconst (v := 0) dX12_papers_31 rfl ?_
      refine G_zret rfl (Or.inl rfl) (Nat.le_refl _) (Nat.le_refl _) dX12_papers_32 ?_
      cases h
      exact ⟨rfl, rfl, rfl, rfl, rfl⟩
    · replace h := gif c4 h
      refine G_iload_n dX12_papers_17 rfl rfl ?_
      refine G_i2l dX12_papers_18 ?_
      refine G_lconst (v := 0) dX12_papers_19 rfl ?_
      refine G_aload_n dX12_papers_20 rfl rfl ?_
      refine G_getI fl_X12_13 sl_149 sk_149 rfl dX12_papers_21 ?_
      refine G_i2l dX12_papers_24 ?_
      obtain ⟨r5, hr6, h⟩ := gB_some h
      refine G_cS (mj := gX12_lies) (As := [.long (Int32.toInt64 x2), .long (0 : Int64), .long (Int32.toInt64 (I 149 2))]) (rest := []) ml_X12_156 vX12_lies rfl rfl (Nat.le_of_ble_eq_true rfl) (by decide) (Nat.le_refl _) (Nat.le_refl _) dX12_papers_25 (q_X12_lies hr6) ?_
      refine G_if_ne 33 dX12_papers_28 (by decide) (fun c7 => ?_) (fun c7 => ?_)
      · replace h := gif c7 h
        refine G_aload_n dX12_papers_33 rfl rfl ?_
        refine G_getR fl_X12_146 sl_149 sk_149 rfl (rr_149_65 _) dX12_papers_34 ?_
        refine G_aload_n dX12_papers_37 rfl rfl ?_
        refine G_getI fl_X12_456 sl_149 sk_149 rfl dX12_papers_38 ?_
        refine G_iload_n dX12_papers_41 rfl rfl ?_
        obtain ⟨b8, h⟩ := gck_some h
        refine G_iast sl_192 ss_192 (gin_in b8) dX12_papers_42 ?_
        refine G_mI fun I9 eI9 => ?_
        replace h := gL_some eI9 h
        refine G_aload_n dX12_papers_43 rfl rfl ?_
        refine G_getR fl_X12_149 sl_149 sk_149 rfl (rr_149_66 _) dX12_papers_44 ?_
        refine G_aload_n dX12_papers_47 rfl rfl ?_
        refine G_getI fl_X12_456 sl_149 sk_149 rfl dX12_papers_48 ?_
        refine G_iload_n dX12_papers_51 rfl rfl ?_
        obtain ⟨b10, h⟩ := gck_some h
        refine G_iast sl_193 ss_193 (gin_in b10) dX12_papers_52 ?_
        refine G_mI fun I11 eI11 => ?_
        replace h := gL_some eI11 h
        refine G_aload_n dX12_papers_53 rfl rfl ?_
        refine G_dup dX12_papers_54 rfl ?_
        refine G_getI fl_X12_456 sl_149 sk_149 rfl dX12_papers_55 ?_
        refine G_iconst (v := 1) dX12_papers_58 rfl ?_
        refine G_iadd dX12_papers_59 ?_
        refine G_nI fun z12 ez12 => ?_
        replace h := gL_some ez12 h
        refine G_putI fl_X12_456 sl_149 sk_149 rfl rfl ⟨rfl, rfl⟩ dX12_papers_60 ?_
        refine G_mI fun I13 eI13 => ?_
        replace h := gL_some eI13 h
        refine G_iconst (v := 1) dX12_papers_63 rfl ?_
        refine G_zret rfl (Or.inr rfl) (Nat.le_refl _) (Nat.le_refl _) dX12_papers_64 ?_
        cases h
        exact ⟨rfl, rfl, rfl, rfl, rfl⟩
      · replace h := git c7 h
        refine G_iconst (v := 0) dX12_papers_31 rfl ?_
        refine G_zret rfl (Or.inl rfl) (Nat.le_refl _) (Nat.le_refl _) dX12_papers_32 ?_
        cases h
        exact ⟨rfl, rfl, rfl, rfl, rfl⟩
def p_X12_falseOnes_4 (I : gIt) : Nat → Int32 → Int32 → Option Int32
  | 0, _, _ => none
  | n + 1, x1, x2 =>
    if (I 149 7) ≤ x2 then
    some x1
    else
    gck (gin x2 100) (
    gL ((I 192 (x2).toNatClampNeg)) fun z3 =>
    gck (gin x2 100) (
    gck (gin z3 16) (
    if (I 193 (x2).toNatClampNeg) < (I 151 (z3).toNatClampNeg) then
    gL ((x1 ||| (gshl (1 : Int32) z3))) fun z7 =>
    p_X12_falseOnes_4 I n z7 (x2 + (1 : Int32))
    else
    gck (gin z3 16) (
    if (I 154 (z3).toNatClampNeg) = (-1 : Int32) then
    p_X12_falseOnes_4 I n x1 (x2 + (1 : Int32))
    else
    gck (gin x2 100) (
    gck (gin z3 16) (
    if (I 193 (x2).toNatClampNeg) ≤ (I 154 (z3).toNatClampNeg) then
    p_X12_falseOnes_4 I n x1 (x2 + (1 : Int32))
    else
    gL ((x1 ||| (gshl (1 : Int32) z3))) fun z13 =>
    p_X12_falseOnes_4 I n z13 (x2 + (1 : Int32))))))))
def p_X12_falseOnes (I : gIt) : Option Int32 :=
  p_X12_falseOnes_4 I gFu (0 : Int32) (0 : Int32)
set_option maxRecDepth 20000 in
theorem q_X12_falseOnes_4 {l : Launch} {v : Int32} {J : gJt} {w : Bool} {I : gIt} : ∀ (n : Nat) (x1 : Int32) (x2 : Int32), p_X12_falseOnes_4 I n x1 x2 = some v → G l gX12_falseOnes 2 0 0 (fun v' S' I' J' R' => v' = some (.int v) ∧ S' = gS0 ∧ I' = I ∧ J' = J ∧ R' = gR0 w) 0 0 4 [some (.ref 149), some (.int x1), some (.int x2), none] [] gS0 I J (gR0 w) := by
  intro n
  induction n with
  | zero => intro _ _ h; cases h
  | succ n ih =>
    intro x1 x2 h
    rw [p_X12_falseOnes_4] at h
    refine G_iload_n dX12_falseOnes_4 rfl rfl ?_
    refine G_aload_n dX12_falseOnes_5 rfl rfl ?_
    refine G_getI fl_X12_456 sl_149 sk_149 rfl dX12_falseOnes_6 ?_
    refine G_icmp_ge 71 dX12_falseOnes_9 (by decide) (fun c1 => ?_) (fun c1 => ?_)
    · replace h := git c1 h
      refine G_iload_n dX12_falseOnes_71 rfl rfl ?_
      refine G_iret rfl (Nat.le_refl _) (Nat.le_refl _) dX12_falseOnes_72 ?_
      cases h
      exact ⟨rfl, rfl, rfl, rfl, rfl⟩
    · replace h := gif c1 h
      refine G_aload_n dX12_falseOnes_12 rfl rfl ?_
      refine G_getR fl_X12_146 sl_149 sk_149 rfl (rr_149_65 _) dX12_falseOnes_13 ?_
      refine G_iload_n dX12_falseOnes_16 rfl rfl ?_
      obtain ⟨b2, h⟩ := gck_some h
      refine G_iald sl_192 ss_192 (gin_in b2) dX12_falseOnes_17 ?_
      refine G_nI fun z3 ez3 => ?_
      replace h := gL_some ez3 h
      refine S_istore_n [some (.ref 149), some (.int x1), some (.int x2), some (.int z3)] dX12_falseOnes_18 rfl (by decide) rfl ?_
      refine G_aload_n dX12_falseOnes_19 rfl rfl ?_
      refine G_getR fl_X12_149 sl_149 sk_149 rfl (rr_149_66 _) dX12_falseOnes_20 ?_
      refine G_iload_n dX12_falseOnes_23 rfl rfl ?_
      obtain ⟨b4, h⟩ := gck_some h
      refine G_iald sl_193 ss_193 (gin_in b4) dX12_falseOnes_24 ?_
      refine G_aload_n dX12_falseOnes_25 rfl rfl ?_
      refine G_getR fl_X12_20 sl_149 sk_149 rfl (rr_149_10 _) dX12_falseOnes_26 ?_
      refine G_iload_n dX12_falseOnes_29 rfl rfl ?_
      obtain ⟨b5, h⟩ := gck_some h
      refine G_iald sl_151 ss_151 (gin_in b5) dX12_falseOnes_30 ?_
      refine G_icmp_lt 59 dX12_falseOnes_31 (by decide) (fun c6 => ?_) (fun c6 => ?_)
      · replace h := git c6 h
        refine G_iload_n dX12_falseOnes_59 rfl rfl ?_
        refine G_iconst (v := 1) dX12_falseOnes_60 rfl ?_
        refine G_iload_n dX12_falseOnes_61 rfl rfl ?_
        refine G_shl dX12_falseOnes_62 ?_
        refine G_ior dX12_falseOnes_63 ?_
        refine G_nI fun z7 ez7 => ?_
        replace h := gL_some ez7 h
        refine S_istore_n [some (.ref 149), some (.int z7), some (.int x2), some (.int z3)] dX12_falseOnes_64 rfl (by decide) rfl ?_
        refine S_iinc (v := (1 : Int32)) [some (.ref 149), some (.int z7), some (.int (x2 + (1 : Int32))), some (.int z3)] dX12_falseOnes_65 rfl rfl (by decide) rfl ?_
        refine G_goto 4 dX12_falseOnes_68 (by decide) ?_
        refine G_sub [some (.ref 149), some (.int z7), some (.int (x2 + (1 : Int32))), none] ⟨rfl, rfl, rfl, trivial⟩ ?_
        exact ih _ _ h
      · replace h := gif c6 h
        refine G_aload_n dX12_falseOnes_34 rfl rfl ?_
        refine G_getR fl_X12_30 sl_149 sk_149 rfl (rr_149_13 _) dX12_falseOnes_35 ?_
        refine G_iload_n dX12_falseOnes_38 rfl rfl ?_
        obtain ⟨b8, h⟩ := gck_some h
        refine G_iald sl_154 ss_154 (gin_in b8) dX12_falseOnes_39 ?_
        refine G_iconst (v := -1) dX12_falseOnes_40 rfl ?_
        refine G_icmp_eq 65 dX12_falseOnes_41 (by decide) (fun c9 => ?_) (fun c9 => ?_)
        · replace h := git c9 h
          refine S_iinc (v := (1 : Int32)) [some (.ref 149), some (.int x1), some (.int (x2 + (1 : Int32))), some (.int z3)] dX12_falseOnes_65 rfl rfl (by decide) rfl ?_
          refine G_goto 4 dX12_falseOnes_68 (by decide) ?_
          refine G_sub [some (.ref 149), some (.int x1), some (.int (x2 + (1 : Int32))), none] ⟨rfl, rfl, rfl, trivial⟩ ?_
          exact ih _ _ h
        · replace h := gif c9 h
          refine G_aload_n dX12_falseOnes_44 rfl rfl ?_
          refine G_getR fl_X12_149 sl_149 sk_149 rfl (rr_149_66 _) dX12_falseOnes_45 ?_
          refine G_iload_n dX12_falseOnes_48 rfl rfl ?_
          obtain ⟨b10, h⟩ := gck_some h
          refine G_iald sl_193 ss_193 (gin_in b10) dX12_falseOnes_49 ?_
          refine G_aload_n dX12_falseOnes_50 rfl rfl ?_
          refine G_getR fl_X12_30 sl_149 sk_149 rfl (rr_149_13 _) dX12_falseOnes_51 ?_
          refine G_iload_n dX12_falseOnes_54 rfl rfl ?_
          obtain ⟨b11, h⟩ := gck_some h
          refine G_iald sl_154 ss_154 (gin_in b11) dX12_falseOnes_55 ?_
          refine G_icmp_le 65 dX12_falseOnes_56 (by decide) (fun c12 => ?_) (fun c12 => ?_)
          · replace h := git c12 h
            refine S_iinc (v := (1 : Int32)) [some (.ref 149), some (.int x1), some (.int (x2 + (1 : Int32))), some (.int z3)] dX12_falseOnes_65 rfl rfl (by decide) rfl ?_
            refine G_goto 4 dX12_falseOnes_68 (by decide) ?_
            refine G_sub [some (.ref 149), some (.int x1), some (.int (x2 + (1 : Int32))), none] ⟨rfl, rfl, rfl, trivial⟩ ?_
            exact ih _ _ h
          · replace h := gif c12 h
            refine G_iload_n dX12_falseOnes_59 rfl rfl ?_
            refine G_iconst (v := 1) dX12_falseOnes_60 rfl ?_
            refine G_iload_n dX12_falseOnes_61 rfl rfl ?_
            refine G_shl dX12_falseOnes_62 ?_
            refine G_ior dX12_falseOnes_63 ?_
            refine G_nI fun z13 ez13 => ?_
            replace h := gL_some ez13 h
            refine S_istore_n [some (.ref 149), some (.int z13), some (.int x2), some (.int z3)] dX12_falseOnes_64 rfl (by decide) rfl ?_
            refine S_iinc (v := (1 : Int32)) [some (.ref 149), some (.int z13), some (.int (x2 + (1 : Int32))), some (.int z3)] dX12_falseOnes_65 rfl rfl (by decide) rfl ?_
            refine G_goto 4 dX12_falseOnes_68 (by decide) ?_
            refine G_sub [some (.ref 149), some (.int z13), some (.int (x2 + (1 : Int32))), none] ⟨rfl, rfl, rfl, trivial⟩ ?_
            exact ih _ _ h
set_option maxRecDepth 20000 in
theorem q_X12_falseOnes {l : Launch} {I : gIt} {J : gJt} {w : Bool} {v : Int32} (h : p_X12_falseOnes I = some v) : Cn l gX12_falseOnes 2 0 0 [.ref 149] gS0 I J (gR0 w) (fun v' S' I' J' R' => v' = some (.int v) ∧ S' = gS0 ∧ I' = I ∧ J' = J ∧ R' = gR0 w) := by
  refine Cn.of [some (.ref 149), none, none, none] (by decide) rfl (Nat.le_of_ble_eq_true rfl) ?_
  rw [p_X12_falseOnes] at h
  refine G_iconst (v := 0) dX12_falseOnes_0 rfl ?_
  refine S_istore_n [some (.ref 149), some (.int (0 : Int32)), none, none] dX12_falseOnes_1 rfl (by decide) rfl ?_
  refine G_iconst (v := 0) dX12_falseOnes_2 rfl ?_
  refine S_istore_n [some (.ref 149), some (.int (0 : Int32)), some (.int (0 : Int32)), none] dX12_falseOnes_3 rfl (by decide) rfl ?_
  exact q_X12_falseOnes_4   gFu _ _ h
def p_X12_look (I : gIt) (x1 : Int32) (x2 : Int32) : Option Int32 :=
  gB (p_X12_isSale I x1) fun r1 =>
  if r1 = 0 then
  some (-1 : Int32)
  else
  if x2 = (0 : Int32) then
  gck (gin x1 40) (
  some (I 174 (x1).toNatClampNeg))
  else
  if x2 = (1 : Int32) then
  gck (gin x1 40) (
  some (I 175 (x1).toNatClampNeg))
  else
  if x2 = (2 : Int32) then
  gck (gin x1 40) (
  some (I 176 (x1).toNatClampNeg))
  else
  if x2 = (3 : Int32) then
  gck (gin x1 40) (
  some (I 177 (x1).toNatClampNeg))
  else
  if x2 = (4 : Int32) then
  gck (gin x1 40) (
  some (I 178 (x1).toNatClampNeg))
  else
  if x2 = (5 : Int32) then
  gck (gin x1 40) (
  some (I 179 (x1).toNatClampNeg))
  else
  if x2 = (6 : Int32) then
  gck (gin x1 40) (
  some (I 181 (x1).toNatClampNeg))
  else
  if x2 = (7 : Int32) then
  gck (gin x1 40) (
  some (I 182 (x1).toNatClampNeg))
  else
  if x2 = (8 : Int32) then
  gck (gin x1 40) (
  some (I 183 (x1).toNatClampNeg))
  else
  some (-1 : Int32)
set_option maxRecDepth 20000 in
theorem q_X12_look {l : Launch} {I : gIt} {J : gJt} {w : Bool} {x1 : Int32} {x2 : Int32} {v : Int32} (h : p_X12_look I x1 x2 = some v) : Cn l gX12_look 4 0 0 [.ref 149, .int x1, .int x2] gS0 I J (gR0 w) (fun v' S' I' J' R' => v' = some (.int v) ∧ S' = gS0 ∧ I' = I ∧ J' = J ∧ R' = gR0 w) := by
  refine Cn.of [some (.ref 149), some (.int x1), some (.int x2)] (by decide) rfl (Nat.le_of_ble_eq_true rfl) ?_
  rw [p_X12_look] at h
  refine G_aload_n dX12_look_0 rfl rfl ?_
  refine G_iload_n dX12_look_1 rfl rfl ?_
  obtain ⟨r1, hr2, h⟩ := gB_some h
  refine G_cV (mj := gX12_isSale) (As := [.int x1]) (rest := []) ml_X12_376 vX12_isSale sl_149 sk_149 (by decide) rfl rfl rfl (Nat.le_of_ble_eq_true rfl) (by decide) (Nat.le_refl _) (Nat.le_refl _) dX12_look_2 (q_X12_isSale hr2) ?_
  refine G_if_ne 10 dX12_look_5 (by decide) (fun c3 => ?_) (fun c3 => ?_)
  · replace h := gif c3 h
    refine G_iload_n dX12_look_10 rfl rfl ?_
    by_cases c4 : x2 = (0 : Int32)
    · replace h := git c4 h
      refine G_tsIn 60 dX12_look_11 (by rw [c4]; decide) (by rw [c4]; decide) (by rw [c4]; rfl) (by decide) ?_
      refine G_aload_n dX12_look_60 rfl rfl ?_
      refine G_getR fl_X12_91 sl_149 sk_149 rfl (rr_149_44 _) dX12_look_61 ?_
      refine G_iload_n dX12_look_64 rfl rfl ?_
      obtain ⟨b5, h⟩ := gck_some h
      refine G_iald sl_174 ss_174 (gin_in b5) dX12_look_65 ?_
      refine G_iret rfl (Nat.le_refl _) (Nat.le_refl _) dX12_look_66 ?_
      cases h
      exact ⟨rfl, rfl, rfl, rfl, rfl⟩
    · replace h := gif c4 h
      by_cases c6 : x2 = (1 : Int32)
      · replace h := git c6 h
        refine G_tsIn 67 dX12_look_11 (by rw [c6]; decide) (by rw [c6]; decide) (by rw [c6]; rfl) (by decide) ?_
        refine G_aload_n dX12_look_67 rfl rfl ?_
        refine G_getR fl_X12_94 sl_149 sk_149 rfl (rr_149_45 _) dX12_look_68 ?_
        refine G_iload_n dX12_look_71 rfl rfl ?_
        obtain ⟨b7, h⟩ := gck_some h
        refine G_iald sl_175 ss_175 (gin_in b7) dX12_look_72 ?_
        refine G_iret rfl (Nat.le_refl _) (Nat.le_refl _) dX12_look_73 ?_
        cases h
        exact ⟨rfl, rfl, rfl, rfl, rfl⟩
      · replace h := gif c6 h
        by_cases c8 : x2 = (2 : Int32)
        · replace h := git c8 h
          refine G_tsIn 74 dX12_look_11 (by rw [c8]; decide) (by rw [c8]; decide) (by rw [c8]; rfl) (by decide) ?_
          refine G_aload_n dX12_look_74 rfl rfl ?_
          refine G_getR fl_X12_97 sl_149 sk_149 rfl (rr_149_46 _) dX12_look_75 ?_
          refine G_iload_n dX12_look_78 rfl rfl ?_
          obtain ⟨b9, h⟩ := gck_some h
          refine G_iald sl_176 ss_176 (gin_in b9) dX12_look_79 ?_
          refine G_iret rfl (Nat.le_refl _) (Nat.le_refl _) dX12_look_80 ?_
          cases h
          exact ⟨rfl, rfl, rfl, rfl, rfl⟩
        · replace h := gif c8 h
          by_cases c10 : x2 = (3 : Int32)
          · replace h := git c10 h
            refine G_tsIn 81 dX12_look_11 (by rw [c10]; decide) (by rw [c10]; decide) (by rw [c10]; rfl) (by decide) ?_
            refine G_aload_n dX12_look_81 rfl rfl ?_
            refine G_getR fl_X12_100 sl_149 sk_149 rfl (rr_149_47 _) dX12_look_82 ?_
            refine G_iload_n dX12_look_85 rfl rfl ?_
            obtain ⟨b11, h⟩ := gck_some h
            refine G_iald sl_177 ss_177 (gin_in b11) dX12_look_86 ?_
            refine G_iret rfl (Nat.le_refl _) (Nat.le_refl _) dX12_look_87 ?_
            cases h
            exact ⟨rfl, rfl, rfl, rfl, rfl⟩
          · replace h := gif c10 h
            by_cases c12 : x2 = (4 : Int32)
            · replace h := git c12 h
              refine G_tsIn 88 dX12_look_11 (by rw [c12]; decide) (by rw [c12]; decide) (by rw [c12]; rfl) (by decide) ?_
              refine G_aload_n dX12_look_88 rfl rfl ?_
              refine G_getR fl_X12_103 sl_149 sk_149 rfl (rr_149_48 _) dX12_look_89 ?_
              refine G_iload_n dX12_look_92 rfl rfl ?_
              obtain ⟨b13, h⟩ := gck_some h
              refine G_iald sl_178 ss_178 (gin_in b13) dX12_look_93 ?_
              refine G_iret rfl (Nat.le_refl _) (Nat.le_refl _) dX12_look_94 ?_
              cases h
              exact ⟨rfl, rfl, rfl, rfl, rfl⟩
            · replace h := gif c12 h
              by_cases c14 : x2 = (5 : Int32)
              · replace h := git c14 h
                refine G_tsIn 95 dX12_look_11 (by rw [c14]; decide) (by rw [c14]; decide) (by rw [c14]; rfl) (by decide) ?_
                refine G_aload_n dX12_look_95 rfl rfl ?_
                refine G_getR fl_X12_106 sl_149 sk_149 rfl (rr_149_49 _) dX12_look_96 ?_
                refine G_iload_n dX12_look_99 rfl rfl ?_
                obtain ⟨b15, h⟩ := gck_some h
                refine G_iald sl_179 ss_179 (gin_in b15) dX12_look_100 ?_
                refine G_iret rfl (Nat.le_refl _) (Nat.le_refl _) dX12_look_101 ?_
                cases h
                exact ⟨rfl, rfl, rfl, rfl, rfl⟩
              · replace h := gif c14 h
                by_cases c16 : x2 = (6 : Int32)
                · replace h := git c16 h
                  refine G_tsIn 102 dX12_look_11 (by rw [c16]; decide) (by rw [c16]; decide) (by rw [c16]; rfl) (by decide) ?_
                  refine G_aload_n dX12_look_102 rfl rfl ?_
                  refine G_getR fl_X12_112 sl_149 sk_149 rfl (rr_149_51 _) dX12_look_103 ?_
                  refine G_iload_n dX12_look_106 rfl rfl ?_
                  obtain ⟨b17, h⟩ := gck_some h
                  refine G_iald sl_181 ss_181 (gin_in b17) dX12_look_107 ?_
                  refine G_iret rfl (Nat.le_refl _) (Nat.le_refl _) dX12_look_108 ?_
                  cases h
                  exact ⟨rfl, rfl, rfl, rfl, rfl⟩
                · replace h := gif c16 h
                  by_cases c18 : x2 = (7 : Int32)
                  · replace h := git c18 h
                    refine G_tsIn 109 dX12_look_11 (by rw [c18]; decide) (by rw [c18]; decide) (by rw [c18]; rfl) (by decide) ?_
                    refine G_aload_n dX12_look_109 rfl rfl ?_
                    refine G_getR fl_X12_115 sl_149 sk_149 rfl (rr_149_52 _) dX12_look_110 ?_
                    refine G_iload_n dX12_look_113 rfl rfl ?_
                    obtain ⟨b19, h⟩ := gck_some h
                    refine G_iald sl_182 ss_182 (gin_in b19) dX12_look_114 ?_
                    refine G_iret rfl (Nat.le_refl _) (Nat.le_refl _) dX12_look_115 ?_
                    cases h
                    exact ⟨rfl, rfl, rfl, rfl, rfl⟩
                  · replace h := gif c18 h
                    by_cases c20 : x2 = (8 : Int32)
                    · replace h := git c20 h
                      refine G_tsIn 116 dX12_look_11 (by rw [c20]; decide) (by rw [c20]; decide) (by rw [c20]; rfl) (by decide) ?_
                      refine G_aload_n dX12_look_116 rfl rfl ?_
                      refine G_getR fl_X12_118 sl_149 sk_149 rfl (rr_149_53 _) dX12_look_117 ?_
                      refine G_iload_n dX12_look_120 rfl rfl ?_
                      obtain ⟨b21, h⟩ := gck_some h
                      refine G_iald sl_183 ss_183 (gin_in b21) dX12_look_121 ?_
                      refine G_iret rfl (Nat.le_refl _) (Nat.le_refl _) dX12_look_122 ?_
                      cases h
                      exact ⟨rfl, rfl, rfl, rfl, rfl⟩
                    · replace h := gif c20 h
                      have nc4 := lv_neT (a := 0) c4 rfl
                      have nc6 := lv_neT (a := 1) c6 rfl
                      have nc8 := lv_neT (a := 2) c8 rfl
                      have nc10 := lv_neT (a := 3) c10 rfl
                      have nc12 := lv_neT (a := 4) c12 rfl
                      have nc14 := lv_neT (a := 5) c14 rfl
                      have nc16 := lv_neT (a := 6) c16 rfl
                      have nc18 := lv_neT (a := 7) c18 rfl
                      have nc20 := lv_neT (a := 8) c20 rfl
                      refine G_tsOut 123 dX12_look_11 (by omega) (by decide) ?_
                      refine G_iconst (v := -1) dX12_look_123 rfl ?_
                      refine G_iret rfl (Nat.le_refl _) (Nat.le_refl _) dX12_look_124 ?_
                      cases h
                      exact ⟨rfl, rfl, rfl, rfl, rfl⟩
  · replace h := git c3 h
    refine G_iconst (v := -1) dX12_look_8 rfl ?_
    refine G_iret rfl (Nat.le_refl _) (Nat.le_refl _) dX12_look_9 ?_
    cases h
    exact ⟨rfl, rfl, rfl, rfl, rfl⟩
def p_X12_count (I : gIt) (x1 : Int32) : Option Int32 :=
  gB (p_X12_lies (Int32.toInt64 x1) (20 : Int64) (Int32.toInt64 ((19 : Int32) + (I 149 4)))) fun r1 =>
  if r1 = 0 then
  gB (p_X12_lies (Int32.toInt64 x1) (40 : Int64) (Int32.toInt64 ((39 : Int32) + (I 149 3)))) fun r4 =>
  if r4 = 0 then
  if x1 = (0 : Int32) then
  some (I 149 2)
  else
  if x1 = (1 : Int32) then
  some (I 149 3)
  else
  if x1 = (2 : Int32) then
  some (I 149 4)
  else
  if x1 = (3 : Int32) then
  some (I 149 5)
  else
  if x1 = (4 : Int32) then
  some (I 149 6)
  else
  if x1 = (5 : Int32) then
  some (I 149 7)
  else
  if x1 = (6 : Int32) then
  some (I 149 1)
  else
  if x1 = (7 : Int32) then
  if (I 149 59) = 0 then
  some (0 : Int32)
  else
  some (1 : Int32)
  else
  if x1 = (8 : Int32) then
  some (I 149 8)
  else
  if x1 = (9 : Int32) then
  some (I 149 9)
  else
  some (-1 : Int32)
  else
  gck (gin (x1 - (40 : Int32)) 16) (
  some (I 154 ((x1 - (40 : Int32))).toNatClampNeg))
  else
  gck (gin (x1 - (20 : Int32)) 10) (
  some (I 160 ((x1 - (20 : Int32))).toNatClampNeg))
set_option maxRecDepth 20000 in
theorem q_X12_count {l : Launch} {I : gIt} {J : gJt} {w : Bool} {x1 : Int32} {v : Int32} (h : p_X12_count I x1 = some v) : Cn l gX12_count 3 0 0 [.ref 149, .int x1] gS0 I J (gR0 w) (fun v' S' I' J' R' => v' = some (.int v) ∧ S' = gS0 ∧ I' = I ∧ J' = J ∧ R' = gR0 w) := by
  refine Cn.of [some (.ref 149), some (.int x1)] (by decide) rfl (Nat.le_of_ble_eq_true rfl) ?_
  rw [p_X12_count] at h
  refine G_iload_n dX12_count_0 rfl rfl ?_
  refine G_i2l dX12_count_1 ?_
  refine G_ldc2 dX12_count_2 kc_X12_181 ?_
  refine G_bipush (v := 19) dX12_count_5 rfl ?_
  refine G_aload_n dX12_count_7 rfl rfl ?_
  refine G_getI fl_X12_225 sl_149 sk_149 rfl dX12_count_8 ?_
  refine G_iadd dX12_count_11 ?_
  refine G_i2l dX12_count_12 ?_
  obtain ⟨r1, hr2, h⟩ := gB_some h
  refine G_cS (mj := gX12_lies) (As := [.long (Int32.toInt64 x1), .long (20 : Int64), .long (Int32.toInt64 ((19 : Int32) + (I 149 4)))]) (rest := []) ml_X12_156 vX12_lies rfl rfl (Nat.le_of_ble_eq_true rfl) (by decide) (Nat.le_refl _) (Nat.le_refl _) dX12_count_13 (q_X12_lies hr2) ?_
  refine G_if_eq 29 dX12_count_16 (by decide) (fun c3 => ?_) (fun c3 => ?_)
  · replace h := git c3 h
    refine G_iload_n dX12_count_29 rfl rfl ?_
    refine G_i2l dX12_count_30 ?_
    refine G_ldc2 dX12_count_31 kc_X12_459 ?_
    refine G_bipush (v := 39) dX12_count_34 rfl ?_
    refine G_aload_n dX12_count_36 rfl rfl ?_
    refine G_getI fl_X12_160 sl_149 sk_149 rfl dX12_count_37 ?_
    refine G_iadd dX12_count_40 ?_
    refine G_i2l dX12_count_41 ?_
    obtain ⟨r4, hr5, h⟩ := gB_some h
    refine G_cS (mj := gX12_lies) (As := [.long (Int32.toInt64 x1), .long (40 : Int64), .long (Int32.toInt64 ((39 : Int32) + (I 149 3)))]) (rest := []) ml_X12_156 vX12_lies rfl rfl (Nat.le_of_ble_eq_true rfl) (by decide) (Nat.le_refl _) (Nat.le_refl _) dX12_count_42 (q_X12_lies hr5) ?_
    refine G_if_eq 58 dX12_count_45 (by decide) (fun c6 => ?_) (fun c6 => ?_)
    · replace h := git c6 h
      refine G_iload_n dX12_count_58 rfl rfl ?_
      by_cases c7 : x1 = (0 : Int32)
      · replace h := git c7 h
        refine G_tsIn 112 dX12_count_59 (by rw [c7]; decide) (by rw [c7]; decide) (by rw [c7]; rfl) (by decide) ?_
        refine G_aload_n dX12_count_112 rfl rfl ?_
        refine G_getI fl_X12_13 sl_149 sk_149 rfl dX12_count_113 ?_
        refine G_iret rfl (Nat.le_refl _) (Nat.le_refl _) dX12_count_116 ?_
        cases h
        exact ⟨rfl, rfl, rfl, rfl, rfl⟩
      · replace h := gif c7 h
        by_cases c8 : x1 = (1 : Int32)
        · replace h := git c8 h
          refine G_tsIn 117 dX12_count_59 (by rw [c8]; decide) (by rw [c8]; decide) (by rw [c8]; rfl) (by decide) ?_
          refine G_aload_n dX12_count_117 rfl rfl ?_
          refine G_getI fl_X12_160 sl_149 sk_149 rfl dX12_count_118 ?_
          refine G_iret rfl (Nat.le_refl _) (Nat.le_refl _) dX12_count_121 ?_
          cases h
          exact ⟨rfl, rfl, rfl, rfl, rfl⟩
        · replace h := gif c8 h
          by_cases c9 : x1 = (2 : Int32)
          · replace h := git c9 h
            refine G_tsIn 122 dX12_count_59 (by rw [c9]; decide) (by rw [c9]; decide) (by rw [c9]; rfl) (by decide) ?_
            refine G_aload_n dX12_count_122 rfl rfl ?_
            refine G_getI fl_X12_225 sl_149 sk_149 rfl dX12_count_123 ?_
            refine G_iret rfl (Nat.le_refl _) (Nat.le_refl _) dX12_count_126 ?_
            cases h
            exact ⟨rfl, rfl, rfl, rfl, rfl⟩
          · replace h := gif c9 h
            by_cases c10 : x1 = (3 : Int32)
            · replace h := git c10 h
              refine G_tsIn 127 dX12_count_59 (by rw [c10]; decide) (by rw [c10]; decide) (by rw [c10]; rfl) (by decide) ?_
              refine G_aload_n dX12_count_127 rfl rfl ?_
              refine G_getI fl_X12_368 sl_149 sk_149 rfl dX12_count_128 ?_
              refine G_iret rfl (Nat.le_refl _) (Nat.le_refl _) dX12_count_131 ?_
              cases h
              exact ⟨rfl, rfl, rfl, rfl, rfl⟩
            · replace h := gif c10 h
              by_cases c11 : x1 = (4 : Int32)
              · replace h := git c11 h
                refine G_tsIn 132 dX12_count_59 (by rw [c11]; decide) (by rw [c11]; decide) (by rw [c11]; rfl) (by decide) ?_
                refine G_aload_n dX12_count_132 rfl rfl ?_
                refine G_getI fl_X12_381 sl_149 sk_149 rfl dX12_count_133 ?_
                refine G_iret rfl (Nat.le_refl _) (Nat.le_refl _) dX12_count_136 ?_
                cases h
                exact ⟨rfl, rfl, rfl, rfl, rfl⟩
              · replace h := gif c11 h
                by_cases c12 : x1 = (5 : Int32)
                · replace h := git c12 h
                  refine G_tsIn 137 dX12_count_59 (by rw [c12]; decide) (by rw [c12]; decide) (by rw [c12]; rfl) (by decide) ?_
                  refine G_aload_n dX12_count_137 rfl rfl ?_
                  refine G_getI fl_X12_456 sl_149 sk_149 rfl dX12_count_138 ?_
                  refine G_iret rfl (Nat.le_refl _) (Nat.le_refl _) dX12_count_141 ?_
                  cases h
                  exact ⟨rfl, rfl, rfl, rfl, rfl⟩
                · replace h := gif c12 h
                  by_cases c13 : x1 = (6 : Int32)
                  · replace h := git c13 h
                    refine G_tsIn 142 dX12_count_59 (by rw [c13]; decide) (by rw [c13]; decide) (by rw [c13]; rfl) (by decide) ?_
                    refine G_aload_n dX12_count_142 rfl rfl ?_
                    refine G_getI fl_X12_193 sl_149 sk_149 rfl dX12_count_143 ?_
                    refine G_iret rfl (Nat.le_refl _) (Nat.le_refl _) dX12_count_146 ?_
                    cases h
                    exact ⟨rfl, rfl, rfl, rfl, rfl⟩
                  · replace h := gif c13 h
                    by_cases c14 : x1 = (7 : Int32)
                    · replace h := git c14 h
                      refine G_tsIn 147 dX12_count_59 (by rw [c14]; decide) (by rw [c14]; decide) (by rw [c14]; rfl) (by decide) ?_
                      refine G_aload_n dX12_count_147 rfl rfl ?_
                      refine G_getI fl_X12_404 sl_149 sk_149 rfl dX12_count_148 ?_
                      refine G_if_eq 158 dX12_count_151 (by decide) (fun c15 => ?_) (fun c15 => ?_)
                      · replace h := git c15 h
                        refine G_iconst (v := 0) dX12_count_158 rfl ?_
                        refine G_iret rfl (Nat.le_refl _) (Nat.le_refl _) dX12_count_159 ?_
                        cases h
                        exact ⟨rfl, rfl, rfl, rfl, rfl⟩
                      · replace h := gif c15 h
                        refine G_iconst (v := 1) dX12_count_154 rfl ?_
                        refine G_goto 159 dX12_count_155 (by decide) ?_
                        refine G_iret rfl (Nat.le_refl _) (Nat.le_refl _) dX12_count_159 ?_
                        cases h
                        exact ⟨rfl, rfl, rfl, rfl, rfl⟩
                    · replace h := gif c14 h
                      by_cases c16 : x1 = (8 : Int32)
                      · replace h := git c16 h
                        refine G_tsIn 160 dX12_count_59 (by rw [c16]; decide) (by rw [c16]; decide) (by rw [c16]; rfl) (by decide) ?_
                        refine G_aload_n dX12_count_160 rfl rfl ?_
                        refine G_getI fl_X12_17 sl_149 sk_149 rfl dX12_count_161 ?_
                        refine G_iret rfl (Nat.le_refl _) (Nat.le_refl _) dX12_count_164 ?_
                        cases h
                        exact ⟨rfl, rfl, rfl, rfl, rfl⟩
                      · replace h := gif c16 h
                        by_cases c17 : x1 = (9 : Int32)
                        · replace h := git c17 h
                          refine G_tsIn 165 dX12_count_59 (by rw [c17]; decide) (by rw [c17]; decide) (by rw [c17]; rfl) (by decide) ?_
                          refine G_aload_n dX12_count_165 rfl rfl ?_
                          refine G_getI fl_X12_185 sl_149 sk_149 rfl dX12_count_166 ?_
                          refine G_iret rfl (Nat.le_refl _) (Nat.le_refl _) dX12_count_169 ?_
                          cases h
                          exact ⟨rfl, rfl, rfl, rfl, rfl⟩
                        · replace h := gif c17 h
                          have nc7 := lv_neT (a := 0) c7 rfl
                          have nc8 := lv_neT (a := 1) c8 rfl
                          have nc9 := lv_neT (a := 2) c9 rfl
                          have nc10 := lv_neT (a := 3) c10 rfl
                          have nc11 := lv_neT (a := 4) c11 rfl
                          have nc12 := lv_neT (a := 5) c12 rfl
                          have nc13 := lv_neT (a := 6) c13 rfl
                          have nc14 := lv_neT (a := 7) c14 rfl
                          have nc16 := lv_neT (a := 8) c16 rfl
                          have nc17 := lv_neT (a := 9) c17 rfl
                          refine G_tsOut 170 dX12_count_59 (by omega) (by decide) ?_
                          refine G_iconst (v := -1) dX12_count_170 rfl ?_
                          refine G_iret rfl (Nat.le_refl _) (Nat.le_refl _) dX12_count_171 ?_
                          cases h
                          exact ⟨rfl, rfl, rfl, rfl, rfl⟩
    · replace h := gif c6 h
      refine G_aload_n dX12_count_48 rfl rfl ?_
      refine G_getR fl_X12_30 sl_149 sk_149 rfl (rr_149_13 _) dX12_count_49 ?_
      refine G_iload_n dX12_count_52 rfl rfl ?_
      refine G_bipush (v := 40) dX12_count_53 rfl ?_
      refine G_isub dX12_count_55 ?_
      obtain ⟨b18, h⟩ := gck_some h
      refine G_iald sl_154 ss_154 (gin_in b18) dX12_count_56 ?_
      refine G_iret rfl (Nat.le_refl _) (Nat.le_refl _) dX12_count_57 ?_
      cases h
      exact ⟨rfl, rfl, rfl, rfl, rfl⟩
  · replace h := gif c3 h
    refine G_aload_n dX12_count_19 rfl rfl ?_
    refine G_getR fl_X12_48 sl_149 sk_149 rfl (rr_149_19 _) dX12_count_20 ?_
    refine G_iload_n dX12_count_23 rfl rfl ?_
    refine G_bipush (v := 20) dX12_count_24 rfl ?_
    refine G_isub dX12_count_26 ?_
    obtain ⟨b19, h⟩ := gck_some h
    refine G_iald sl_160 ss_160 (gin_in b19) dX12_count_27 ?_
    refine G_iret rfl (Nat.le_refl _) (Nat.le_refl _) dX12_count_28 ?_
    cases h
    exact ⟨rfl, rfl, rfl, rfl, rfl⟩
