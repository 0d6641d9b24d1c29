/-! ===== pure programs and their walks ===== -/
def p_X6_livesAt (I : gIt) (x1 : Int32) (x2 : Int32) : Option Int32 :=
  if x1 < 0 then
  some (0 : Int32)
  else
  if (4 : Int32) ≤ x1 then
  some (0 : Int32)
  else
  if x2 < 0 then
  some (0 : Int32)
  else
  if x2 < (110 : Int32) then
  gL (((x1 * (12 : Int32)) + (x2 / (10 : Int32)))) fun z6 =>
  gck (gin z6 48) (
  gck (gin z6 48) (
  gck (gin (z6 + (1 : Int32)) 48) (
  some ((I 10 (z6).toNatClampNeg) - ((((I 10 (z6).toNatClampNeg) - (I 10 ((z6 + (1 : Int32))).toNatClampNeg)) * (grem x2 (10 : Int32))) / (10 : Int32))))))
  else
  some (0 : Int32)
set_option maxRecDepth 20000 in
theorem q_X6_livesAt {l : Launch} {I : gIt} {J : gJt} {w : Bool} {x1 : Int32} {x2 : Int32} {v : Int32} (h : p_X6_livesAt I x1 x2 = some v) : Cn l gX6_livesAt 2 0 0 [.ref 9, .int x1, .int x2] gS0 I J (gR0 w) (fun v' S' I' J' R' => v' = some (.int v) ∧ S' = gS0 ∧ I' = I ∧ J' = J ∧ R' = gR0 w) := by
  refine Cn.of [some (.ref 9), some (.int x1), some (.int x2), none] (by decide) rfl (Nat.le_of_ble_eq_true rfl) ?_
  rw [p_X6_livesAt] at h
  refine G_iload_n dX6_livesAt_0 rfl rfl ?_
  refine G_if_lt 19 dX6_livesAt_1 (by decide) (fun c1 => ?_) (fun c1 => ?_)
  · replace h := git c1 h
    refine G_iconst (v := 0) dX6_livesAt_19 rfl ?_
    refine G_iret rfl (Nat.le_refl _) (Nat.le_refl _) dX6_livesAt_20 ?_
    cases h
    exact ⟨rfl, rfl, rfl, rfl, rfl⟩
  · replace h := gif c1 h
    refine G_iload_n dX6_livesAt_4 rfl rfl ?_
    refine G_iconst (v := 4) dX6_livesAt_5 rfl ?_
    refine G_icmp_ge 19 dX6_livesAt_6 (by decide) (fun c2 => ?_) (fun c2 => ?_)
    · replace h := git c2 h
      refine G_iconst (v := 0) dX6_livesAt_19 rfl ?_
      refine G_iret rfl (Nat.le_refl _) (Nat.le_refl _) dX6_livesAt_20 ?_
      cases h
      exact ⟨rfl, rfl, rfl, rfl, rfl⟩
    · replace h := gif c2 h
      refine G_iload_n dX6_livesAt_9 rfl rfl ?_
      refine G_if_lt 19 dX6_livesAt_10 (by decide) (fun c3 => ?_) (fun c3 => ?_)
      · replace h := git c3 h
        refine G_iconst (v := 0) dX6_livesAt_19 rfl ?_
        refine G_iret rfl (Nat.le_refl _) (Nat.le_refl _) dX6_livesAt_20 ?_
        cases h
        exact ⟨rfl, rfl, rfl, rfl, rfl⟩
      · replace h := gif c3 h
        refine G_iload_n dX6_livesAt_13 rfl rfl ?_
        refine G_bipush (v := 110) dX6_livesAt_14 rfl ?_
        refine G_icmp_lt 21 dX6_livesAt_16 (by decide) (fun c4 => ?_) (fun c4 => ?_)
        · replace h := git c4 h
          refine G_iload_n dX6_livesAt_21 rfl rfl ?_
          refine G_bipush (v := 12) dX6_livesAt_22 rfl ?_
          refine G_imul dX6_livesAt_24 ?_
          refine G_iload_n dX6_livesAt_25 rfl rfl ?_
          refine G_bipush (v := 10) dX6_livesAt_26 rfl ?_
          refine G_idiv dX6_livesAt_28 (by decide) ?_
          refine G_iadd dX6_livesAt_29 ?_
          refine G_nI fun z6 ez6 => ?_
          replace h := gL_some ez6 h
          refine S_istore_n [some (.ref 9), some (.int x1), some (.int x2), some (.int z6)] dX6_livesAt_30 rfl (by decide) rfl ?_
          refine G_aload_n dX6_livesAt_31 rfl rfl ?_
          refine G_getR fl_X6_9 sl_9 sk_9 rfl (rr_9_0 _) dX6_livesAt_32 ?_
          refine G_iload_n dX6_livesAt_35 rfl rfl ?_
          obtain ⟨b7, h⟩ := gck_some h
          refine G_iald sl_10 ss_10 (gin_in b7) dX6_livesAt_36 ?_
          refine G_aload_n dX6_livesAt_37 rfl rfl ?_
          refine G_getR fl_X6_9 sl_9 sk_9 rfl (rr_9_0 _) dX6_livesAt_38 ?_
          refine G_iload_n dX6_livesAt_41 rfl rfl ?_
          obtain ⟨b8, h⟩ := gck_some h
          refine G_iald sl_10 ss_10 (gin_in b8) dX6_livesAt_42 ?_
          refine G_aload_n dX6_livesAt_43 rfl rfl ?_
          refine G_getR fl_X6_9 sl_9 sk_9 rfl (rr_9_0 _) dX6_livesAt_44 ?_
          refine G_iload_n dX6_livesAt_47 rfl rfl ?_
          refine G_iconst (v := 1) dX6_livesAt_48 rfl ?_
          refine G_iadd dX6_livesAt_49 ?_
          obtain ⟨b9, h⟩ := gck_some h
          refine G_iald sl_10 ss_10 (gin_in b9) dX6_livesAt_50 ?_
          refine G_isub dX6_livesAt_51 ?_
          refine G_iload_n dX6_livesAt_52 rfl rfl ?_
          refine G_bipush (v := 10) dX6_livesAt_53 rfl ?_
          refine G_rem dX6_livesAt_55 (by decide) ?_
          refine G_imul dX6_livesAt_56 ?_
          refine G_bipush (v := 10) dX6_livesAt_57 rfl ?_
          refine G_idiv dX6_livesAt_59 (by decide) ?_
          refine G_isub dX6_livesAt_60 ?_
          refine G_iret rfl (Nat.le_refl _) (Nat.le_refl _) dX6_livesAt_61 ?_
          cases h
          exact ⟨rfl, rfl, rfl, rfl, rfl⟩
        · replace h := gif c4 h
          refine G_iconst (v := 0) dX6_livesAt_19 rfl ?_
          refine G_iret rfl (Nat.le_refl _) (Nat.le_refl _) dX6_livesAt_20 ?_
          cases h
          exact ⟨rfl, rfl, rfl, rfl, rfl⟩
def p_X6_discounted (I : gIt) (y1 : Int64) : Option Int64 :=
  gL (((100 : Int32) + (I 9 1))) fun z1 =>
  if z1 ≤ 0 then
  some (0 : Int64)
  else
  gck (decide (¬ (Int32.toInt64 z1) = 0)) (
  some ((y1 * (100 : Int64)) / (Int32.toInt64 z1)))
set_option maxRecDepth 20000 in
theorem q_X6_discounted {l : Launch} {I : gIt} {J : gJt} {w : Bool} {y1 : Int64} {v : Int64} (h : p_X6_discounted I y1 = some v) : Cn l gX6_discounted 2 0 0 [.ref 9, .long y1] gS0 I J (gR0 w) (fun v' S' I' J' R' => v' = some (.long v) ∧ S' = gS0 ∧ I' = I ∧ J' = J ∧ R' = gR0 w) := by
  refine Cn.of [some (.ref 9), some (.long y1), none, none] (by decide) rfl (Nat.le_of_ble_eq_true rfl) ?_
  rw [p_X6_discounted] at h
  refine G_bipush (v := 100) dX6_discounted_0 rfl ?_
  refine G_aload_n dX6_discounted_2 rfl rfl ?_
  refine G_getI fl_X6_15 sl_9 sk_9 rfl dX6_discounted_3 ?_
  refine G_iadd dX6_discounted_6 ?_
  refine G_nI fun z1 ez1 => ?_
  replace h := gL_some ez1 h
  refine S_istore_n [some (.ref 9), some (.long y1), none, some (.int z1)] dX6_discounted_7 rfl (by decide) rfl ?_
  refine G_iload_n dX6_discounted_8 rfl rfl ?_
  refine G_if_le 23 dX6_discounted_9 (by decide) (fun c2 => ?_) (fun c2 => ?_)
  · replace h := git c2 h
    refine G_lconst (v := 0) dX6_discounted_23 rfl ?_
    refine G_lret rfl (Nat.le_refl _) (Nat.le_refl _) dX6_discounted_24 ?_
    cases h
    exact ⟨rfl, rfl, rfl, rfl, rfl⟩
  · replace h := gif c2 h
    refine G_lload_n dX6_discounted_12 rfl rfl ?_
    refine G_ldc2 dX6_discounted_13 kc_X6_19 ?_
    refine G_lmul dX6_discounted_16 ?_
    refine G_iload_n dX6_discounted_17 rfl rfl ?_
    refine G_i2l dX6_discounted_18 ?_
    obtain ⟨b3, h⟩ := gck_some h
    refine G_ldiv dX6_discounted_19 (of_decide_eq_true b3) ?_
    refine G_goto 24 dX6_discounted_20 (by decide) ?_
    refine G_lret rfl (Nat.le_refl _) (Nat.le_refl _) dX6_discounted_24 ?_
    cases h
    exact ⟨rfl, rfl, rfl, rfl, rfl⟩
def p_X6_put (I : gIt) (x1 : Int32) (x2 : Int32) (x3 : Int32) : Option (Int32 × gIt) :=
  if x1 < 0 then
  some ((0 : Int32), I)
  else
  if (4 : Int32) ≤ x1 then
  some ((0 : Int32), I)
  else
  if x2 < 0 then
  some ((0 : Int32), I)
  else
  if (10 : Int32) < x2 then
  some ((0 : Int32), I)
  else
  if x3 < 0 then
  some ((0 : Int32), I)
  else
  if x3 ≤ (200 : Int32) then
  gL (((x1 * (12 : Int32)) + x2)) fun z7 =>
  if x2 ≤ 0 then
  gck (gin (z7 + (1 : Int32)) 48) (
  if (I 10 ((z7 + (1 : Int32))).toNatClampNeg) ≤ x3 then
  gck (gin z7 48) (
  gL (gu2 I 10 (z7).toNatClampNeg x3) fun I12 =>
  some ((1 : Int32), I12))
  else
  some ((0 : Int32), I))
  else
  gck (gin (z7 - (1 : Int32)) 48) (
  if (I 10 ((z7 - (1 : Int32))).toNatClampNeg) < x3 then
  some ((0 : Int32), I)
  else
  gck (gin (z7 + (1 : Int32)) 48) (
  if (I 10 ((z7 + (1 : Int32))).toNatClampNeg) ≤ x3 then
  gck (gin z7 48) (
  gL (gu2 I 10 (z7).toNatClampNeg x3) fun I18 =>
  some ((1 : Int32), I18))
  else
  some ((0 : Int32), I)))
  else
  some ((0 : Int32), I)
set_option maxRecDepth 20000 in
theorem q_X6_put {l : Launch} {I : gIt} {J : gJt} {w : Bool} {x1 : Int32} {x2 : Int32} {x3 : Int32} {v : (Int32 × gIt)} (h : p_X6_put I x1 x2 x3 = some v) : Cn l gX6_put 2 0 0 [.ref 9, .int x1, .int x2, .int x3] gS0 I J (gR0 w) (fun v' S' I' J' R' => v' = some (.int v.1) ∧ S' = gS0 ∧ I' = v.2 ∧ J' = J ∧ R' = gR0 w) := by
  refine Cn.of [some (.ref 9), some (.int x1), some (.int x2), some (.int x3), none] (by decide) rfl (Nat.le_of_ble_eq_true rfl) ?_
  rw [p_X6_put] at h
  refine G_iload_n dX6_put_0 rfl rfl ?_
  refine G_if_lt 30 dX6_put_1 (by decide) (fun c1 => ?_) (fun c1 => ?_)
  · replace h := git c1 h
    refine G_iconst (v := 0) dX6_put_30 rfl ?_
    refine G_zret rfl (Or.inl rfl) (Nat.le_refl _) (Nat.le_refl _) dX6_put_31 ?_
    cases h
    exact ⟨rfl, rfl, rfl, rfl, rfl⟩
  · replace h := gif c1 h
    refine G_iload_n dX6_put_4 rfl rfl ?_
    refine G_iconst (v := 4) dX6_put_5 rfl ?_
    refine G_icmp_ge 30 dX6_put_6 (by decide) (fun c2 => ?_) (fun c2 => ?_)
    · replace h := git c2 h
      refine G_iconst (v := 0) dX6_put_30 rfl ?_
      refine G_zret rfl (Or.inl rfl) (Nat.le_refl _) (Nat.le_refl _) dX6_put_31 ?_
      cases h
      exact ⟨rfl, rfl, rfl, rfl, rfl⟩
    · replace h := gif c2 h
      refine G_iload_n dX6_put_9 rfl rfl ?_
      refine G_if_lt 30 dX6_put_10 (by decide) (fun c3 => ?_) (fun c3 => ?_)
      · replace h := git c3 h
        refine G_iconst (v := 0) dX6_put_30 rfl ?_
        refine G_zret rfl (Or.inl rfl) (Nat.le_refl _) (Nat.le_refl _) dX6_put_31 ?_
        cases h
        exact ⟨rfl, rfl, rfl, rfl, rfl⟩
      · replace h := gif c3 h
        refine G_iload_n dX6_put_13 rfl rfl ?_
        refine G_bipush (v := 10) dX6_put_14 rfl ?_
        refine G_icmp_gt 30 dX6_put_16 (by decide) (fun c4 => ?_) (fun c4 => ?_)
        · replace h := git c4 h
          refine G_iconst (v := 0) dX6_put_30 rfl ?_
          refine G_zret rfl (Or.inl rfl) (Nat.le_refl _) (Nat.le_refl _) dX6_put_31 ?_
          cases h
          exact ⟨rfl, rfl, rfl, rfl, rfl⟩
        · replace h := gif c4 h
          refine G_iload_n dX6_put_19 rfl rfl ?_
          refine G_if_lt 30 dX6_put_20 (by decide) (fun c5 => ?_) (fun c5 => ?_)
          · replace h := git c5 h
            refine G_iconst (v := 0) dX6_put_30 rfl ?_
            refine G_zret rfl (Or.inl rfl) (Nat.le_refl _) (Nat.le_refl _) dX6_put_31 ?_
            cases h
            exact ⟨rfl, rfl, rfl, rfl, rfl⟩
          · replace h := gif c5 h
            refine G_iload_n dX6_put_23 rfl rfl ?_
            refine G_sipush (v := 200) dX6_put_24 rfl ?_
            refine G_icmp_le 32 dX6_put_27 (by decide) (fun c6 => ?_) (fun c6 => ?_)
            · replace h := git c6 h
              refine G_iload_n dX6_put_32 rfl rfl ?_
              refine G_bipush (v := 12) dX6_put_33 rfl ?_
              refine G_imul dX6_put_35 ?_
              refine G_iload_n dX6_put_36 rfl rfl ?_
              refine G_iadd dX6_put_37 ?_
              refine G_nI fun z7 ez7 => ?_
              replace h := gL_some ez7 h
              refine S_istore [some (.ref 9), some (.int x1), some (.int x2), some (.int x3), some (.int z7)] dX6_put_38 (by decide) rfl ?_
              refine G_iload_n dX6_put_40 rfl rfl ?_
              refine G_if_le 57 dX6_put_41 (by decide) (fun c8 => ?_) (fun c8 => ?_)
              · replace h := git c8 h
                refine G_iload_n dX6_put_57 rfl rfl ?_
                refine G_aload_n dX6_put_58 rfl rfl ?_
                refine G_getR fl_X6_9 sl_9 sk_9 rfl (rr_9_0 _) dX6_put_59 ?_
                refine G_iload dX6_put_62 rfl ?_
                refine G_iconst (v := 1) dX6_put_64 rfl ?_
                refine G_iadd dX6_put_65 ?_
                obtain ⟨b9, h⟩ := gck_some h
                refine G_iald sl_10 ss_10 (gin_in b9) dX6_put_66 ?_
                refine G_icmp_ge 72 dX6_put_67 (by decide) (fun c10 => ?_) (fun c10 => ?_)
                · replace h := git c10 h
                  refine G_aload_n dX6_put_72 rfl rfl ?_
                  refine G_getR fl_X6_9 sl_9 sk_9 rfl (rr_9_0 _) dX6_put_73 ?_
                  refine G_iload dX6_put_76 rfl ?_
                  refine G_iload_n dX6_put_78 rfl rfl ?_
                  obtain ⟨b11, h⟩ := gck_some h
                  refine G_iast sl_10 ss_10 (gin_in b11) dX6_put_79 ?_
                  refine G_mI fun I12 eI12 => ?_
                  replace h := gL_some eI12 h
                  refine G_iconst (v := 1) dX6_put_80 rfl ?_
                  refine G_zret rfl (Or.inr rfl) (Nat.le_refl _) (Nat.le_refl _) dX6_put_81 ?_
                  cases h
                  exact ⟨rfl, rfl, rfl, rfl, rfl⟩
                · replace h := gif c10 h
                  refine G_iconst (v := 0) dX6_put_70 rfl ?_
                  refine G_zret rfl (Or.inl rfl) (Nat.le_refl _) (Nat.le_refl _) dX6_put_71 ?_
                  cases h
                  exact ⟨rfl, rfl, rfl, rfl, rfl⟩
              · replace h := gif c8 h
                refine G_iload_n dX6_put_44 rfl rfl ?_
                refine G_aload_n dX6_put_45 rfl rfl ?_
                refine G_getR fl_X6_9 sl_9 sk_9 rfl (rr_9_0 _) dX6_put_46 ?_
                refine G_iload dX6_put_49 rfl ?_
                refine G_iconst (v := 1) dX6_put_51 rfl ?_
                refine G_isub dX6_put_52 ?_
                obtain ⟨b13, h⟩ := gck_some h
                refine G_iald sl_10 ss_10 (gin_in b13) dX6_put_53 ?_
                refine G_icmp_gt 70 dX6_put_54 (by decide) (fun c14 => ?_) (fun c14 => ?_)
                · replace h := git c14 h
                  refine G_iconst (v := 0) dX6_put_70 rfl ?_
                  refine G_zret rfl (Or.inl rfl) (Nat.le_refl _) (Nat.le_refl _) dX6_put_71 ?_
                  cases h
                  exact ⟨rfl, rfl, rfl, rfl, rfl⟩
                · replace h := gif c14 h
                  refine G_iload_n dX6_put_57 rfl rfl ?_
                  refine G_aload_n dX6_put_58 rfl rfl ?_
                  refine G_getR fl_X6_9 sl_9 sk_9 rfl (rr_9_0 _) dX6_put_59 ?_
                  refine G_iload dX6_put_62 rfl ?_
                  refine G_iconst (v := 1) dX6_put_64 rfl ?_
                  refine G_iadd dX6_put_65 ?_
                  obtain ⟨b15, h⟩ := gck_some h
                  refine G_iald sl_10 ss_10 (gin_in b15) dX6_put_66 ?_
                  refine G_icmp_ge 72 dX6_put_67 (by decide) (fun c16 => ?_) (fun c16 => ?_)
                  · replace h := git c16 h
                    refine G_aload_n dX6_put_72 rfl rfl ?_
                    refine G_getR fl_X6_9 sl_9 sk_9 rfl (rr_9_0 _) dX6_put_73 ?_
                    refine G_iload dX6_put_76 rfl ?_
                    refine G_iload_n dX6_put_78 rfl rfl ?_
                    obtain ⟨b17, h⟩ := gck_some h
                    refine G_iast sl_10 ss_10 (gin_in b17) dX6_put_79 ?_
                    refine G_mI fun I18 eI18 => ?_
                    replace h := gL_some eI18 h
                    refine G_iconst (v := 1) dX6_put_80 rfl ?_
                    refine G_zret rfl (Or.inr rfl) (Nat.le_refl _) (Nat.le_refl _) dX6_put_81 ?_
                    cases h
                    exact ⟨rfl, rfl, rfl, rfl, rfl⟩
                  · replace h := gif c16 h
                    refine G_iconst (v := 0) dX6_put_70 rfl ?_
                    refine G_zret rfl (Or.inl rfl) (Nat.le_refl _) (Nat.le_refl _) dX6_put_71 ?_
                    cases h
                    exact ⟨rfl, rfl, rfl, rfl, rfl⟩
            · replace h := gif c6 h
              refine G_iconst (v := 0) dX6_put_30 rfl ?_
              refine G_zret rfl (Or.inl rfl) (Nat.le_refl _) (Nat.le_refl _) dX6_put_31 ?_
              cases h
              exact ⟨rfl, rfl, rfl, rfl, rfl⟩
def p_X6_discountOf_7 (I : gIt) (x1 : Int32) : Nat → Int64 → Int32 → Option Int32
  | 0, _, _ => none
  | n + 1, y2, x4 =>
    if x1 ≤ x4 then
    some (Int64.toInt32 y2)
    else
    gB (p_X6_discounted I y2) fun r2 =>
    p_X6_discountOf_7 I x1 n r2 (x4 + (1 : Int32))
def p_X6_discountOf (I : gIt) (x1 : Int32) : Option Int32 :=
  p_X6_discountOf_7 I x1 gFu (1000000 : Int64) (0 : Int32)
set_option maxRecDepth 20000 in
theorem q_X6_discountOf_7 {l : Launch} {v : Int32} {J : gJt} {w : Bool} {I : gIt} {x1 : Int32} : ∀ (n : Nat) (y2 : Int64) (x4 : Int32), p_X6_discountOf_7 I x1 n y2 x4 = some v → G l gX6_discountOf 3 0 0 (fun v' S' I' J' R' => v' = some (.int v) ∧ S' = gS0 ∧ I' = I ∧ J' = J ∧ R' = gR0 w) 0 0 7 [some (.ref 9), some (.int x1), some (.long y2), none, some (.int x4)] [] gS0 I J (gR0 w) := by
  intro n
  induction n with
  | zero => intro _ _ h; cases h
  | succ n ih =>
    intro y2 x4 h
    rw [p_X6_discountOf_7] at h
    refine G_iload dX6_discountOf_7 rfl ?_
    refine G_iload_n dX6_discountOf_9 rfl rfl ?_
    refine G_icmp_ge 25 dX6_discountOf_10 (by decide) (fun c1 => ?_) (fun c1 => ?_)
    · replace h := git c1 h
      refine G_lload_n dX6_discountOf_25 rfl rfl ?_
      refine G_l2i dX6_discountOf_26 ?_
      refine G_iret rfl (Nat.le_refl _) (Nat.le_refl _) dX6_discountOf_27 ?_
      cases h
      exact ⟨rfl, rfl, rfl, rfl, rfl⟩
    · replace h := gif c1 h
      refine G_aload_n dX6_discountOf_13 rfl rfl ?_
      refine G_lload_n dX6_discountOf_14 rfl rfl ?_
      obtain ⟨r2, hr3, h⟩ := gB_some h
      refine G_cV (mj := gX6_discounted) (As := [.long y2]) (rest := []) ml_X6_23 vX6_discounted sl_9 sk_9 (by decide) rfl rfl rfl (Nat.le_of_ble_eq_true rfl) (by decide) (Nat.le_refl _) (Nat.le_refl _) dX6_discountOf_15 (q_X6_discounted hr3) ?_
      refine S_lstore_n [some (.ref 9), some (.int x1), some (.long r2), none, some (.int x4)] dX6_discountOf_18 rfl (by decide) rfl ?_
      refine S_iinc (v := (1 : Int32)) [some (.ref 9), some (.int x1), some (.long r2), none, some (.int (x4 + (1 : Int32)))] dX6_discountOf_19 rfl rfl (by decide) rfl ?_
      refine G_goto 7 dX6_discountOf_22 (by decide) ?_
      exact ih _ _ h
set_option maxRecDepth 20000 in
theorem q_X6_discountOf {l : Launch} {I : gIt} {J : gJt} {w : Bool} {x1 : Int32} {v : Int32} (h : p_X6_discountOf I x1 = some v) : Cn l gX6_discountOf 3 0 0 [.ref 9, .int x1] gS0 I J (gR0 w) (fun v' S' I' J' R' => v' = some (.int v) ∧ S' = gS0 ∧ I' = I ∧ J' = J ∧ R' = gR0 w) := by
  refine Cn.of [some (.ref 9), some (.int x1), none, none, none] (by decide) rfl (Nat.le_of_ble_eq_true rfl) ?_
  rw [p_X6_discountOf] at h
  refine G_ldc2 dX6_discountOf_0 kc_X6_21 ?_
  refine S_lstore_n [some (.ref 9), some (.int x1), some (.long (1000000 : Int64)), none, none] dX6_discountOf_3 rfl (by decide) rfl ?_
  refine G_iconst (v := 0) dX6_discountOf_4 rfl ?_
  refine S_istore [some (.ref 9), some (.int x1), some (.long (1000000 : Int64)), none, some (.int (0 : Int32))] dX6_discountOf_5 (by decide) rfl ?_
  exact q_X6_discountOf_7   gFu _ _ h
def p_X6_grown_6 (I : gIt) (y1 : Int64) (x3 : Int32) : Nat → Int64 → Int32 → Option Int64
  | 0, _, _ => none
  | n + 1, y4, x6 =>
    if x3 ≤ x6 then
    some y4
    else
    gL ((gminL ((y4 * (Int32.toInt64 ((100 : Int32) + (I 9 1)))) / (100 : Int64)) (1000000000000 : Int64))) fun u3 =>
    p_X6_grown_6 I y1 x3 n u3 (x6 + (1 : Int32))
def p_X6_grown (I : gIt) (y1 : Int64) (x3 : Int32) : Option Int64 :=
  p_X6_grown_6 I y1 x3 gFu y1 (0 : Int32)
set_option maxRecDepth 20000 in
theorem q_X6_grown_6 {l : Launch} {v : Int64} {J : gJt} {w : Bool} {I : gIt} {y1 : Int64} {x3 : Int32} : ∀ (n : Nat) (y4 : Int64) (x6 : Int32), p_X6_grown_6 I y1 x3 n y4 x6 = some v → G l gX6_grown 3 0 0 (fun v' S' I' J' R' => v' = some (.long v) ∧ S' = gS0 ∧ I' = I ∧ J' = J ∧ R' = gR0 w) 0 0 6 [some (.ref 9), some (.long y1), none, some (.int x3), some (.long y4), none, some (.int x6)] [] gS0 I J (gR0 w) := by
  intro n
  induction n with
  | zero => intro _ _ h; cases h
  | succ n ih =>
    intro y4 x6 h
    rw [p_X6_grown_6] at h
    refine G_iload dX6_grown_6 rfl ?_
    refine G_iload_n dX6_grown_8 rfl rfl ?_
    refine G_icmp_ge 41 dX6_grown_9 (by decide) (fun c1 => ?_) (fun c1 => ?_)
    · replace h := git c1 h
      refine G_lload dX6_grown_41 rfl ?_
      refine G_lret rfl (Nat.le_refl _) (Nat.le_refl _) dX6_grown_43 ?_
      cases h
      exact ⟨rfl, rfl, rfl, rfl, rfl⟩
    · replace h := gif c1 h
      refine G_lload dX6_grown_12 rfl ?_
      refine G_bipush (v := 100) dX6_grown_14 rfl ?_
      refine G_aload_n dX6_grown_16 rfl rfl ?_
      refine G_getI fl_X6_15 sl_9 sk_9 rfl dX6_grown_17 ?_
      refine G_iadd dX6_grown_20 ?_
      refine G_i2l dX6_grown_21 ?_
      refine G_lmul dX6_grown_22 ?_
      refine G_ldc2 dX6_grown_23 kc_X6_19 ?_
      refine G_ldiv dX6_grown_26 (by decide) ?_
      refine G_ldc2 dX6_grown_27 kc_X6_27 ?_
      refine G_mminL ml_X6_29 (by decide) (Nat.le_of_ble_eq_true rfl) (Nat.le_refl _) (Nat.le_refl _) dX6_grown_30 ?_
      refine G_nJ fun u3 eu3 => ?_
      replace h := gL_some eu3 h
      refine S_lstore [some (.ref 9), some (.long y1), none, some (.int x3), some (.long u3), none, some (.int x6)] dX6_grown_33 (by decide) rfl ?_
      refine S_iinc (v := (1 : Int32)) [some (.ref 9), some (.long y1), none, some (.int x3), some (.long u3), none, some (.int (x6 + (1 : Int32)))] dX6_grown_35 rfl rfl (by decide) rfl ?_
      refine G_goto 6 dX6_grown_38 (by decide) ?_
      exact ih _ _ h
set_option maxRecDepth 20000 in
theorem q_X6_grown {l : Launch} {I : gIt} {J : gJt} {w : Bool} {y1 : Int64} {x3 : Int32} {v : Int64} (h : p_X6_grown I y1 x3 = some v) : Cn l gX6_grown 3 0 0 [.ref 9, .long y1, .int x3] gS0 I J (gR0 w) (fun v' S' I' J' R' => v' = some (.long v) ∧ S' = gS0 ∧ I' = I ∧ J' = J ∧ R' = gR0 w) := by
  refine Cn.of [some (.ref 9), some (.long y1), none, some (.int x3), none, none, none] (by decide) rfl (Nat.le_of_ble_eq_true rfl) ?_
  rw [p_X6_grown] at h
  refine G_lload_n dX6_grown_0 rfl rfl ?_
  refine S_lstore [some (.ref 9), some (.long y1), none, some (.int x3), some (.long y1), none, none] dX6_grown_1 (by decide) rfl ?_
  refine G_iconst (v := 0) dX6_grown_3 rfl ?_
  refine S_istore [some (.ref 9), some (.long y1), none, some (.int x3), some (.long y1), none, some (.int (0 : Int32))] dX6_grown_4 (by decide) rfl ?_
  exact q_X6_grown_6   gFu _ _ h
def p_X6_coverOf_39 (I : gIt) (x1 : Int32) (x2 : Int32) (x3 : Int32) (y4 : Int64) (y6 : Int64) : Nat → Int64 → Int64 → Int32 → Option Int64
  | 0, _, _, _ => none
  | n + 1, y8, y10, x12 =>
    if (110 : Int32) ≤ x12 then
    some y8
    else
    gB (p_X6_discounted I y10) fun r8 =>
    gB (p_X6_livesAt I x1 (x2 + x12)) fun r10 =>
    gB (p_X6_livesAt I x1 ((x2 + x12) + (1 : Int32))) fun r12 =>
    gL ((Int32.toInt64 (r10 - r12))) fun u14 =>
    gB (p_X6_livesAt I x1 (x3 + x12)) fun r15 =>
    gck (decide (¬ y6 = 0)) (
    gL ((((y4 * u14) * (Int32.toInt64 r15)) / y6)) fun u18 =>
    gL ((y8 + ((u18 * r8) / (1000000 : Int64)))) fun u20 =>
    p_X6_coverOf_39 I x1 x2 x3 y4 y6 n u20 r8 (x12 + (1 : Int32)))
def p_X6_coverOf (I : gIt) (x1 : Int32) (x2 : Int32) (x3 : Int32) (y4 : Int64) : Option Int64 :=
  gB (p_X6_livesAt I x1 x2) fun r1 =>
  gB (p_X6_livesAt I x1 x3) fun r3 =>
  gL (((Int32.toInt64 r1) * (Int32.toInt64 r3))) fun u5 =>
  if 0 < (lg_cmp u5 (0 : Int64)) then
  p_X6_coverOf_39 I x1 x2 x3 y4 u5 gFu (0 : Int64) (1000000 : Int64) (0 : Int32)
  else
  some (-1 : Int64)
set_option maxRecDepth 20000 in
theorem q_X6_coverOf_39 {l : Launch} {v : Int64} {J : gJt} {w : Bool} {I : gIt} {x1 : Int32} {x2 : Int32} {x3 : Int32} {y4 : Int64} {y6 : Int64} : ∀ (n : Nat) (y8 : Int64) (y10 : Int64) (x12 : Int32), p_X6_coverOf_39 I x1 x2 x3 y4 y6 n y8 y10 x12 = some v → G l gX6_coverOf 3 0 0 (fun v' S' I' J' R' => v' = some (.long v) ∧ S' = gS0 ∧ I' = I ∧ J' = J ∧ R' = gR0 w) 0 0 39 [some (.ref 9), some (.int x1), some (.int x2), some (.int x3), some (.long y4), none, some (.long y6), none, some (.long y8), none, some (.long y10), none, some (.int x12), none, none, none, none] [] gS0 I J (gR0 w) := by
  intro n
  induction n with
  | zero => intro _ _ _ h; cases h
  | succ n ih =>
    intro y8 y10 x12 h
    rw [p_X6_coverOf_39] at h
    refine G_iload dX6_coverOf_39 rfl ?_
    refine G_bipush (v := 110) dX6_coverOf_41 rfl ?_
    refine G_icmp_ge 119 dX6_coverOf_43 (by decide) (fun c7 => ?_) (fun c7 => ?_)
    · replace h := git c7 h
      refine G_lload dX6_coverOf_119 rfl ?_
      refine G_lret rfl (Nat.le_refl _) (Nat.le_refl _) dX6_coverOf_121 ?_
      cases h
      exact ⟨rfl, rfl, rfl, rfl, rfl⟩
    · replace h := gif c7 h
      refine G_aload_n dX6_coverOf_46 rfl rfl ?_
      refine G_lload dX6_coverOf_47 rfl ?_
      obtain ⟨r8, hr9, h⟩ := gB_some h
      refine G_cV (mj := gX6_discounted) (As := [.long y10]) (rest := []) ml_X6_23 vX6_discounted sl_9 sk_9 (by decide) rfl rfl rfl (Nat.le_of_ble_eq_true rfl) (by decide) (Nat.le_refl _) (Nat.le_refl _) dX6_coverOf_49 (q_X6_discounted hr9) ?_
      refine S_lstore [some (.ref 9), some (.int x1), some (.int x2), some (.int x3), some (.long y4), none, some (.long y6), none, some (.long y8), none, some (.long r8), none, some (.int x12), none, none, none, none] dX6_coverOf_52 (by decide) rfl ?_
      refine G_aload_n dX6_coverOf_54 rfl rfl ?_
      refine G_iload_n dX6_coverOf_55 rfl rfl ?_
      refine G_iload_n dX6_coverOf_56 rfl rfl ?_
      refine G_iload dX6_coverOf_57 rfl ?_
      refine G_iadd dX6_coverOf_59 ?_
      obtain ⟨r10, hr11, h⟩ := gB_some h
      refine G_cV (mj := gX6_livesAt) (As := [.int x1, .int (x2 + x12)]) (rest := []) ml_X6_35 vX6_livesAt sl_9 sk_9 (by decide) rfl rfl rfl (Nat.le_of_ble_eq_true rfl) (by decide) (Nat.le_refl _) (Nat.le_refl _) dX6_coverOf_60 (q_X6_livesAt hr11) ?_
      refine G_aload_n dX6_coverOf_63 rfl rfl ?_
      refine G_iload_n dX6_coverOf_64 rfl rfl ?_
      refine G_iload_n dX6_coverOf_65 rfl rfl ?_
      refine G_iload dX6_coverOf_66 rfl ?_
      refine G_iadd dX6_coverOf_68 ?_
      refine G_iconst (v := 1) dX6_coverOf_69 rfl ?_
      refine G_iadd dX6_coverOf_70 ?_
      obtain ⟨r12, hr13, h⟩ := gB_some h
      refine G_cV (mj := gX6_livesAt) (As := [.int x1, .int ((x2 + x12) + (1 : Int32))]) (rest := [.int r10]) ml_X6_35 vX6_livesAt sl_9 sk_9 (by decide) rfl rfl rfl (Nat.le_of_ble_eq_true rfl) (by decide) (Nat.le_refl _) (Nat.le_refl _) dX6_coverOf_71 (q_X6_livesAt hr13) ?_
      refine G_isub dX6_coverOf_74 ?_
      refine G_i2l dX6_coverOf_75 ?_
      refine G_nJ fun u14 eu14 => ?_
      replace h := gL_some eu14 h
      refine S_lstore [some (.ref 9), some (.int x1), some (.int x2), some (.int x3), some (.long y4), none, some (.long y6), none, some (.long y8), none, some (.long r8), none, some (.int x12), some (.long u14), none, none, none] dX6_coverOf_76 (by decide) rfl ?_
      refine G_lload dX6_coverOf_78 rfl ?_
      refine G_lload dX6_coverOf_80 rfl ?_
      refine G_lmul dX6_coverOf_82 ?_
      refine G_aload_n dX6_coverOf_83 rfl rfl ?_
      refine G_iload_n dX6_coverOf_84 rfl rfl ?_
      refine G_iload_n dX6_coverOf_85 rfl rfl ?_
      refine G_iload dX6_coverOf_86 rfl ?_
      refine G_iadd dX6_coverOf_88 ?_
      obtain ⟨r15, hr16, h⟩ := gB_some h
      refine G_cV (mj := gX6_livesAt) (As := [.int x1, .int (x3 + x12)]) (rest := [.long (y4 * u14)]) ml_X6_35 vX6_livesAt sl_9 sk_9 (by decide) rfl rfl rfl (Nat.le_of_ble_eq_true rfl) (by decide) (Nat.le_refl _) (Nat.le_refl _) dX6_coverOf_89 (q_X6_livesAt hr16) ?_
      refine G_i2l dX6_coverOf_92 ?_
      refine G_lmul dX6_coverOf_93 ?_
      refine G_lload dX6_coverOf_94 rfl ?_
      obtain ⟨b17, h⟩ := gck_some h
      refine G_ldiv dX6_coverOf_96 (of_decide_eq_true b17) ?_
      refine G_nJ fun u18 eu18 => ?_
      replace h := gL_some eu18 h
      refine S_lstore [some (.ref 9), some (.int x1), some (.int x2), some (.int x3), some (.long y4), none, some (.long y6), none, some (.long y8), none, some (.long r8), none, some (.int x12), some (.long u14), none, some (.long u18), none] dX6_coverOf_97 (by decide) rfl ?_
      refine G_lload dX6_coverOf_99 rfl ?_
      refine G_lload dX6_coverOf_101 rfl ?_
      refine G_lload dX6_coverOf_103 rfl ?_
      refine G_lmul dX6_coverOf_105 ?_
      refine G_ldc2 dX6_coverOf_106 kc_X6_21 ?_
      refine G_ldiv dX6_coverOf_109 (by decide) ?_
      refine G_ladd dX6_coverOf_110 ?_
      refine G_nJ fun u20 eu20 => ?_
      replace h := gL_some eu20 h
      refine S_lstore [some (.ref 9), some (.int x1), some (.int x2), some (.int x3), some (.long y4), none, some (.long y6), none, some (.long u20), none, some (.long r8), none, some (.int x12), some (.long u14), none, some (.long u18), none] dX6_coverOf_111 (by decide) rfl ?_
      refine S_iinc (v := (1 : Int32)) [some (.ref 9), some (.int x1), some (.int x2), some (.int x3), some (.long y4), none, some (.long y6), none, some (.long u20), none, some (.long r8), none, some (.int (x12 + (1 : Int32))), some (.long u14), none, some (.long u18), none] dX6_coverOf_113 rfl rfl (by decide) rfl ?_
      refine G_goto 39 dX6_coverOf_116 (by decide) ?_
      refine G_sub [some (.ref 9), some (.int x1), some (.int x2), some (.int x3), some (.long y4), none, some (.long y6), none, some (.long u20), none, some (.long r8), none, some (.int (x12 + (1 : Int32))), none, none, none, none] ⟨rfl, rfl, rfl, rfl, rfl, rfl, rfl, rfl, rfl, trivial⟩ ?_
      exact ih _ _ _ h
set_option maxRecDepth 20000 in
theorem q_X6_coverOf {l : Launch} {I : gIt} {J : gJt} {w : Bool} {x1 : Int32} {x2 : Int32} {x3 : Int32} {y4 : Int64} {v : Int64} (h : p_X6_coverOf I x1 x2 x3 y4 = some v) : Cn l gX6_coverOf 3 0 0 [.ref 9, .int x1, .int x2, .int x3, .long y4] gS0 I J (gR0 w) (fun v' S' I' J' R' => v' = some (.long v) ∧ S' = gS0 ∧ I' = I ∧ J' = J ∧ R' = gR0 w) := by
  refine Cn.of [some (.ref 9), some (.int x1), some (.int x2), some (.int x3), some (.long y4), none, none, none, none, none, none, none, none, none, none, none, none] (by decide) rfl (Nat.le_of_ble_eq_true rfl) ?_
  rw [p_X6_coverOf] at h
  refine G_aload_n dX6_coverOf_0 rfl rfl ?_
  refine G_iload_n dX6_coverOf_1 rfl rfl ?_
  refine G_iload_n dX6_coverOf_2 rfl rfl ?_
  obtain ⟨r1, hr2, h⟩ := gB_some h
  refine G_cV (mj := gX6_livesAt) (As := [.int x1, .int x2]) (rest := []) ml_X6_35 vX6_livesAt sl_9 sk_9 (by decide) rfl rfl rfl (Nat.le_of_ble_eq_true rfl) (by decide) (Nat.le_refl _) (Nat.le_refl _) dX6_coverOf_3 (q_X6_livesAt hr2) ?_
  refine G_i2l dX6_coverOf_6 ?_
  refine G_aload_n dX6_coverOf_7 rfl rfl ?_
  refine G_iload_n dX6_coverOf_8 rfl rfl ?_
  refine G_iload_n dX6_coverOf_9 rfl rfl ?_
  obtain ⟨r3, hr4, h⟩ := gB_some h
  refine G_cV (mj := gX6_livesAt) (As := [.int x1, .int x3]) (rest := [.long (Int32.toInt64 r1)]) ml_X6_35 vX6_livesAt sl_9 sk_9 (by decide) rfl rfl rfl (Nat.le_of_ble_eq_true rfl) (by decide) (Nat.le_refl _) (Nat.le_refl _) dX6_coverOf_10 (q_X6_livesAt hr4) ?_
  refine G_i2l dX6_coverOf_13 ?_
  refine G_lmul dX6_coverOf_14 ?_
  refine G_nJ fun u5 eu5 => ?_
  replace h := gL_some eu5 h
  refine S_lstore [some (.ref 9), some (.int x1), some (.int x2), some (.int x3), some (.long y4), none, some (.long u5), none, none, none, none, none, none, none, none, none, none] dX6_coverOf_15 (by decide) rfl ?_
  refine G_lload dX6_coverOf_17 rfl ?_
  refine G_lconst (v := 0) dX6_coverOf_19 rfl ?_
  refine G_lcmp dX6_coverOf_20 ?_
  refine G_if_gt 28 dX6_coverOf_21 (by decide) (fun c6 => ?_) (fun c6 => ?_)
  · replace h := git c6 h
    refine G_lconst (v := 0) dX6_coverOf_28 rfl ?_
    refine S_lstore [some (.ref 9), some (.int x1), some (.int x2), some (.int x3), some (.long y4), none, some (.long u5), none, some (.long (0 : Int64)), none, none, none, none, none, none, none, none] dX6_coverOf_29 (by decide) rfl ?_
    refine G_ldc2 dX6_coverOf_31 kc_X6_21 ?_
    refine S_lstore [some (.ref 9), some (.int x1), some (.int x2), some (.int x3), some (.long y4), none, some (.long u5), none, some (.long (0 : Int64)), none, some (.long (1000000 : Int64)), none, none, none, none, none, none] dX6_coverOf_34 (by decide) rfl ?_
    refine G_iconst (v := 0) dX6_coverOf_36 rfl ?_
    refine S_istore [some (.ref 9), some (.int x1), some (.int x2), some (.int x3), some (.long y4), none, some (.long u5), none, some (.long (0 : Int64)), none, some (.long (1000000 : Int64)), none, some (.int (0 : Int32)), none, none, none, none] dX6_coverOf_37 (by decide) rfl ?_
    exact q_X6_coverOf_39   gFu _ _ _ h
  · replace h := gif c6 h
    refine G_ldc2 dX6_coverOf_24 kc_X6_39 ?_
    refine G_lret rfl (Nat.le_refl _) (Nat.le_refl _) dX6_coverOf_27 ?_
    cases h
    exact ⟨rfl, rfl, rfl, rfl, rfl⟩
