/-! ===== pure programs and their walks ===== -/
def p_X11_now (I : gIt) (x1 : Int32) : Option (Int32 × gIt) :=
  if x1 < (I 0 14) then
  some ((0 : Int32), I)
  else
  if x1 ≤ (1999 : Int32) then
  gL (gu2 I 0 14 x1) fun I3 =>
  some ((1 : Int32), I3)
  else
  some ((0 : Int32), I)
set_option maxRecDepth 20000 in
theorem q_X11_now {l : Launch} {I : gIt} {J : gJt} {w : Bool} {x1 : Int32} {v : (Int32 × gIt)} (h : p_X11_now I x1 = some v) : Cn l gX11_now 2 0 0 [.ref 0, .int x1] gS0 I J (gR0 w) (fun v' S' I' J' R' => v' = some (.int v.1) ∧ S' = gS0 ∧ I' = v.2 ∧ J' = J ∧ R' = gR0 w) := by
  refine Cn.of [some (.ref 0), some (.int x1)] (by decide) rfl (Nat.le_of_ble_eq_true rfl) ?_
  rw [p_X11_now] at h
  refine G_iload_n dX11_now_0 rfl rfl ?_
  refine G_aload_n dX11_now_1 rfl rfl ?_
  refine G_getI fl_X11_93 sl_0 sk_0 rfl dX11_now_2 ?_
  refine G_icmp_lt 15 dX11_now_5 (by decide) (fun c1 => ?_) (fun c1 => ?_)
  · replace h := git c1 h
    refine G_iconst (v := 0) dX11_now_15 rfl ?_
    refine G_zret rfl (Or.inl rfl) (Nat.le_refl _) (Nat.le_refl _) dX11_now_16 ?_
    cases h
    exact ⟨rfl, rfl, rfl, rfl, rfl⟩
  · replace h := gif c1 h
    refine G_iload_n dX11_now_8 rfl rfl ?_
    refine G_sipush (v := 1999) dX11_now_9 rfl ?_
    refine G_icmp_le 17 dX11_now_12 (by decide) (fun c2 => ?_) (fun c2 => ?_)
    · replace h := git c2 h
      refine G_aload_n dX11_now_17 rfl rfl ?_
      refine G_iload_n dX11_now_18 rfl rfl ?_
      refine G_putI fl_X11_93 sl_0 sk_0 rfl rfl ⟨rfl, rfl⟩ dX11_now_19 ?_
      refine G_mI fun I3 eI3 => ?_
      replace h := gL_some eI3 h
      refine G_iconst (v := 1) dX11_now_22 rfl ?_
      refine G_zret rfl (Or.inr rfl) (Nat.le_refl _) (Nat.le_refl _) dX11_now_23 ?_
      cases h
      exact ⟨rfl, rfl, rfl, rfl, rfl⟩
    · replace h := gif c2 h
      refine G_iconst (v := 0) dX11_now_15 rfl ?_
      refine G_zret rfl (Or.inl rfl) (Nat.le_refl _) (Nat.le_refl _) dX11_now_16 ?_
      cases h
      exact ⟨rfl, rfl, rfl, rfl, rfl⟩
def p_X11_person (I : gIt) (x1 : Int32) (x2 : Int32) : Option (Int32 × gIt) :=
  if x1 < (1600 : Int32) then
  some ((-1 : Int32), I)
  else
  if (I 0 14) < x1 then
  some ((-1 : Int32), I)
  else
  if (I 1 7) < (16 : Int32) then
  if x2 = (-1 : Int32) then
  gB (p_X7_add I x1 x2 (I 0 14)) fun r5 =>
  some (r5.1, r5.2)
  else
  gB (p_X7_has I x2) fun r7 =>
  if r7 = 0 then
  some ((-1 : Int32), I)
  else
  gck (gin x2 16) (
  if (I 2 (x2).toNatClampNeg) ≤ x1 then
  gB (p_X7_add I x1 x2 (I 0 14)) fun r12 =>
  some (r12.1, r12.2)
  else
  some ((-1 : Int32), I))
  else
  some ((-1 : Int32), I)
set_option maxRecDepth 20000 in
theorem q_X11_person {l : Launch} {I : gIt} {J : gJt} {w : Bool} {x1 : Int32} {x2 : Int32} {v : (Int32 × gIt)} (h : p_X11_person I x1 x2 = some v) : Cn l gX11_person 3 0 0 [.ref 0, .int x1, .int x2] gS0 I J (gR0 w) (fun v' S' I' J' R' => v' = some (.int v.1) ∧ S' = gS0 ∧ I' = v.2 ∧ J' = J ∧ R' = gR0 w) := by
  refine Cn.of [some (.ref 0), some (.int x1), some (.int x2)] (by decide) rfl (Nat.le_of_ble_eq_true rfl) ?_
  rw [p_X11_person] at h
  refine G_iload_n dX11_person_0 rfl rfl ?_
  refine G_sipush (v := 1600) dX11_person_1 rfl ?_
  refine G_icmp_lt 27 dX11_person_4 (by decide) (fun c1 => ?_) (fun c1 => ?_)
  · replace h := git c1 h
    refine G_iconst (v := -1) dX11_person_27 rfl ?_
    refine G_iret rfl (Nat.le_refl _) (Nat.le_refl _) dX11_person_28 ?_
    cases h
    exact ⟨rfl, rfl, rfl, rfl, rfl⟩
  · replace h := gif c1 h
    refine G_iload_n dX11_person_7 rfl rfl ?_
    refine G_aload_n dX11_person_8 rfl rfl ?_
    refine G_getI fl_X11_93 sl_0 sk_0 rfl dX11_person_9 ?_
    refine G_icmp_gt 27 dX11_person_12 (by decide) (fun c2 => ?_) (fun c2 => ?_)
    · replace h := git c2 h
      refine G_iconst (v := -1) dX11_person_27 rfl ?_
      refine G_iret rfl (Nat.le_refl _) (Nat.le_refl _) dX11_person_28 ?_
      cases h
      exact ⟨rfl, rfl, rfl, rfl, rfl⟩
    · replace h := gif c2 h
      refine G_aload_n dX11_person_15 rfl rfl ?_
      refine G_getR fl_X11_10 sl_0 sk_0 rfl (rr_0_0 _) dX11_person_16 ?_
      refine G_getI fl_X11_97 sl_1 sk_1 rfl dX11_person_19 ?_
      refine G_bipush (v := 16) dX11_person_22 rfl ?_
      refine G_icmp_lt 29 dX11_person_24 (by decide) (fun c3 => ?_) (fun c3 => ?_)
      · replace h := git c3 h
        refine G_iload_n dX11_person_29 rfl rfl ?_
        refine G_iconst (v := -1) dX11_person_30 rfl ?_
        refine G_icmp_eq 60 dX11_person_31 (by decide) (fun c4 => ?_) (fun c4 => ?_)
        · replace h := git c4 h
          refine G_aload_n dX11_person_60 rfl rfl ?_
          refine G_getR fl_X11_10 sl_0 sk_0 rfl (rr_0_0 _) dX11_person_61 ?_
          refine G_iload_n dX11_person_64 rfl rfl ?_
          refine G_iload_n dX11_person_65 rfl rfl ?_
          refine G_aload_n dX11_person_66 rfl rfl ?_
          refine G_getI fl_X11_93 sl_0 sk_0 rfl dX11_person_67 ?_
          obtain ⟨r5, hr6, h⟩ := gB_some h
          refine G_cV (mj := gX7_add) (As := [.int x1, .int x2, .int (I 0 14)]) (rest := []) ml_X11_108 vX7_add sl_1 sk_1 (by decide) rfl rfl rfl (Nat.le_of_ble_eq_true rfl) (by decide) (Nat.le_refl _) (Nat.le_refl _) dX11_person_70 (q_X7_add hr6) ?_
          refine G_iret rfl (Nat.le_refl _) (Nat.le_refl _) dX11_person_73 ?_
          cases h
          exact ⟨rfl, rfl, rfl, rfl, rfl⟩
        · replace h := gif c4 h
          refine G_aload_n dX11_person_34 rfl rfl ?_
          refine G_getR fl_X11_10 sl_0 sk_0 rfl (rr_0_0 _) dX11_person_35 ?_
          refine G_iload_n dX11_person_38 rfl rfl ?_
          obtain ⟨r7, hr8, h⟩ := gB_some h
          refine G_cV (mj := gX7_has) (As := [.int x2]) (rest := []) ml_X11_100 vX7_has sl_1 sk_1 (by decide) rfl rfl rfl (Nat.le_of_ble_eq_true rfl) (by decide) (Nat.le_refl _) (Nat.le_refl _) dX11_person_39 (q_X7_has hr8) ?_
          refine G_if_eq 58 dX11_person_42 (by decide) (fun c9 => ?_) (fun c9 => ?_)
          · replace h := git c9 h
            refine G_iconst (v := -1) dX11_person_58 rfl ?_
            refine G_iret rfl (Nat.le_refl _) (Nat.le_refl _) dX11_person_59 ?_
            cases h
            exact ⟨rfl, rfl, rfl, rfl, rfl⟩
          · replace h := gif c9 h
            refine G_iload_n dX11_person_45 rfl rfl ?_
            refine G_aload_n dX11_person_46 rfl rfl ?_
            refine G_getR fl_X11_10 sl_0 sk_0 rfl (rr_0_0 _) dX11_person_47 ?_
            refine G_getR fl_X11_104 sl_1 sk_1 rfl (rr_1_0 _) dX11_person_50 ?_
            refine G_iload_n dX11_person_53 rfl rfl ?_
            obtain ⟨b10, h⟩ := gck_some h
            refine G_iald sl_2 ss_2 (gin_in b10) dX11_person_54 ?_
            refine G_icmp_ge 60 dX11_person_55 (by decide) (fun c11 => ?_) (fun c11 => ?_)
            · replace h := git c11 h
              refine G_aload_n dX11_person_60 rfl rfl ?_
              refine G_getR fl_X11_10 sl_0 sk_0 rfl (rr_0_0 _) dX11_person_61 ?_
              refine G_iload_n dX11_person_64 rfl rfl ?_
              refine G_iload_n dX11_person_65 rfl rfl ?_
              refine G_aload_n dX11_person_66 rfl rfl ?_
              refine G_getI fl_X11_93 sl_0 sk_0 rfl dX11_person_67 ?_
              obtain ⟨r12, hr13, h⟩ := gB_some h
              refine G_cV (mj := gX7_add) (As := [.int x1, .int x2, .int (I 0 14)]) (rest := []) ml_X11_108 vX7_add sl_1 sk_1 (by decide) rfl rfl rfl (Nat.le_of_ble_eq_true rfl) (by decide) (Nat.le_refl _) (Nat.le_refl _) dX11_person_70 (q_X7_add hr13) ?_
              refine G_iret rfl (Nat.le_refl _) (Nat.le_refl _) dX11_person_73 ?_
              cases h
              exact ⟨rfl, rfl, rfl, rfl, rfl⟩
            · replace h := gif c11 h
              refine G_iconst (v := -1) dX11_person_58 rfl ?_
              refine G_iret rfl (Nat.le_refl _) (Nat.le_refl _) dX11_person_59 ?_
              cases h
              exact ⟨rfl, rfl, rfl, rfl, rfl⟩
      · replace h := gif c3 h
        refine G_iconst (v := -1) dX11_person_27 rfl ?_
        refine G_iret rfl (Nat.le_refl _) (Nat.le_refl _) dX11_person_28 ?_
        cases h
        exact ⟨rfl, rfl, rfl, rfl, rfl⟩
def p_X11_dies (I : gIt) (x1 : Int32) (x2 : Int32) : Option (Int32 × gIt) :=
  gB (p_X7_has I x1) fun r1 =>
  if r1 = 0 then
  some ((0 : Int32), I)
  else
  gck (gin x1 16) (
  if (I 5 (x1).toNatClampNeg) = (-1 : Int32) then
  gck (gin x1 16) (
  if x2 < (I 2 (x1).toNatClampNeg) then
  some ((0 : Int32), I)
  else
  if x2 ≤ (I 0 14) then
  gck (gin x1 16) (
  gL (gu2 I 5 (x1).toNatClampNeg x2) fun I10 =>
  gL ((I10 0 14)) fun z11 =>
  gck (gin x1 16) (
  gL (gu2 I10 6 (x1).toNatClampNeg z11) fun I13 =>
  some ((1 : Int32), I13)))
  else
  some ((0 : Int32), I))
  else
  some ((0 : Int32), I))
set_option maxRecDepth 20000 in
theorem q_X11_dies {l : Launch} {I : gIt} {J : gJt} {w : Bool} {x1 : Int32} {x2 : Int32} {v : (Int32 × gIt)} (h : p_X11_dies I x1 x2 = some v) : Cn l gX11_dies 3 0 0 [.ref 0, .int x1, .int x2] gS0 I J (gR0 w) (fun v' S' I' J' R' => v' = some (.int v.1) ∧ S' = gS0 ∧ I' = v.2 ∧ J' = J ∧ R' = gR0 w) := by
  refine Cn.of [some (.ref 0), some (.int x1), some (.int x2)] (by decide) rfl (Nat.le_of_ble_eq_true rfl) ?_
  rw [p_X11_dies] at h
  refine G_aload_n dX11_dies_0 rfl rfl ?_
  refine G_getR fl_X11_10 sl_0 sk_0 rfl (rr_0_0 _) dX11_dies_1 ?_
  refine G_iload_n dX11_dies_4 rfl rfl ?_
  obtain ⟨r1, hr2, h⟩ := gB_some h
  refine G_cV (mj := gX7_has) (As := [.int x1]) (rest := []) ml_X11_100 vX7_has sl_1 sk_1 (by decide) rfl rfl rfl (Nat.le_of_ble_eq_true rfl) (by decide) (Nat.le_refl _) (Nat.le_refl _) dX11_dies_5 (q_X7_has hr2) ?_
  refine G_if_eq 24 dX11_dies_8 (by decide) (fun c3 => ?_) (fun c3 => ?_)
  · replace h := git c3 h
    refine G_iconst (v := 0) dX11_dies_24 rfl ?_
    refine G_zret rfl (Or.inl rfl) (Nat.le_refl _) (Nat.le_refl _) dX11_dies_25 ?_
    cases h
    exact ⟨rfl, rfl, rfl, rfl, rfl⟩
  · replace h := gif c3 h
    refine G_aload_n dX11_dies_11 rfl rfl ?_
    refine G_getR fl_X11_10 sl_0 sk_0 rfl (rr_0_0 _) dX11_dies_12 ?_
    refine G_getR fl_X11_112 sl_1 sk_1 rfl (rr_1_3 _) dX11_dies_15 ?_
    refine G_iload_n dX11_dies_18 rfl rfl ?_
    obtain ⟨b4, h⟩ := gck_some h
    refine G_iald sl_5 ss_5 (gin_in b4) dX11_dies_19 ?_
    refine G_iconst (v := -1) dX11_dies_20 rfl ?_
    refine G_icmp_eq 26 dX11_dies_21 (by decide) (fun c5 => ?_) (fun c5 => ?_)
    · replace h := git c5 h
      refine G_iload_n dX11_dies_26 rfl rfl ?_
      refine G_aload_n dX11_dies_27 rfl rfl ?_
      refine G_getR fl_X11_10 sl_0 sk_0 rfl (rr_0_0 _) dX11_dies_28 ?_
      refine G_getR fl_X11_104 sl_1 sk_1 rfl (rr_1_0 _) dX11_dies_31 ?_
      refine G_iload_n dX11_dies_34 rfl rfl ?_
      obtain ⟨b6, h⟩ := gck_some h
      refine G_iald sl_2 ss_2 (gin_in b6) dX11_dies_35 ?_
      refine G_icmp_lt 47 dX11_dies_36 (by decide) (fun c7 => ?_) (fun c7 => ?_)
      · replace h := git c7 h
        refine G_iconst (v := 0) dX11_dies_47 rfl ?_
        refine G_zret rfl (Or.inl rfl) (Nat.le_refl _) (Nat.le_refl _) dX11_dies_48 ?_
        cases h
        exact ⟨rfl, rfl, rfl, rfl, rfl⟩
      · replace h := gif c7 h
        refine G_iload_n dX11_dies_39 rfl rfl ?_
        refine G_aload_n dX11_dies_40 rfl rfl ?_
        refine G_getI fl_X11_93 sl_0 sk_0 rfl dX11_dies_41 ?_
        refine G_icmp_le 49 dX11_dies_44 (by decide) (fun c8 => ?_) (fun c8 => ?_)
        · replace h := git c8 h
          refine G_aload_n dX11_dies_49 rfl rfl ?_
          refine G_getR fl_X11_10 sl_0 sk_0 rfl (rr_0_0 _) dX11_dies_50 ?_
          refine G_getR fl_X11_112 sl_1 sk_1 rfl (rr_1_3 _) dX11_dies_53 ?_
          refine G_iload_n dX11_dies_56 rfl rfl ?_
          refine G_iload_n dX11_dies_57 rfl rfl ?_
          obtain ⟨b9, h⟩ := gck_some h
          refine G_iast sl_5 ss_5 (gin_in b9) dX11_dies_58 ?_
          refine G_mI fun I10 eI10 => ?_
          replace h := gL_some eI10 h
          refine G_aload_n dX11_dies_59 rfl rfl ?_
          refine G_getR fl_X11_10 sl_0 sk_0 rfl (rr_0_0 _) dX11_dies_60 ?_
          refine G_getR fl_X11_115 sl_1 sk_1 rfl (rr_1_4 _) dX11_dies_63 ?_
          refine G_iload_n dX11_dies_66 rfl rfl ?_
          refine G_aload_n dX11_dies_67 rfl rfl ?_
          refine G_getI fl_X11_93 sl_0 sk_0 rfl dX11_dies_68 ?_
          refine G_nI fun z11 ez11 => ?_
          replace h := gL_some ez11 h
          obtain ⟨b12, h⟩ := gck_some h
          refine G_iast sl_6 ss_6 (gin_in b12) dX11_dies_71 ?_
          refine G_mI fun I13 eI13 => ?_
          replace h := gL_some eI13 h
          refine G_iconst (v := 1) dX11_dies_72 rfl ?_
          refine G_zret rfl (Or.inr rfl) (Nat.le_refl _) (Nat.le_refl _) dX11_dies_73 ?_
          cases h
          exact ⟨rfl, rfl, rfl, rfl, rfl⟩
        · replace h := gif c8 h
          refine G_iconst (v := 0) dX11_dies_47 rfl ?_
          refine G_zret rfl (Or.inl rfl) (Nat.le_refl _) (Nat.le_refl _) dX11_dies_48 ?_
          cases h
          exact ⟨rfl, rfl, rfl, rfl, rfl⟩
    · replace h := gif c5 h
      refine G_iconst (v := 0) dX11_dies_24 rfl ?_
      refine G_zret rfl (Or.inl rfl) (Nat.le_refl _) (Nat.le_refl _) dX11_dies_25 ?_
      cases h
      exact ⟨rfl, rfl, rfl, rfl, rfl⟩
def p_X11_table (I : gIt) (x1 : Int32) (x2 : Int32) (x3 : Int32) : Option (Int32 × gIt) :=
  gB (p_X6_put I x1 x2 x3) fun r1 =>
  gck (gbo r1.1) (
  some (r1.1, r1.2))
set_option maxRecDepth 20000 in
theorem q_X11_table {l : Launch} {I : gIt} {J : gJt} {w : Bool} {x1 : Int32} {x2 : Int32} {x3 : Int32} {v : (Int32 × gIt)} (h : p_X11_table I x1 x2 x3 = some v) : Cn l gX11_table 3 0 0 [.ref 0, .int x1, .int x2, .int x3] gS0 I J (gR0 w) (fun v' S' I' J' R' => v' = some (.int v.1) ∧ S' = gS0 ∧ I' = v.2 ∧ J' = J ∧ R' = gR0 w) := by
  refine Cn.of [some (.ref 0), some (.int x1), some (.int x2), some (.int x3)] (by decide) rfl (Nat.le_of_ble_eq_true rfl) ?_
  rw [p_X11_table] at h
  refine G_aload_n dX11_table_0 rfl rfl ?_
  refine G_getR fl_X11_19 sl_0 sk_0 rfl (rr_0_1 _) dX11_table_1 ?_
  refine G_iload_n dX11_table_4 rfl rfl ?_
  refine G_iload_n dX11_table_5 rfl rfl ?_
  refine G_iload_n dX11_table_6 rfl rfl ?_
  obtain ⟨r1, hr2, h⟩ := gB_some h
  refine G_cV (mj := gX6_put) (As := [.int x1, .int x2, .int x3]) (rest := []) ml_X11_118 vX6_put sl_9 sk_9 (by decide) rfl rfl rfl (Nat.le_of_ble_eq_true rfl) (by decide) (Nat.le_refl _) (Nat.le_refl _) dX11_table_7 (q_X6_put hr2) ?_
  obtain ⟨b3, h⟩ := gck_some h
  refine G_zret rfl (gbo_or b3) (Nat.le_refl _) (Nat.le_refl _) dX11_table_10 ?_
  cases h
  exact ⟨rfl, rfl, rfl, rfl, rfl⟩
def p_X11_lives (I : gIt) (x1 : Int32) (x2 : Int32) : Option Int32 :=
  if x1 < 0 then
  some (-1 : Int32)
  else
  if (4 : Int32) ≤ x1 then
  some (-1 : Int32)
  else
  if x2 < 0 then
  some (-1 : Int32)
  else
  if x2 ≤ (400 : Int32) then
  gB (p_X6_livesAt I x1 x2) fun r5 =>
  some r5
  else
  some (-1 : Int32)
set_option maxRecDepth 20000 in
theorem q_X11_lives {l : Launch} {I : gIt} {J : gJt} {w : Bool} {x1 : Int32} {x2 : Int32} {v : Int32} (h : p_X11_lives I x1 x2 = some v) : Cn l gX11_lives 3 0 0 [.ref 0, .int x1, .int x2] gS0 I J (gR0 w) (fun v' S' I' J' R' => v' = some (.int v) ∧ S' = gS0 ∧ I' = I ∧ J' = J ∧ R' = gR0 w) := by
  refine Cn.of [some (.ref 0), some (.int x1), some (.int x2)] (by decide) rfl (Nat.le_of_ble_eq_true rfl) ?_
  rw [p_X11_lives] at h
  refine G_iload_n dX11_lives_0 rfl rfl ?_
  refine G_if_lt 20 dX11_lives_1 (by decide) (fun c1 => ?_) (fun c1 => ?_)
  · replace h := git c1 h
    refine G_iconst (v := -1) dX11_lives_20 rfl ?_
    refine G_iret rfl (Nat.le_refl _) (Nat.le_refl _) dX11_lives_21 ?_
    cases h
    exact ⟨rfl, rfl, rfl, rfl, rfl⟩
  · replace h := gif c1 h
    refine G_iload_n dX11_lives_4 rfl rfl ?_
    refine G_iconst (v := 4) dX11_lives_5 rfl ?_
    refine G_icmp_ge 20 dX11_lives_6 (by decide) (fun c2 => ?_) (fun c2 => ?_)
    · replace h := git c2 h
      refine G_iconst (v := -1) dX11_lives_20 rfl ?_
      refine G_iret rfl (Nat.le_refl _) (Nat.le_refl _) dX11_lives_21 ?_
      cases h
      exact ⟨rfl, rfl, rfl, rfl, rfl⟩
    · replace h := gif c2 h
      refine G_iload_n dX11_lives_9 rfl rfl ?_
      refine G_if_lt 20 dX11_lives_10 (by decide) (fun c3 => ?_) (fun c3 => ?_)
      · replace h := git c3 h
        refine G_iconst (v := -1) dX11_lives_20 rfl ?_
        refine G_iret rfl (Nat.le_refl _) (Nat.le_refl _) dX11_lives_21 ?_
        cases h
        exact ⟨rfl, rfl, rfl, rfl, rfl⟩
      · replace h := gif c3 h
        refine G_iload_n dX11_lives_13 rfl rfl ?_
        refine G_sipush (v := 400) dX11_lives_14 rfl ?_
        refine G_icmp_le 22 dX11_lives_17 (by decide) (fun c4 => ?_) (fun c4 => ?_)
        · replace h := git c4 h
          refine G_aload_n dX11_lives_22 rfl rfl ?_
          refine G_getR fl_X11_19 sl_0 sk_0 rfl (rr_0_1 _) dX11_lives_23 ?_
          refine G_iload_n dX11_lives_26 rfl rfl ?_
          refine G_iload_n dX11_lives_27 rfl rfl ?_
          obtain ⟨r5, hr6, h⟩ := gB_some h
          refine G_cV (mj := gX6_livesAt) (As := [.int x1, .int x2]) (rest := []) ml_X11_122 vX6_livesAt sl_9 sk_9 (by decide) rfl rfl rfl (Nat.le_of_ble_eq_true rfl) (by decide) (Nat.le_refl _) (Nat.le_refl _) dX11_lives_28 (q_X6_livesAt hr6) ?_
          refine G_iret rfl (Nat.le_refl _) (Nat.le_refl _) dX11_lives_31 ?_
          cases h
          exact ⟨rfl, rfl, rfl, rfl, rfl⟩
        · replace h := gif c4 h
          refine G_iconst (v := -1) dX11_lives_20 rfl ?_
          refine G_iret rfl (Nat.le_refl _) (Nat.le_refl _) dX11_lives_21 ?_
          cases h
          exact ⟨rfl, rfl, rfl, rfl, rfl⟩
def p_X11_number (I : gIt) (x1 : Int32) (x2 : Int32) : Option (Int32 × gIt) :=
  if x1 = 0 then
  if x2 < 0 then
  if x1 = (1 : Int32) then
  if x2 < 0 then
  some ((0 : Int32), I)
  else
  if (50 : Int32) < x2 then
  some ((0 : Int32), I)
  else
  gL (gu2 I 0 15 x2) fun I10 =>
  some ((1 : Int32), I10)
  else
  some ((0 : Int32), I)
  else
  if (20 : Int32) < x2 then
  if x1 = (1 : Int32) then
  if x2 < 0 then
  some ((0 : Int32), I)
  else
  if (50 : Int32) < x2 then
  some ((0 : Int32), I)
  else
  gL (gu2 I 0 15 x2) fun I15 =>
  some ((1 : Int32), I15)
  else
  some ((0 : Int32), I)
  else
  gL (gu2 I 9 1 x2) fun I16 =>
  some ((1 : Int32), I16)
  else
  if x1 = (1 : Int32) then
  if x2 < 0 then
  some ((0 : Int32), I)
  else
  if (50 : Int32) < x2 then
  some ((0 : Int32), I)
  else
  gL (gu2 I 0 15 x2) fun I5 =>
  some ((1 : Int32), I5)
  else
  some ((0 : Int32), I)
set_option maxRecDepth 20000 in
theorem q_X11_number {l : Launch} {I : gIt} {J : gJt} {w : Bool} {x1 : Int32} {x2 : Int32} {v : (Int32 × gIt)} (h : p_X11_number I x1 x2 = some v) : Cn l gX11_number 2 0 0 [.ref 0, .int x1, .int x2] gS0 I J (gR0 w) (fun v' S' I' J' R' => v' = some (.int v.1) ∧ S' = gS0 ∧ I' = v.2 ∧ J' = J ∧ R' = gR0 w) := by
  refine Cn.of [some (.ref 0), some (.int x1), some (.int x2)] (by decide) rfl (Nat.le_of_ble_eq_true rfl) ?_
  rw [p_X11_number] at h
  refine G_iload_n dX11_number_0 rfl rfl ?_
  refine G_if_ne 24 dX11_number_1 (by decide) (fun c1 => ?_) (fun c1 => ?_)
  · replace h := gif c1 h
    refine G_iload_n dX11_number_24 rfl rfl ?_
    refine G_iconst (v := 1) dX11_number_25 rfl ?_
    refine G_icmp_ne 46 dX11_number_26 (by decide) (fun c2 => ?_) (fun c2 => ?_)
    · replace h := gif c2 h
      refine G_iconst (v := 0) dX11_number_46 rfl ?_
      refine G_zret rfl (Or.inl rfl) (Nat.le_refl _) (Nat.le_refl _) dX11_number_47 ?_
      cases h
      exact ⟨rfl, rfl, rfl, rfl, rfl⟩
    · replace h := git c2 h
      refine G_iload_n dX11_number_29 rfl rfl ?_
      refine G_if_lt 46 dX11_number_30 (by decide) (fun c3 => ?_) (fun c3 => ?_)
      · replace h := git c3 h
        refine G_iconst (v := 0) dX11_number_46 rfl ?_
        refine G_zret rfl (Or.inl rfl) (Nat.le_refl _) (Nat.le_refl _) dX11_number_47 ?_
        cases h
        exact ⟨rfl, rfl, rfl, rfl, rfl⟩
      · replace h := gif c3 h
        refine G_iload_n dX11_number_33 rfl rfl ?_
        refine G_bipush (v := 50) dX11_number_34 rfl ?_
        refine G_icmp_gt 46 dX11_number_36 (by decide) (fun c4 => ?_) (fun c4 => ?_)
        · replace h := git c4 h
          refine G_iconst (v := 0) dX11_number_46 rfl ?_
          refine G_zret rfl (Or.inl rfl) (Nat.le_refl _) (Nat.le_refl _) dX11_number_47 ?_
          cases h
          exact ⟨rfl, rfl, rfl, rfl, rfl⟩
        · replace h := gif c4 h
          refine G_aload_n dX11_number_39 rfl rfl ?_
          refine G_iload_n dX11_number_40 rfl rfl ?_
          refine G_putI fl_X11_129 sl_0 sk_0 rfl rfl ⟨rfl, rfl⟩ dX11_number_41 ?_
          refine G_mI fun I5 eI5 => ?_
          replace h := gL_some eI5 h
          refine G_iconst (v := 1) dX11_number_44 rfl ?_
          refine G_zret rfl (Or.inr rfl) (Nat.le_refl _) (Nat.le_refl _) dX11_number_45 ?_
          cases h
          exact ⟨rfl, rfl, rfl, rfl, rfl⟩
  · replace h := git c1 h
    refine G_iload_n dX11_number_4 rfl rfl ?_
    refine G_if_lt 24 dX11_number_5 (by decide) (fun c6 => ?_) (fun c6 => ?_)
    · replace h := git c6 h
      refine G_iload_n dX11_number_24 rfl rfl ?_
      refine G_iconst (v := 1) dX11_number_25 rfl ?_
      refine G_icmp_ne 46 dX11_number_26 (by decide) (fun c7 => ?_) (fun c7 => ?_)
      · replace h := gif c7 h
        refine G_iconst (v := 0) dX11_number_46 rfl ?_
        refine G_zret rfl (Or.inl rfl) (Nat.le_refl _) (Nat.le_refl _) dX11_number_47 ?_
        cases h
        exact ⟨rfl, rfl, rfl, rfl, rfl⟩
      · replace h := git c7 h
        refine G_iload_n dX11_number_29 rfl rfl ?_
        refine G_if_lt 46 dX11_number_30 (by decide) (fun c8 => ?_) (fun c8 => ?_)
        · replace h := git c8 h
          refine G_iconst (v := 0) dX11_number_46 rfl ?_
          refine G_zret rfl (Or.inl rfl) (Nat.le_refl _) (Nat.le_refl _) dX11_number_47 ?_
          cases h
          exact ⟨rfl, rfl, rfl, rfl, rfl⟩
        · replace h := gif c8 h
          refine G_iload_n dX11_number_33 rfl rfl ?_
          refine G_bipush (v := 50) dX11_number_34 rfl ?_
          refine G_icmp_gt 46 dX11_number_36 (by decide) (fun c9 => ?_) (fun c9 => ?_)
          · replace h := git c9 h
            refine G_iconst (v := 0) dX11_number_46 rfl ?_
            refine G_zret rfl (Or.inl rfl) (Nat.le_refl _) (Nat.le_refl _) dX11_number_47 ?_
            cases h
            exact ⟨rfl, rfl, rfl, rfl, rfl⟩
          · replace h := gif c9 h
            refine G_aload_n dX11_number_39 rfl rfl ?_
            refine G_iload_n dX11_number_40 rfl rfl ?_
            refine G_putI fl_X11_129 sl_0 sk_0 rfl rfl ⟨rfl, rfl⟩ dX11_number_41 ?_
            refine G_mI fun I10 eI10 => ?_
            replace h := gL_some eI10 h
            refine G_iconst (v := 1) dX11_number_44 rfl ?_
            refine G_zret rfl (Or.inr rfl) (Nat.le_refl _) (Nat.le_refl _) dX11_number_45 ?_
            cases h
            exact ⟨rfl, rfl, rfl, rfl, rfl⟩
    · replace h := gif c6 h
      refine G_iload_n dX11_number_8 rfl rfl ?_
      refine G_bipush (v := 20) dX11_number_9 rfl ?_
      refine G_icmp_gt 24 dX11_number_11 (by decide) (fun c11 => ?_) (fun c11 => ?_)
      · replace h := git c11 h
        refine G_iload_n dX11_number_24 rfl rfl ?_
        refine G_iconst (v := 1) dX11_number_25 rfl ?_
        refine G_icmp_ne 46 dX11_number_26 (by decide) (fun c12 => ?_) (fun c12 => ?_)
        · replace h := gif c12 h
          refine G_iconst (v := 0) dX11_number_46 rfl ?_
          refine G_zret rfl (Or.inl rfl) (Nat.le_refl _) (Nat.le_refl _) dX11_number_47 ?_
          cases h
          exact ⟨rfl, rfl, rfl, rfl, rfl⟩
        · replace h := git c12 h
          refine G_iload_n dX11_number_29 rfl rfl ?_
          refine G_if_lt 46 dX11_number_30 (by decide) (fun c13 => ?_) (fun c13 => ?_)
          · replace h := git c13 h
            refine G_iconst (v := 0) dX11_number_46 rfl ?_
            refine G_zret rfl (Or.inl rfl) (Nat.le_refl _) (Nat.le_refl _) dX11_number_47 ?_
            cases h
            exact ⟨rfl, rfl, rfl, rfl, rfl⟩
          · replace h := gif c13 h
            refine G_iload_n dX11_number_33 rfl rfl ?_
            refine G_bipush (v := 50) dX11_number_34 rfl ?_
            refine G_icmp_gt 46 dX11_number_36 (by decide) (fun c14 => ?_) (fun c14 => ?_)
            · replace h := git c14 h
              refine G_iconst (v := 0) dX11_number_46 rfl ?_
              refine G_zret rfl (Or.inl rfl) (Nat.le_refl _) (Nat.le_refl _) dX11_number_47 ?_
              cases h
              exact ⟨rfl, rfl, rfl, rfl, rfl⟩
            · replace h := gif c14 h
              refine G_aload_n dX11_number_39 rfl rfl ?_
              refine G_iload_n dX11_number_40 rfl rfl ?_
              refine G_putI fl_X11_129 sl_0 sk_0 rfl rfl ⟨rfl, rfl⟩ dX11_number_41 ?_
              refine G_mI fun I15 eI15 => ?_
              replace h := gL_some eI15 h
              refine G_iconst (v := 1) dX11_number_44 rfl ?_
              refine G_zret rfl (Or.inr rfl) (Nat.le_refl _) (Nat.le_refl _) dX11_number_45 ?_
              cases h
              exact ⟨rfl, rfl, rfl, rfl, rfl⟩
      · replace h := gif c11 h
        refine G_aload_n dX11_number_14 rfl rfl ?_
        refine G_getR fl_X11_19 sl_0 sk_0 rfl (rr_0_1 _) dX11_number_15 ?_
        refine G_iload_n dX11_number_18 rfl rfl ?_
        refine G_putI fl_X11_126 sl_9 sk_9 rfl rfl ⟨rfl, rfl⟩ dX11_number_19 ?_
        refine G_mI fun I16 eI16 => ?_
        replace h := gL_some eI16 h
        refine G_iconst (v := 1) dX11_number_22 rfl ?_
        refine G_zret rfl (Or.inr rfl) (Nat.le_refl _) (Nat.le_refl _) dX11_number_23 ?_
        cases h
        exact ⟨rfl, rfl, rfl, rfl, rfl⟩
def p_X11_discount (I : gIt) (x1 : Int32) : Option Int32 :=
  if x1 < 0 then
  some (-1 : Int32)
  else
  if x1 ≤ (400 : Int32) then
  gB (p_X6_discountOf I x1) fun r3 =>
  some r3
  else
  some (-1 : Int32)
set_option maxRecDepth 20000 in
theorem q_X11_discount {l : Launch} {I : gIt} {J : gJt} {w : Bool} {x1 : Int32} {v : Int32} (h : p_X11_discount I x1 = some v) : Cn l gX11_discount 4 0 0 [.ref 0, .int x1] gS0 I J (gR0 w) (fun v' S' I' J' R' => v' = some (.int v) ∧ S' = gS0 ∧ I' = I ∧ J' = J ∧ R' = gR0 w) := by
  refine Cn.of [some (.ref 0), some (.int x1)] (by decide) rfl (Nat.le_of_ble_eq_true rfl) ?_
  rw [p_X11_discount] at h
  refine G_iload_n dX11_discount_0 rfl rfl ?_
  refine G_if_lt 11 dX11_discount_1 (by decide) (fun c1 => ?_) (fun c1 => ?_)
  · replace h := git c1 h
    refine G_iconst (v := -1) dX11_discount_11 rfl ?_
    refine G_iret rfl (Nat.le_refl _) (Nat.le_refl _) dX11_discount_12 ?_
    cases h
    exact ⟨rfl, rfl, rfl, rfl, rfl⟩
  · replace h := gif c1 h
    refine G_iload_n dX11_discount_4 rfl rfl ?_
    refine G_sipush (v := 400) dX11_discount_5 rfl ?_
    refine G_icmp_le 13 dX11_discount_8 (by decide) (fun c2 => ?_) (fun c2 => ?_)
    · replace h := git c2 h
      refine G_aload_n dX11_discount_13 rfl rfl ?_
      refine G_getR fl_X11_19 sl_0 sk_0 rfl (rr_0_1 _) dX11_discount_14 ?_
      refine G_iload_n dX11_discount_17 rfl rfl ?_
      obtain ⟨r3, hr4, h⟩ := gB_some h
      refine G_cV (mj := gX6_discountOf) (As := [.int x1]) (rest := []) ml_X11_132 vX6_discountOf sl_9 sk_9 (by decide) rfl rfl rfl (Nat.le_of_ble_eq_true rfl) (by decide) (Nat.le_refl _) (Nat.le_refl _) dX11_discount_18 (q_X6_discountOf hr4) ?_
      refine G_iret rfl (Nat.le_refl _) (Nat.le_refl _) dX11_discount_21 ?_
      cases h
      exact ⟨rfl, rfl, rfl, rfl, rfl⟩
    · replace h := gif c2 h
      refine G_iconst (v := -1) dX11_discount_11 rfl ?_
      refine G_iret rfl (Nat.le_refl _) (Nat.le_refl _) dX11_discount_12 ?_
      cases h
      exact ⟨rfl, rfl, rfl, rfl, rfl⟩
def p_X11_feed (I : gIt) (x1 : Int32) (x2 : Int32) (x3 : Int32) (x4 : Int32) (x5 : Int32) : Option (Int32 × gIt) :=
  if (I 11 1) ≤ (80 : Int32) then
  gB (p_X10_append I x1) fun r2 =>
  gB (p_X10_append r2 x2) fun r4 =>
  gB (p_X10_append r4 x3) fun r6 =>
  gB (p_X10_append r6 x4) fun r8 =>
  gB (p_X10_append r8 x5) fun r10 =>
  some ((r10 11 1), r10)
  else
  some ((-1 : Int32), I)
set_option maxRecDepth 20000 in
theorem q_X11_feed {l : Launch} {I : gIt} {J : gJt} {w : Bool} {x1 : Int32} {x2 : Int32} {x3 : Int32} {x4 : Int32} {x5 : Int32} {v : (Int32 × gIt)} (h : p_X11_feed I x1 x2 x3 x4 x5 = some v) : Cn l gX11_feed 3 0 0 [.ref 0, .int x1, .int x2, .int x3, .int x4, .int x5] gS0 I J (gR0 w) (fun v' S' I' J' R' => v' = some (.int v.1) ∧ S' = gS0 ∧ I' = v.2 ∧ J' = J ∧ R' = gR0 w) := by
  refine Cn.of [some (.ref 0), some (.int x1), some (.int x2), some (.int x3), some (.int x4), some (.int x5)] (by decide) rfl (Nat.le_of_ble_eq_true rfl) ?_
  rw [p_X11_feed] at h
  refine G_aload_n dX11_feed_0 rfl rfl ?_
  refine G_getR fl_X11_26 sl_0 sk_0 rfl (rr_0_2 _) dX11_feed_1 ?_
  refine G_getI fl_X11_136 sl_11 sk_11 rfl dX11_feed_4 ?_
  refine G_bipush (v := 80) dX11_feed_7 rfl ?_
  refine G_icmp_le 14 dX11_feed_9 (by decide) (fun c1 => ?_) (fun c1 => ?_)
  · replace h := git c1 h
    refine G_aload_n dX11_feed_14 rfl rfl ?_
    refine G_getR fl_X11_26 sl_0 sk_0 rfl (rr_0_2 _) dX11_feed_15 ?_
    refine G_iload_n dX11_feed_18 rfl rfl ?_
    obtain ⟨r2, hr3, h⟩ := gB_some h
    refine G_cV (mj := gX10_append) (As := [.int x1]) (rest := []) ml_X11_137 vX10_append sl_11 sk_11 (by decide) rfl rfl rfl (Nat.le_of_ble_eq_true rfl) (by decide) (Nat.le_refl _) (Nat.le_refl _) dX11_feed_19 (q_X10_append hr3) ?_
    refine G_aload_n dX11_feed_22 rfl rfl ?_
    refine G_getR fl_X11_26 sl_0 sk_0 rfl (rr_0_2 _) dX11_feed_23 ?_
    refine G_iload_n dX11_feed_26 rfl rfl ?_
    obtain ⟨r4, hr5, h⟩ := gB_some h
    refine G_cV (mj := gX10_append) (As := [.int x2]) (rest := []) ml_X11_137 vX10_append sl_11 sk_11 (by decide) rfl rfl rfl (Nat.le_of_ble_eq_true rfl) (by decide) (Nat.le_refl _) (Nat.le_refl _) dX11_feed_27 (q_X10_append hr5) ?_
    refine G_aload_n dX11_feed_30 rfl rfl ?_
    refine G_getR fl_X11_26 sl_0 sk_0 rfl (rr_0_2 _) dX11_feed_31 ?_
    refine G_iload_n dX11_feed_34 rfl rfl ?_
    obtain ⟨r6, hr7, h⟩ := gB_some h
    refine G_cV (mj := gX10_append) (As := [.int x3]) (rest := []) ml_X11_137 vX10_append sl_11 sk_11 (by decide) rfl rfl rfl (Nat.le_of_ble_eq_true rfl) (by decide) (Nat.le_refl _) (Nat.le_refl _) dX11_feed_35 (q_X10_append hr7) ?_
    refine G_aload_n dX11_feed_38 rfl rfl ?_
    refine G_getR fl_X11_26 sl_0 sk_0 rfl (rr_0_2 _) dX11_feed_39 ?_
    refine G_iload dX11_feed_42 rfl ?_
    obtain ⟨r8, hr9, h⟩ := gB_some h
    refine G_cV (mj := gX10_append) (As := [.int x4]) (rest := []) ml_X11_137 vX10_append sl_11 sk_11 (by decide) rfl rfl rfl (Nat.le_of_ble_eq_true rfl) (by decide) (Nat.le_refl _) (Nat.le_refl _) dX11_feed_44 (q_X10_append hr9) ?_
    refine G_aload_n dX11_feed_47 rfl rfl ?_
    refine G_getR fl_X11_26 sl_0 sk_0 rfl (rr_0_2 _) dX11_feed_48 ?_
    refine G_iload dX11_feed_51 rfl ?_
    obtain ⟨r10, hr11, h⟩ := gB_some h
    refine G_cV (mj := gX10_append) (As := [.int x5]) (rest := []) ml_X11_137 vX10_append sl_11 sk_11 (by decide) rfl rfl rfl (Nat.le_of_ble_eq_true rfl) (by decide) (Nat.le_refl _) (Nat.le_refl _) dX11_feed_53 (q_X10_append hr11) ?_
    refine G_aload_n dX11_feed_56 rfl rfl ?_
    refine G_getR fl_X11_26 sl_0 sk_0 rfl (rr_0_2 _) dX11_feed_57 ?_
    refine G_getI fl_X11_136 sl_11 sk_11 rfl dX11_feed_60 ?_
    refine G_iret rfl (Nat.le_refl _) (Nat.le_refl _) dX11_feed_63 ?_
    cases h
    exact ⟨rfl, rfl, rfl, rfl, rfl⟩
  · replace h := gif c1 h
    refine G_iconst (v := -1) dX11_feed_12 rfl ?_
    refine G_iret rfl (Nat.le_refl _) (Nat.le_refl _) dX11_feed_13 ?_
    cases h
    exact ⟨rfl, rfl, rfl, rfl, rfl⟩
def p_X11_settle (I : gIt) (x1 : Int32) (x2 : Int32) (x3 : Int32) (x4 : Int32) : Option (Int32 × gIt) :=
  if x1 < (1 : Int32) then
  some ((-1 : Int32), I)
  else
  if (100000 : Int32) < x1 then
  some ((-1 : Int32), I)
  else
  gB (p_X7_has I x2) fun r3 =>
  if r3 = 0 then
  some ((-1 : Int32), I)
  else
  if x3 < 0 then
  some ((-1 : Int32), I)
  else
  if x3 < (4 : Int32) then
  if x4 < (1 : Int32) then
  some ((-1 : Int32), I)
  else
  if (100 : Int32) < x4 then
  some ((-1 : Int32), I)
  else
  if (I 11 1) < x4 then
  some ((-1 : Int32), I)
  else
  if (I 0 13) < (10 : Int32) then
  gck (gin (I 0 13) 10) (
  gB (p_X9_begin I (14 + 6 * ((I 0 13)).toNatClampNeg) x1 x2 x3) fun r13 =>
  gB (p_X10_open r13 x4) fun r15 =>
  gB (p_X9_readText r15 (14 + 6 * ((I 0 13)).toNatClampNeg)) fun r17 =>
  gL (gu2 r17.2 11 1 (0 : Int32)) fun I19 =>
  if r17.1 = 0 then
  some ((I19 11 4), I19)
  else
  gL (((I19 0 13) + (1 : Int32))) fun z21 =>
  gL (gu2 I19 0 13 z21) fun I22 =>
  some (((I22 0 13) - (1 : Int32)), I22))
  else
  some ((-1 : Int32), I)
  else
  some ((-1 : Int32), I)
set_option maxRecDepth 20000 in
theorem q_X11_settle {l : Launch} {I : gIt} {J : gJt} {w : Bool} {x1 : Int32} {x2 : Int32} {x3 : Int32} {x4 : Int32} {v : (Int32 × gIt)} (h : p_X11_settle I x1 x2 x3 x4 = some v) : Cn l gX11_settle 81 0 0 [.ref 0, .int x1, .int x2, .int x3, .int x4] gS0 I J (gR0 w) (fun v' S' I' J' R' => v' = some (.int v.1) ∧ S' = gS0 ∧ I' = v.2 ∧ J' = J ∧ R' = gR0 w) := by
  refine Cn.of [some (.ref 0), some (.int x1), some (.int x2), some (.int x3), some (.int x4), none, none] (by decide) rfl (Nat.le_of_ble_eq_true rfl) ?_
  rw [p_X11_settle] at h
  refine G_iload_n dX11_settle_0 rfl rfl ?_
  refine G_iconst (v := 1) dX11_settle_1 rfl ?_
  refine G_icmp_lt 31 dX11_settle_2 (by decide) (fun c1 => ?_) (fun c1 => ?_)
  · replace h := git c1 h
    refine G_iconst (v := -1) dX11_settle_31 rfl ?_
    refine G_iret rfl (Nat.le_refl _) (Nat.le_refl _) dX11_settle_32 ?_
    cases h
    exact ⟨rfl, rfl, rfl, rfl, rfl⟩
  · replace h := gif c1 h
    refine G_iload_n dX11_settle_5 rfl rfl ?_
    refine G_ldc dX11_settle_6 kc_X11_141 ?_
    refine G_icmp_gt 31 dX11_settle_8 (by decide) (fun c2 => ?_) (fun c2 => ?_)
    · replace h := git c2 h
      refine G_iconst (v := -1) dX11_settle_31 rfl ?_
      refine G_iret rfl (Nat.le_refl _) (Nat.le_refl _) dX11_settle_32 ?_
      cases h
      exact ⟨rfl, rfl, rfl, rfl, rfl⟩
    · replace h := gif c2 h
      refine G_aload_n dX11_settle_11 rfl rfl ?_
      refine G_getR fl_X11_10 sl_0 sk_0 rfl (rr_0_0 _) dX11_settle_12 ?_
      refine G_iload_n dX11_settle_15 rfl rfl ?_
      obtain ⟨r3, hr4, h⟩ := gB_some h
      refine G_cV (mj := gX7_has) (As := [.int x2]) (rest := []) ml_X11_100 vX7_has sl_1 sk_1 (by decide) rfl rfl rfl (Nat.le_of_ble_eq_true rfl) (by decide) (Nat.le_refl _) (Nat.le_refl _) dX11_settle_16 (q_X7_has hr4) ?_
      refine G_if_eq 31 dX11_settle_19 (by decide) (fun c5 => ?_) (fun c5 => ?_)
      · replace h := git c5 h
        refine G_iconst (v := -1) dX11_settle_31 rfl ?_
        refine G_iret rfl (Nat.le_refl _) (Nat.le_refl _) dX11_settle_32 ?_
        cases h
        exact ⟨rfl, rfl, rfl, rfl, rfl⟩
      · replace h := gif c5 h
        refine G_iload_n dX11_settle_22 rfl rfl ?_
        refine G_if_lt 31 dX11_settle_23 (by decide) (fun c6 => ?_) (fun c6 => ?_)
        · replace h := git c6 h
          refine G_iconst (v := -1) dX11_settle_31 rfl ?_
          refine G_iret rfl (Nat.le_refl _) (Nat.le_refl _) dX11_settle_32 ?_
          cases h
          exact ⟨rfl, rfl, rfl, rfl, rfl⟩
        · replace h := gif c6 h
          refine G_iload_n dX11_settle_26 rfl rfl ?_
          refine G_iconst (v := 4) dX11_settle_27 rfl ?_
          refine G_icmp_lt 33 dX11_settle_28 (by decide) (fun c7 => ?_) (fun c7 => ?_)
          · replace h := git c7 h
            refine G_iload dX11_settle_33 rfl ?_
            refine G_iconst (v := 1) dX11_settle_35 rfl ?_
            refine G_icmp_lt 67 dX11_settle_36 (by decide) (fun c8 => ?_) (fun c8 => ?_)
            · replace h := git c8 h
              refine G_iconst (v := -1) dX11_settle_67 rfl ?_
              refine G_iret rfl (Nat.le_refl _) (Nat.le_refl _) dX11_settle_68 ?_
              cases h
              exact ⟨rfl, rfl, rfl, rfl, rfl⟩
            · replace h := gif c8 h
              refine G_iload dX11_settle_39 rfl ?_
              refine G_bipush (v := 100) dX11_settle_41 rfl ?_
              refine G_icmp_gt 67 dX11_settle_43 (by decide) (fun c9 => ?_) (fun c9 => ?_)
              · replace h := git c9 h
                refine G_iconst (v := -1) dX11_settle_67 rfl ?_
                refine G_iret rfl (Nat.le_refl _) (Nat.le_refl _) dX11_settle_68 ?_
                cases h
                exact ⟨rfl, rfl, rfl, rfl, rfl⟩
              · replace h := gif c9 h
                refine G_iload dX11_settle_46 rfl ?_
                refine G_aload_n dX11_settle_48 rfl rfl ?_
                refine G_getR fl_X11_26 sl_0 sk_0 rfl (rr_0_2 _) dX11_settle_49 ?_
                refine G_getI fl_X11_136 sl_11 sk_11 rfl dX11_settle_52 ?_
                refine G_icmp_gt 67 dX11_settle_55 (by decide) (fun c10 => ?_) (fun c10 => ?_)
                · replace h := git c10 h
                  refine G_iconst (v := -1) dX11_settle_67 rfl ?_
                  refine G_iret rfl (Nat.le_refl _) (Nat.le_refl _) dX11_settle_68 ?_
                  cases h
                  exact ⟨rfl, rfl, rfl, rfl, rfl⟩
                · replace h := gif c10 h
                  refine G_aload_n dX11_settle_58 rfl rfl ?_
                  refine G_getI fl_X11_142 sl_0 sk_0 rfl dX11_settle_59 ?_
                  refine G_bipush (v := 10) dX11_settle_62 rfl ?_
                  refine G_icmp_lt 69 dX11_settle_64 (by decide) (fun c11 => ?_) (fun c11 => ?_)
                  · replace h := git c11 h
                    refine G_aload_n dX11_settle_69 rfl rfl ?_
                    refine G_getR fl_X11_32 sl_0 sk_0 rfl (rr_0_3 _) dX11_settle_70 ?_
                    refine G_aload_n dX11_settle_73 rfl rfl ?_
                    refine G_getI fl_X11_142 sl_0 sk_0 rfl dX11_settle_74 ?_
                    obtain ⟨b12, h⟩ := gck_some h
                    refine G_aald sl_13 ss_13 (gin_in b12) (gset_ar _ (gin_lt b12)) dX11_settle_77 ?_
                    refine S_astore [some (.ref 0), some (.int x1), some (.int x2), some (.int x3), some (.int x4), some (.ref (14 + 6 * ((I 0 13)).toNatClampNeg)), none] dX11_settle_78 (by decide) rfl ?_
                    refine G_aload dX11_settle_80 rfl ?_
                    refine G_ifnonnull 87 dX11_settle_82 (by decide) ?_
                    refine G_aload dX11_settle_87 rfl ?_
                    refine G_iload_n dX11_settle_89 rfl rfl ?_
                    refine G_iload_n dX11_settle_90 rfl rfl ?_
                    refine G_iload_n dX11_settle_91 rfl rfl ?_
                    obtain ⟨r13, hr14, h⟩ := gB_some h
                    refine G_cV (mj := gX9_begin) (As := [.int x1, .int x2, .int x3]) (rest := []) ml_X11_145 vX9_begin (gset_sl (gset_of (gin_lt b12))) (gset_sk (gset_of (gin_lt b12))) (by decide) rfl rfl rfl (Nat.le_of_ble_eq_true rfl) (by decide) (Nat.le_refl _) (Nat.le_refl _) dX11_settle_92 (q_X9_begin (gset_of (gin_lt b12)) hr14) ?_
                    refine G_aload_n dX11_settle_95 rfl rfl ?_
                    refine G_getR fl_X11_26 sl_0 sk_0 rfl (rr_0_2 _) dX11_settle_96 ?_
                    refine G_iload dX11_settle_99 rfl ?_
                    obtain ⟨r15, hr16, h⟩ := gB_some h
                    refine G_cV (mj := gX10_open) (As := [.int x4]) (rest := []) ml_X11_149 vX10_open sl_11 sk_11 (by decide) rfl rfl rfl (Nat.le_of_ble_eq_true rfl) (by decide) (Nat.le_refl _) (Nat.le_refl _) dX11_settle_101 (q_X10_open hr16) ?_
                    refine G_aload dX11_settle_104 rfl ?_
                    refine G_aload_n dX11_settle_106 rfl rfl ?_
                    refine G_getR fl_X11_26 sl_0 sk_0 rfl (rr_0_2 _) dX11_settle_107 ?_
                    obtain ⟨r17, hr18, h⟩ := gB_some h
                    refine G_cV (mj := gX9_readText) (As := [.ref 11]) (rest := []) ml_X11_152 vX9_readText (gset_sl (gset_of (gin_lt b12))) (gset_sk (gset_of (gin_lt b12))) (by decide) rfl rfl rfl (Nat.le_of_ble_eq_true rfl) (by decide) (Nat.le_refl _) (Nat.le_refl _) dX11_settle_110 (q_X9_readText (gset_of (gin_lt b12)) hr18) ?_
                    refine S_istore [some (.ref 0), some (.int x1), some (.int x2), some (.int x3), some (.int x4), some (.ref (14 + 6 * ((I 0 13)).toNatClampNeg)), some (.int r17.1)] dX11_settle_113 (by decide) rfl ?_
                    refine G_aload_n dX11_settle_115 rfl rfl ?_
                    refine G_getR fl_X11_26 sl_0 sk_0 rfl (rr_0_2 _) dX11_settle_116 ?_
                    refine G_iconst (v := 0) dX11_settle_119 rfl ?_
                    refine G_putI fl_X11_136 sl_11 sk_11 rfl rfl ⟨rfl, rfl⟩ dX11_settle_120 ?_
                    refine G_mI fun I19 eI19 => ?_
                    replace h := gL_some eI19 h
                    refine G_iload dX11_settle_123 rfl ?_
                    refine G_if_ne 136 dX11_settle_125 (by decide) (fun c20 => ?_) (fun c20 => ?_)
                    · replace h := gif c20 h
                      refine G_aload_n dX11_settle_136 rfl rfl ?_
                      refine G_dup dX11_settle_137 rfl ?_
                      refine G_getI fl_X11_142 sl_0 sk_0 rfl dX11_settle_138 ?_
                      refine G_iconst (v := 1) dX11_settle_141 rfl ?_
                      refine G_iadd dX11_settle_142 ?_
                      refine G_nI fun z21 ez21 => ?_
                      replace h := gL_some ez21 h
                      refine G_putI fl_X11_142 sl_0 sk_0 rfl rfl ⟨rfl, rfl⟩ dX11_settle_143 ?_
                      refine G_mI fun I22 eI22 => ?_
                      replace h := gL_some eI22 h
                      refine G_aload_n dX11_settle_146 rfl rfl ?_
                      refine G_getI fl_X11_142 sl_0 sk_0 rfl dX11_settle_147 ?_
                      refine G_iconst (v := 1) dX11_settle_150 rfl ?_
                      refine G_isub dX11_settle_151 ?_
                      refine G_iret rfl (Nat.le_refl _) (Nat.le_refl _) dX11_settle_152 ?_
                      cases h
                      exact ⟨rfl, rfl, rfl, rfl, rfl⟩
                    · replace h := git c20 h
                      refine G_aload_n dX11_settle_128 rfl rfl ?_
                      refine G_getR fl_X11_26 sl_0 sk_0 rfl (rr_0_2 _) dX11_settle_129 ?_
                      refine G_getI fl_X11_156 sl_11 sk_11 rfl dX11_settle_132 ?_
                      refine G_iret rfl (Nat.le_refl _) (Nat.le_refl _) dX11_settle_135 ?_
                      cases h
                      exact ⟨rfl, rfl, rfl, rfl, rfl⟩
                  · replace h := gif c11 h
                    refine G_iconst (v := -1) dX11_settle_67 rfl ?_
                    refine G_iret rfl (Nat.le_refl _) (Nat.le_refl _) dX11_settle_68 ?_
                    cases h
                    exact ⟨rfl, rfl, rfl, rfl, rfl⟩
          · replace h := gif c7 h
            refine G_iconst (v := -1) dX11_settle_31 rfl ?_
            refine G_iret rfl (Nat.le_refl _) (Nat.le_refl _) dX11_settle_32 ?_
            cases h
            exact ⟨rfl, rfl, rfl, rfl, rfl⟩
def p_X11_settlementOf (I : gIt) (x1 : Int32) : Option (Option Nat) :=
  if x1 < 0 then
  some (none : Option Nat)
  else
  if (I 0 13) ≤ x1 then
  some (none : Option Nat)
  else
  if (nI 10) ≤ x1 then
  some (none : Option Nat)
  else
  gck (gin x1 10) (
  some (some (14 + 6 * (x1).toNatClampNeg)))
set_option maxRecDepth 20000 in
theorem q_X11_settlementOf {l : Launch} {I : gIt} {J : gJt} {w : Bool} {x1 : Int32} {v : (Option Nat)} (h : p_X11_settlementOf I x1 = some v) : Cn l gX11_settlementOf 2 0 0 [.ref 0, .int x1] gS0 I J (gR0 w) (fun v' S' I' J' R' => v' = some (va_rf v) ∧ S' = gS0 ∧ I' = I ∧ J' = J ∧ R' = gR0 w ∧ ∀ q, v = some q → gset q) := by
  refine Cn.of [some (.ref 0), some (.int x1)] (by decide) rfl (Nat.le_of_ble_eq_true rfl) ?_
  rw [p_X11_settlementOf] at h
  refine G_iload_n dX11_settlementOf_0 rfl rfl ?_
  refine G_if_lt 30 dX11_settlementOf_1 (by decide) (fun c1 => ?_) (fun c1 => ?_)
  · replace h := git c1 h
    refine G_aconst_null dX11_settlementOf_30 ?_
    refine G_aretN (C := "HopeOffice$Settlement") rfl (Nat.le_refl _) (Nat.le_refl _) dX11_settlementOf_31 ?_
    cases h
    exact ⟨rfl, rfl, rfl, rfl, rfl, fun q hq => by cases hq⟩
  · replace h := gif c1 h
    refine G_iload_n dX11_settlementOf_4 rfl rfl ?_
    refine G_aload_n dX11_settlementOf_5 rfl rfl ?_
    refine G_getI fl_X11_142 sl_0 sk_0 rfl dX11_settlementOf_6 ?_
    refine G_icmp_ge 30 dX11_settlementOf_9 (by decide) (fun c2 => ?_) (fun c2 => ?_)
    · replace h := git c2 h
      refine G_aconst_null dX11_settlementOf_30 ?_
      refine G_aretN (C := "HopeOffice$Settlement") rfl (Nat.le_refl _) (Nat.le_refl _) dX11_settlementOf_31 ?_
      cases h
      exact ⟨rfl, rfl, rfl, rfl, rfl, fun q hq => by cases hq⟩
    · replace h := gif c2 h
      refine G_iload_n dX11_settlementOf_12 rfl rfl ?_
      refine G_aload_n dX11_settlementOf_13 rfl rfl ?_
      refine G_getR fl_X11_32 sl_0 sk_0 rfl (rr_0_3 _) dX11_settlementOf_14 ?_
      refine G_alen sl_13 ss_13 (by decide) (by decide) dX11_settlementOf_17 ?_
      refine G_icmp_ge 30 dX11_settlementOf_18 (by decide) (fun c3 => ?_) (fun c3 => ?_)
      · replace h := git c3 h
        refine G_aconst_null dX11_settlementOf_30 ?_
        refine G_aretN (C := "HopeOffice$Settlement") rfl (Nat.le_refl _) (Nat.le_refl _) dX11_settlementOf_31 ?_
        cases h
        exact ⟨rfl, rfl, rfl, rfl, rfl, fun q hq => by cases hq⟩
      · replace h := gif c3 h
        refine G_aload_n dX11_settlementOf_21 rfl rfl ?_
        refine G_getR fl_X11_32 sl_0 sk_0 rfl (rr_0_3 _) dX11_settlementOf_22 ?_
        refine G_iload_n dX11_settlementOf_25 rfl rfl ?_
        obtain ⟨b4, h⟩ := gck_some h
        refine G_aald sl_13 ss_13 (gin_in b4) (gset_ar _ (gin_lt b4)) dX11_settlementOf_26 ?_
        refine G_goto 31 dX11_settlementOf_27 (by decide) ?_
        refine G_aret (C := "HopeOffice$Settlement") rfl (Nat.le_refl _) (Nat.le_refl _) dX11_settlementOf_31 ?_
        cases h
        exact ⟨rfl, rfl, rfl, rfl, rfl, fun q hq => by cases hq; exact (gset_of (gin_lt b4))⟩
def p_X11_isYear (x0 : Int32) : Option Int32 :=
  if x0 < (1700 : Int32) then
  some (0 : Int32)
  else
  if (1999 : Int32) < x0 then
  some (0 : Int32)
  else
  some (1 : Int32)
set_option maxRecDepth 20000 in
theorem q_X11_isYear {l : Launch} {I : gIt} {J : gJt} {w : Bool} {x0 : Int32} {v : Int32} (h : p_X11_isYear x0 = some v) : Cn l gX11_isYear 2 0 0 [.int x0] gS0 I J (gR0 w) (fun v' S' I' J' R' => v' = some (.int v) ∧ S' = gS0 ∧ I' = I ∧ J' = J ∧ R' = gR0 w) := by
  refine Cn.of [some (.int x0)] (by decide) rfl (Nat.le_of_ble_eq_true rfl) ?_
  rw [p_X11_isYear] at h
  refine G_iload_n dX11_isYear_0 rfl rfl ?_
  refine G_sipush (v := 1700) dX11_isYear_1 rfl ?_
  refine G_icmp_lt 18 dX11_isYear_4 (by decide) (fun c1 => ?_) (fun c1 => ?_)
  · replace h := git c1 h
    refine G_iconst (v := 0) dX11_isYear_18 rfl ?_
    refine G_zret rfl (Or.inl rfl) (Nat.le_refl _) (Nat.le_refl _) dX11_isYear_19 ?_
    cases h
    exact ⟨rfl, rfl, rfl, rfl, rfl⟩
  · replace h := gif c1 h
    refine G_iload_n dX11_isYear_7 rfl rfl ?_
    refine G_sipush (v := 1999) dX11_isYear_8 rfl ?_
    refine G_icmp_gt 18 dX11_isYear_11 (by decide) (fun c2 => ?_) (fun c2 => ?_)
    · replace h := git c2 h
      refine G_iconst (v := 0) dX11_isYear_18 rfl ?_
      refine G_zret rfl (Or.inl rfl) (Nat.le_refl _) (Nat.le_refl _) dX11_isYear_19 ?_
      cases h
      exact ⟨rfl, rfl, rfl, rfl, rfl⟩
    · replace h := gif c2 h
      refine G_iconst (v := 1) dX11_isYear_14 rfl ?_
      refine G_goto 19 dX11_isYear_15 (by decide) ?_
      refine G_zret rfl (Or.inr rfl) (Nat.le_refl _) (Nat.le_refl _) dX11_isYear_19 ?_
      cases h
      exact ⟨rfl, rfl, rfl, rfl, rfl⟩
def p_X11_named (I : gIt) (x1 : Int32) (x2 : Int32) : Option (Int32 × gIt) :=
  gB (p_X11_settlementOf I x1) fun r1 =>
  match r1 with
  | none => (
  some ((-1 : Int32), I))
  | some a5 => (
  gB (p_X11_isYear x2) fun r6 =>
  if r6 = 0 then
  some ((-1 : Int32), I)
  else
  gB (p_X5_learn I x2) fun r9 =>
  gB (p_X5_namedIn r9 a5) fun r11 =>
  gB (p_J6_bitCount_0f7a4 r11) fun r13 =>
  some (r13, r9))
set_option maxRecDepth 20000 in
theorem q_X11_named {l : Launch} {I : gIt} {J : gJt} {w : Bool} {x1 : Int32} {x2 : Int32} {v : (Int32 × gIt)} (h : p_X11_named I x1 x2 = some v) : Cn l gX11_named 5 0 0 [.ref 0, .int x1, .int x2] gS0 I J (gR0 w) (fun v' S' I' J' R' => v' = some (.int v.1) ∧ S' = gS0 ∧ I' = v.2 ∧ J' = J ∧ R' = gR0 w) := by
  refine Cn.of [some (.ref 0), some (.int x1), some (.int x2), none] (by decide) rfl (Nat.le_of_ble_eq_true rfl) ?_
  rw [p_X11_named] at h
  refine G_aload_n dX11_named_0 rfl rfl ?_
  refine G_iload_n dX11_named_1 rfl rfl ?_
  obtain ⟨r1, hr2, h⟩ := gB_some h
  refine G_cVO (mj := gX11_settlementOf) (As := [.int x1]) (rest := []) ml_X11_159 vX11_settlementOf sl_0 sk_0 (by decide) rfl rfl rfl (Nat.le_of_ble_eq_true rfl) (by decide) (Nat.le_refl _) (Nat.le_refl _) dX11_named_2 (q_X11_settlementOf hr2) (fun hset => ?_)
  cases hro4 : r1 with
  | none =>
    rw [hro4] at h hset
    refine S_astore_nN [some (.ref 0), some (.int x1), some (.int x2), some (.null)] dX11_named_5 rfl (by decide) rfl ?_
    refine G_aload_nN dX11_named_6 rfl rfl ?_
    refine G_ifnullN 17 dX11_named_7 (by decide) ?_
    refine G_iconst (v := -1) dX11_named_17 rfl ?_
    refine G_iret rfl (Nat.le_refl _) (Nat.le_refl _) dX11_named_18 ?_
    cases h
    exact ⟨rfl, rfl, rfl, rfl, rfl⟩
  | some a5 =>
    rw [hro4] at h hset
    have ha5 : gset a5 := hset a5 rfl
    refine S_astore_n [some (.ref 0), some (.int x1), some (.int x2), some (.ref a5)] dX11_named_5 rfl (by decide) rfl ?_
    refine G_aload_n dX11_named_6 rfl rfl ?_
    refine G_ifnull dX11_named_7 ?_
    refine G_iload_n dX11_named_10 rfl rfl ?_
    obtain ⟨r6, hr7, h⟩ := gB_some h
    refine G_cS (mj := gX11_isYear) (As := [.int x2]) (rest := []) ml_X11_163 vX11_isYear rfl rfl (Nat.le_of_ble_eq_true rfl) (by decide) (Nat.le_refl _) (Nat.le_refl _) dX11_named_11 (q_X11_isYear hr7) ?_
    refine G_if_ne 19 dX11_named_14 (by decide) (fun c8 => ?_) (fun c8 => ?_)
    · replace h := gif c8 h
      refine G_aload_n dX11_named_19 rfl rfl ?_
      refine G_getR fl_X11_40 sl_0 sk_0 rfl (rr_0_4 _) dX11_named_20 ?_
      refine G_aload_n dX11_named_23 rfl rfl ?_
      refine G_getR fl_X11_10 sl_0 sk_0 rfl (rr_0_0 _) dX11_named_24 ?_
      refine G_iload_n dX11_named_27 rfl rfl ?_
      obtain ⟨r9, hr10, h⟩ := gB_some h
      refine G_cV (mj := gX5_learn) (As := [.ref 1, .int x2]) (rest := []) ml_X11_166 vX5_learn sl_74 sk_74 (by decide) rfl rfl rfl (Nat.le_of_ble_eq_true rfl) (by decide) (Nat.le_refl _) (Nat.le_refl _) dX11_named_28 (q_X5_learn hr10) ?_
      refine G_aload_n dX11_named_31 rfl rfl ?_
      refine G_getR fl_X11_40 sl_0 sk_0 rfl (rr_0_4 _) dX11_named_32 ?_
      refine G_aload_n dX11_named_35 rfl rfl ?_
      obtain ⟨r11, hr12, h⟩ := gB_some h
      refine G_cV (mj := gX5_namedIn) (As := [.ref a5]) (rest := []) ml_X11_170 vX5_namedIn sl_74 sk_74 (by decide) rfl rfl rfl (Nat.le_of_ble_eq_true rfl) (by decide) (Nat.le_refl _) (Nat.le_refl _) dX11_named_36 (q_X5_namedIn ha5 hr12) ?_
      obtain ⟨r13, hr14, h⟩ := gB_some h
      refine G_cS (mj := gJ6_bitCount_0f7a4) (As := [.int r11]) (rest := []) ml_X11_174 vJ6_bitCount_0f7a4 rfl rfl (Nat.le_of_ble_eq_true rfl) (by decide) (Nat.le_refl _) (Nat.le_refl _) dX11_named_39 (q_J6_bitCount_0f7a4 hr14) ?_
      refine G_iret rfl (Nat.le_refl _) (Nat.le_refl _) dX11_named_42 ?_
      cases h
      exact ⟨rfl, rfl, rfl, rfl, rfl⟩
    · replace h := git c8 h
      refine G_iconst (v := -1) dX11_named_17 rfl ?_
      refine G_iret rfl (Nat.le_refl _) (Nat.le_refl _) dX11_named_18 ?_
      cases h
      exact ⟨rfl, rfl, rfl, rfl, rfl⟩
def p_X11_falls (I : gIt) (x1 : Int32) (x2 : Int32) (x3 : Int32) : Option (Int32 × gIt) :=
  gB (p_X11_settlementOf I x1) fun r1 =>
  match r1 with
  | none => (
  some ((-1 : Int32), I))
  | some a5 => (
  gB (p_X7_has I x3) fun r6 =>
  if r6 = 0 then
  some ((-1 : Int32), I)
  else
  if (gushr x2 (I 1 7)) = 0 then
  gB (p_X5_learn I (I 0 14)) fun r10 =>
  gB (p_X5_namedIn r10 a5) fun r12 =>
  gB (p_X3_divide r10 a5 (x2 &&& r12)) fun r14 =>
  gB (p_X3_givenTo r14 x3) fun r16 =>
  some (r16, r14)
  else
  some ((-1 : Int32), I))
set_option maxRecDepth 20000 in
theorem q_X11_falls {l : Launch} {I : gIt} {J : gJt} {w : Bool} {x1 : Int32} {x2 : Int32} {x3 : Int32} {v : (Int32 × gIt)} (h : p_X11_falls I x1 x2 x3 = some v) : Cn l gX11_falls 6 0 0 [.ref 0, .int x1, .int x2, .int x3] gS0 I J (gR0 w) (fun v' S' I' J' R' => v' = some (.int v.1) ∧ S' = gS0 ∧ I' = v.2 ∧ J' = J ∧ R' = gR0 w) := by
  refine Cn.of [some (.ref 0), some (.int x1), some (.int x2), some (.int x3), none] (by decide) rfl (Nat.le_of_ble_eq_true rfl) ?_
  rw [p_X11_falls] at h
  refine G_aload_n dX11_falls_0 rfl rfl ?_
  refine G_iload_n dX11_falls_1 rfl rfl ?_
  obtain ⟨r1, hr2, h⟩ := gB_some h
  refine G_cVO (mj := gX11_settlementOf) (As := [.int x1]) (rest := []) ml_X11_159 vX11_settlementOf sl_0 sk_0 (by decide) rfl rfl rfl (Nat.le_of_ble_eq_true rfl) (by decide) (Nat.le_refl _) (Nat.le_refl _) dX11_falls_2 (q_X11_settlementOf hr2) (fun hset => ?_)
  cases hro4 : r1 with
  | none =>
    rw [hro4] at h hset
    refine S_astoreN [some (.ref 0), some (.int x1), some (.int x2), some (.int x3), some (.null)] dX11_falls_5 (by decide) rfl ?_
    refine G_aloadN dX11_falls_7 rfl ?_
    refine G_ifnullN 35 dX11_falls_9 (by decide) ?_
    refine G_iconst (v := -1) dX11_falls_35 rfl ?_
    refine G_iret rfl (Nat.le_refl _) (Nat.le_refl _) dX11_falls_36 ?_
    cases h
    exact ⟨rfl, rfl, rfl, rfl, rfl⟩
  | some a5 =>
    rw [hro4] at h hset
    have ha5 : gset a5 := hset a5 rfl
    refine S_astore [some (.ref 0), some (.int x1), some (.int x2), some (.int x3), some (.ref a5)] dX11_falls_5 (by decide) rfl ?_
    refine G_aload dX11_falls_7 rfl ?_
    refine G_ifnull dX11_falls_9 ?_
    refine G_aload_n dX11_falls_12 rfl rfl ?_
    refine G_getR fl_X11_10 sl_0 sk_0 rfl (rr_0_0 _) dX11_falls_13 ?_
    refine G_iload_n dX11_falls_16 rfl rfl ?_
    obtain ⟨r6, hr7, h⟩ := gB_some h
    refine G_cV (mj := gX7_has) (As := [.int x3]) (rest := []) ml_X11_100 vX7_has sl_1 sk_1 (by decide) rfl rfl rfl (Nat.le_of_ble_eq_true rfl) (by decide) (Nat.le_refl _) (Nat.le_refl _) dX11_falls_17 (q_X7_has hr7) ?_
    refine G_if_eq 35 dX11_falls_20 (by decide) (fun c8 => ?_) (fun c8 => ?_)
    · replace h := git c8 h
      refine G_iconst (v := -1) dX11_falls_35 rfl ?_
      refine G_iret rfl (Nat.le_refl _) (Nat.le_refl _) dX11_falls_36 ?_
      cases h
      exact ⟨rfl, rfl, rfl, rfl, rfl⟩
    · replace h := gif c8 h
      refine G_iload_n dX11_falls_23 rfl rfl ?_
      refine G_aload_n dX11_falls_24 rfl rfl ?_
      refine G_getR fl_X11_10 sl_0 sk_0 rfl (rr_0_0 _) dX11_falls_25 ?_
      refine G_getI fl_X11_97 sl_1 sk_1 rfl dX11_falls_28 ?_
      refine G_ushr dX11_falls_31 ?_
      refine G_if_eq 37 dX11_falls_32 (by decide) (fun c9 => ?_) (fun c9 => ?_)
      · replace h := git c9 h
        refine G_aload_n dX11_falls_37 rfl rfl ?_
        refine G_getR fl_X11_40 sl_0 sk_0 rfl (rr_0_4 _) dX11_falls_38 ?_
        refine G_aload_n dX11_falls_41 rfl rfl ?_
        refine G_getR fl_X11_10 sl_0 sk_0 rfl (rr_0_0 _) dX11_falls_42 ?_
        refine G_aload_n dX11_falls_45 rfl rfl ?_
        refine G_getI fl_X11_93 sl_0 sk_0 rfl dX11_falls_46 ?_
        obtain ⟨r10, hr11, h⟩ := gB_some h
        refine G_cV (mj := gX5_learn) (As := [.ref 1, .int (I 0 14)]) (rest := []) ml_X11_166 vX5_learn sl_74 sk_74 (by decide) rfl rfl rfl (Nat.le_of_ble_eq_true rfl) (by decide) (Nat.le_refl _) (Nat.le_refl _) dX11_falls_49 (q_X5_learn hr11) ?_
        refine G_aload_n dX11_falls_52 rfl rfl ?_
        refine G_getR fl_X11_47 sl_0 sk_0 rfl (rr_0_5 _) dX11_falls_53 ?_
        refine G_aload dX11_falls_56 rfl ?_
        refine G_aload_n dX11_falls_58 rfl rfl ?_
        refine G_getR fl_X11_40 sl_0 sk_0 rfl (rr_0_4 _) dX11_falls_59 ?_
        refine G_iload_n dX11_falls_62 rfl rfl ?_
        refine G_aload_n dX11_falls_63 rfl rfl ?_
        refine G_getR fl_X11_40 sl_0 sk_0 rfl (rr_0_4 _) dX11_falls_64 ?_
        refine G_aload dX11_falls_67 rfl ?_
        obtain ⟨r12, hr13, h⟩ := gB_some h
        refine G_cV (mj := gX5_namedIn) (As := [.ref a5]) (rest := [.int x2, .ref 74, .ref a5, .ref 76]) ml_X11_170 vX5_namedIn sl_74 sk_74 (by decide) rfl rfl rfl (Nat.le_of_ble_eq_true rfl) (by decide) (Nat.le_refl _) (Nat.le_refl _) dX11_falls_69 (q_X5_namedIn ha5 hr13) ?_
        refine G_iand dX11_falls_72 ?_
        obtain ⟨r14, hr15, h⟩ := gB_some h
        refine G_cV (mj := gX3_divide) (As := [.ref a5, .ref 74, .int (x2 &&& r12)]) (rest := []) ml_X11_179 vX3_divide sl_76 sk_76 (by decide) rfl rfl rfl (Nat.le_of_ble_eq_true rfl) (by decide) (Nat.le_refl _) (Nat.le_refl _) dX11_falls_73 (q_X3_divide ha5 hr15) ?_
        refine G_aload_n dX11_falls_76 rfl rfl ?_
        refine G_getR fl_X11_47 sl_0 sk_0 rfl (rr_0_5 _) dX11_falls_77 ?_
        refine G_iload_n dX11_falls_80 rfl rfl ?_
        obtain ⟨r16, hr17, h⟩ := gB_some h
        refine G_cV (mj := gX3_givenTo) (As := [.int x3]) (rest := []) ml_X11_183 vX3_givenTo sl_76 sk_76 (by decide) rfl rfl rfl (Nat.le_of_ble_eq_true rfl) (by decide) (Nat.le_refl _) (Nat.le_refl _) dX11_falls_81 (q_X3_givenTo hr17) ?_
        refine G_iret rfl (Nat.le_refl _) (Nat.le_refl _) dX11_falls_84 ?_
        cases h
        exact ⟨rfl, rfl, rfl, rfl, rfl⟩
      · replace h := gif c9 h
        refine G_iconst (v := -1) dX11_falls_35 rfl ?_
        refine G_iret rfl (Nat.le_refl _) (Nat.le_refl _) dX11_falls_36 ?_
        cases h
        exact ⟨rfl, rfl, rfl, rfl, rfl⟩
def p_X11_reckons (I : gIt) (J : gJt) (x1 : Int32) (x2 : Int32) (x3 : Int32) (x4 : Int32) : Option (Int32 × gIt × gJt) :=
  gB (p_X11_settlementOf I x1) fun r1 =>
  match r1 with
  | none => (
  some ((0 : Int32), I, J))
  | some a5 => (
  gB (p_X7_has I x2) fun r6 =>
  if r6 = 0 then
  some ((0 : Int32), I, J)
  else
  gB (p_X11_isYear x3) fun r9 =>
  if r9 = 0 then
  some ((0 : Int32), I, J)
  else
  if x4 < x3 then
  some ((0 : Int32), I, J)
  else
  if x4 ≤ (1999 : Int32) then
  gB (p_X1_reckon I J a5 x2 x3 x4) fun r14 =>
  gck (gbo r14.1) (
  some (r14.1, r14.2.1, r14.2.2))
  else
  some ((0 : Int32), I, J))
set_option maxRecDepth 20000 in
theorem q_X11_reckons {l : Launch} {I : gIt} {J : gJt} {w : Bool} {x1 : Int32} {x2 : Int32} {x3 : Int32} {x4 : Int32} {v : (Int32 × gIt × gJt)} (h : p_X11_reckons I J x1 x2 x3 x4 = some v) : Cn l gX11_reckons 7 0 0 [.ref 0, .int x1, .int x2, .int x3, .int x4] gS0 I J (gR0 w) (fun v' S' I' J' R' => v' = some (.int v.1) ∧ S' = gS0 ∧ I' = v.2.1 ∧ J' = v.2.2 ∧ R' = gR0 w) := by
  refine Cn.of [some (.ref 0), some (.int x1), some (.int x2), some (.int x3), some (.int x4), none] (by decide) rfl (Nat.le_of_ble_eq_true rfl) ?_
  rw [p_X11_reckons] at h
  refine G_aload_n dX11_reckons_0 rfl rfl ?_
  refine G_iload_n dX11_reckons_1 rfl rfl ?_
  obtain ⟨r1, hr2, h⟩ := gB_some h
  refine G_cVO (mj := gX11_settlementOf) (As := [.int x1]) (rest := []) ml_X11_159 vX11_settlementOf sl_0 sk_0 (by decide) rfl rfl rfl (Nat.le_of_ble_eq_true rfl) (by decide) (Nat.le_refl _) (Nat.le_refl _) dX11_reckons_2 (q_X11_settlementOf hr2) (fun hset => ?_)
  cases hro4 : r1 with
  | none =>
    rw [hro4] at h hset
    refine S_astoreN [some (.ref 0), some (.int x1), some (.int x2), some (.int x3), some (.int x4), some (.null)] dX11_reckons_5 (by decide) rfl ?_
    refine G_aloadN dX11_reckons_7 rfl ?_
    refine G_ifnullN 44 dX11_reckons_9 (by decide) ?_
    refine G_iconst (v := 0) dX11_reckons_44 rfl ?_
    refine G_zret rfl (Or.inl rfl) (Nat.le_refl _) (Nat.le_refl _) dX11_reckons_45 ?_
    cases h
    exact ⟨rfl, rfl, rfl, rfl, rfl⟩
  | some a5 =>
    rw [hro4] at h hset
    have ha5 : gset a5 := hset a5 rfl
    refine S_astore [some (.ref 0), some (.int x1), some (.int x2), some (.int x3), some (.int x4), some (.ref a5)] dX11_reckons_5 (by decide) rfl ?_
    refine G_aload dX11_reckons_7 rfl ?_
    refine G_ifnull dX11_reckons_9 ?_
    refine G_aload_n dX11_reckons_12 rfl rfl ?_
    refine G_getR fl_X11_10 sl_0 sk_0 rfl (rr_0_0 _) dX11_reckons_13 ?_
    refine G_iload_n dX11_reckons_16 rfl rfl ?_
    obtain ⟨r6, hr7, h⟩ := gB_some h
    refine G_cV (mj := gX7_has) (As := [.int x2]) (rest := []) ml_X11_100 vX7_has sl_1 sk_1 (by decide) rfl rfl rfl (Nat.le_of_ble_eq_true rfl) (by decide) (Nat.le_refl _) (Nat.le_refl _) dX11_reckons_17 (q_X7_has hr7) ?_
    refine G_if_eq 44 dX11_reckons_20 (by decide) (fun c8 => ?_) (fun c8 => ?_)
    · replace h := git c8 h
      refine G_iconst (v := 0) dX11_reckons_44 rfl ?_
      refine G_zret rfl (Or.inl rfl) (Nat.le_refl _) (Nat.le_refl _) dX11_reckons_45 ?_
      cases h
      exact ⟨rfl, rfl, rfl, rfl, rfl⟩
    · replace h := gif c8 h
      refine G_iload_n dX11_reckons_23 rfl rfl ?_
      obtain ⟨r9, hr10, h⟩ := gB_some h
      refine G_cS (mj := gX11_isYear) (As := [.int x3]) (rest := []) ml_X11_163 vX11_isYear rfl rfl (Nat.le_of_ble_eq_true rfl) (by decide) (Nat.le_refl _) (Nat.le_refl _) dX11_reckons_24 (q_X11_isYear hr10) ?_
      refine G_if_eq 44 dX11_reckons_27 (by decide) (fun c11 => ?_) (fun c11 => ?_)
      · replace h := git c11 h
        refine G_iconst (v := 0) dX11_reckons_44 rfl ?_
        refine G_zret rfl (Or.inl rfl) (Nat.le_refl _) (Nat.le_refl _) dX11_reckons_45 ?_
        cases h
        exact ⟨rfl, rfl, rfl, rfl, rfl⟩
      · replace h := gif c11 h
        refine G_iload dX11_reckons_30 rfl ?_
        refine G_iload_n dX11_reckons_32 rfl rfl ?_
        refine G_icmp_lt 44 dX11_reckons_33 (by decide) (fun c12 => ?_) (fun c12 => ?_)
        · replace h := git c12 h
          refine G_iconst (v := 0) dX11_reckons_44 rfl ?_
          refine G_zret rfl (Or.inl rfl) (Nat.le_refl _) (Nat.le_refl _) dX11_reckons_45 ?_
          cases h
          exact ⟨rfl, rfl, rfl, rfl, rfl⟩
        · replace h := gif c12 h
          refine G_iload dX11_reckons_36 rfl ?_
          refine G_sipush (v := 1999) dX11_reckons_38 rfl ?_
          refine G_icmp_le 46 dX11_reckons_41 (by decide) (fun c13 => ?_) (fun c13 => ?_)
          · replace h := git c13 h
            refine G_aload_n dX11_reckons_46 rfl rfl ?_
            refine G_getR fl_X11_56 sl_0 sk_0 rfl (rr_0_6 _) dX11_reckons_47 ?_
            refine G_aload dX11_reckons_50 rfl ?_
            refine G_iload_n dX11_reckons_52 rfl rfl ?_
            refine G_iload_n dX11_reckons_53 rfl rfl ?_
            refine G_iload dX11_reckons_54 rfl ?_
            obtain ⟨r14, hr15, h⟩ := gB_some h
            refine G_cV (mj := gX1_reckon) (As := [.ref a5, .int x2, .int x3, .int x4]) (rest := []) ml_X11_339 vX1_reckon sl_78 sk_78 (by decide) rfl rfl rfl (Nat.le_of_ble_eq_true rfl) (by decide) (Nat.le_refl _) (Nat.le_refl _) dX11_reckons_56 (q_X1_reckon ha5 hr15) ?_
            obtain ⟨b16, h⟩ := gck_some h
            refine G_zret rfl (gbo_or b16) (Nat.le_refl _) (Nat.le_refl _) dX11_reckons_59 ?_
            cases h
            exact ⟨rfl, rfl, rfl, rfl, rfl⟩
          · replace h := gif c13 h
            refine G_iconst (v := 0) dX11_reckons_44 rfl ?_
            refine G_zret rfl (Or.inl rfl) (Nat.le_refl _) (Nat.le_refl _) dX11_reckons_45 ?_
            cases h
            exact ⟨rfl, rfl, rfl, rfl, rfl⟩
def p_X11_chance (I : gIt) (J : gJt) (x1 : Int32) (x2 : Int32) (x3 : Int32) (x4 : Int32) (x5 : Int32) : Option (Int64 × gIt × gJt) :=
  if x5 < 0 then
  some ((-1 : Int64), I, J)
  else
  if (1 : Int32) < x5 then
  some ((-1 : Int64), I, J)
  else
  gB (p_X11_reckons I J x1 x2 x3 x4) fun r3 =>
  if r3.1 = 0 then
  some ((-1 : Int64), r3.2.1, r3.2.2)
  else
  if x5 = 0 then
  gB (p_X1_hopeful r3.2.1) fun r7 =>
  some (r7.1, r7.2, r3.2.2)
  else
  some ((r3.2.2 78 12), r3.2.1, r3.2.2)
set_option maxRecDepth 20000 in
theorem q_X11_chance {l : Launch} {I : gIt} {J : gJt} {w : Bool} {x1 : Int32} {x2 : Int32} {x3 : Int32} {x4 : Int32} {x5 : Int32} {v : (Int64 × gIt × gJt)} (h : p_X11_chance I J x1 x2 x3 x4 x5 = some v) : Cn l gX11_chance 8 0 0 [.ref 0, .int x1, .int x2, .int x3, .int x4, .int x5] gS0 I J (gR0 w) (fun v' S' I' J' R' => v' = some (.long v.1) ∧ S' = gS0 ∧ I' = v.2.1 ∧ J' = v.2.2 ∧ R' = gR0 w) := by
  refine Cn.of [some (.ref 0), some (.int x1), some (.int x2), some (.int x3), some (.int x4), some (.int x5)] (by decide) rfl (Nat.le_of_ble_eq_true rfl) ?_
  rw [p_X11_chance] at h
  refine G_iload dX11_chance_0 rfl ?_
  refine G_if_lt 23 dX11_chance_2 (by decide) (fun c1 => ?_) (fun c1 => ?_)
  · replace h := git c1 h
    refine G_ldc2 dX11_chance_23 kc_X11_190 ?_
    refine G_lret rfl (Nat.le_refl _) (Nat.le_refl _) dX11_chance_26 ?_
    cases h
    exact ⟨rfl, rfl, rfl, rfl, rfl⟩
  · replace h := gif c1 h
    refine G_iload dX11_chance_5 rfl ?_
    refine G_iconst (v := 1) dX11_chance_7 rfl ?_
    refine G_icmp_gt 23 dX11_chance_8 (by decide) (fun c2 => ?_) (fun c2 => ?_)
    · replace h := git c2 h
      refine G_ldc2 dX11_chance_23 kc_X11_190 ?_
      refine G_lret rfl (Nat.le_refl _) (Nat.le_refl _) dX11_chance_26 ?_
      cases h
      exact ⟨rfl, rfl, rfl, rfl, rfl⟩
    · replace h := gif c2 h
      refine G_aload_n dX11_chance_11 rfl rfl ?_
      refine G_iload_n dX11_chance_12 rfl rfl ?_
      refine G_iload_n dX11_chance_13 rfl rfl ?_
      refine G_iload_n dX11_chance_14 rfl rfl ?_
      refine G_iload dX11_chance_15 rfl ?_
      obtain ⟨r3, hr4, h⟩ := gB_some h
      refine G_cV (mj := gX11_reckons) (As := [.int x1, .int x2, .int x3, .int x4]) (rest := []) ml_X11_186 vX11_reckons sl_0 sk_0 (by decide) rfl rfl rfl (Nat.le_of_ble_eq_true rfl) (by decide) (Nat.le_refl _) (Nat.le_refl _) dX11_chance_17 (q_X11_reckons hr4) ?_
      refine G_if_ne 27 dX11_chance_20 (by decide) (fun c5 => ?_) (fun c5 => ?_)
      · replace h := gif c5 h
        refine G_iload dX11_chance_27 rfl ?_
        refine G_if_ne 42 dX11_chance_29 (by decide) (fun c6 => ?_) (fun c6 => ?_)
        · replace h := gif c6 h
          refine G_aload_n dX11_chance_42 rfl rfl ?_
          refine G_getR fl_X11_56 sl_0 sk_0 rfl (rr_0_6 _) dX11_chance_43 ?_
          refine G_getJ fl_X11_196 sl_78 sk_78 rfl dX11_chance_46 ?_
          refine G_lret rfl (Nat.le_refl _) (Nat.le_refl _) dX11_chance_49 ?_
          cases h
          exact ⟨rfl, rfl, rfl, rfl, rfl⟩
        · replace h := git c6 h
          refine G_aload_n dX11_chance_32 rfl rfl ?_
          refine G_getR fl_X11_56 sl_0 sk_0 rfl (rr_0_6 _) dX11_chance_33 ?_
          obtain ⟨r7, hr8, h⟩ := gB_some h
          refine G_cV (mj := gX1_hopeful) (As := []) (rest := []) ml_X11_192 vX1_hopeful sl_78 sk_78 (by decide) rfl rfl rfl (Nat.le_of_ble_eq_true rfl) (by decide) (Nat.le_refl _) (Nat.le_refl _) dX11_chance_36 (q_X1_hopeful hr8) ?_
          refine G_goto 49 dX11_chance_39 (by decide) ?_
          refine G_lret rfl (Nat.le_refl _) (Nat.le_refl _) dX11_chance_49 ?_
          cases h
          exact ⟨rfl, rfl, rfl, rfl, rfl⟩
      · replace h := git c5 h
        refine G_ldc2 dX11_chance_23 kc_X11_190 ?_
        refine G_lret rfl (Nat.le_refl _) (Nat.le_refl _) dX11_chance_26 ?_
        cases h
        exact ⟨rfl, rfl, rfl, rfl, rfl⟩
def p_X11_worth (I : gIt) (J : gJt) (x1 : Int32) (x2 : Int32) (x3 : Int32) (x4 : Int32) : Option (Int64 × gIt × gJt) :=
  gB (p_X11_reckons I J x1 x2 x3 x4) fun r1 =>
  if r1.1 = 0 then
  some ((-1 : Int64), r1.2.1, r1.2.2)
  else
  gB (p_X1_worthNow r1.2.1 r1.2.2) fun r4 =>
  some (r4.1, r4.2, r1.2.2)
set_option maxRecDepth 20000 in
theorem q_X11_worth {l : Launch} {I : gIt} {J : gJt} {w : Bool} {x1 : Int32} {x2 : Int32} {x3 : Int32} {x4 : Int32} {v : (Int64 × gIt × gJt)} (h : p_X11_worth I J x1 x2 x3 x4 = some v) : Cn l gX11_worth 8 0 0 [.ref 0, .int x1, .int x2, .int x3, .int x4] gS0 I J (gR0 w) (fun v' S' I' J' R' => v' = some (.long v.1) ∧ S' = gS0 ∧ I' = v.2.1 ∧ J' = v.2.2 ∧ R' = gR0 w) := by
  refine Cn.of [some (.ref 0), some (.int x1), some (.int x2), some (.int x3), some (.int x4)] (by decide) rfl (Nat.le_of_ble_eq_true rfl) ?_
  rw [p_X11_worth] at h
  refine G_aload_n dX11_worth_0 rfl rfl ?_
  refine G_iload_n dX11_worth_1 rfl rfl ?_
  refine G_iload_n dX11_worth_2 rfl rfl ?_
  refine G_iload_n dX11_worth_3 rfl rfl ?_
  refine G_iload dX11_worth_4 rfl ?_
  obtain ⟨r1, hr2, h⟩ := gB_some h
  refine G_cV (mj := gX11_reckons) (As := [.int x1, .int x2, .int x3, .int x4]) (rest := []) ml_X11_186 vX11_reckons sl_0 sk_0 (by decide) rfl rfl rfl (Nat.le_of_ble_eq_true rfl) (by decide) (Nat.le_refl _) (Nat.le_refl _) dX11_worth_6 (q_X11_reckons hr2) ?_
  refine G_if_eq 22 dX11_worth_9 (by decide) (fun c3 => ?_) (fun c3 => ?_)
  · replace h := git c3 h
    refine G_ldc2 dX11_worth_22 kc_X11_190 ?_
    refine G_lret rfl (Nat.le_refl _) (Nat.le_refl _) dX11_worth_25 ?_
    cases h
    exact ⟨rfl, rfl, rfl, rfl, rfl⟩
  · replace h := gif c3 h
    refine G_aload_n dX11_worth_12 rfl rfl ?_
    refine G_getR fl_X11_56 sl_0 sk_0 rfl (rr_0_6 _) dX11_worth_13 ?_
    obtain ⟨r4, hr5, h⟩ := gB_some h
    refine G_cV (mj := gX1_worthNow) (As := []) (rest := []) ml_X11_200 vX1_worthNow sl_78 sk_78 (by decide) rfl rfl rfl (Nat.le_of_ble_eq_true rfl) (by decide) (Nat.le_refl _) (Nat.le_refl _) dX11_worth_16 (q_X1_worthNow hr5) ?_
    refine G_goto 25 dX11_worth_19 (by decide) ?_
    refine G_lret rfl (Nat.le_refl _) (Nat.le_refl _) dX11_worth_25 ?_
    cases h
    exact ⟨rfl, rfl, rfl, rfl, rfl⟩
def p_X11_isParts (x0 : Int32) : Option Int32 :=
  if x0 < (1 : Int32) then
  some (0 : Int32)
  else
  if (1000 : Int32) < x0 then
  some (0 : Int32)
  else
  some (1 : Int32)
set_option maxRecDepth 20000 in
theorem q_X11_isParts {l : Launch} {I : gIt} {J : gJt} {w : Bool} {x0 : Int32} {v : Int32} (h : p_X11_isParts x0 = some v) : Cn l gX11_isParts 2 0 0 [.int x0] gS0 I J (gR0 w) (fun v' S' I' J' R' => v' = some (.int v) ∧ S' = gS0 ∧ I' = I ∧ J' = J ∧ R' = gR0 w) := by
  refine Cn.of [some (.int x0)] (by decide) rfl (Nat.le_of_ble_eq_true rfl) ?_
  rw [p_X11_isParts] at h
  refine G_iload_n dX11_isParts_0 rfl rfl ?_
  refine G_iconst (v := 1) dX11_isParts_1 rfl ?_
  refine G_icmp_lt 16 dX11_isParts_2 (by decide) (fun c1 => ?_) (fun c1 => ?_)
  · replace h := git c1 h
    refine G_iconst (v := 0) dX11_isParts_16 rfl ?_
    refine G_zret rfl (Or.inl rfl) (Nat.le_refl _) (Nat.le_refl _) dX11_isParts_17 ?_
    cases h
    exact ⟨rfl, rfl, rfl, rfl, rfl⟩
  · replace h := gif c1 h
    refine G_iload_n dX11_isParts_5 rfl rfl ?_
    refine G_sipush (v := 1000) dX11_isParts_6 rfl ?_
    refine G_icmp_gt 16 dX11_isParts_9 (by decide) (fun c2 => ?_) (fun c2 => ?_)
    · replace h := git c2 h
      refine G_iconst (v := 0) dX11_isParts_16 rfl ?_
      refine G_zret rfl (Or.inl rfl) (Nat.le_refl _) (Nat.le_refl _) dX11_isParts_17 ?_
      cases h
      exact ⟨rfl, rfl, rfl, rfl, rfl⟩
    · replace h := gif c2 h
      refine G_iconst (v := 1) dX11_isParts_12 rfl ?_
      refine G_goto 17 dX11_isParts_13 (by decide) ?_
      refine G_zret rfl (Or.inr rfl) (Nat.le_refl _) (Nat.le_refl _) dX11_isParts_17 ?_
      cases h
      exact ⟨rfl, rfl, rfl, rfl, rfl⟩
def p_X11_sale (I : gIt) (x1 : Int32) (x2 : Int32) (x3 : Int32) (x4 : Int32) (x5 : Int32) (x6 : Int32) : Option (Int32 × gIt) :=
  gB (p_X11_settlementOf I x2) fun r1 =>
  match r1 with
  | none => (
  some ((-1 : Int32), I))
  | some a5 => (
  gB (p_X7_has I x1) fun r6 =>
  if r6 = 0 then
  some ((-1 : Int32), I)
  else
  gB (p_X7_has I x4) fun r9 =>
  if r9 = 0 then
  some ((-1 : Int32), I)
  else
  if x1 = x4 then
  some ((-1 : Int32), I)
  else
  gB (p_X11_isParts x3) fun r13 =>
  if r13 = 0 then
  some ((-1 : Int32), I)
  else
  if x5 < 0 then
  some ((-1 : Int32), I)
  else
  if (100000 : Int32) < x5 then
  some ((-1 : Int32), I)
  else
  if (I 84 10) < (40 : Int32) then
  gB (p_X7_knownDead I (I a5 6) (I 0 14)) fun r19 =>
  if r19 = 0 then
  gB (p_X8_add I x1 x2 x4 (I 0 14)) fun r22 =>
  gB (p_X8_has r22.2 r22.1) fun r24 =>
  if r24 = 0 then
  some ((-1 : Int32), r22.2)
  else
  gck (gin r22.1 40) (
  gL (gu2 r22.2 87 (r22.1).toNatClampNeg x3) fun I28 =>
  gck (gin r22.1 40) (
  gL (gu2 I28 89 (r22.1).toNatClampNeg x5) fun I30 =>
  gck (gin r22.1 40) (
  gL (gu2 I30 90 (r22.1).toNatClampNeg (vp_nar .boolean x6)) fun I32 =>
  some (r22.1, I32))))
  else
  some ((-1 : Int32), I)
  else
  some ((-1 : Int32), I))
set_option maxRecDepth 20000 in
theorem q_X11_sale {l : Launch} {I : gIt} {J : gJt} {w : Bool} {x1 : Int32} {x2 : Int32} {x3 : Int32} {x4 : Int32} {x5 : Int32} {x6 : Int32} {v : (Int32 × gIt)} (h : p_X11_sale I x1 x2 x3 x4 x5 x6 = some v) : Cn l gX11_sale 4 0 0 [.ref 0, .int x1, .int x2, .int x3, .int x4, .int x5, .int x6] gS0 I J (gR0 w) (fun v' S' I' J' R' => v' = some (.int v.1) ∧ S' = gS0 ∧ I' = v.2 ∧ J' = J ∧ R' = gR0 w) := by
  refine Cn.of [some (.ref 0), some (.int x1), some (.int x2), some (.int x3), some (.int x4), some (.int x5), some (.int x6), none, none] (by decide) rfl (Nat.le_of_ble_eq_true rfl) ?_
  rw [p_X11_sale] at h
  refine G_aload_n dX11_sale_0 rfl rfl ?_
  refine G_iload_n dX11_sale_1 rfl rfl ?_
  obtain ⟨r1, hr2, h⟩ := gB_some h
  refine G_cVO (mj := gX11_settlementOf) (As := [.int x2]) (rest := []) ml_X11_159 vX11_settlementOf sl_0 sk_0 (by decide) rfl rfl rfl (Nat.le_of_ble_eq_true rfl) (by decide) (Nat.le_refl _) (Nat.le_refl _) dX11_sale_2 (q_X11_settlementOf hr2) (fun hset => ?_)
  cases hro4 : r1 with
  | none =>
    rw [hro4] at h hset
    refine S_astoreN [some (.ref 0), some (.int x1), some (.int x2), some (.int x3), some (.int x4), some (.int x5), some (.int x6), some (.null), none] dX11_sale_5 (by decide) rfl ?_
    refine G_aloadN dX11_sale_7 rfl ?_
    refine G_ifnullN 41 dX11_sale_9 (by decide) ?_
    refine G_iconst (v := -1) dX11_sale_41 rfl ?_
    refine G_iret rfl (Nat.le_refl _) (Nat.le_refl _) dX11_sale_42 ?_
    cases h
    exact ⟨rfl, rfl, rfl, rfl, rfl⟩
  | some a5 =>
    rw [hro4] at h hset
    have ha5 : gset a5 := hset a5 rfl
    refine S_astore [some (.ref 0), some (.int x1), some (.int x2), some (.int x3), some (.int x4), some (.int x5), some (.int x6), some (.ref a5), none] dX11_sale_5 (by decide) rfl ?_
    refine G_aload dX11_sale_7 rfl ?_
    refine G_ifnull dX11_sale_9 ?_
    refine G_aload_n dX11_sale_12 rfl rfl ?_
    refine G_getR fl_X11_10 sl_0 sk_0 rfl (rr_0_0 _) dX11_sale_13 ?_
    refine G_iload_n dX11_sale_16 rfl rfl ?_
    obtain ⟨r6, hr7, h⟩ := gB_some h
    refine G_cV (mj := gX7_has) (As := [.int x1]) (rest := []) ml_X11_100 vX7_has sl_1 sk_1 (by decide) rfl rfl rfl (Nat.le_of_ble_eq_true rfl) (by decide) (Nat.le_refl _) (Nat.le_refl _) dX11_sale_17 (q_X7_has hr7) ?_
    refine G_if_eq 41 dX11_sale_20 (by decide) (fun c8 => ?_) (fun c8 => ?_)
    · replace h := git c8 h
      refine G_iconst (v := -1) dX11_sale_41 rfl ?_
      refine G_iret rfl (Nat.le_refl _) (Nat.le_refl _) dX11_sale_42 ?_
      cases h
      exact ⟨rfl, rfl, rfl, rfl, rfl⟩
    · replace h := gif c8 h
      refine G_aload_n dX11_sale_23 rfl rfl ?_
      refine G_getR fl_X11_10 sl_0 sk_0 rfl (rr_0_0 _) dX11_sale_24 ?_
      refine G_iload dX11_sale_27 rfl ?_
      obtain ⟨r9, hr10, h⟩ := gB_some h
      refine G_cV (mj := gX7_has) (As := [.int x4]) (rest := []) ml_X11_100 vX7_has sl_1 sk_1 (by decide) rfl rfl rfl (Nat.le_of_ble_eq_true rfl) (by decide) (Nat.le_refl _) (Nat.le_refl _) dX11_sale_29 (q_X7_has hr10) ?_
      refine G_if_eq 41 dX11_sale_32 (by decide) (fun c11 => ?_) (fun c11 => ?_)
      · replace h := git c11 h
        refine G_iconst (v := -1) dX11_sale_41 rfl ?_
        refine G_iret rfl (Nat.le_refl _) (Nat.le_refl _) dX11_sale_42 ?_
        cases h
        exact ⟨rfl, rfl, rfl, rfl, rfl⟩
      · replace h := gif c11 h
        refine G_iload_n dX11_sale_35 rfl rfl ?_
        refine G_iload dX11_sale_36 rfl ?_
        refine G_icmp_ne 43 dX11_sale_38 (by decide) (fun c12 => ?_) (fun c12 => ?_)
        · replace h := gif c12 h
          refine G_iload_n dX11_sale_43 rfl rfl ?_
          obtain ⟨r13, hr14, h⟩ := gB_some h
          refine G_cS (mj := gX11_isParts) (As := [.int x3]) (rest := []) ml_X11_203 vX11_isParts rfl rfl (Nat.le_of_ble_eq_true rfl) (by decide) (Nat.le_refl _) (Nat.le_refl _) dX11_sale_44 (q_X11_isParts hr14) ?_
          refine G_if_eq 74 dX11_sale_47 (by decide) (fun c15 => ?_) (fun c15 => ?_)
          · replace h := git c15 h
            refine G_iconst (v := -1) dX11_sale_74 rfl ?_
            refine G_iret rfl (Nat.le_refl _) (Nat.le_refl _) dX11_sale_75 ?_
            cases h
            exact ⟨rfl, rfl, rfl, rfl, rfl⟩
          · replace h := gif c15 h
            refine G_iload dX11_sale_50 rfl ?_
            refine G_if_lt 74 dX11_sale_52 (by decide) (fun c16 => ?_) (fun c16 => ?_)
            · replace h := git c16 h
              refine G_iconst (v := -1) dX11_sale_74 rfl ?_
              refine G_iret rfl (Nat.le_refl _) (Nat.le_refl _) dX11_sale_75 ?_
              cases h
              exact ⟨rfl, rfl, rfl, rfl, rfl⟩
            · replace h := gif c16 h
              refine G_iload dX11_sale_55 rfl ?_
              refine G_ldc dX11_sale_57 kc_X11_141 ?_
              refine G_icmp_gt 74 dX11_sale_59 (by decide) (fun c17 => ?_) (fun c17 => ?_)
              · replace h := git c17 h
                refine G_iconst (v := -1) dX11_sale_74 rfl ?_
                refine G_iret rfl (Nat.le_refl _) (Nat.le_refl _) dX11_sale_75 ?_
                cases h
                exact ⟨rfl, rfl, rfl, rfl, rfl⟩
              · replace h := gif c17 h
                refine G_aload_n dX11_sale_62 rfl rfl ?_
                refine G_getR fl_X11_63 sl_0 sk_0 rfl (rr_0_7 _) dX11_sale_63 ?_
                refine G_getI fl_X11_206 sl_84 sk_84 rfl dX11_sale_66 ?_
                refine G_bipush (v := 40) dX11_sale_69 rfl ?_
                refine G_icmp_lt 76 dX11_sale_71 (by decide) (fun c18 => ?_) (fun c18 => ?_)
                · replace h := git c18 h
                  refine G_aload_n dX11_sale_76 rfl rfl ?_
                  refine G_getR fl_X11_10 sl_0 sk_0 rfl (rr_0_0 _) dX11_sale_77 ?_
                  refine G_aload dX11_sale_80 rfl ?_
                  refine G_getI fl_X11_207 (gset_sl ha5) (gset_sk ha5) rfl dX11_sale_82 ?_
                  refine G_aload_n dX11_sale_85 rfl rfl ?_
                  refine G_getI fl_X11_93 sl_0 sk_0 rfl dX11_sale_86 ?_
                  obtain ⟨r19, hr20, h⟩ := gB_some h
                  refine G_cV (mj := gX7_knownDead) (As := [.int (I a5 6), .int (I 0 14)]) (rest := []) ml_X11_210 vX7_knownDead sl_1 sk_1 (by decide) rfl rfl rfl (Nat.le_of_ble_eq_true rfl) (by decide) (Nat.le_refl _) (Nat.le_refl _) dX11_sale_89 (q_X7_knownDead hr20) ?_
                  refine G_if_eq 97 dX11_sale_92 (by decide) (fun c21 => ?_) (fun c21 => ?_)
                  · replace h := git c21 h
                    refine G_aload_n dX11_sale_97 rfl rfl ?_
                    refine G_getR fl_X11_63 sl_0 sk_0 rfl (rr_0_7 _) dX11_sale_98 ?_
                    refine G_iload_n dX11_sale_101 rfl rfl ?_
                    refine G_iload_n dX11_sale_102 rfl rfl ?_
                    refine G_iload dX11_sale_103 rfl ?_
                    refine G_aload_n dX11_sale_105 rfl rfl ?_
                    refine G_getI fl_X11_93 sl_0 sk_0 rfl dX11_sale_106 ?_
                    obtain ⟨r22, hr23, h⟩ := gB_some h
                    refine G_cV (mj := gX8_add) (As := [.int x1, .int x2, .int x4, .int (I 0 14)]) (rest := []) ml_X11_214 vX8_add sl_84 sk_84 (by decide) rfl rfl rfl (Nat.le_of_ble_eq_true rfl) (by decide) (Nat.le_refl _) (Nat.le_refl _) dX11_sale_109 (q_X8_add hr23) ?_
                    refine S_istore [some (.ref 0), some (.int x1), some (.int x2), some (.int x3), some (.int x4), some (.int x5), some (.int x6), some (.ref a5), some (.int r22.1)] dX11_sale_112 (by decide) rfl ?_
                    refine G_aload_n dX11_sale_114 rfl rfl ?_
                    refine G_getR fl_X11_63 sl_0 sk_0 rfl (rr_0_7 _) dX11_sale_115 ?_
                    refine G_iload dX11_sale_118 rfl ?_
                    obtain ⟨r24, hr25, h⟩ := gB_some h
                    refine G_cV (mj := gX8_has) (As := [.int r22.1]) (rest := []) ml_X11_217 vX8_has sl_84 sk_84 (by decide) rfl rfl rfl (Nat.le_of_ble_eq_true rfl) (by decide) (Nat.le_refl _) (Nat.le_refl _) dX11_sale_120 (q_X8_has hr25) ?_
                    refine G_if_ne 128 dX11_sale_123 (by decide) (fun c26 => ?_) (fun c26 => ?_)
                    · replace h := gif c26 h
                      refine G_aload_n dX11_sale_128 rfl rfl ?_
                      refine G_getR fl_X11_63 sl_0 sk_0 rfl (rr_0_7 _) dX11_sale_129 ?_
                      refine G_getR fl_X11_218 sl_84 sk_84 rfl (rr_84_2 _) dX11_sale_132 ?_
                      refine G_iload dX11_sale_135 rfl ?_
                      refine G_iload_n dX11_sale_137 rfl rfl ?_
                      obtain ⟨b27, h⟩ := gck_some h
                      refine G_iast sl_87 ss_87 (gin_in b27) dX11_sale_138 ?_
                      refine G_mI fun I28 eI28 => ?_
                      replace h := gL_some eI28 h
                      refine G_aload_n dX11_sale_139 rfl rfl ?_
                      refine G_getR fl_X11_63 sl_0 sk_0 rfl (rr_0_7 _) dX11_sale_140 ?_
                      refine G_getR fl_X11_221 sl_84 sk_84 rfl (rr_84_4 _) dX11_sale_143 ?_
                      refine G_iload dX11_sale_146 rfl ?_
                      refine G_iload dX11_sale_148 rfl ?_
                      obtain ⟨b29, h⟩ := gck_some h
                      refine G_iast sl_89 ss_89 (gin_in b29) dX11_sale_150 ?_
                      refine G_mI fun I30 eI30 => ?_
                      replace h := gL_some eI30 h
                      refine G_aload_n dX11_sale_151 rfl rfl ?_
                      refine G_getR fl_X11_63 sl_0 sk_0 rfl (rr_0_7 _) dX11_sale_152 ?_
                      refine G_getR fl_X11_224 sl_84 sk_84 rfl (rr_84_5 _) dX11_sale_155 ?_
                      refine G_iload dX11_sale_158 rfl ?_
                      refine G_iload dX11_sale_160 rfl ?_
                      obtain ⟨b31, h⟩ := gck_some h
                      refine G_zast sl_90 ss_90 (gin_in b31) dX11_sale_162 ?_
                      refine G_mI fun I32 eI32 => ?_
                      replace h := gL_some eI32 h
                      refine G_iload dX11_sale_163 rfl ?_
                      refine G_iret rfl (Nat.le_refl _) (Nat.le_refl _) dX11_sale_165 ?_
                      cases h
                      exact ⟨rfl, rfl, rfl, rfl, rfl⟩
                    · replace h := git c26 h
                      refine G_iconst (v := -1) dX11_sale_126 rfl ?_
                      refine G_iret rfl (Nat.le_refl _) (Nat.le_refl _) dX11_sale_127 ?_
                      cases h
                      exact ⟨rfl, rfl, rfl, rfl, rfl⟩
                  · replace h := gif c21 h
                    refine G_iconst (v := -1) dX11_sale_95 rfl ?_
                    refine G_iret rfl (Nat.le_refl _) (Nat.le_refl _) dX11_sale_96 ?_
                    cases h
                    exact ⟨rfl, rfl, rfl, rfl, rfl⟩
                · replace h := gif c18 h
                  refine G_iconst (v := -1) dX11_sale_74 rfl ?_
                  refine G_iret rfl (Nat.le_refl _) (Nat.le_refl _) dX11_sale_75 ?_
                  cases h
                  exact ⟨rfl, rfl, rfl, rfl, rfl⟩
        · replace h := git c12 h
          refine G_iconst (v := -1) dX11_sale_41 rfl ?_
          refine G_iret rfl (Nat.le_refl _) (Nat.le_refl _) dX11_sale_42 ?_
          cases h
          exact ⟨rfl, rfl, rfl, rfl, rfl⟩
def p_X11_notice (I : gIt) (x1 : Int32) (x2 : Int32) : Option (Int32 × gIt) :=
  gB (p_X8_has I x1) fun r1 =>
  if r1 = 0 then
  some ((0 : Int32), I)
  else
  gck (gin x1 40) (
  if (I 92 (x1).toNatClampNeg) = (-1 : Int32) then
  if x2 < 0 then
  some ((0 : Int32), I)
  else
  if x2 < (527040 : Int32) then
  gL ((I 0 14)) fun z8 =>
  gck (gin x1 40) (
  gL (gu2 I 92 (x1).toNatClampNeg z8) fun I10 =>
  gck (gin x1 40) (
  gL (gu2 I10 93 (x1).toNatClampNeg x2) fun I12 =>
  some ((1 : Int32), I12)))
  else
  some ((0 : Int32), I)
  else
  some ((0 : Int32), I))
set_option maxRecDepth 20000 in
theorem q_X11_notice {l : Launch} {I : gIt} {J : gJt} {w : Bool} {x1 : Int32} {x2 : Int32} {v : (Int32 × gIt)} (h : p_X11_notice I x1 x2 = some v) : Cn l gX11_notice 3 0 0 [.ref 0, .int x1, .int x2] gS0 I J (gR0 w) (fun v' S' I' J' R' => v' = some (.int v.1) ∧ S' = gS0 ∧ I' = v.2 ∧ J' = J ∧ R' = gR0 w) := by
  refine Cn.of [some (.ref 0), some (.int x1), some (.int x2)] (by decide) rfl (Nat.le_of_ble_eq_true rfl) ?_
  rw [p_X11_notice] at h
  refine G_aload_n dX11_notice_0 rfl rfl ?_
  refine G_getR fl_X11_63 sl_0 sk_0 rfl (rr_0_7 _) dX11_notice_1 ?_
  refine G_iload_n dX11_notice_4 rfl rfl ?_
  obtain ⟨r1, hr2, h⟩ := gB_some h
  refine G_cV (mj := gX8_has) (As := [.int x1]) (rest := []) ml_X11_217 vX8_has sl_84 sk_84 (by decide) rfl rfl rfl (Nat.le_of_ble_eq_true rfl) (by decide) (Nat.le_refl _) (Nat.le_refl _) dX11_notice_5 (q_X8_has hr2) ?_
  refine G_if_eq 34 dX11_notice_8 (by decide) (fun c3 => ?_) (fun c3 => ?_)
  · replace h := git c3 h
    refine G_iconst (v := 0) dX11_notice_34 rfl ?_
    refine G_zret rfl (Or.inl rfl) (Nat.le_refl _) (Nat.le_refl _) dX11_notice_35 ?_
    cases h
    exact ⟨rfl, rfl, rfl, rfl, rfl⟩
  · replace h := gif c3 h
    refine G_aload_n dX11_notice_11 rfl rfl ?_
    refine G_getR fl_X11_63 sl_0 sk_0 rfl (rr_0_7 _) dX11_notice_12 ?_
    refine G_getR fl_X11_228 sl_84 sk_84 rfl (rr_84_7 _) dX11_notice_15 ?_
    refine G_iload_n dX11_notice_18 rfl rfl ?_
    obtain ⟨b4, h⟩ := gck_some h
    refine G_iald sl_92 ss_92 (gin_in b4) dX11_notice_19 ?_
    refine G_iconst (v := -1) dX11_notice_20 rfl ?_
    refine G_icmp_ne 34 dX11_notice_21 (by decide) (fun c5 => ?_) (fun c5 => ?_)
    · replace h := gif c5 h
      refine G_iconst (v := 0) dX11_notice_34 rfl ?_
      refine G_zret rfl (Or.inl rfl) (Nat.le_refl _) (Nat.le_refl _) dX11_notice_35 ?_
      cases h
      exact ⟨rfl, rfl, rfl, rfl, rfl⟩
    · replace h := git c5 h
      refine G_iload_n dX11_notice_24 rfl rfl ?_
      refine G_if_lt 34 dX11_notice_25 (by decide) (fun c6 => ?_) (fun c6 => ?_)
      · replace h := git c6 h
        refine G_iconst (v := 0) dX11_notice_34 rfl ?_
        refine G_zret rfl (Or.inl rfl) (Nat.le_refl _) (Nat.le_refl _) dX11_notice_35 ?_
        cases h
        exact ⟨rfl, rfl, rfl, rfl, rfl⟩
      · replace h := gif c6 h
        refine G_iload_n dX11_notice_28 rfl rfl ?_
        refine G_ldc dX11_notice_29 kc_X11_231 ?_
        refine G_icmp_lt 36 dX11_notice_31 (by decide) (fun c7 => ?_) (fun c7 => ?_)
        · replace h := git c7 h
          refine G_aload_n dX11_notice_36 rfl rfl ?_
          refine G_getR fl_X11_63 sl_0 sk_0 rfl (rr_0_7 _) dX11_notice_37 ?_
          refine G_getR fl_X11_228 sl_84 sk_84 rfl (rr_84_7 _) dX11_notice_40 ?_
          refine G_iload_n dX11_notice_43 rfl rfl ?_
          refine G_aload_n dX11_notice_44 rfl rfl ?_
          refine G_getI fl_X11_93 sl_0 sk_0 rfl dX11_notice_45 ?_
          refine G_nI fun z8 ez8 => ?_
          replace h := gL_some ez8 h
          obtain ⟨b9, h⟩ := gck_some h
          refine G_iast sl_92 ss_92 (gin_in b9) dX11_notice_48 ?_
          refine G_mI fun I10 eI10 => ?_
          replace h := gL_some eI10 h
          refine G_aload_n dX11_notice_49 rfl rfl ?_
          refine G_getR fl_X11_63 sl_0 sk_0 rfl (rr_0_7 _) dX11_notice_50 ?_
          refine G_getR fl_X11_232 sl_84 sk_84 rfl (rr_84_8 _) dX11_notice_53 ?_
          refine G_iload_n dX11_notice_56 rfl rfl ?_
          refine G_iload_n dX11_notice_57 rfl rfl ?_
          obtain ⟨b11, h⟩ := gck_some h
          refine G_iast sl_93 ss_93 (gin_in b11) dX11_notice_58 ?_
          refine G_mI fun I12 eI12 => ?_
          replace h := gL_some eI12 h
          refine G_iconst (v := 1) dX11_notice_59 rfl ?_
          refine G_zret rfl (Or.inr rfl) (Nat.le_refl _) (Nat.le_refl _) dX11_notice_60 ?_
          cases h
          exact ⟨rfl, rfl, rfl, rfl, rfl⟩
        · replace h := gif c7 h
          refine G_iconst (v := 0) dX11_notice_34 rfl ?_
          refine G_zret rfl (Or.inl rfl) (Nat.le_refl _) (Nat.le_refl _) dX11_notice_35 ?_
          cases h
          exact ⟨rfl, rfl, rfl, rfl, rfl⟩
def p_X11_charge (I : gIt) (x1 : Int32) (x2 : Int32) (x3 : Int32) (x4 : Int32) : Option (Int32 × gIt) :=
  gB (p_X7_has I x1) fun r1 =>
  if r1 = 0 then
  some ((-1 : Int32), I)
  else
  gB (p_X7_has I x3) fun r4 =>
  if r4 = 0 then
  some ((-1 : Int32), I)
  else
  if x1 = x3 then
  some ((-1 : Int32), I)
  else
  gB (p_X11_settlementOf I x2) fun r8 =>
  match r8 with
  | none => (
  some ((-1 : Int32), I))
  | some a12 => (
  if x4 < (1 : Int32) then
  some ((-1 : Int32), I)
  else
  if (100000 : Int32) < x4 then
  some ((-1 : Int32), I)
  else
  if (I 95 5) < (20 : Int32) then
  gB (p_X2_add I x1 x2 x3 x4 (I 0 14)) fun r16 =>
  some (r16.1, r16.2)
  else
  some ((-1 : Int32), I))
set_option maxRecDepth 20000 in
theorem q_X11_charge {l : Launch} {I : gIt} {J : gJt} {w : Bool} {x1 : Int32} {x2 : Int32} {x3 : Int32} {x4 : Int32} {v : (Int32 × gIt)} (h : p_X11_charge I x1 x2 x3 x4 = some v) : Cn l gX11_charge 3 0 0 [.ref 0, .int x1, .int x2, .int x3, .int x4] gS0 I J (gR0 w) (fun v' S' I' J' R' => v' = some (.int v.1) ∧ S' = gS0 ∧ I' = v.2 ∧ J' = J ∧ R' = gR0 w) := by
  refine Cn.of [some (.ref 0), some (.int x1), some (.int x2), some (.int x3), some (.int x4)] (by decide) rfl (Nat.le_of_ble_eq_true rfl) ?_
  rw [p_X11_charge] at h
  refine G_aload_n dX11_charge_0 rfl rfl ?_
  refine G_getR fl_X11_10 sl_0 sk_0 rfl (rr_0_0 _) dX11_charge_1 ?_
  refine G_iload_n dX11_charge_4 rfl rfl ?_
  obtain ⟨r1, hr2, h⟩ := gB_some h
  refine G_cV (mj := gX7_has) (As := [.int x1]) (rest := []) ml_X11_100 vX7_has sl_1 sk_1 (by decide) rfl rfl rfl (Nat.le_of_ble_eq_true rfl) (by decide) (Nat.le_refl _) (Nat.le_refl _) dX11_charge_5 (q_X7_has hr2) ?_
  refine G_if_eq 35 dX11_charge_8 (by decide) (fun c3 => ?_) (fun c3 => ?_)
  · replace h := git c3 h
    refine G_iconst (v := -1) dX11_charge_35 rfl ?_
    refine G_iret rfl (Nat.le_refl _) (Nat.le_refl _) dX11_charge_36 ?_
    cases h
    exact ⟨rfl, rfl, rfl, rfl, rfl⟩
  · replace h := gif c3 h
    refine G_aload_n dX11_charge_11 rfl rfl ?_
    refine G_getR fl_X11_10 sl_0 sk_0 rfl (rr_0_0 _) dX11_charge_12 ?_
    refine G_iload_n dX11_charge_15 rfl rfl ?_
    obtain ⟨r4, hr5, h⟩ := gB_some h
    refine G_cV (mj := gX7_has) (As := [.int x3]) (rest := []) ml_X11_100 vX7_has sl_1 sk_1 (by decide) rfl rfl rfl (Nat.le_of_ble_eq_true rfl) (by decide) (Nat.le_refl _) (Nat.le_refl _) dX11_charge_16 (q_X7_has hr5) ?_
    refine G_if_eq 35 dX11_charge_19 (by decide) (fun c6 => ?_) (fun c6 => ?_)
    · replace h := git c6 h
      refine G_iconst (v := -1) dX11_charge_35 rfl ?_
      refine G_iret rfl (Nat.le_refl _) (Nat.le_refl _) dX11_charge_36 ?_
      cases h
      exact ⟨rfl, rfl, rfl, rfl, rfl⟩
    · replace h := gif c6 h
      refine G_iload_n dX11_charge_22 rfl rfl ?_
      refine G_iload_n dX11_charge_23 rfl rfl ?_
      refine G_icmp_eq 35 dX11_charge_24 (by decide) (fun c7 => ?_) (fun c7 => ?_)
      · replace h := git c7 h
        refine G_iconst (v := -1) dX11_charge_35 rfl ?_
        refine G_iret rfl (Nat.le_refl _) (Nat.le_refl _) dX11_charge_36 ?_
        cases h
        exact ⟨rfl, rfl, rfl, rfl, rfl⟩
      · replace h := gif c7 h
        refine G_aload_n dX11_charge_27 rfl rfl ?_
        refine G_iload_n dX11_charge_28 rfl rfl ?_
        obtain ⟨r8, hr9, h⟩ := gB_some h
        refine G_cVO (mj := gX11_settlementOf) (As := [.int x2]) (rest := []) ml_X11_159 vX11_settlementOf sl_0 sk_0 (by decide) rfl rfl rfl (Nat.le_of_ble_eq_true rfl) (by decide) (Nat.le_refl _) (Nat.le_refl _) dX11_charge_29 (q_X11_settlementOf hr9) (fun hset => ?_)
        cases hro11 : r8 with
        | none =>
          rw [hro11] at h hset
          refine G_ifnonnullN dX11_charge_32 ?_
          refine G_iconst (v := -1) dX11_charge_35 rfl ?_
          refine G_iret rfl (Nat.le_refl _) (Nat.le_refl _) dX11_charge_36 ?_
          cases h
          exact ⟨rfl, rfl, rfl, rfl, rfl⟩
        | some a12 =>
          rw [hro11] at h hset
          have ha12 : gset a12 := hset a12 rfl
          refine G_ifnonnull 37 dX11_charge_32 (by decide) ?_
          refine G_iload dX11_charge_37 rfl ?_
          refine G_iconst (v := 1) dX11_charge_39 rfl ?_
          refine G_icmp_lt 62 dX11_charge_40 (by decide) (fun c13 => ?_) (fun c13 => ?_)
          · replace h := git c13 h
            refine G_iconst (v := -1) dX11_charge_62 rfl ?_
            refine G_iret rfl (Nat.le_refl _) (Nat.le_refl _) dX11_charge_63 ?_
            cases h
            exact ⟨rfl, rfl, rfl, rfl, rfl⟩
          · replace h := gif c13 h
            refine G_iload dX11_charge_43 rfl ?_
            refine G_ldc dX11_charge_45 kc_X11_141 ?_
            refine G_icmp_gt 62 dX11_charge_47 (by decide) (fun c14 => ?_) (fun c14 => ?_)
            · replace h := git c14 h
              refine G_iconst (v := -1) dX11_charge_62 rfl ?_
              refine G_iret rfl (Nat.le_refl _) (Nat.le_refl _) dX11_charge_63 ?_
              cases h
              exact ⟨rfl, rfl, rfl, rfl, rfl⟩
            · replace h := gif c14 h
              refine G_aload_n dX11_charge_50 rfl rfl ?_
              refine G_getR fl_X11_70 sl_0 sk_0 rfl (rr_0_8 _) dX11_charge_51 ?_
              refine G_getI fl_X11_235 sl_95 sk_95 rfl dX11_charge_54 ?_
              refine G_bipush (v := 20) dX11_charge_57 rfl ?_
              refine G_icmp_lt 64 dX11_charge_59 (by decide) (fun c15 => ?_) (fun c15 => ?_)
              · replace h := git c15 h
                refine G_aload_n dX11_charge_64 rfl rfl ?_
                refine G_getR fl_X11_70 sl_0 sk_0 rfl (rr_0_8 _) dX11_charge_65 ?_
                refine G_iload_n dX11_charge_68 rfl rfl ?_
                refine G_iload_n dX11_charge_69 rfl rfl ?_
                refine G_iload_n dX11_charge_70 rfl rfl ?_
                refine G_iload dX11_charge_71 rfl ?_
                refine G_aload_n dX11_charge_73 rfl rfl ?_
                refine G_getI fl_X11_93 sl_0 sk_0 rfl dX11_charge_74 ?_
                obtain ⟨r16, hr17, h⟩ := gB_some h
                refine G_cV (mj := gX2_add) (As := [.int x1, .int x2, .int x3, .int x4, .int (I 0 14)]) (rest := []) ml_X11_236 vX2_add sl_95 sk_95 (by decide) rfl rfl rfl (Nat.le_of_ble_eq_true rfl) (by decide) (Nat.le_refl _) (Nat.le_refl _) dX11_charge_77 (q_X2_add hr17) ?_
                refine G_iret rfl (Nat.le_refl _) (Nat.le_refl _) dX11_charge_80 ?_
                cases h
                exact ⟨rfl, rfl, rfl, rfl, rfl⟩
              · replace h := gif c15 h
                refine G_iconst (v := -1) dX11_charge_62 rfl ?_
                refine G_iret rfl (Nat.le_refl _) (Nat.le_refl _) dX11_charge_63 ?_
                cases h
                exact ⟨rfl, rfl, rfl, rfl, rfl⟩
def p_X11_act (I : gIt) (w : Bool) (x1 : Int32) : Option (Int32 × gIt × Bool) :=
  if x1 < (1 : Int32) then
  some ((-1 : Int32), I, w)
  else
  if (60 : Int32) < x1 then
  some ((-1 : Int32), I, w)
  else
  if x1 ≤ (I 11 1) then
  gB (p_X10_open I x1) fun r4 =>
  gB (p_X0_readText r4 (gact (!w))) fun r6 =>
  gL (gu2 r6.2 11 1 (0 : Int32)) fun I8 =>
  if r6.1 = 0 then
  some ((I8 11 4), I8, w)
  else
  gL (!w) fun w10 =>
  gL (gu2 I8 0 12 (1 : Int32)) fun I12 =>
  some ((0 : Int32), I12, w10)
  else
  some ((-1 : Int32), I, w)
set_option maxRecDepth 20000 in
theorem q_X11_act {l : Launch} {I : gIt} {J : gJt} {w : Bool} {x1 : Int32} {v : (Int32 × gIt × Bool)} (h : p_X11_act I w x1 = some v) : Cn l gX11_act 81 0 0 [.ref 0, .int x1] gS0 I J (gR0 w) (fun v' S' I' J' R' => v' = some (.int v.1) ∧ S' = gS0 ∧ I' = v.2.1 ∧ J' = J ∧ R' = gR0 v.2.2) := by
  refine Cn.of [some (.ref 0), some (.int x1), none, none] (by decide) rfl (Nat.le_of_ble_eq_true rfl) ?_
  rw [p_X11_act] at h
  refine G_iload_n dX11_act_0 rfl rfl ?_
  refine G_iconst (v := 1) dX11_act_1 rfl ?_
  refine G_icmp_lt 22 dX11_act_2 (by decide) (fun c1 => ?_) (fun c1 => ?_)
  · replace h := git c1 h
    refine G_iconst (v := -1) dX11_act_22 rfl ?_
    refine G_iret rfl (Nat.le_refl _) (Nat.le_refl _) dX11_act_23 ?_
    cases h
    exact ⟨rfl, rfl, rfl, rfl, rfl⟩
  · replace h := gif c1 h
    refine G_iload_n dX11_act_5 rfl rfl ?_
    refine G_bipush (v := 60) dX11_act_6 rfl ?_
    refine G_icmp_gt 22 dX11_act_8 (by decide) (fun c2 => ?_) (fun c2 => ?_)
    · replace h := git c2 h
      refine G_iconst (v := -1) dX11_act_22 rfl ?_
      refine G_iret rfl (Nat.le_refl _) (Nat.le_refl _) dX11_act_23 ?_
      cases h
      exact ⟨rfl, rfl, rfl, rfl, rfl⟩
    · replace h := gif c2 h
      refine G_iload_n dX11_act_11 rfl rfl ?_
      refine G_aload_n dX11_act_12 rfl rfl ?_
      refine G_getR fl_X11_26 sl_0 sk_0 rfl (rr_0_2 _) dX11_act_13 ?_
      refine G_getI fl_X11_136 sl_11 sk_11 rfl dX11_act_16 ?_
      refine G_icmp_le 24 dX11_act_19 (by decide) (fun c3 => ?_) (fun c3 => ?_)
      · replace h := git c3 h
        refine G_aload_n dX11_act_24 rfl rfl ?_
        refine G_getR fl_X11_26 sl_0 sk_0 rfl (rr_0_2 _) dX11_act_25 ?_
        refine G_iload_n dX11_act_28 rfl rfl ?_
        obtain ⟨r4, hr5, h⟩ := gB_some h
        refine G_cV (mj := gX10_open) (As := [.int x1]) (rest := []) ml_X11_149 vX10_open sl_11 sk_11 (by decide) rfl rfl rfl (Nat.le_of_ble_eq_true rfl) (by decide) (Nat.le_refl _) (Nat.le_refl _) dX11_act_29 (q_X10_open hr5) ?_
        refine G_aload_n dX11_act_32 rfl rfl ?_
        refine G_getR fl_X11_90 sl_0 sk_0 rfl (rr_0_11 _) dX11_act_33 ?_
        refine G_aload_n dX11_act_36 rfl rfl ?_
        refine G_getR fl_X11_26 sl_0 sk_0 rfl (rr_0_2 _) dX11_act_37 ?_
        obtain ⟨r6, hr7, h⟩ := gB_some h
        refine G_cV (mj := gX0_readText) (As := [.ref 11]) (rest := []) ml_X11_239 vX0_readText (gisa_sl (gisa_act _)) (gisa_sk (gisa_act _)) (by decide) rfl rfl rfl (Nat.le_of_ble_eq_true rfl) (by decide) (Nat.le_refl _) (Nat.le_refl _) dX11_act_40 (q_X0_readText (gisa_act _) hr7) ?_
        refine S_istore_n [some (.ref 0), some (.int x1), some (.int r6.1), none] dX11_act_43 rfl (by decide) rfl ?_
        refine G_aload_n dX11_act_44 rfl rfl ?_
        refine G_getR fl_X11_26 sl_0 sk_0 rfl (rr_0_2 _) dX11_act_45 ?_
        refine G_iconst (v := 0) dX11_act_48 rfl ?_
        refine G_putI fl_X11_136 sl_11 sk_11 rfl rfl ⟨rfl, rfl⟩ dX11_act_49 ?_
        refine G_mI fun I8 eI8 => ?_
        replace h := gL_some eI8 h
        refine G_iload_n dX11_act_52 rfl rfl ?_
        refine G_if_ne 64 dX11_act_53 (by decide) (fun c9 => ?_) (fun c9 => ?_)
        · replace h := gif c9 h
          refine G_aload_n dX11_act_64 rfl rfl ?_
          refine G_getR fl_X11_86 sl_0 sk_0 rfl (rr_0_10 _) dX11_act_65 ?_
          refine S_astore_n [some (.ref 0), some (.int x1), some (.int r6.1), some (.ref (gact w))] dX11_act_68 rfl (by decide) rfl ?_
          refine G_aload_n dX11_act_69 rfl rfl ?_
          refine G_aload_n dX11_act_70 rfl rfl ?_
          refine G_getR fl_X11_90 sl_0 sk_0 rfl (rr_0_11 _) dX11_act_71 ?_
          refine G_putR fl_X11_86 sl_0 sk_0 rfl rfl dX11_act_74 ?_
          refine G_aload_n dX11_act_77 rfl rfl ?_
          refine G_aload_n dX11_act_78 rfl rfl ?_
          refine G_putR fl_X11_90 sl_0 sk_0 rfl rfl dX11_act_79 ?_
          refine G_sw fun w10 ew10 => ?_
          replace h := gL_some ew10 h
          refine G_aload_n dX11_act_82 rfl rfl ?_
          refine G_iconst (v := 1) dX11_act_83 rfl ?_
          refine G_putI fl_X11_240 sl_0 sk_0 rfl rfl ⟨rfl, rfl⟩ dX11_act_84 ?_
          refine G_mI fun I12 eI12 => ?_
          replace h := gL_some eI12 h
          refine G_iconst (v := 0) dX11_act_87 rfl ?_
          refine G_iret rfl (Nat.le_refl _) (Nat.le_refl _) dX11_act_88 ?_
          cases h
          exact ⟨rfl, rfl, rfl, rfl, rfl⟩
        · replace h := git c9 h
          refine G_aload_n dX11_act_56 rfl rfl ?_
          refine G_getR fl_X11_26 sl_0 sk_0 rfl (rr_0_2 _) dX11_act_57 ?_
          refine G_getI fl_X11_156 sl_11 sk_11 rfl dX11_act_60 ?_
          refine G_iret rfl (Nat.le_refl _) (Nat.le_refl _) dX11_act_63 ?_
          cases h
          exact ⟨rfl, rfl, rfl, rfl, rfl⟩
      · replace h := gif c3 h
        refine G_iconst (v := -1) dX11_act_22 rfl ?_
        refine G_iret rfl (Nat.le_refl _) (Nat.le_refl _) dX11_act_23 ?_
        cases h
        exact ⟨rfl, rfl, rfl, rfl, rfl⟩
def p_X11_weighs (I : gIt) (J : gJt) (w : Bool) (a1 : Nat) (x2 : Int32) (x3 : Int32) (x4 : Int32) (x5 : Int32) : Option (Int32 × gIt × gJt) :=
  if (I 0 12) = 0 then
  some ((0 : Int32), I, J)
  else
  gB (p_X7_has I x2) fun r2 =>
  if r2 = 0 then
  some ((0 : Int32), I, J)
  else
  gB (p_X1_reckon I J a1 x2 x5 x5) fun r5 =>
  if r5.1 = 0 then
  some ((0 : Int32), r5.2.1, r5.2.2)
  else
  gB (p_X1_worthNow r5.2.1 r5.2.2) fun r8 =>
  gL (((r8.1 * (Int32.toInt64 x3)) / (1000 : Int64))) fun u11 =>
  gck (gin x2 16) (
  gB (α := Int64) (
  if x4 = 0 then
  some (0 : Int64)
  else
  some (1 : Int64)) fun ph13 =>
  gB (p_X0_reduce r8.2 r5.2.2 (gact w) u11 (Int32.toInt64 (x5 - (r8.2 2 (x2).toNatClampNeg))) ph13 (Int32.toInt64 x3)) fun r17 =>
  some ((1 : Int32), r17.1, r17.2))
set_option maxRecDepth 20000 in
theorem q_X11_weighs {l : Launch} {I : gIt} {J : gJt} {w : Bool} {a1 : Nat} {x2 : Int32} {x3 : Int32} {x4 : Int32} {x5 : Int32} {v : (Int32 × gIt × gJt)} (ha1 : gset a1) (h : p_X11_weighs I J w a1 x2 x3 x4 x5 = some v) : Cn l gX11_weighs 7 0 0 [.ref 0, .ref a1, .int x2, .int x3, .int x4, .int x5] gS0 I J (gR0 w) (fun v' S' I' J' R' => v' = some (.int v.1) ∧ S' = gS0 ∧ I' = v.2.1 ∧ J' = v.2.2 ∧ R' = gR0 w) := by
  refine Cn.of [some (.ref 0), some (.ref a1), some (.int x2), some (.int x3), some (.int x4), some (.int x5), none, none] (by decide) rfl (Nat.le_of_ble_eq_true rfl) ?_
  rw [p_X11_weighs] at h
  refine G_aload_n dX11_weighs_0 rfl rfl ?_
  refine G_getI fl_X11_240 sl_0 sk_0 rfl dX11_weighs_1 ?_
  refine G_if_eq 34 dX11_weighs_4 (by decide) (fun c1 => ?_) (fun c1 => ?_)
  · replace h := git c1 h
    refine G_iconst (v := 0) dX11_weighs_34 rfl ?_
    refine G_zret rfl (Or.inl rfl) (Nat.le_refl _) (Nat.le_refl _) dX11_weighs_35 ?_
    cases h
    exact ⟨rfl, rfl, rfl, rfl, rfl⟩
  · replace h := gif c1 h
    refine G_aload_n dX11_weighs_7 rfl rfl ?_
    refine G_getR fl_X11_10 sl_0 sk_0 rfl (rr_0_0 _) dX11_weighs_8 ?_
    refine G_iload_n dX11_weighs_11 rfl rfl ?_
    obtain ⟨r2, hr3, h⟩ := gB_some h
    refine G_cV (mj := gX7_has) (As := [.int x2]) (rest := []) ml_X11_100 vX7_has sl_1 sk_1 (by decide) rfl rfl rfl (Nat.le_of_ble_eq_true rfl) (by decide) (Nat.le_refl _) (Nat.le_refl _) dX11_weighs_12 (q_X7_has hr3) ?_
    refine G_if_eq 34 dX11_weighs_15 (by decide) (fun c4 => ?_) (fun c4 => ?_)
    · replace h := git c4 h
      refine G_iconst (v := 0) dX11_weighs_34 rfl ?_
      refine G_zret rfl (Or.inl rfl) (Nat.le_refl _) (Nat.le_refl _) dX11_weighs_35 ?_
      cases h
      exact ⟨rfl, rfl, rfl, rfl, rfl⟩
    · replace h := gif c4 h
      refine G_aload_n dX11_weighs_18 rfl rfl ?_
      refine G_getR fl_X11_56 sl_0 sk_0 rfl (rr_0_6 _) dX11_weighs_19 ?_
      refine G_aload_n dX11_weighs_22 rfl rfl ?_
      refine G_iload_n dX11_weighs_23 rfl rfl ?_
      refine G_iload dX11_weighs_24 rfl ?_
      refine G_iload dX11_weighs_26 rfl ?_
      obtain ⟨r5, hr6, h⟩ := gB_some h
      refine G_cV (mj := gX1_reckon) (As := [.ref a1, .int x2, .int x5, .int x5]) (rest := []) ml_X11_339 vX1_reckon sl_78 sk_78 (by decide) rfl rfl rfl (Nat.le_of_ble_eq_true rfl) (by decide) (Nat.le_refl _) (Nat.le_refl _) dX11_weighs_28 (q_X1_reckon ha1 hr6) ?_
      refine G_if_ne 36 dX11_weighs_31 (by decide) (fun c7 => ?_) (fun c7 => ?_)
      · replace h := gif c7 h
        refine G_aload_n dX11_weighs_36 rfl rfl ?_
        refine G_getR fl_X11_56 sl_0 sk_0 rfl (rr_0_6 _) dX11_weighs_37 ?_
        obtain ⟨r8, hr9, h⟩ := gB_some h
        refine G_cV (mj := gX1_worthNow) (As := []) (rest := []) ml_X11_200 vX1_worthNow sl_78 sk_78 (by decide) rfl rfl rfl (Nat.le_of_ble_eq_true rfl) (by decide) (Nat.le_refl _) (Nat.le_refl _) dX11_weighs_40 (q_X1_worthNow hr9) ?_
        refine G_iload_n dX11_weighs_43 rfl rfl ?_
        refine G_i2l dX11_weighs_44 ?_
        refine G_lmul dX11_weighs_45 ?_
        refine G_ldc2 dX11_weighs_46 kc_X11_343 ?_
        refine G_ldiv dX11_weighs_49 (by decide) ?_
        refine G_nJ fun u11 eu11 => ?_
        replace h := gL_some eu11 h
        refine S_lstore [some (.ref 0), some (.ref a1), some (.int x2), some (.int x3), some (.int x4), some (.int x5), some (.long u11), none] dX11_weighs_50 (by decide) rfl ?_
        refine G_aload_n dX11_weighs_52 rfl rfl ?_
        refine G_getR fl_X11_86 sl_0 sk_0 rfl (rr_0_10 _) dX11_weighs_53 ?_
        refine G_lload dX11_weighs_56 rfl ?_
        refine G_iload dX11_weighs_58 rfl ?_
        refine G_aload_n dX11_weighs_60 rfl rfl ?_
        refine G_getR fl_X11_10 sl_0 sk_0 rfl (rr_0_0 _) dX11_weighs_61 ?_
        refine G_getR fl_X11_104 sl_1 sk_1 rfl (rr_1_0 _) dX11_weighs_64 ?_
        refine G_iload_n dX11_weighs_67 rfl rfl ?_
        obtain ⟨b12, h⟩ := gck_some h
        refine G_iald sl_2 ss_2 (gin_in b12) dX11_weighs_68 ?_
        refine G_isub dX11_weighs_69 ?_
        refine G_i2l dX11_weighs_70 ?_
        refine G_iload dX11_weighs_71 rfl ?_
        obtain ⟨ph13, t14, r15⟩ := gB_some h
        have jn16 : G l gX11_weighs 7 0 0 (fun v' S' I' J' R' => v' = some (.int v.1) ∧ S' = gS0 ∧ I' = v.2.1 ∧ J' = v.2.2 ∧ R' = gR0 w) 0 0 81 [some (.ref 0), some (.ref a1), some (.int x2), some (.int x3), some (.int x4), some (.int x5), some (.long u11), none] [.long ph13, .long (Int32.toInt64 (x5 - (r8.2 2 (x2).toNatClampNeg))), .long u11, .ref (gact w)] gS0 r8.2 r5.2.2 (gR0 w) := by
          refine G_iload_n dX11_weighs_81 rfl rfl ?_
          refine G_i2l dX11_weighs_82 ?_
          obtain ⟨r17, hr18, r15⟩ := gB_some r15
          refine G_cV (mj := gX0_reduce) (As := [.long u11, .long (Int32.toInt64 (x5 - (r8.2 2 (x2).toNatClampNeg))), .long ph13, .long (Int32.toInt64 x3)]) (rest := []) ml_X11_345 vX0_reduce (gisa_sl (gisa_act _)) (gisa_sk (gisa_act _)) (by decide) rfl rfl rfl (Nat.le_of_ble_eq_true rfl) (by decide) (Nat.le_refl _) (Nat.le_refl _) dX11_weighs_83 (q_X0_reduce (gisa_act _) hr18) ?_
          refine G_iconst (v := 1) dX11_weighs_86 rfl ?_
          refine G_zret rfl (Or.inr rfl) (Nat.le_refl _) (Nat.le_refl _) dX11_weighs_87 ?_
          cases r15
          exact ⟨rfl, rfl, rfl, rfl, rfl⟩
        refine G_if_eq 80 dX11_weighs_73 (by decide) (fun c19 => ?_) (fun c19 => ?_)
        · replace t14 := git c19 t14
          refine G_lconst (v := 0) dX11_weighs_80 rfl ?_
          cases t14
          exact jn16
        · replace t14 := gif c19 t14
          refine G_lconst (v := 1) dX11_weighs_76 rfl ?_
          refine G_goto 81 dX11_weighs_77 (by decide) ?_
          cases t14
          exact jn16
      · replace h := git c7 h
        refine G_iconst (v := 0) dX11_weighs_34 rfl ?_
        refine G_zret rfl (Or.inl rfl) (Nat.le_refl _) (Nat.le_refl _) dX11_weighs_35 ?_
        cases h
        exact ⟨rfl, rfl, rfl, rfl, rfl⟩
def p_X11_isHard (I : gIt) (J : gJt) (w : Bool) (x1 : Int32) : Option (Int32 × gIt × gJt) :=
  gB (p_X8_has I x1) fun r1 =>
  if r1 = 0 then
  some ((0 : Int32), I, J)
  else
  gck (gin x1 40) (
  gB (p_X11_settlementOf I (I 86 (x1).toNatClampNeg)) fun r5 =>
  match r5 with
  | none => (
  some ((0 : Int32), I, J))
  | some a9 => (
  gck (gin x1 40) (
  gck (gin x1 40) (
  gck (gin x1 40) (
  gck (gin x1 40) (
  gB (p_X11_weighs I J w a9 (I 85 (x1).toNatClampNeg) (I 87 (x1).toNatClampNeg) (I 90 (x1).toNatClampNeg) (I 91 (x1).toNatClampNeg)) fun r14 =>
  if r14.1 = 0 then
  some ((0 : Int32), r14.2.1, r14.2.2)
  else
  gck (gin x1 40) (
  gB (p_X0_condemns r14.2.1 r14.2.2 (gact w) (Int32.toInt64 (r14.2.1 89 (x1).toNatClampNeg))) fun r18 =>
  if r18 = 0 then
  some ((0 : Int32), r14.2.1, r14.2.2)
  else
  some ((1 : Int32), r14.2.1, r14.2.2))))))))
set_option maxRecDepth 20000 in
theorem q_X11_isHard {l : Launch} {I : gIt} {J : gJt} {w : Bool} {x1 : Int32} {v : (Int32 × gIt × gJt)} (h : p_X11_isHard I J w x1 = some v) : Cn l gX11_isHard 8 0 0 [.ref 0, .int x1] gS0 I J (gR0 w) (fun v' S' I' J' R' => v' = some (.int v.1) ∧ S' = gS0 ∧ I' = v.2.1 ∧ J' = v.2.2 ∧ R' = gR0 w) := by
  refine Cn.of [some (.ref 0), some (.int x1), none, none] (by decide) rfl (Nat.le_of_ble_eq_true rfl) ?_
  rw [p_X11_isHard] at h
  refine G_aload_n dX11_isHard_0 rfl rfl ?_
  refine G_getR fl_X11_63 sl_0 sk_0 rfl (rr_0_7 _) dX11_isHard_1 ?_
  refine G_iload_n dX11_isHard_4 rfl rfl ?_
  obtain ⟨r1, hr2, h⟩ := gB_some h
  refine G_cV (mj := gX8_has) (As := [.int x1]) (rest := []) ml_X11_217 vX8_has sl_84 sk_84 (by decide) rfl rfl rfl (Nat.le_of_ble_eq_true rfl) (by decide) (Nat.le_refl _) (Nat.le_refl _) dX11_isHard_5 (q_X8_has hr2) ?_
  refine G_if_ne 13 dX11_isHard_8 (by decide) (fun c3 => ?_) (fun c3 => ?_)
  · replace h := gif c3 h
    refine G_aload_n dX11_isHard_13 rfl rfl ?_
    refine G_aload_n dX11_isHard_14 rfl rfl ?_
    refine G_getR fl_X11_63 sl_0 sk_0 rfl (rr_0_7 _) dX11_isHard_15 ?_
    refine G_getR fl_X11_250 sl_84 sk_84 rfl (rr_84_1 _) dX11_isHard_18 ?_
    refine G_iload_n dX11_isHard_21 rfl rfl ?_
    obtain ⟨b4, h⟩ := gck_some h
    refine G_iald sl_86 ss_86 (gin_in b4) dX11_isHard_22 ?_
    obtain ⟨r5, hr6, h⟩ := gB_some h
    refine G_cVO (mj := gX11_settlementOf) (As := [.int (I 86 (x1).toNatClampNeg)]) (rest := []) ml_X11_159 vX11_settlementOf sl_0 sk_0 (by decide) rfl rfl rfl (Nat.le_of_ble_eq_true rfl) (by decide) (Nat.le_refl _) (Nat.le_refl _) dX11_isHard_23 (q_X11_settlementOf hr6) (fun hset => ?_)
    cases hro8 : r5 with
    | none =>
      rw [hro8] at h hset
      refine S_astore_nN [some (.ref 0), some (.int x1), some (.null), none] dX11_isHard_26 rfl (by decide) rfl ?_
      refine G_aload_nN dX11_isHard_27 rfl rfl ?_
      refine G_ifnonnullN dX11_isHard_28 ?_
      refine G_iconst (v := 0) dX11_isHard_31 rfl ?_
      refine G_zret rfl (Or.inl rfl) (Nat.le_refl _) (Nat.le_refl _) dX11_isHard_32 ?_
      cases h
      exact ⟨rfl, rfl, rfl, rfl, rfl⟩
    | some a9 =>
      rw [hro8] at h hset
      have ha9 : gset a9 := hset a9 rfl
      refine S_astore_n [some (.ref 0), some (.int x1), some (.ref a9), none] dX11_isHard_26 rfl (by decide) rfl ?_
      refine G_aload_n dX11_isHard_27 rfl rfl ?_
      refine G_ifnonnull 33 dX11_isHard_28 (by decide) ?_
      refine G_aload_n dX11_isHard_33 rfl rfl ?_
      refine G_aload_n dX11_isHard_34 rfl rfl ?_
      refine G_aload_n dX11_isHard_35 rfl rfl ?_
      refine G_getR fl_X11_63 sl_0 sk_0 rfl (rr_0_7 _) dX11_isHard_36 ?_
      refine G_getR fl_X11_330 sl_84 sk_84 rfl (rr_84_0 _) dX11_isHard_39 ?_
      refine G_iload_n dX11_isHard_42 rfl rfl ?_
      obtain ⟨b10, h⟩ := gck_some h
      refine G_iald sl_85 ss_85 (gin_in b10) dX11_isHard_43 ?_
      refine G_aload_n dX11_isHard_44 rfl rfl ?_
      refine G_getR fl_X11_63 sl_0 sk_0 rfl (rr_0_7 _) dX11_isHard_45 ?_
      refine G_getR fl_X11_218 sl_84 sk_84 rfl (rr_84_2 _) dX11_isHard_48 ?_
      refine G_iload_n dX11_isHard_51 rfl rfl ?_
      obtain ⟨b11, h⟩ := gck_some h
      refine G_iald sl_87 ss_87 (gin_in b11) dX11_isHard_52 ?_
      refine G_aload_n dX11_isHard_53 rfl rfl ?_
      refine G_getR fl_X11_63 sl_0 sk_0 rfl (rr_0_7 _) dX11_isHard_54 ?_
      refine G_getR fl_X11_224 sl_84 sk_84 rfl (rr_84_5 _) dX11_isHard_57 ?_
      refine G_iload_n dX11_isHard_60 rfl rfl ?_
      obtain ⟨b12, h⟩ := gck_some h
      refine G_zald sl_90 ss_90 (gin_in b12) dX11_isHard_61 ?_
      refine G_aload_n dX11_isHard_62 rfl rfl ?_
      refine G_getR fl_X11_63 sl_0 sk_0 rfl (rr_0_7 _) dX11_isHard_63 ?_
      refine G_getR fl_X11_253 sl_84 sk_84 rfl (rr_84_6 _) dX11_isHard_66 ?_
      refine G_iload_n dX11_isHard_69 rfl rfl ?_
      obtain ⟨b13, h⟩ := gck_some h
      refine G_iald sl_91 ss_91 (gin_in b13) dX11_isHard_70 ?_
      obtain ⟨r14, hr15, h⟩ := gB_some h
      refine G_cV (mj := gX11_weighs) (As := [.ref a9, .int (I 85 (x1).toNatClampNeg), .int (I 87 (x1).toNatClampNeg), .int (I 90 (x1).toNatClampNeg), .int (I 91 (x1).toNatClampNeg)]) (rest := []) ml_X11_260 vX11_weighs sl_0 sk_0 (by decide) rfl rfl rfl (Nat.le_of_ble_eq_true rfl) (by decide) (Nat.le_refl _) (Nat.le_refl _) dX11_isHard_71 (q_X11_weighs ha9 hr15) ?_
      refine S_istore_n [some (.ref 0), some (.int x1), some (.ref a9), some (.int r14.1)] dX11_isHard_74 rfl (by decide) rfl ?_
      refine G_iload_n dX11_isHard_75 rfl rfl ?_
      refine G_if_eq 103 dX11_isHard_76 (by decide) (fun c16 => ?_) (fun c16 => ?_)
      · replace h := git c16 h
        refine G_iconst (v := 0) dX11_isHard_103 rfl ?_
        refine G_zret rfl (Or.inl rfl) (Nat.le_refl _) (Nat.le_refl _) dX11_isHard_104 ?_
        cases h
        exact ⟨rfl, rfl, rfl, rfl, rfl⟩
      · replace h := gif c16 h
        refine G_aload_n dX11_isHard_79 rfl rfl ?_
        refine G_getR fl_X11_86 sl_0 sk_0 rfl (rr_0_10 _) dX11_isHard_80 ?_
        refine G_aload_n dX11_isHard_83 rfl rfl ?_
        refine G_getR fl_X11_63 sl_0 sk_0 rfl (rr_0_7 _) dX11_isHard_84 ?_
        refine G_getR fl_X11_221 sl_84 sk_84 rfl (rr_84_4 _) dX11_isHard_87 ?_
        refine G_iload_n dX11_isHard_90 rfl rfl ?_
        obtain ⟨b17, h⟩ := gck_some h
        refine G_iald sl_89 ss_89 (gin_in b17) dX11_isHard_91 ?_
        refine G_i2l dX11_isHard_92 ?_
        obtain ⟨r18, hr19, h⟩ := gB_some h
        refine G_cV (mj := gX0_condemns) (As := [.long (Int32.toInt64 (r14.2.1 89 (x1).toNatClampNeg))]) (rest := []) ml_X11_264 vX0_condemns (gisa_sl (gisa_act _)) (gisa_sk (gisa_act _)) (by decide) rfl rfl rfl (Nat.le_of_ble_eq_true rfl) (by decide) (Nat.le_refl _) (Nat.le_refl _) dX11_isHard_93 (q_X0_condemns (gisa_act _) hr19) ?_
        refine G_if_eq 103 dX11_isHard_96 (by decide) (fun c20 => ?_) (fun c20 => ?_)
        · replace h := git c20 h
          refine G_iconst (v := 0) dX11_isHard_103 rfl ?_
          refine G_zret rfl (Or.inl rfl) (Nat.le_refl _) (Nat.le_refl _) dX11_isHard_104 ?_
          cases h
          exact ⟨rfl, rfl, rfl, rfl, rfl⟩
        · replace h := gif c20 h
          refine G_iconst (v := 1) dX11_isHard_99 rfl ?_
          refine G_goto 104 dX11_isHard_100 (by decide) ?_
          refine G_zret rfl (Or.inr rfl) (Nat.le_refl _) (Nat.le_refl _) dX11_isHard_104 ?_
          cases h
          exact ⟨rfl, rfl, rfl, rfl, rfl⟩
  · replace h := git c3 h
    refine G_iconst (v := 0) dX11_isHard_11 rfl ?_
    refine G_zret rfl (Or.inl rfl) (Nat.le_refl _) (Nat.le_refl _) dX11_isHard_12 ?_
    cases h
    exact ⟨rfl, rfl, rfl, rfl, rfl⟩
def p_X11_hard (I : gIt) (J : gJt) (w : Bool) (x1 : Int32) : Option (Int32 × gIt × gJt) :=
  gB (p_X8_has I x1) fun r1 =>
  if r1 = 0 then
  some ((-1 : Int32), I, J)
  else
  gB (p_X11_isHard I J w x1) fun r4 =>
  if r4.1 = 0 then
  some ((0 : Int32), r4.2.1, r4.2.2)
  else
  some ((1 : Int32), r4.2.1, r4.2.2)
set_option maxRecDepth 20000 in
theorem q_X11_hard {l : Launch} {I : gIt} {J : gJt} {w : Bool} {x1 : Int32} {v : (Int32 × gIt × gJt)} (h : p_X11_hard I J w x1 = some v) : Cn l gX11_hard 9 0 0 [.ref 0, .int x1] gS0 I J (gR0 w) (fun v' S' I' J' R' => v' = some (.int v.1) ∧ S' = gS0 ∧ I' = v.2.1 ∧ J' = v.2.2 ∧ R' = gR0 w) := by
  refine Cn.of [some (.ref 0), some (.int x1)] (by decide) rfl (Nat.le_of_ble_eq_true rfl) ?_
  rw [p_X11_hard] at h
  refine G_aload_n dX11_hard_0 rfl rfl ?_
  refine G_getR fl_X11_63 sl_0 sk_0 rfl (rr_0_7 _) dX11_hard_1 ?_
  refine G_iload_n dX11_hard_4 rfl rfl ?_
  obtain ⟨r1, hr2, h⟩ := gB_some h
  refine G_cV (mj := gX8_has) (As := [.int x1]) (rest := []) ml_X11_217 vX8_has sl_84 sk_84 (by decide) rfl rfl rfl (Nat.le_of_ble_eq_true rfl) (by decide) (Nat.le_refl _) (Nat.le_refl _) dX11_hard_5 (q_X8_has hr2) ?_
  refine G_if_ne 13 dX11_hard_8 (by decide) (fun c3 => ?_) (fun c3 => ?_)
  · replace h := gif c3 h
    refine G_aload_n dX11_hard_13 rfl rfl ?_
    refine G_iload_n dX11_hard_14 rfl rfl ?_
    obtain ⟨r4, hr5, h⟩ := gB_some h
    refine G_cV (mj := gX11_isHard) (As := [.int x1]) (rest := []) ml_X11_244 vX11_isHard sl_0 sk_0 (by decide) rfl rfl rfl (Nat.le_of_ble_eq_true rfl) (by decide) (Nat.le_refl _) (Nat.le_refl _) dX11_hard_15 (q_X11_isHard hr5) ?_
    refine G_if_eq 25 dX11_hard_18 (by decide) (fun c6 => ?_) (fun c6 => ?_)
    · replace h := git c6 h
      refine G_iconst (v := 0) dX11_hard_25 rfl ?_
      refine G_iret rfl (Nat.le_refl _) (Nat.le_refl _) dX11_hard_26 ?_
      cases h
      exact ⟨rfl, rfl, rfl, rfl, rfl⟩
    · replace h := gif c6 h
      refine G_iconst (v := 1) dX11_hard_21 rfl ?_
      refine G_goto 26 dX11_hard_22 (by decide) ?_
      refine G_iret rfl (Nat.le_refl _) (Nat.le_refl _) dX11_hard_26 ?_
      cases h
      exact ⟨rfl, rfl, rfl, rfl, rfl⟩
  · replace h := git c3 h
    refine G_iconst (v := -1) dX11_hard_11 rfl ?_
    refine G_iret rfl (Nat.le_refl _) (Nat.le_refl _) dX11_hard_12 ?_
    cases h
    exact ⟨rfl, rfl, rfl, rfl, rfl⟩
def p_X11_undo (I : gIt) (J : gJt) (w : Bool) (x1 : Int32) : Option (Int64 × gIt × gJt) :=
  gB (p_X8_has I x1) fun r1 =>
  if r1 = 0 then
  some ((-1 : Int64), I, J)
  else
  gck (gin x1 40) (
  if (I 94 (x1).toNatClampNeg) = (-1 : Int32) then
  gck (gin x1 40) (
  gB (p_X11_settlementOf I (I 86 (x1).toNatClampNeg)) fun r7 =>
  match r7 with
  | none => (
  some ((-1 : Int64), I, J))
  | some a11 => (
  gB (p_X7_knownDead I (I a11 6) (I 0 14)) fun r12 =>
  if r12 = 0 then
  gB (p_X11_isHard I J w x1) fun r15 =>
  if r15.1 = 0 then
  some ((-1 : Int64), r15.2.1, r15.2.2)
  else
  gL ((r15.2.1 0 14)) fun z18 =>
  gck (gin x1 40) (
  gL (gu2 r15.2.1 94 (x1).toNatClampNeg z18) fun I20 =>
  gck (gin x1 40) (
  gck (gin x1 40) (
  gB (p_X6_grown I20 (Int32.toInt64 (I20 89 (x1).toNatClampNeg)) ((I20 0 14) - (I20 91 (x1).toNatClampNeg))) fun r23 =>
  some (r23, I20, r15.2.2))))
  else
  some ((-1 : Int64), I, J)))
  else
  some ((-1 : Int64), I, J))
set_option maxRecDepth 20000 in
theorem q_X11_undo {l : Launch} {I : gIt} {J : gJt} {w : Bool} {x1 : Int32} {v : (Int64 × gIt × gJt)} (h : p_X11_undo I J w x1 = some v) : Cn l gX11_undo 9 0 0 [.ref 0, .int x1] gS0 I J (gR0 w) (fun v' S' I' J' R' => v' = some (.long v.1) ∧ S' = gS0 ∧ I' = v.2.1 ∧ J' = v.2.2 ∧ R' = gR0 w) := by
  refine Cn.of [some (.ref 0), some (.int x1), none] (by decide) rfl (Nat.le_of_ble_eq_true rfl) ?_
  rw [p_X11_undo] at h
  refine G_aload_n dX11_undo_0 rfl rfl ?_
  refine G_getR fl_X11_63 sl_0 sk_0 rfl (rr_0_7 _) dX11_undo_1 ?_
  refine G_iload_n dX11_undo_4 rfl rfl ?_
  obtain ⟨r1, hr2, h⟩ := gB_some h
  refine G_cV (mj := gX8_has) (As := [.int x1]) (rest := []) ml_X11_217 vX8_has sl_84 sk_84 (by decide) rfl rfl rfl (Nat.le_of_ble_eq_true rfl) (by decide) (Nat.le_refl _) (Nat.le_refl _) dX11_undo_5 (q_X8_has hr2) ?_
  refine G_if_eq 24 dX11_undo_8 (by decide) (fun c3 => ?_) (fun c3 => ?_)
  · replace h := git c3 h
    refine G_ldc2 dX11_undo_24 kc_X11_190 ?_
    refine G_lret rfl (Nat.le_refl _) (Nat.le_refl _) dX11_undo_27 ?_
    cases h
    exact ⟨rfl, rfl, rfl, rfl, rfl⟩
  · replace h := gif c3 h
    refine G_aload_n dX11_undo_11 rfl rfl ?_
    refine G_getR fl_X11_63 sl_0 sk_0 rfl (rr_0_7 _) dX11_undo_12 ?_
    refine G_getR fl_X11_247 sl_84 sk_84 rfl (rr_84_9 _) dX11_undo_15 ?_
    refine G_iload_n dX11_undo_18 rfl rfl ?_
    obtain ⟨b4, h⟩ := gck_some h
    refine G_iald sl_94 ss_94 (gin_in b4) dX11_undo_19 ?_
    refine G_iconst (v := -1) dX11_undo_20 rfl ?_
    refine G_icmp_eq 28 dX11_undo_21 (by decide) (fun c5 => ?_) (fun c5 => ?_)
    · replace h := git c5 h
      refine G_aload_n dX11_undo_28 rfl rfl ?_
      refine G_aload_n dX11_undo_29 rfl rfl ?_
      refine G_getR fl_X11_63 sl_0 sk_0 rfl (rr_0_7 _) dX11_undo_30 ?_
      refine G_getR fl_X11_250 sl_84 sk_84 rfl (rr_84_1 _) dX11_undo_33 ?_
      refine G_iload_n dX11_undo_36 rfl rfl ?_
      obtain ⟨b6, h⟩ := gck_some h
      refine G_iald sl_86 ss_86 (gin_in b6) dX11_undo_37 ?_
      obtain ⟨r7, hr8, h⟩ := gB_some h
      refine G_cVO (mj := gX11_settlementOf) (As := [.int (I 86 (x1).toNatClampNeg)]) (rest := []) ml_X11_159 vX11_settlementOf sl_0 sk_0 (by decide) rfl rfl rfl (Nat.le_of_ble_eq_true rfl) (by decide) (Nat.le_refl _) (Nat.le_refl _) dX11_undo_38 (q_X11_settlementOf hr8) (fun hset => ?_)
      cases hro10 : r7 with
      | none =>
        rw [hro10] at h hset
        refine S_astore_nN [some (.ref 0), some (.int x1), some (.null)] dX11_undo_41 rfl (by decide) rfl ?_
        refine G_aload_nN dX11_undo_42 rfl rfl ?_
        refine G_ifnullN 72 dX11_undo_43 (by decide) ?_
        refine G_ldc2 dX11_undo_72 kc_X11_190 ?_
        refine G_lret rfl (Nat.le_refl _) (Nat.le_refl _) dX11_undo_75 ?_
        cases h
        exact ⟨rfl, rfl, rfl, rfl, rfl⟩
      | some a11 =>
        rw [hro10] at h hset
        have ha11 : gset a11 := hset a11 rfl
        refine S_astore_n [some (.ref 0), some (.int x1), some (.ref a11)] dX11_undo_41 rfl (by decide) rfl ?_
        refine G_aload_n dX11_undo_42 rfl rfl ?_
        refine G_ifnull dX11_undo_43 ?_
        refine G_aload_n dX11_undo_46 rfl rfl ?_
        refine G_getR fl_X11_10 sl_0 sk_0 rfl (rr_0_0 _) dX11_undo_47 ?_
        refine G_aload_n dX11_undo_50 rfl rfl ?_
        refine G_getI fl_X11_207 (gset_sl ha11) (gset_sk ha11) rfl dX11_undo_51 ?_
        refine G_aload_n dX11_undo_54 rfl rfl ?_
        refine G_getI fl_X11_93 sl_0 sk_0 rfl dX11_undo_55 ?_
        obtain ⟨r12, hr13, h⟩ := gB_some h
        refine G_cV (mj := gX7_knownDead) (As := [.int (I a11 6), .int (I 0 14)]) (rest := []) ml_X11_210 vX7_knownDead sl_1 sk_1 (by decide) rfl rfl rfl (Nat.le_of_ble_eq_true rfl) (by decide) (Nat.le_refl _) (Nat.le_refl _) dX11_undo_58 (q_X7_knownDead hr13) ?_
        refine G_if_ne 72 dX11_undo_61 (by decide) (fun c14 => ?_) (fun c14 => ?_)
        · replace h := gif c14 h
          refine G_ldc2 dX11_undo_72 kc_X11_190 ?_
          refine G_lret rfl (Nat.le_refl _) (Nat.le_refl _) dX11_undo_75 ?_
          cases h
          exact ⟨rfl, rfl, rfl, rfl, rfl⟩
        · replace h := git c14 h
          refine G_aload_n dX11_undo_64 rfl rfl ?_
          refine G_iload_n dX11_undo_65 rfl rfl ?_
          obtain ⟨r15, hr16, h⟩ := gB_some h
          refine G_cV (mj := gX11_isHard) (As := [.int x1]) (rest := []) ml_X11_244 vX11_isHard sl_0 sk_0 (by decide) rfl rfl rfl (Nat.le_of_ble_eq_true rfl) (by decide) (Nat.le_refl _) (Nat.le_refl _) dX11_undo_66 (q_X11_isHard hr16) ?_
          refine G_if_ne 76 dX11_undo_69 (by decide) (fun c17 => ?_) (fun c17 => ?_)
          · replace h := gif c17 h
            refine G_aload_n dX11_undo_76 rfl rfl ?_
            refine G_getR fl_X11_63 sl_0 sk_0 rfl (rr_0_7 _) dX11_undo_77 ?_
            refine G_getR fl_X11_247 sl_84 sk_84 rfl (rr_84_9 _) dX11_undo_80 ?_
            refine G_iload_n dX11_undo_83 rfl rfl ?_
            refine G_aload_n dX11_undo_84 rfl rfl ?_
            refine G_getI fl_X11_93 sl_0 sk_0 rfl dX11_undo_85 ?_
            refine G_nI fun z18 ez18 => ?_
            replace h := gL_some ez18 h
            obtain ⟨b19, h⟩ := gck_some h
            refine G_iast sl_94 ss_94 (gin_in b19) dX11_undo_88 ?_
            refine G_mI fun I20 eI20 => ?_
            replace h := gL_some eI20 h
            refine G_aload_n dX11_undo_89 rfl rfl ?_
            refine G_getR fl_X11_19 sl_0 sk_0 rfl (rr_0_1 _) dX11_undo_90 ?_
            refine G_aload_n dX11_undo_93 rfl rfl ?_
            refine G_getR fl_X11_63 sl_0 sk_0 rfl (rr_0_7 _) dX11_undo_94 ?_
            refine G_getR fl_X11_221 sl_84 sk_84 rfl (rr_84_4 _) dX11_undo_97 ?_
            refine G_iload_n dX11_undo_100 rfl rfl ?_
            obtain ⟨b21, h⟩ := gck_some h
            refine G_iald sl_89 ss_89 (gin_in b21) dX11_undo_101 ?_
            refine G_i2l dX11_undo_102 ?_
            refine G_aload_n dX11_undo_103 rfl rfl ?_
            refine G_getI fl_X11_93 sl_0 sk_0 rfl dX11_undo_104 ?_
            refine G_aload_n dX11_undo_107 rfl rfl ?_
            refine G_getR fl_X11_63 sl_0 sk_0 rfl (rr_0_7 _) dX11_undo_108 ?_
            refine G_getR fl_X11_253 sl_84 sk_84 rfl (rr_84_6 _) dX11_undo_111 ?_
            refine G_iload_n dX11_undo_114 rfl rfl ?_
            obtain ⟨b22, h⟩ := gck_some h
            refine G_iald sl_91 ss_91 (gin_in b22) dX11_undo_115 ?_
            refine G_isub dX11_undo_116 ?_
            obtain ⟨r23, hr24, h⟩ := gB_some h
            refine G_cV (mj := gX6_grown) (As := [.long (Int32.toInt64 (I20 89 (x1).toNatClampNeg)), .int ((I20 0 14) - (I20 91 (x1).toNatClampNeg))]) (rest := []) ml_X11_256 vX6_grown sl_9 sk_9 (by decide) rfl rfl rfl (Nat.le_of_ble_eq_true rfl) (by decide) (Nat.le_refl _) (Nat.le_refl _) dX11_undo_117 (q_X6_grown hr24) ?_
            refine G_lret rfl (Nat.le_refl _) (Nat.le_refl _) dX11_undo_120 ?_
            cases h
            exact ⟨rfl, rfl, rfl, rfl, rfl⟩
          · replace h := git c17 h
            refine G_ldc2 dX11_undo_72 kc_X11_190 ?_
            refine G_lret rfl (Nat.le_refl _) (Nat.le_refl _) dX11_undo_75 ?_
            cases h
            exact ⟨rfl, rfl, rfl, rfl, rfl⟩
    · replace h := gif c5 h
      refine G_ldc2 dX11_undo_24 kc_X11_190 ?_
      refine G_lret rfl (Nat.le_refl _) (Nat.le_refl _) dX11_undo_27 ?_
      cases h
      exact ⟨rfl, rfl, rfl, rfl, rfl⟩
def p_X11_least_54 (I : gIt) (J : gJt) (w : Bool) (x1 : Int32) (x2 : Int32) (x3 : Int32) (x4 : Int32) (a5 : Nat) : Nat → Int32 → Option (Int32 × gIt × gJt)
  | 0, _ => none
  | n + 1, x6 =>
    if (100000 : Int32) < x6 then
    some ((-1 : Int32), I, J)
    else
    gB (p_X0_condemns I J (gact w) (Int32.toInt64 x6)) fun r16 =>
    if r16 = 0 then
    some (x6, I, J)
    else
    p_X11_least_54 I J w x1 x2 x3 x4 a5 n (x6 + (1 : Int32))
def p_X11_least (I : gIt) (J : gJt) (w : Bool) (x1 : Int32) (x2 : Int32) (x3 : Int32) (x4 : Int32) : Option (Int32 × gIt × gJt) :=
  gB (p_X11_settlementOf I x2) fun r1 =>
  match r1 with
  | none => (
  some ((-1 : Int32), I, J))
  | some a5 => (
  gB (p_X7_has I x1) fun r6 =>
  if r6 = 0 then
  some ((-1 : Int32), I, J)
  else
  gB (p_X11_isParts x3) fun r9 =>
  if r9 = 0 then
  some ((-1 : Int32), I, J)
  else
  gB (p_X11_weighs I J w a5 x1 x3 x4 (I 0 14)) fun r12 =>
  if r12.1 = 0 then
  some ((0 : Int32), r12.2.1, r12.2.2)
  else
  p_X11_least_54 r12.2.1 r12.2.2 w x1 x2 x3 x4 a5 gFu (0 : Int32))
set_option maxRecDepth 20000 in
theorem q_X11_least_54 {l : Launch} {v : (Int32 × gIt × gJt)} {I : gIt} {J : gJt} {w : Bool} {x1 : Int32} {x2 : Int32} {x3 : Int32} {x4 : Int32} {a5 : Nat} (ha5 : gset a5) : ∀ (n : Nat) (x6 : Int32), p_X11_least_54 I J w x1 x2 x3 x4 a5 n x6 = some v → G l gX11_least 8 0 0 (fun v' S' I' J' R' => v' = some (.int v.1) ∧ S' = gS0 ∧ I' = v.2.1 ∧ J' = v.2.2 ∧ R' = gR0 w) 0 0 54 [some (.ref 0), some (.int x1), some (.int x2), some (.int x3), some (.int x4), some (.ref a5), some (.int x6)] [] gS0 I J (gR0 w) := by
  intro n
  induction n with
  | zero => intro _ h; cases h
  | succ n ih =>
    intro x6 h
    rw [p_X11_least_54] at h
    refine G_iload dX11_least_54 rfl ?_
    refine G_ldc dX11_least_56 kc_X11_141 ?_
    refine G_icmp_gt 83 dX11_least_58 (by decide) (fun c15 => ?_) (fun c15 => ?_)
    · replace h := git c15 h
      refine G_iconst (v := -1) dX11_least_83 rfl ?_
      refine G_iret rfl (Nat.le_refl _) (Nat.le_refl _) dX11_least_84 ?_
      cases h
      exact ⟨rfl, rfl, rfl, rfl, rfl⟩
    · replace h := gif c15 h
      refine G_aload_n dX11_least_61 rfl rfl ?_
      refine G_getR fl_X11_86 sl_0 sk_0 rfl (rr_0_10 _) dX11_least_62 ?_
      refine G_iload dX11_least_65 rfl ?_
      refine G_i2l dX11_least_67 ?_
      obtain ⟨r16, hr17, h⟩ := gB_some h
      refine G_cV (mj := gX0_condemns) (As := [.long (Int32.toInt64 x6)]) (rest := []) ml_X11_264 vX0_condemns (gisa_sl (gisa_act _)) (gisa_sk (gisa_act _)) (by decide) rfl rfl rfl (Nat.le_of_ble_eq_true rfl) (by decide) (Nat.le_refl _) (Nat.le_refl _) dX11_least_68 (q_X0_condemns (gisa_act _) hr17) ?_
      refine G_if_ne 77 dX11_least_71 (by decide) (fun c18 => ?_) (fun c18 => ?_)
      · replace h := gif c18 h
        refine S_iinc (v := (1 : Int32)) [some (.ref 0), some (.int x1), some (.int x2), some (.int x3), some (.int x4), some (.ref a5), some (.int (x6 + (1 : Int32)))] dX11_least_77 rfl rfl (by decide) rfl ?_
        refine G_goto 54 dX11_least_80 (by decide) ?_
        exact ih _ h
      · replace h := git c18 h
        refine G_iload dX11_least_74 rfl ?_
        refine G_iret rfl (Nat.le_refl _) (Nat.le_refl _) dX11_least_76 ?_
        cases h
        exact ⟨rfl, rfl, rfl, rfl, rfl⟩
set_option maxRecDepth 20000 in
theorem q_X11_least {l : Launch} {I : gIt} {J : gJt} {w : Bool} {x1 : Int32} {x2 : Int32} {x3 : Int32} {x4 : Int32} {v : (Int32 × gIt × gJt)} (h : p_X11_least I J w x1 x2 x3 x4 = some v) : Cn l gX11_least 8 0 0 [.ref 0, .int x1, .int x2, .int x3, .int x4] gS0 I J (gR0 w) (fun v' S' I' J' R' => v' = some (.int v.1) ∧ S' = gS0 ∧ I' = v.2.1 ∧ J' = v.2.2 ∧ R' = gR0 w) := by
  refine Cn.of [some (.ref 0), some (.int x1), some (.int x2), some (.int x3), some (.int x4), none, none] (by decide) rfl (Nat.le_of_ble_eq_true rfl) ?_
  rw [p_X11_least] at h
  refine G_aload_n dX11_least_0 rfl rfl ?_
  refine G_iload_n dX11_least_1 rfl rfl ?_
  obtain ⟨r1, hr2, h⟩ := gB_some h
  refine G_cVO (mj := gX11_settlementOf) (As := [.int x2]) (rest := []) ml_X11_159 vX11_settlementOf sl_0 sk_0 (by decide) rfl rfl rfl (Nat.le_of_ble_eq_true rfl) (by decide) (Nat.le_refl _) (Nat.le_refl _) dX11_least_2 (q_X11_settlementOf hr2) (fun hset => ?_)
  cases hro4 : r1 with
  | none =>
    rw [hro4] at h hset
    refine S_astoreN [some (.ref 0), some (.int x1), some (.int x2), some (.int x3), some (.int x4), some (.null), none] dX11_least_5 (by decide) rfl ?_
    refine G_aloadN dX11_least_7 rfl ?_
    refine G_ifnullN 30 dX11_least_9 (by decide) ?_
    refine G_iconst (v := -1) dX11_least_30 rfl ?_
    refine G_iret rfl (Nat.le_refl _) (Nat.le_refl _) dX11_least_31 ?_
    cases h
    exact ⟨rfl, rfl, rfl, rfl, rfl⟩
  | some a5 =>
    rw [hro4] at h hset
    have ha5 : gset a5 := hset a5 rfl
    refine S_astore [some (.ref 0), some (.int x1), some (.int x2), some (.int x3), some (.int x4), some (.ref a5), none] dX11_least_5 (by decide) rfl ?_
    refine G_aload dX11_least_7 rfl ?_
    refine G_ifnull dX11_least_9 ?_
    refine G_aload_n dX11_least_12 rfl rfl ?_
    refine G_getR fl_X11_10 sl_0 sk_0 rfl (rr_0_0 _) dX11_least_13 ?_
    refine G_iload_n dX11_least_16 rfl rfl ?_
    obtain ⟨r6, hr7, h⟩ := gB_some h
    refine G_cV (mj := gX7_has) (As := [.int x1]) (rest := []) ml_X11_100 vX7_has sl_1 sk_1 (by decide) rfl rfl rfl (Nat.le_of_ble_eq_true rfl) (by decide) (Nat.le_refl _) (Nat.le_refl _) dX11_least_17 (q_X7_has hr7) ?_
    refine G_if_eq 30 dX11_least_20 (by decide) (fun c8 => ?_) (fun c8 => ?_)
    · replace h := git c8 h
      refine G_iconst (v := -1) dX11_least_30 rfl ?_
      refine G_iret rfl (Nat.le_refl _) (Nat.le_refl _) dX11_least_31 ?_
      cases h
      exact ⟨rfl, rfl, rfl, rfl, rfl⟩
    · replace h := gif c8 h
      refine G_iload_n dX11_least_23 rfl rfl ?_
      obtain ⟨r9, hr10, h⟩ := gB_some h
      refine G_cS (mj := gX11_isParts) (As := [.int x3]) (rest := []) ml_X11_203 vX11_isParts rfl rfl (Nat.le_of_ble_eq_true rfl) (by decide) (Nat.le_refl _) (Nat.le_refl _) dX11_least_24 (q_X11_isParts hr10) ?_
      refine G_if_ne 32 dX11_least_27 (by decide) (fun c11 => ?_) (fun c11 => ?_)
      · replace h := gif c11 h
        refine G_aload_n dX11_least_32 rfl rfl ?_
        refine G_aload dX11_least_33 rfl ?_
        refine G_iload_n dX11_least_35 rfl rfl ?_
        refine G_iload_n dX11_least_36 rfl rfl ?_
        refine G_iload dX11_least_37 rfl ?_
        refine G_aload_n dX11_least_39 rfl rfl ?_
        refine G_getI fl_X11_93 sl_0 sk_0 rfl dX11_least_40 ?_
        obtain ⟨r12, hr13, h⟩ := gB_some h
        refine G_cV (mj := gX11_weighs) (As := [.ref a5, .int x1, .int x3, .int x4, .int (I 0 14)]) (rest := []) ml_X11_260 vX11_weighs sl_0 sk_0 (by decide) rfl rfl rfl (Nat.le_of_ble_eq_true rfl) (by decide) (Nat.le_refl _) (Nat.le_refl _) dX11_least_43 (q_X11_weighs ha5 hr13) ?_
        refine G_if_ne 51 dX11_least_46 (by decide) (fun c14 => ?_) (fun c14 => ?_)
        · replace h := gif c14 h
          refine G_iconst (v := 0) dX11_least_51 rfl ?_
          refine S_istore [some (.ref 0), some (.int x1), some (.int x2), some (.int x3), some (.int x4), some (.ref a5), some (.int (0 : Int32))] dX11_least_52 (by decide) rfl ?_
          exact q_X11_least_54  ha5 gFu _ h
        · replace h := git c14 h
          refine G_iconst (v := 0) dX11_least_49 rfl ?_
          refine G_iret rfl (Nat.le_refl _) (Nat.le_refl _) dX11_least_50 ?_
          cases h
          exact ⟨rfl, rfl, rfl, rfl, rfl⟩
      · replace h := git c11 h
        refine G_iconst (v := -1) dX11_least_30 rfl ?_
        refine G_iret rfl (Nat.le_refl _) (Nat.le_refl _) dX11_least_31 ?_
        cases h
        exact ⟨rfl, rfl, rfl, rfl, rfl⟩
def p_X11_cover (I : gIt) (x1 : Int32) (x2 : Int32) (x3 : Int32) : Option Int64 :=
  gB (p_X11_settlementOf I x1) fun r1 =>
  match r1 with
  | none => (
  some (-1 : Int64))
  | some a5 => (
  gB (p_X7_has I x2) fun r6 =>
  if r6 = 0 then
  some (-1 : Int64)
  else
  if x3 < (1 : Int32) then
  some (-1 : Int64)
  else
  if x3 ≤ (100000 : Int32) then
  gL ((I a5 6)) fun z11 =>
  if x2 = z11 then
  some (-1 : Int64)
  else
  gB (p_X7_has I z11) fun r13 =>
  if r13 = 0 then
  some (-1 : Int64)
  else
  gB (p_X7_knownDead I x2 (I 0 14)) fun r16 =>
  if r16 = 0 then
  gB (p_X7_knownDead I z11 (I 0 14)) fun r19 =>
  if r19 = 0 then
  gck (gin x2 16) (
  gL (((I 0 14) - (I 2 (x2).toNatClampNeg))) fun z23 =>
  gck (gin z11 16) (
  gL (((I 0 14) - (I 2 (z11).toNatClampNeg))) fun z25 =>
  gB (p_X6_coverOf I (I a5 7) z23 z25 (Int32.toInt64 x3)) fun r26 =>
  some r26))
  else
  some (-1 : Int64)
  else
  some (-1 : Int64)
  else
  some (-1 : Int64))
set_option maxRecDepth 20000 in
theorem q_X11_cover {l : Launch} {I : gIt} {J : gJt} {w : Bool} {x1 : Int32} {x2 : Int32} {x3 : Int32} {v : Int64} (h : p_X11_cover I x1 x2 x3 = some v) : Cn l gX11_cover 4 0 0 [.ref 0, .int x1, .int x2, .int x3] gS0 I J (gR0 w) (fun v' S' I' J' R' => v' = some (.long v) ∧ S' = gS0 ∧ I' = I ∧ J' = J ∧ R' = gR0 w) := by
  refine Cn.of [some (.ref 0), some (.int x1), some (.int x2), some (.int x3), none, none, none, none] (by decide) rfl (Nat.le_of_ble_eq_true rfl) ?_
  rw [p_X11_cover] at h
  refine G_aload_n dX11_cover_0 rfl rfl ?_
  refine G_iload_n dX11_cover_1 rfl rfl ?_
  obtain ⟨r1, hr2, h⟩ := gB_some h
  refine G_cVO (mj := gX11_settlementOf) (As := [.int x1]) (rest := []) ml_X11_159 vX11_settlementOf sl_0 sk_0 (by decide) rfl rfl rfl (Nat.le_of_ble_eq_true rfl) (by decide) (Nat.le_refl _) (Nat.le_refl _) dX11_cover_2 (q_X11_settlementOf hr2) (fun hset => ?_)
  cases hro4 : r1 with
  | none =>
    rw [hro4] at h hset
    refine S_astoreN [some (.ref 0), some (.int x1), some (.int x2), some (.int x3), some (.null), none, none, none] dX11_cover_5 (by decide) rfl ?_
    refine G_aloadN dX11_cover_7 rfl ?_
    refine G_ifnullN 34 dX11_cover_9 (by decide) ?_
    refine G_ldc2 dX11_cover_34 kc_X11_190 ?_
    refine G_lret rfl (Nat.le_refl _) (Nat.le_refl _) dX11_cover_37 ?_
    cases h
    exact ⟨rfl, rfl, rfl, rfl, rfl⟩
  | some a5 =>
    rw [hro4] at h hset
    have ha5 : gset a5 := hset a5 rfl
    refine S_astore [some (.ref 0), some (.int x1), some (.int x2), some (.int x3), some (.ref a5), none, none, none] dX11_cover_5 (by decide) rfl ?_
    refine G_aload dX11_cover_7 rfl ?_
    refine G_ifnull dX11_cover_9 ?_
    refine G_aload_n dX11_cover_12 rfl rfl ?_
    refine G_getR fl_X11_10 sl_0 sk_0 rfl (rr_0_0 _) dX11_cover_13 ?_
    refine G_iload_n dX11_cover_16 rfl rfl ?_
    obtain ⟨r6, hr7, h⟩ := gB_some h
    refine G_cV (mj := gX7_has) (As := [.int x2]) (rest := []) ml_X11_100 vX7_has sl_1 sk_1 (by decide) rfl rfl rfl (Nat.le_of_ble_eq_true rfl) (by decide) (Nat.le_refl _) (Nat.le_refl _) dX11_cover_17 (q_X7_has hr7) ?_
    refine G_if_eq 34 dX11_cover_20 (by decide) (fun c8 => ?_) (fun c8 => ?_)
    · replace h := git c8 h
      refine G_ldc2 dX11_cover_34 kc_X11_190 ?_
      refine G_lret rfl (Nat.le_refl _) (Nat.le_refl _) dX11_cover_37 ?_
      cases h
      exact ⟨rfl, rfl, rfl, rfl, rfl⟩
    · replace h := gif c8 h
      refine G_iload_n dX11_cover_23 rfl rfl ?_
      refine G_iconst (v := 1) dX11_cover_24 rfl ?_
      refine G_icmp_lt 34 dX11_cover_25 (by decide) (fun c9 => ?_) (fun c9 => ?_)
      · replace h := git c9 h
        refine G_ldc2 dX11_cover_34 kc_X11_190 ?_
        refine G_lret rfl (Nat.le_refl _) (Nat.le_refl _) dX11_cover_37 ?_
        cases h
        exact ⟨rfl, rfl, rfl, rfl, rfl⟩
      · replace h := gif c9 h
        refine G_iload_n dX11_cover_28 rfl rfl ?_
        refine G_ldc dX11_cover_29 kc_X11_141 ?_
        refine G_icmp_le 38 dX11_cover_31 (by decide) (fun c10 => ?_) (fun c10 => ?_)
        · replace h := git c10 h
          refine G_aload dX11_cover_38 rfl ?_
          refine G_getI fl_X11_207 (gset_sl ha5) (gset_sk ha5) rfl dX11_cover_40 ?_
          refine G_nI fun z11 ez11 => ?_
          replace h := gL_some ez11 h
          refine S_istore [some (.ref 0), some (.int x1), some (.int x2), some (.int x3), some (.ref a5), some (.int z11), none, none] dX11_cover_43 (by decide) rfl ?_
          refine G_iload_n dX11_cover_45 rfl rfl ?_
          refine G_iload dX11_cover_46 rfl ?_
          refine G_icmp_eq 63 dX11_cover_48 (by decide) (fun c12 => ?_) (fun c12 => ?_)
          · replace h := git c12 h
            refine G_ldc2 dX11_cover_63 kc_X11_190 ?_
            refine G_lret rfl (Nat.le_refl _) (Nat.le_refl _) dX11_cover_66 ?_
            cases h
            exact ⟨rfl, rfl, rfl, rfl, rfl⟩
          · replace h := gif c12 h
            refine G_aload_n dX11_cover_51 rfl rfl ?_
            refine G_getR fl_X11_10 sl_0 sk_0 rfl (rr_0_0 _) dX11_cover_52 ?_
            refine G_iload dX11_cover_55 rfl ?_
            obtain ⟨r13, hr14, h⟩ := gB_some h
            refine G_cV (mj := gX7_has) (As := [.int z11]) (rest := []) ml_X11_100 vX7_has sl_1 sk_1 (by decide) rfl rfl rfl (Nat.le_of_ble_eq_true rfl) (by decide) (Nat.le_refl _) (Nat.le_refl _) dX11_cover_57 (q_X7_has hr14) ?_
            refine G_if_ne 67 dX11_cover_60 (by decide) (fun c15 => ?_) (fun c15 => ?_)
            · replace h := gif c15 h
              refine G_aload_n dX11_cover_67 rfl rfl ?_
              refine G_getR fl_X11_10 sl_0 sk_0 rfl (rr_0_0 _) dX11_cover_68 ?_
              refine G_iload_n dX11_cover_71 rfl rfl ?_
              refine G_aload_n dX11_cover_72 rfl rfl ?_
              refine G_getI fl_X11_93 sl_0 sk_0 rfl dX11_cover_73 ?_
              obtain ⟨r16, hr17, h⟩ := gB_some h
              refine G_cV (mj := gX7_knownDead) (As := [.int x2, .int (I 0 14)]) (rest := []) ml_X11_210 vX7_knownDead sl_1 sk_1 (by decide) rfl rfl rfl (Nat.le_of_ble_eq_true rfl) (by decide) (Nat.le_refl _) (Nat.le_refl _) dX11_cover_76 (q_X7_knownDead hr17) ?_
              refine G_if_ne 98 dX11_cover_79 (by decide) (fun c18 => ?_) (fun c18 => ?_)
              · replace h := gif c18 h
                refine G_ldc2 dX11_cover_98 kc_X11_190 ?_
                refine G_lret rfl (Nat.le_refl _) (Nat.le_refl _) dX11_cover_101 ?_
                cases h
                exact ⟨rfl, rfl, rfl, rfl, rfl⟩
              · replace h := git c18 h
                refine G_aload_n dX11_cover_82 rfl rfl ?_
                refine G_getR fl_X11_10 sl_0 sk_0 rfl (rr_0_0 _) dX11_cover_83 ?_
                refine G_iload dX11_cover_86 rfl ?_
                refine G_aload_n dX11_cover_88 rfl rfl ?_
                refine G_getI fl_X11_93 sl_0 sk_0 rfl dX11_cover_89 ?_
                obtain ⟨r19, hr20, h⟩ := gB_some h
                refine G_cV (mj := gX7_knownDead) (As := [.int z11, .int (I 0 14)]) (rest := []) ml_X11_210 vX7_knownDead sl_1 sk_1 (by decide) rfl rfl rfl (Nat.le_of_ble_eq_true rfl) (by decide) (Nat.le_refl _) (Nat.le_refl _) dX11_cover_92 (q_X7_knownDead hr20) ?_
                refine G_if_eq 102 dX11_cover_95 (by decide) (fun c21 => ?_) (fun c21 => ?_)
                · replace h := git c21 h
                  refine G_aload_n dX11_cover_102 rfl rfl ?_
                  refine G_getI fl_X11_93 sl_0 sk_0 rfl dX11_cover_103 ?_
                  refine G_aload_n dX11_cover_106 rfl rfl ?_
                  refine G_getR fl_X11_10 sl_0 sk_0 rfl (rr_0_0 _) dX11_cover_107 ?_
                  refine G_getR fl_X11_104 sl_1 sk_1 rfl (rr_1_0 _) dX11_cover_110 ?_
                  refine G_iload_n dX11_cover_113 rfl rfl ?_
                  obtain ⟨b22, h⟩ := gck_some h
                  refine G_iald sl_2 ss_2 (gin_in b22) dX11_cover_114 ?_
                  refine G_isub dX11_cover_115 ?_
                  refine G_nI fun z23 ez23 => ?_
                  replace h := gL_some ez23 h
                  refine S_istore [some (.ref 0), some (.int x1), some (.int x2), some (.int x3), some (.ref a5), some (.int z11), some (.int z23), none] dX11_cover_116 (by decide) rfl ?_
                  refine G_aload_n dX11_cover_118 rfl rfl ?_
                  refine G_getI fl_X11_93 sl_0 sk_0 rfl dX11_cover_119 ?_
                  refine G_aload_n dX11_cover_122 rfl rfl ?_
                  refine G_getR fl_X11_10 sl_0 sk_0 rfl (rr_0_0 _) dX11_cover_123 ?_
                  refine G_getR fl_X11_104 sl_1 sk_1 rfl (rr_1_0 _) dX11_cover_126 ?_
                  refine G_iload dX11_cover_129 rfl ?_
                  obtain ⟨b24, h⟩ := gck_some h
                  refine G_iald sl_2 ss_2 (gin_in b24) dX11_cover_131 ?_
                  refine G_isub dX11_cover_132 ?_
                  refine G_nI fun z25 ez25 => ?_
                  replace h := gL_some ez25 h
                  refine S_istore [some (.ref 0), some (.int x1), some (.int x2), some (.int x3), some (.ref a5), some (.int z11), some (.int z23), some (.int z25)] dX11_cover_133 (by decide) rfl ?_
                  refine G_aload_n dX11_cover_135 rfl rfl ?_
                  refine G_getR fl_X11_19 sl_0 sk_0 rfl (rr_0_1 _) dX11_cover_136 ?_
                  refine G_aload dX11_cover_139 rfl ?_
                  refine G_getI fl_X11_268 (gset_sl ha5) (gset_sk ha5) rfl dX11_cover_141 ?_
                  refine G_iload dX11_cover_144 rfl ?_
                  refine G_iload dX11_cover_146 rfl ?_
                  refine G_iload_n dX11_cover_148 rfl rfl ?_
                  refine G_i2l dX11_cover_149 ?_
                  obtain ⟨r26, hr27, h⟩ := gB_some h
                  refine G_cV (mj := gX6_coverOf) (As := [.int (I a5 7), .int z23, .int z25, .long (Int32.toInt64 x3)]) (rest := []) ml_X11_271 vX6_coverOf sl_9 sk_9 (by decide) rfl rfl rfl (Nat.le_of_ble_eq_true rfl) (by decide) (Nat.le_refl _) (Nat.le_refl _) dX11_cover_150 (q_X6_coverOf hr27) ?_
                  refine G_lret rfl (Nat.le_refl _) (Nat.le_refl _) dX11_cover_153 ?_
                  cases h
                  exact ⟨rfl, rfl, rfl, rfl, rfl⟩
                · replace h := gif c21 h
                  refine G_ldc2 dX11_cover_98 kc_X11_190 ?_
                  refine G_lret rfl (Nat.le_refl _) (Nat.le_refl _) dX11_cover_101 ?_
                  cases h
                  exact ⟨rfl, rfl, rfl, rfl, rfl⟩
            · replace h := git c15 h
              refine G_ldc2 dX11_cover_63 kc_X11_190 ?_
              refine G_lret rfl (Nat.le_refl _) (Nat.le_refl _) dX11_cover_66 ?_
              cases h
              exact ⟨rfl, rfl, rfl, rfl, rfl⟩
        · replace h := gif c10 h
          refine G_ldc2 dX11_cover_34 kc_X11_190 ?_
          refine G_lret rfl (Nat.le_refl _) (Nat.le_refl _) dX11_cover_37 ?_
          cases h
          exact ⟨rfl, rfl, rfl, rfl, rfl⟩
def p_X11_gainOf (I : gIt) (x1 : Int32) (x2 : Int32) (x3 : Int32) : Option (Int32 × gIt) :=
  gB (p_X11_settlementOf I x1) fun r1 =>
  match r1 with
  | none => (
  some ((-1 : Int32), I))
  | some a5 => (
  gB (p_X7_has I x2) fun r6 =>
  if r6 = 0 then
  some ((-1 : Int32), I)
  else
  gB (p_X11_isYear x3) fun r9 =>
  if r9 = 0 then
  some ((-1 : Int32), I)
  else
  gL ((I a5 6)) fun z12 =>
  gB (p_X7_has I z12) fun r13 =>
  if r13 = 0 then
  some ((-1 : Int32), I)
  else
  gB (p_X7_knownDead I z12 x3) fun r16 =>
  if r16 = 0 then
  some ((-1 : Int32), I)
  else
  gB (p_X5_learn I x3) fun r19 =>
  gck (gin z12 16) (
  gB (p_X7_survivorsOf r19 (r19 5 (z12).toNatClampNeg) x3) fun r22 =>
  gB (p_X5_namedIn r19 a5) fun r24 =>
  gB (p_X3_divide r19 a5 (r22 &&& r24)) fun r26 =>
  gB (p_X3_givenTo r26 x2) fun r28 =>
  some (r28, r26)))
set_option maxRecDepth 20000 in
theorem q_X11_gainOf {l : Launch} {I : gIt} {J : gJt} {w : Bool} {x1 : Int32} {x2 : Int32} {x3 : Int32} {v : (Int32 × gIt)} (h : p_X11_gainOf I x1 x2 x3 = some v) : Cn l gX11_gainOf 6 0 0 [.ref 0, .int x1, .int x2, .int x3] gS0 I J (gR0 w) (fun v' S' I' J' R' => v' = some (.int v.1) ∧ S' = gS0 ∧ I' = v.2 ∧ J' = J ∧ R' = gR0 w) := by
  refine Cn.of [some (.ref 0), some (.int x1), some (.int x2), some (.int x3), none, none, none] (by decide) rfl (Nat.le_of_ble_eq_true rfl) ?_
  rw [p_X11_gainOf] at h
  refine G_aload_n dX11_gainOf_0 rfl rfl ?_
  refine G_iload_n dX11_gainOf_1 rfl rfl ?_
  obtain ⟨r1, hr2, h⟩ := gB_some h
  refine G_cVO (mj := gX11_settlementOf) (As := [.int x1]) (rest := []) ml_X11_159 vX11_settlementOf sl_0 sk_0 (by decide) rfl rfl rfl (Nat.le_of_ble_eq_true rfl) (by decide) (Nat.le_refl _) (Nat.le_refl _) dX11_gainOf_2 (q_X11_settlementOf hr2) (fun hset => ?_)
  cases hro4 : r1 with
  | none =>
    rw [hro4] at h hset
    refine S_astoreN [some (.ref 0), some (.int x1), some (.int x2), some (.int x3), some (.null), none, none] dX11_gainOf_5 (by decide) rfl ?_
    refine G_aloadN dX11_gainOf_7 rfl ?_
    refine G_ifnullN 30 dX11_gainOf_9 (by decide) ?_
    refine G_iconst (v := -1) dX11_gainOf_30 rfl ?_
    refine G_iret rfl (Nat.le_refl _) (Nat.le_refl _) dX11_gainOf_31 ?_
    cases h
    exact ⟨rfl, rfl, rfl, rfl, rfl⟩
  | some a5 =>
    rw [hro4] at h hset
    have ha5 : gset a5 := hset a5 rfl
    refine S_astore [some (.ref 0), some (.int x1), some (.int x2), some (.int x3), some (.ref a5), none, none] dX11_gainOf_5 (by decide) rfl ?_
    refine G_aload dX11_gainOf_7 rfl ?_
    refine G_ifnull dX11_gainOf_9 ?_
    refine G_aload_n dX11_gainOf_12 rfl rfl ?_
    refine G_getR fl_X11_10 sl_0 sk_0 rfl (rr_0_0 _) dX11_gainOf_13 ?_
    refine G_iload_n dX11_gainOf_16 rfl rfl ?_
    obtain ⟨r6, hr7, h⟩ := gB_some h
    refine G_cV (mj := gX7_has) (As := [.int x2]) (rest := []) ml_X11_100 vX7_has sl_1 sk_1 (by decide) rfl rfl rfl (Nat.le_of_ble_eq_true rfl) (by decide) (Nat.le_refl _) (Nat.le_refl _) dX11_gainOf_17 (q_X7_has hr7) ?_
    refine G_if_eq 30 dX11_gainOf_20 (by decide) (fun c8 => ?_) (fun c8 => ?_)
    · replace h := git c8 h
      refine G_iconst (v := -1) dX11_gainOf_30 rfl ?_
      refine G_iret rfl (Nat.le_refl _) (Nat.le_refl _) dX11_gainOf_31 ?_
      cases h
      exact ⟨rfl, rfl, rfl, rfl, rfl⟩
    · replace h := gif c8 h
      refine G_iload_n dX11_gainOf_23 rfl rfl ?_
      obtain ⟨r9, hr10, h⟩ := gB_some h
      refine G_cS (mj := gX11_isYear) (As := [.int x3]) (rest := []) ml_X11_163 vX11_isYear rfl rfl (Nat.le_of_ble_eq_true rfl) (by decide) (Nat.le_refl _) (Nat.le_refl _) dX11_gainOf_24 (q_X11_isYear hr10) ?_
      refine G_if_ne 32 dX11_gainOf_27 (by decide) (fun c11 => ?_) (fun c11 => ?_)
      · replace h := gif c11 h
        refine G_aload dX11_gainOf_32 rfl ?_
        refine G_getI fl_X11_207 (gset_sl ha5) (gset_sk ha5) rfl dX11_gainOf_34 ?_
        refine G_nI fun z12 ez12 => ?_
        replace h := gL_some ez12 h
        refine S_istore [some (.ref 0), some (.int x1), some (.int x2), some (.int x3), some (.ref a5), some (.int z12), none] dX11_gainOf_37 (by decide) rfl ?_
        refine G_aload_n dX11_gainOf_39 rfl rfl ?_
        refine G_getR fl_X11_10 sl_0 sk_0 rfl (rr_0_0 _) dX11_gainOf_40 ?_
        refine G_iload dX11_gainOf_43 rfl ?_
        obtain ⟨r13, hr14, h⟩ := gB_some h
        refine G_cV (mj := gX7_has) (As := [.int z12]) (rest := []) ml_X11_100 vX7_has sl_1 sk_1 (by decide) rfl rfl rfl (Nat.le_of_ble_eq_true rfl) (by decide) (Nat.le_refl _) (Nat.le_refl _) dX11_gainOf_45 (q_X7_has hr14) ?_
        refine G_if_eq 64 dX11_gainOf_48 (by decide) (fun c15 => ?_) (fun c15 => ?_)
        · replace h := git c15 h
          refine G_iconst (v := -1) dX11_gainOf_64 rfl ?_
          refine G_iret rfl (Nat.le_refl _) (Nat.le_refl _) dX11_gainOf_65 ?_
          cases h
          exact ⟨rfl, rfl, rfl, rfl, rfl⟩
        · replace h := gif c15 h
          refine G_aload_n dX11_gainOf_51 rfl rfl ?_
          refine G_getR fl_X11_10 sl_0 sk_0 rfl (rr_0_0 _) dX11_gainOf_52 ?_
          refine G_iload dX11_gainOf_55 rfl ?_
          refine G_iload_n dX11_gainOf_57 rfl rfl ?_
          obtain ⟨r16, hr17, h⟩ := gB_some h
          refine G_cV (mj := gX7_knownDead) (As := [.int z12, .int x3]) (rest := []) ml_X11_210 vX7_knownDead sl_1 sk_1 (by decide) rfl rfl rfl (Nat.le_of_ble_eq_true rfl) (by decide) (Nat.le_refl _) (Nat.le_refl _) dX11_gainOf_58 (q_X7_knownDead hr17) ?_
          refine G_if_ne 66 dX11_gainOf_61 (by decide) (fun c18 => ?_) (fun c18 => ?_)
          · replace h := gif c18 h
            refine G_aload_n dX11_gainOf_66 rfl rfl ?_
            refine G_getR fl_X11_40 sl_0 sk_0 rfl (rr_0_4 _) dX11_gainOf_67 ?_
            refine G_aload_n dX11_gainOf_70 rfl rfl ?_
            refine G_getR fl_X11_10 sl_0 sk_0 rfl (rr_0_0 _) dX11_gainOf_71 ?_
            refine G_iload_n dX11_gainOf_74 rfl rfl ?_
            obtain ⟨r19, hr20, h⟩ := gB_some h
            refine G_cV (mj := gX5_learn) (As := [.ref 1, .int x3]) (rest := []) ml_X11_166 vX5_learn sl_74 sk_74 (by decide) rfl rfl rfl (Nat.le_of_ble_eq_true rfl) (by decide) (Nat.le_refl _) (Nat.le_refl _) dX11_gainOf_75 (q_X5_learn hr20) ?_
            refine G_aload_n dX11_gainOf_78 rfl rfl ?_
            refine G_getR fl_X11_10 sl_0 sk_0 rfl (rr_0_0 _) dX11_gainOf_79 ?_
            refine G_aload_n dX11_gainOf_82 rfl rfl ?_
            refine G_getR fl_X11_10 sl_0 sk_0 rfl (rr_0_0 _) dX11_gainOf_83 ?_
            refine G_getR fl_X11_112 sl_1 sk_1 rfl (rr_1_3 _) dX11_gainOf_86 ?_
            refine G_iload dX11_gainOf_89 rfl ?_
            obtain ⟨b21, h⟩ := gck_some h
            refine G_iald sl_5 ss_5 (gin_in b21) dX11_gainOf_91 ?_
            refine G_iload_n dX11_gainOf_92 rfl rfl ?_
            obtain ⟨r22, hr23, h⟩ := gB_some h
            refine G_cV (mj := gX7_survivorsOf) (As := [.int (r19 5 (z12).toNatClampNeg), .int x3]) (rest := []) ml_X11_349 vX7_survivorsOf sl_1 sk_1 (by decide) rfl rfl rfl (Nat.le_of_ble_eq_true rfl) (by decide) (Nat.le_refl _) (Nat.le_refl _) dX11_gainOf_93 (q_X7_survivorsOf hr23) ?_
            refine S_istore [some (.ref 0), some (.int x1), some (.int x2), some (.int x3), some (.ref a5), some (.int z12), some (.int r22)] dX11_gainOf_96 (by decide) rfl ?_
            refine G_aload_n dX11_gainOf_98 rfl rfl ?_
            refine G_getR fl_X11_47 sl_0 sk_0 rfl (rr_0_5 _) dX11_gainOf_99 ?_
            refine G_aload dX11_gainOf_102 rfl ?_
            refine G_aload_n dX11_gainOf_104 rfl rfl ?_
            refine G_getR fl_X11_40 sl_0 sk_0 rfl (rr_0_4 _) dX11_gainOf_105 ?_
            refine G_iload dX11_gainOf_108 rfl ?_
            refine G_aload_n dX11_gainOf_110 rfl rfl ?_
            refine G_getR fl_X11_40 sl_0 sk_0 rfl (rr_0_4 _) dX11_gainOf_111 ?_
            refine G_aload dX11_gainOf_114 rfl ?_
            obtain ⟨r24, hr25, h⟩ := gB_some h
            refine G_cV (mj := gX5_namedIn) (As := [.ref a5]) (rest := [.int r22, .ref 74, .ref a5, .ref 76]) ml_X11_170 vX5_namedIn sl_74 sk_74 (by decide) rfl rfl rfl (Nat.le_of_ble_eq_true rfl) (by decide) (Nat.le_refl _) (Nat.le_refl _) dX11_gainOf_116 (q_X5_namedIn ha5 hr25) ?_
            refine G_iand dX11_gainOf_119 ?_
            obtain ⟨r26, hr27, h⟩ := gB_some h
            refine G_cV (mj := gX3_divide) (As := [.ref a5, .ref 74, .int (r22 &&& r24)]) (rest := []) ml_X11_179 vX3_divide sl_76 sk_76 (by decide) rfl rfl rfl (Nat.le_of_ble_eq_true rfl) (by decide) (Nat.le_refl _) (Nat.le_refl _) dX11_gainOf_120 (q_X3_divide ha5 hr27) ?_
            refine G_aload_n dX11_gainOf_123 rfl rfl ?_
            refine G_getR fl_X11_47 sl_0 sk_0 rfl (rr_0_5 _) dX11_gainOf_124 ?_
            refine G_iload_n dX11_gainOf_127 rfl rfl ?_
            obtain ⟨r28, hr29, h⟩ := gB_some h
            refine G_cV (mj := gX3_givenTo) (As := [.int x2]) (rest := []) ml_X11_183 vX3_givenTo sl_76 sk_76 (by decide) rfl rfl rfl (Nat.le_of_ble_eq_true rfl) (by decide) (Nat.le_refl _) (Nat.le_refl _) dX11_gainOf_128 (q_X3_givenTo hr29) ?_
            refine G_iret rfl (Nat.le_refl _) (Nat.le_refl _) dX11_gainOf_131 ?_
            cases h
            exact ⟨rfl, rfl, rfl, rfl, rfl⟩
          · replace h := git c18 h
            refine G_iconst (v := -1) dX11_gainOf_64 rfl ?_
            refine G_iret rfl (Nat.le_refl _) (Nat.le_refl _) dX11_gainOf_65 ?_
            cases h
            exact ⟨rfl, rfl, rfl, rfl, rfl⟩
      · replace h := git c11 h
        refine G_iconst (v := -1) dX11_gainOf_30 rfl ?_
        refine G_iret rfl (Nat.le_refl _) (Nat.le_refl _) dX11_gainOf_31 ?_
        cases h
        exact ⟨rfl, rfl, rfl, rfl, rfl⟩
def p_X11_gain (I : gIt) (x1 : Int32) (x2 : Int32) (x3 : Int32) : Option (Int32 × gIt) :=
  gB (p_X11_gainOf I x1 x2 x3) fun r1 =>
  some (r1.1, r1.2)
set_option maxRecDepth 20000 in
theorem q_X11_gain {l : Launch} {I : gIt} {J : gJt} {w : Bool} {x1 : Int32} {x2 : Int32} {x3 : Int32} {v : (Int32 × gIt)} (h : p_X11_gain I x1 x2 x3 = some v) : Cn l gX11_gain 7 0 0 [.ref 0, .int x1, .int x2, .int x3] gS0 I J (gR0 w) (fun v' S' I' J' R' => v' = some (.int v.1) ∧ S' = gS0 ∧ I' = v.2 ∧ J' = J ∧ R' = gR0 w) := by
  refine Cn.of [some (.ref 0), some (.int x1), some (.int x2), some (.int x3)] (by decide) rfl (Nat.le_of_ble_eq_true rfl) ?_
  rw [p_X11_gain] at h
  refine G_aload_n dX11_gain_0 rfl rfl ?_
  refine G_iload_n dX11_gain_1 rfl rfl ?_
  refine G_iload_n dX11_gain_2 rfl rfl ?_
  refine G_iload_n dX11_gain_3 rfl rfl ?_
  obtain ⟨r1, hr2, h⟩ := gB_some h
  refine G_cV (mj := gX11_gainOf) (As := [.int x1, .int x2, .int x3]) (rest := []) ml_X11_275 vX11_gainOf sl_0 sk_0 (by decide) rfl rfl rfl (Nat.le_of_ble_eq_true rfl) (by decide) (Nat.le_refl _) (Nat.le_refl _) dX11_gain_4 (q_X11_gainOf hr2) ?_
  refine G_iret rfl (Nat.le_refl _) (Nat.le_refl _) dX11_gain_7 ?_
  cases h
  exact ⟨rfl, rfl, rfl, rfl, rfl⟩
def p_X11_paid_153 (I : gIt) (x1 : Int32) (x2 : Int32) (x3 : Int32) (x4 : Int32) (x5 : Int32) (x8 : Int32) : Nat → Int32 → Int32 → Int32 → Option (Int32 × gIt)
  | 0, _, _, _ => none
  | n + 1, x6, x7, x9 =>
    if (I 84 10) ≤ x9 then
    if x3 = x2 then
    some ((x7 + x6), I)
    else
    some (x7, I)
    else
    if (40 : Int32) ≤ x9 then
    if x3 = x2 then
    some ((x7 + x6), I)
    else
    some (x7, I)
    else
    gB (p_X8_binds I x9 x2 x1) fun r14 =>
    gB (α := Int32) (
    if r14 = 0 then
    some (0 : Int32)
    else
    gB (p_X8_partsReached I x9 x4) fun r26 =>
    some ((x8 * r26) / (1000 : Int32))) fun ph16 =>
    gL ((x6 - ph16)) fun z20 =>
    gck (gin x9 40) (
    if (I 88 (x9).toNatClampNeg) = x3 then
    gL ((x7 + ph16)) fun z24 =>
    p_X11_paid_153 I x1 x2 x3 x4 x5 x8 n z20 z24 (x9 + (1 : Int32))
    else
    gL ((x7 + (0 : Int32))) fun z23 =>
    p_X11_paid_153 I x1 x2 x3 x4 x5 x8 n z20 z23 (x9 + (1 : Int32)))
def p_X11_paid_52 (I : gIt) (x1 : Int32) (x2 : Int32) (x3 : Int32) (x4 : Int32) (x5 : Int32) : Nat → Int32 → Int32 → Int32 → Option (Int32 × gIt)
  | 0, _, _, _ => none
  | n + 1, x6, x7, x8 =>
    if (I 95 5) ≤ x8 then
    p_X11_paid_153 I x1 x2 x3 x4 x5 x6 gFu x6 x7 (0 : Int32)
    else
    if (20 : Int32) ≤ x8 then
    p_X11_paid_153 I x1 x2 x3 x4 x5 x6 gFu x6 x7 (0 : Int32)
    else
    gB (p_X2_binds I x8 x2 x1 x4) fun r30 =>
    gB (α := Int32) (
    if r30 = 0 then
    some (0 : Int32)
    else
    gck (gin x8 20) (
    some (gmin x6 (I 99 (x8).toNatClampNeg)))) fun ph32 =>
    gL ((x6 - ph32)) fun z36 =>
    gck (gin x8 20) (
    if (I 98 (x8).toNatClampNeg) = x3 then
    gL ((x7 + ph32)) fun z40 =>
    p_X11_paid_52 I x1 x2 x3 x4 x5 n z36 z40 (x8 + (1 : Int32))
    else
    gL ((x7 + (0 : Int32))) fun z39 =>
    p_X11_paid_52 I x1 x2 x3 x4 x5 n z36 z39 (x8 + (1 : Int32)))
def p_X11_paid (I : gIt) (x1 : Int32) (x2 : Int32) (x3 : Int32) (x4 : Int32) : Option (Int32 × gIt) :=
  gB (p_X7_has I x3) fun r1 =>
  if r1 = 0 then
  some ((-1 : Int32), I)
  else
  gB (p_X11_gainOf I x1 x2 x4) fun r4 =>
  if r4.1 = (-1 : Int32) then
  some ((-1 : Int32), r4.2)
  else
  gL ((r4.1 - ((r4.1 * (r4.2 0 15)) / (100 : Int32)))) fun z8 =>
  p_X11_paid_52 r4.2 x1 x2 x3 x4 r4.1 gFu z8 (0 : Int32) (0 : Int32)
set_option maxRecDepth 20000 in
theorem q_X11_paid_153 {l : Launch} {v : (Int32 × gIt)} {J : gJt} {w : Bool} {I : gIt} {x1 : Int32} {x2 : Int32} {x3 : Int32} {x4 : Int32} {x5 : Int32} {x8 : Int32} : ∀ (n : Nat) (x6 : Int32) (x7 : Int32) (x9 : Int32), p_X11_paid_153 I x1 x2 x3 x4 x5 x8 n x6 x7 x9 = some v → G l gX11_paid 7 0 0 (fun v' S' I' J' R' => v' = some (.int v.1) ∧ S' = gS0 ∧ I' = v.2 ∧ J' = J ∧ R' = gR0 w) 0 0 153 [some (.ref 0), some (.int x1), some (.int x2), some (.int x3), some (.int x4), some (.int x5), some (.int x6), some (.int x7), some (.int x8), some (.int x9), none] [] gS0 I J (gR0 w) := by
  intro n
  induction n with
  | zero => intro _ _ _ h; cases h
  | succ n ih =>
    intro x6 x7 x9 h
    rw [p_X11_paid_153] at h
    refine G_iload dX11_paid_153 rfl ?_
    refine G_aload_n dX11_paid_155 rfl rfl ?_
    refine G_getR fl_X11_63 sl_0 sk_0 rfl (rr_0_7 _) dX11_paid_156 ?_
    refine G_getI fl_X11_206 sl_84 sk_84 rfl dX11_paid_159 ?_
    refine G_icmp_ge 248 dX11_paid_162 (by decide) (fun c10 => ?_) (fun c10 => ?_)
    · replace h := git c10 h
      refine G_iload_n dX11_paid_248 rfl rfl ?_
      refine G_iload_n dX11_paid_249 rfl rfl ?_
      refine G_icmp_ne 261 dX11_paid_250 (by decide) (fun c11 => ?_) (fun c11 => ?_)
      · replace h := gif c11 h
        refine G_iload dX11_paid_261 rfl ?_
        refine G_iret rfl (Nat.le_refl _) (Nat.le_refl _) dX11_paid_263 ?_
        cases h
        exact ⟨rfl, rfl, rfl, rfl, rfl⟩
      · replace h := git c11 h
        refine G_iload dX11_paid_253 rfl ?_
        refine G_iload dX11_paid_255 rfl ?_
        refine G_iadd dX11_paid_257 ?_
        refine G_goto 263 dX11_paid_258 (by decide) ?_
        refine G_iret rfl (Nat.le_refl _) (Nat.le_refl _) dX11_paid_263 ?_
        cases h
        exact ⟨rfl, rfl, rfl, rfl, rfl⟩
    · replace h := gif c10 h
      refine G_iload dX11_paid_165 rfl ?_
      refine G_bipush (v := 40) dX11_paid_167 rfl ?_
      refine G_icmp_ge 248 dX11_paid_169 (by decide) (fun c12 => ?_) (fun c12 => ?_)
      · replace h := git c12 h
        refine G_iload_n dX11_paid_248 rfl rfl ?_
        refine G_iload_n dX11_paid_249 rfl rfl ?_
        refine G_icmp_ne 261 dX11_paid_250 (by decide) (fun c13 => ?_) (fun c13 => ?_)
        · replace h := gif c13 h
          refine G_iload dX11_paid_261 rfl ?_
          refine G_iret rfl (Nat.le_refl _) (Nat.le_refl _) dX11_paid_263 ?_
          cases h
          exact ⟨rfl, rfl, rfl, rfl, rfl⟩
        · replace h := git c13 h
          refine G_iload dX11_paid_253 rfl ?_
          refine G_iload dX11_paid_255 rfl ?_
          refine G_iadd dX11_paid_257 ?_
          refine G_goto 263 dX11_paid_258 (by decide) ?_
          refine G_iret rfl (Nat.le_refl _) (Nat.le_refl _) dX11_paid_263 ?_
          cases h
          exact ⟨rfl, rfl, rfl, rfl, rfl⟩
      · replace h := gif c12 h
        refine G_aload_n dX11_paid_172 rfl rfl ?_
        refine G_getR fl_X11_63 sl_0 sk_0 rfl (rr_0_7 _) dX11_paid_173 ?_
        refine G_iload dX11_paid_176 rfl ?_
        refine G_iload_n dX11_paid_178 rfl rfl ?_
        refine G_iload_n dX11_paid_179 rfl rfl ?_
        obtain ⟨r14, hr15, h⟩ := gB_some h
        refine G_cV (mj := gX8_binds) (As := [.int x9, .int x2, .int x1]) (rest := []) ml_X11_292 vX8_binds sl_84 sk_84 (by decide) rfl rfl rfl (Nat.le_of_ble_eq_true rfl) (by decide) (Nat.le_refl _) (Nat.le_refl _) dX11_paid_180 (q_X8_binds hr15) ?_
        obtain ⟨ph16, t17, r18⟩ := gB_some h
        have jn19 : G l gX11_paid 7 0 0 (fun v' S' I' J' R' => v' = some (.int v.1) ∧ S' = gS0 ∧ I' = v.2 ∧ J' = J ∧ R' = gR0 w) 0 0 208 [some (.ref 0), some (.int x1), some (.int x2), some (.int x3), some (.int x4), some (.int x5), some (.int x6), some (.int x7), some (.int x8), some (.int x9), none] [.int ph16] gS0 I J (gR0 w) := by
          refine S_istore [some (.ref 0), some (.int x1), some (.int x2), some (.int x3), some (.int x4), some (.int x5), some (.int x6), some (.int x7), some (.int x8), some (.int x9), some (.int ph16)] dX11_paid_208 (by decide) rfl ?_
          refine G_iload dX11_paid_210 rfl ?_
          refine G_iload dX11_paid_212 rfl ?_
          refine G_isub dX11_paid_214 ?_
          refine G_nI fun z20 ez20 => ?_
          replace r18 := gL_some ez20 r18
          refine S_istore [some (.ref 0), some (.int x1), some (.int x2), some (.int x3), some (.int x4), some (.int x5), some (.int z20), some (.int x7), some (.int x8), some (.int x9), some (.int ph16)] dX11_paid_215 (by decide) rfl ?_
          refine G_iload dX11_paid_217 rfl ?_
          refine G_aload_n dX11_paid_219 rfl rfl ?_
          refine G_getR fl_X11_63 sl_0 sk_0 rfl (rr_0_7 _) dX11_paid_220 ?_
          refine G_getR fl_X11_297 sl_84 sk_84 rfl (rr_84_3 _) dX11_paid_223 ?_
          refine G_iload dX11_paid_226 rfl ?_
          obtain ⟨b21, r18⟩ := gck_some r18
          refine G_iald sl_88 ss_88 (gin_in b21) dX11_paid_228 ?_
          refine G_iload_n dX11_paid_229 rfl rfl ?_
          refine G_icmp_ne 238 dX11_paid_230 (by decide) (fun c22 => ?_) (fun c22 => ?_)
          · replace r18 := gif c22 r18
            refine G_iconst (v := 0) dX11_paid_238 rfl ?_
            refine G_iadd dX11_paid_239 ?_
            refine G_nI fun z23 ez23 => ?_
            replace r18 := gL_some ez23 r18
            refine S_istore [some (.ref 0), some (.int x1), some (.int x2), some (.int x3), some (.int x4), some (.int x5), some (.int z20), some (.int z23), some (.int x8), some (.int x9), some (.int ph16)] dX11_paid_240 (by decide) rfl ?_
            refine S_iinc (v := (1 : Int32)) [some (.ref 0), some (.int x1), some (.int x2), some (.int x3), some (.int x4), some (.int x5), some (.int z20), some (.int z23), some (.int x8), some (.int (x9 + (1 : Int32))), some (.int ph16)] dX11_paid_242 rfl rfl (by decide) rfl ?_
            refine G_goto 153 dX11_paid_245 (by decide) ?_
            refine G_sub [some (.ref 0), some (.int x1), some (.int x2), some (.int x3), some (.int x4), some (.int x5), some (.int z20), some (.int z23), some (.int x8), some (.int (x9 + (1 : Int32))), none] ⟨rfl, rfl, rfl, rfl, rfl, rfl, rfl, rfl, rfl, rfl, trivial⟩ ?_
            exact ih _ _ _ r18
          · replace r18 := git c22 r18
            refine G_iload dX11_paid_233 rfl ?_
            refine G_goto 239 dX11_paid_235 (by decide) ?_
            refine G_iadd dX11_paid_239 ?_
            refine G_nI fun z24 ez24 => ?_
            replace r18 := gL_some ez24 r18
            refine S_istore [some (.ref 0), some (.int x1), some (.int x2), some (.int x3), some (.int x4), some (.int x5), some (.int z20), some (.int z24), some (.int x8), some (.int x9), some (.int ph16)] dX11_paid_240 (by decide) rfl ?_
            refine S_iinc (v := (1 : Int32)) [some (.ref 0), some (.int x1), some (.int x2), some (.int x3), some (.int x4), some (.int x5), some (.int z20), some (.int z24), some (.int x8), some (.int (x9 + (1 : Int32))), some (.int ph16)] dX11_paid_242 rfl rfl (by decide) rfl ?_
            refine G_goto 153 dX11_paid_245 (by decide) ?_
            refine G_sub [some (.ref 0), some (.int x1), some (.int x2), some (.int x3), some (.int x4), some (.int x5), some (.int z20), some (.int z24), some (.int x8), some (.int (x9 + (1 : Int32))), none] ⟨rfl, rfl, rfl, rfl, rfl, rfl, rfl, rfl, rfl, rfl, trivial⟩ ?_
            exact ih _ _ _ r18
        refine G_if_eq 207 dX11_paid_183 (by decide) (fun c25 => ?_) (fun c25 => ?_)
        · replace t17 := git c25 t17
          refine G_iconst (v := 0) dX11_paid_207 rfl ?_
          cases t17
          exact jn19
        · replace t17 := gif c25 t17
          refine G_iload dX11_paid_186 rfl ?_
          refine G_aload_n dX11_paid_188 rfl rfl ?_
          refine G_getR fl_X11_63 sl_0 sk_0 rfl (rr_0_7 _) dX11_paid_189 ?_
          refine G_iload dX11_paid_192 rfl ?_
          refine G_iload dX11_paid_194 rfl ?_
          obtain ⟨r26, hr27, t17⟩ := gB_some t17
          refine G_cV (mj := gX8_partsReached) (As := [.int x9, .int x4]) (rest := [.int x8]) ml_X11_294 vX8_partsReached sl_84 sk_84 (by decide) rfl rfl rfl (Nat.le_of_ble_eq_true rfl) (by decide) (Nat.le_refl _) (Nat.le_refl _) dX11_paid_196 (q_X8_partsReached hr27) ?_
          refine G_imul dX11_paid_199 ?_
          refine G_sipush (v := 1000) dX11_paid_200 rfl ?_
          refine G_idiv dX11_paid_203 (by decide) ?_
          refine G_goto 208 dX11_paid_204 (by decide) ?_
          cases t17
          exact jn19
set_option maxRecDepth 20000 in
theorem q_X11_paid_52 {l : Launch} {v : (Int32 × gIt)} {J : gJt} {w : Bool} {I : gIt} {x1 : Int32} {x2 : Int32} {x3 : Int32} {x4 : Int32} {x5 : Int32} : ∀ (n : Nat) (x6 : Int32) (x7 : Int32) (x8 : Int32), p_X11_paid_52 I x1 x2 x3 x4 x5 n x6 x7 x8 = some v → G l gX11_paid 7 0 0 (fun v' S' I' J' R' => v' = some (.int v.1) ∧ S' = gS0 ∧ I' = v.2 ∧ J' = J ∧ R' = gR0 w) 0 0 52 [some (.ref 0), some (.int x1), some (.int x2), some (.int x3), some (.int x4), some (.int x5), some (.int x6), some (.int x7), some (.int x8), none, none] [] gS0 I J (gR0 w) := by
  intro n
  induction n with
  | zero => intro _ _ _ h; cases h
  | succ n ih =>
    intro x6 x7 x8 h
    rw [p_X11_paid_52] at h
    refine G_iload dX11_paid_52 rfl ?_
    refine G_aload_n dX11_paid_54 rfl rfl ?_
    refine G_getR fl_X11_70 sl_0 sk_0 rfl (rr_0_8 _) dX11_paid_55 ?_
    refine G_getI fl_X11_235 sl_95 sk_95 rfl dX11_paid_58 ?_
    refine G_icmp_ge 146 dX11_paid_61 (by decide) (fun c9 => ?_) (fun c9 => ?_)
    · replace h := git c9 h
      refine G_iload dX11_paid_146 rfl ?_
      refine S_istore [some (.ref 0), some (.int x1), some (.int x2), some (.int x3), some (.int x4), some (.int x5), some (.int x6), some (.int x7), some (.int x6), none, none] dX11_paid_148 (by decide) rfl ?_
      refine G_iconst (v := 0) dX11_paid_150 rfl ?_
      refine S_istore [some (.ref 0), some (.int x1), some (.int x2), some (.int x3), some (.int x4), some (.int x5), some (.int x6), some (.int x7), some (.int x6), some (.int (0 : Int32)), none] dX11_paid_151 (by decide) rfl ?_
      exact q_X11_paid_153   gFu _ _ _ h
    · replace h := gif c9 h
      refine G_iload dX11_paid_64 rfl ?_
      refine G_bipush (v := 20) dX11_paid_66 rfl ?_
      refine G_icmp_ge 146 dX11_paid_68 (by decide) (fun c29 => ?_) (fun c29 => ?_)
      · replace h := git c29 h
        refine G_iload dX11_paid_146 rfl ?_
        refine S_istore [some (.ref 0), some (.int x1), some (.int x2), some (.int x3), some (.int x4), some (.int x5), some (.int x6), some (.int x7), some (.int x6), none, none] dX11_paid_148 (by decide) rfl ?_
        refine G_iconst (v := 0) dX11_paid_150 rfl ?_
        refine S_istore [some (.ref 0), some (.int x1), some (.int x2), some (.int x3), some (.int x4), some (.int x5), some (.int x6), some (.int x7), some (.int x6), some (.int (0 : Int32)), none] dX11_paid_151 (by decide) rfl ?_
        exact q_X11_paid_153   gFu _ _ _ h
      · replace h := gif c29 h
        refine G_aload_n dX11_paid_71 rfl rfl ?_
        refine G_getR fl_X11_70 sl_0 sk_0 rfl (rr_0_8 _) dX11_paid_72 ?_
        refine G_iload dX11_paid_75 rfl ?_
        refine G_iload_n dX11_paid_77 rfl rfl ?_
        refine G_iload_n dX11_paid_78 rfl rfl ?_
        refine G_iload dX11_paid_79 rfl ?_
        obtain ⟨r30, hr31, h⟩ := gB_some h
        refine G_cV (mj := gX2_binds) (As := [.int x8, .int x2, .int x1, .int x4]) (rest := []) ml_X11_278 vX2_binds sl_95 sk_95 (by decide) rfl rfl rfl (Nat.le_of_ble_eq_true rfl) (by decide) (Nat.le_refl _) (Nat.le_refl _) dX11_paid_81 (q_X2_binds hr31) ?_
        obtain ⟨ph32, t33, r34⟩ := gB_some h
        have jn35 : G l gX11_paid 7 0 0 (fun v' S' I' J' R' => v' = some (.int v.1) ∧ S' = gS0 ∧ I' = v.2 ∧ J' = J ∧ R' = gR0 w) 0 0 106 [some (.ref 0), some (.int x1), some (.int x2), some (.int x3), some (.int x4), some (.int x5), some (.int x6), some (.int x7), some (.int x8), none, none] [.int ph32] gS0 I J (gR0 w) := by
          refine S_istore [some (.ref 0), some (.int x1), some (.int x2), some (.int x3), some (.int x4), some (.int x5), some (.int x6), some (.int x7), some (.int x8), some (.int ph32), none] dX11_paid_106 (by decide) rfl ?_
          refine G_iload dX11_paid_108 rfl ?_
          refine G_iload dX11_paid_110 rfl ?_
          refine G_isub dX11_paid_112 ?_
          refine G_nI fun z36 ez36 => ?_
          replace r34 := gL_some ez36 r34
          refine S_istore [some (.ref 0), some (.int x1), some (.int x2), some (.int x3), some (.int x4), some (.int x5), some (.int z36), some (.int x7), some (.int x8), some (.int ph32), none] dX11_paid_113 (by decide) rfl ?_
          refine G_iload dX11_paid_115 rfl ?_
          refine G_aload_n dX11_paid_117 rfl rfl ?_
          refine G_getR fl_X11_70 sl_0 sk_0 rfl (rr_0_8 _) dX11_paid_118 ?_
          refine G_getR fl_X11_289 sl_95 sk_95 rfl (rr_95_2 _) dX11_paid_121 ?_
          refine G_iload dX11_paid_124 rfl ?_
          obtain ⟨b37, r34⟩ := gck_some r34
          refine G_iald sl_98 ss_98 (gin_in b37) dX11_paid_126 ?_
          refine G_iload_n dX11_paid_127 rfl rfl ?_
          refine G_icmp_ne 136 dX11_paid_128 (by decide) (fun c38 => ?_) (fun c38 => ?_)
          · replace r34 := gif c38 r34
            refine G_iconst (v := 0) dX11_paid_136 rfl ?_
            refine G_iadd dX11_paid_137 ?_
            refine G_nI fun z39 ez39 => ?_
            replace r34 := gL_some ez39 r34
            refine S_istore [some (.ref 0), some (.int x1), some (.int x2), some (.int x3), some (.int x4), some (.int x5), some (.int z36), some (.int z39), some (.int x8), some (.int ph32), none] dX11_paid_138 (by decide) rfl ?_
            refine S_iinc (v := (1 : Int32)) [some (.ref 0), some (.int x1), some (.int x2), some (.int x3), some (.int x4), some (.int x5), some (.int z36), some (.int z39), some (.int (x8 + (1 : Int32))), some (.int ph32), none] dX11_paid_140 rfl rfl (by decide) rfl ?_
            refine G_goto 52 dX11_paid_143 (by decide) ?_
            refine G_sub [some (.ref 0), some (.int x1), some (.int x2), some (.int x3), some (.int x4), some (.int x5), some (.int z36), some (.int z39), some (.int (x8 + (1 : Int32))), none, none] ⟨rfl, rfl, rfl, rfl, rfl, rfl, rfl, rfl, rfl, trivial⟩ ?_
            exact ih _ _ _ r34
          · replace r34 := git c38 r34
            refine G_iload dX11_paid_131 rfl ?_
            refine G_goto 137 dX11_paid_133 (by decide) ?_
            refine G_iadd dX11_paid_137 ?_
            refine G_nI fun z40 ez40 => ?_
            replace r34 := gL_some ez40 r34
            refine S_istore [some (.ref 0), some (.int x1), some (.int x2), some (.int x3), some (.int x4), some (.int x5), some (.int z36), some (.int z40), some (.int x8), some (.int ph32), none] dX11_paid_138 (by decide) rfl ?_
            refine S_iinc (v := (1 : Int32)) [some (.ref 0), some (.int x1), some (.int x2), some (.int x3), some (.int x4), some (.int x5), some (.int z36), some (.int z40), some (.int (x8 + (1 : Int32))), some (.int ph32), none] dX11_paid_140 rfl rfl (by decide) rfl ?_
            refine G_goto 52 dX11_paid_143 (by decide) ?_
            refine G_sub [some (.ref 0), some (.int x1), some (.int x2), some (.int x3), some (.int x4), some (.int x5), some (.int z36), some (.int z40), some (.int (x8 + (1 : Int32))), none, none] ⟨rfl, rfl, rfl, rfl, rfl, rfl, rfl, rfl, rfl, trivial⟩ ?_
            exact ih _ _ _ r34
        refine G_if_eq 105 dX11_paid_84 (by decide) (fun c41 => ?_) (fun c41 => ?_)
        · replace t33 := git c41 t33
          refine G_iconst (v := 0) dX11_paid_105 rfl ?_
          cases t33
          exact jn35
        · replace t33 := gif c41 t33
          refine G_iload dX11_paid_87 rfl ?_
          refine G_aload_n dX11_paid_89 rfl rfl ?_
          refine G_getR fl_X11_70 sl_0 sk_0 rfl (rr_0_8 _) dX11_paid_90 ?_
          refine G_getR fl_X11_281 sl_95 sk_95 rfl (rr_95_3 _) dX11_paid_93 ?_
          refine G_iload dX11_paid_96 rfl ?_
          obtain ⟨b42, t33⟩ := gck_some t33
          refine G_iald sl_99 ss_99 (gin_in b42) dX11_paid_98 ?_
          refine G_mmin ml_X11_284 (by decide) (Nat.le_of_ble_eq_true rfl) (Nat.le_refl _) (Nat.le_refl _) dX11_paid_99 ?_
          refine G_goto 106 dX11_paid_102 (by decide) ?_
          cases t33
          exact jn35
set_option maxRecDepth 20000 in
theorem q_X11_paid {l : Launch} {I : gIt} {J : gJt} {w : Bool} {x1 : Int32} {x2 : Int32} {x3 : Int32} {x4 : Int32} {v : (Int32 × gIt)} (h : p_X11_paid I x1 x2 x3 x4 = some v) : Cn l gX11_paid 7 0 0 [.ref 0, .int x1, .int x2, .int x3, .int x4] gS0 I J (gR0 w) (fun v' S' I' J' R' => v' = some (.int v.1) ∧ S' = gS0 ∧ I' = v.2 ∧ J' = J ∧ R' = gR0 w) := by
  refine Cn.of [some (.ref 0), some (.int x1), some (.int x2), some (.int x3), some (.int x4), none, none, none, none, none, none] (by decide) rfl (Nat.le_of_ble_eq_true rfl) ?_
  rw [p_X11_paid] at h
  refine G_aload_n dX11_paid_0 rfl rfl ?_
  refine G_getR fl_X11_10 sl_0 sk_0 rfl (rr_0_0 _) dX11_paid_1 ?_
  refine G_iload_n dX11_paid_4 rfl rfl ?_
  obtain ⟨r1, hr2, h⟩ := gB_some h
  refine G_cV (mj := gX7_has) (As := [.int x3]) (rest := []) ml_X11_100 vX7_has sl_1 sk_1 (by decide) rfl rfl rfl (Nat.le_of_ble_eq_true rfl) (by decide) (Nat.le_refl _) (Nat.le_refl _) dX11_paid_5 (q_X7_has hr2) ?_
  refine G_if_ne 13 dX11_paid_8 (by decide) (fun c3 => ?_) (fun c3 => ?_)
  · replace h := gif c3 h
    refine G_aload_n dX11_paid_13 rfl rfl ?_
    refine G_iload_n dX11_paid_14 rfl rfl ?_
    refine G_iload_n dX11_paid_15 rfl rfl ?_
    refine G_iload dX11_paid_16 rfl ?_
    obtain ⟨r4, hr5, h⟩ := gB_some h
    refine G_cV (mj := gX11_gainOf) (As := [.int x1, .int x2, .int x4]) (rest := []) ml_X11_275 vX11_gainOf sl_0 sk_0 (by decide) rfl rfl rfl (Nat.le_of_ble_eq_true rfl) (by decide) (Nat.le_refl _) (Nat.le_refl _) dX11_paid_18 (q_X11_gainOf hr5) ?_
    refine S_istore [some (.ref 0), some (.int x1), some (.int x2), some (.int x3), some (.int x4), some (.int r4.1), none, none, none, none, none] dX11_paid_21 (by decide) rfl ?_
    refine G_iload dX11_paid_23 rfl ?_
    refine G_iconst (v := -1) dX11_paid_25 rfl ?_
    refine G_icmp_ne 31 dX11_paid_26 (by decide) (fun c6 => ?_) (fun c6 => ?_)
    · replace h := gif c6 h
      refine G_iload dX11_paid_31 rfl ?_
      refine G_iload dX11_paid_33 rfl ?_
      refine G_aload_n dX11_paid_35 rfl rfl ?_
      refine G_getI fl_X11_129 sl_0 sk_0 rfl dX11_paid_36 ?_
      refine G_imul dX11_paid_39 ?_
      refine G_bipush (v := 100) dX11_paid_40 rfl ?_
      refine G_idiv dX11_paid_42 (by decide) ?_
      refine G_isub dX11_paid_43 ?_
      refine G_nI fun z8 ez8 => ?_
      replace h := gL_some ez8 h
      refine S_istore [some (.ref 0), some (.int x1), some (.int x2), some (.int x3), some (.int x4), some (.int r4.1), some (.int z8), none, none, none, none] dX11_paid_44 (by decide) rfl ?_
      refine G_iconst (v := 0) dX11_paid_46 rfl ?_
      refine S_istore [some (.ref 0), some (.int x1), some (.int x2), some (.int x3), some (.int x4), some (.int r4.1), some (.int z8), some (.int (0 : Int32)), none, none, none] dX11_paid_47 (by decide) rfl ?_
      refine G_iconst (v := 0) dX11_paid_49 rfl ?_
      refine S_istore [some (.ref 0), some (.int x1), some (.int x2), some (.int x3), some (.int x4), some (.int r4.1), some (.int z8), some (.int (0 : Int32)), some (.int (0 : Int32)), none, none] dX11_paid_50 (by decide) rfl ?_
      exact q_X11_paid_52   gFu _ _ _ h
    · replace h := git c6 h
      refine G_iconst (v := -1) dX11_paid_29 rfl ?_
      refine G_iret rfl (Nat.le_refl _) (Nat.le_refl _) dX11_paid_30 ?_
      cases h
      exact ⟨rfl, rfl, rfl, rfl, rfl⟩
  · replace h := git c3 h
    refine G_iconst (v := -1) dX11_paid_11 rfl ?_
    refine G_iret rfl (Nat.le_refl _) (Nat.le_refl _) dX11_paid_12 ?_
    cases h
    exact ⟨rfl, rfl, rfl, rfl, rfl⟩
def p_X11_holds (I : gIt) (x1 : Int32) (x2 : Int32) : Option (Int32 × gIt) :=
  gB (p_X7_has I x1) fun r1 =>
  if r1 = 0 then
  some ((-1 : Int32), I)
  else
  if x2 < 0 then
  some ((-1 : Int32), I)
  else
  if x2 ≤ (3 : Int32) then
  gB (p_X5_learn I (I 0 14)) fun r6 =>
  gB (p_X4_gather r6 x1 (r6 0 13) (r6 0 14)) fun r8 =>
  if x2 = 0 then
  some ((r8 101 4), r8)
  else
  if x2 = (1 : Int32) then
  some ((r8 101 5), r8)
  else
  gB (p_X4_reckonWorst r8 (r8 0 13)) fun r12 =>
  if r12.1 = 0 then
  some ((-1 : Int32), r12.2)
  else
  if x2 = (2 : Int32) then
  some ((r12.2 101 7), r12.2)
  else
  some ((r12.2 101 8), r12.2)
  else
  some ((-1 : Int32), I)
set_option maxRecDepth 20000 in
theorem q_X11_holds {l : Launch} {I : gIt} {J : gJt} {w : Bool} {x1 : Int32} {x2 : Int32} {v : (Int32 × gIt)} (h : p_X11_holds I x1 x2 = some v) : Cn l gX11_holds 8 0 0 [.ref 0, .int x1, .int x2] gS0 I J (gR0 w) (fun v' S' I' J' R' => v' = some (.int v.1) ∧ S' = gS0 ∧ I' = v.2 ∧ J' = J ∧ R' = gR0 w) := by
  refine Cn.of [some (.ref 0), some (.int x1), some (.int x2)] (by decide) rfl (Nat.le_of_ble_eq_true rfl) ?_
  rw [p_X11_holds] at h
  refine G_aload_n dX11_holds_0 rfl rfl ?_
  refine G_getR fl_X11_10 sl_0 sk_0 rfl (rr_0_0 _) dX11_holds_1 ?_
  refine G_iload_n dX11_holds_4 rfl rfl ?_
  obtain ⟨r1, hr2, h⟩ := gB_some h
  refine G_cV (mj := gX7_has) (As := [.int x1]) (rest := []) ml_X11_100 vX7_has sl_1 sk_1 (by decide) rfl rfl rfl (Nat.le_of_ble_eq_true rfl) (by decide) (Nat.le_refl _) (Nat.le_refl _) dX11_holds_5 (q_X7_has hr2) ?_
  refine G_if_eq 20 dX11_holds_8 (by decide) (fun c3 => ?_) (fun c3 => ?_)
  · replace h := git c3 h
    refine G_iconst (v := -1) dX11_holds_20 rfl ?_
    refine G_iret rfl (Nat.le_refl _) (Nat.le_refl _) dX11_holds_21 ?_
    cases h
    exact ⟨rfl, rfl, rfl, rfl, rfl⟩
  · replace h := gif c3 h
    refine G_iload_n dX11_holds_11 rfl rfl ?_
    refine G_if_lt 20 dX11_holds_12 (by decide) (fun c4 => ?_) (fun c4 => ?_)
    · replace h := git c4 h
      refine G_iconst (v := -1) dX11_holds_20 rfl ?_
      refine G_iret rfl (Nat.le_refl _) (Nat.le_refl _) dX11_holds_21 ?_
      cases h
      exact ⟨rfl, rfl, rfl, rfl, rfl⟩
    · replace h := gif c4 h
      refine G_iload_n dX11_holds_15 rfl rfl ?_
      refine G_iconst (v := 3) dX11_holds_16 rfl ?_
      refine G_icmp_le 22 dX11_holds_17 (by decide) (fun c5 => ?_) (fun c5 => ?_)
      · replace h := git c5 h
        refine G_aload_n dX11_holds_22 rfl rfl ?_
        refine G_getR fl_X11_40 sl_0 sk_0 rfl (rr_0_4 _) dX11_holds_23 ?_
        refine G_aload_n dX11_holds_26 rfl rfl ?_
        refine G_getR fl_X11_10 sl_0 sk_0 rfl (rr_0_0 _) dX11_holds_27 ?_
        refine G_aload_n dX11_holds_30 rfl rfl ?_
        refine G_getI fl_X11_93 sl_0 sk_0 rfl dX11_holds_31 ?_
        obtain ⟨r6, hr7, h⟩ := gB_some h
        refine G_cV (mj := gX5_learn) (As := [.ref 1, .int (I 0 14)]) (rest := []) ml_X11_166 vX5_learn sl_74 sk_74 (by decide) rfl rfl rfl (Nat.le_of_ble_eq_true rfl) (by decide) (Nat.le_refl _) (Nat.le_refl _) dX11_holds_34 (q_X5_learn hr7) ?_
        refine G_aload_n dX11_holds_37 rfl rfl ?_
        refine G_getR fl_X11_79 sl_0 sk_0 rfl (rr_0_9 _) dX11_holds_38 ?_
        refine G_iload_n dX11_holds_41 rfl rfl ?_
        refine G_aload_n dX11_holds_42 rfl rfl ?_
        refine G_getR fl_X11_32 sl_0 sk_0 rfl (rr_0_3 _) dX11_holds_43 ?_
        refine G_aload_n dX11_holds_46 rfl rfl ?_
        refine G_getI fl_X11_142 sl_0 sk_0 rfl dX11_holds_47 ?_
        refine G_aload_n dX11_holds_50 rfl rfl ?_
        refine G_getI fl_X11_93 sl_0 sk_0 rfl dX11_holds_51 ?_
        obtain ⟨r8, hr9, h⟩ := gB_some h
        refine G_cV (mj := gX4_gather) (As := [.int x1, .ref 13, .int (r6 0 13), .int (r6 0 14)]) (rest := []) ml_X11_300 vX4_gather sl_101 sk_101 (by decide) rfl rfl rfl (Nat.le_of_ble_eq_true rfl) (by decide) (Nat.le_refl _) (Nat.le_refl _) dX11_holds_54 (q_X4_gather hr9) ?_
        refine G_iload_n dX11_holds_57 rfl rfl ?_
        refine G_if_ne 69 dX11_holds_58 (by decide) (fun c10 => ?_) (fun c10 => ?_)
        · replace h := gif c10 h
          refine G_iload_n dX11_holds_69 rfl rfl ?_
          refine G_iconst (v := 1) dX11_holds_70 rfl ?_
          refine G_icmp_ne 82 dX11_holds_71 (by decide) (fun c11 => ?_) (fun c11 => ?_)
          · replace h := gif c11 h
            refine G_aload_n dX11_holds_82 rfl rfl ?_
            refine G_getR fl_X11_79 sl_0 sk_0 rfl (rr_0_9 _) dX11_holds_83 ?_
            refine G_aload_n dX11_holds_86 rfl rfl ?_
            refine G_getR fl_X11_32 sl_0 sk_0 rfl (rr_0_3 _) dX11_holds_87 ?_
            refine G_aload_n dX11_holds_90 rfl rfl ?_
            refine G_getI fl_X11_142 sl_0 sk_0 rfl dX11_holds_91 ?_
            obtain ⟨r12, hr13, h⟩ := gB_some h
            refine G_cV (mj := gX4_reckonWorst) (As := [.ref 13, .int (r8 0 13)]) (rest := []) ml_X11_310 vX4_reckonWorst sl_101 sk_101 (by decide) rfl rfl rfl (Nat.le_of_ble_eq_true rfl) (by decide) (Nat.le_refl _) (Nat.le_refl _) dX11_holds_94 (q_X4_reckonWorst hr13) ?_
            refine G_if_ne 102 dX11_holds_97 (by decide) (fun c14 => ?_) (fun c14 => ?_)
            · replace h := gif c14 h
              refine G_iload_n dX11_holds_102 rfl rfl ?_
              refine G_iconst (v := 2) dX11_holds_103 rfl ?_
              refine G_icmp_ne 117 dX11_holds_104 (by decide) (fun c15 => ?_) (fun c15 => ?_)
              · replace h := gif c15 h
                refine G_aload_n dX11_holds_117 rfl rfl ?_
                refine G_getR fl_X11_79 sl_0 sk_0 rfl (rr_0_9 _) dX11_holds_118 ?_
                refine G_getI fl_X11_317 sl_101 sk_101 rfl dX11_holds_121 ?_
                refine G_iret rfl (Nat.le_refl _) (Nat.le_refl _) dX11_holds_124 ?_
                cases h
                exact ⟨rfl, rfl, rfl, rfl, rfl⟩
              · replace h := git c15 h
                refine G_aload_n dX11_holds_107 rfl rfl ?_
                refine G_getR fl_X11_79 sl_0 sk_0 rfl (rr_0_9 _) dX11_holds_108 ?_
                refine G_getI fl_X11_314 sl_101 sk_101 rfl dX11_holds_111 ?_
                refine G_goto 124 dX11_holds_114 (by decide) ?_
                refine G_iret rfl (Nat.le_refl _) (Nat.le_refl _) dX11_holds_124 ?_
                cases h
                exact ⟨rfl, rfl, rfl, rfl, rfl⟩
            · replace h := git c14 h
              refine G_iconst (v := -1) dX11_holds_100 rfl ?_
              refine G_iret rfl (Nat.le_refl _) (Nat.le_refl _) dX11_holds_101 ?_
              cases h
              exact ⟨rfl, rfl, rfl, rfl, rfl⟩
          · replace h := git c11 h
            refine G_aload_n dX11_holds_74 rfl rfl ?_
            refine G_getR fl_X11_79 sl_0 sk_0 rfl (rr_0_9 _) dX11_holds_75 ?_
            refine G_getI fl_X11_307 sl_101 sk_101 rfl dX11_holds_78 ?_
            refine G_iret rfl (Nat.le_refl _) (Nat.le_refl _) dX11_holds_81 ?_
            cases h
            exact ⟨rfl, rfl, rfl, rfl, rfl⟩
        · replace h := git c10 h
          refine G_aload_n dX11_holds_61 rfl rfl ?_
          refine G_getR fl_X11_79 sl_0 sk_0 rfl (rr_0_9 _) dX11_holds_62 ?_
          refine G_getI fl_X11_304 sl_101 sk_101 rfl dX11_holds_65 ?_
          refine G_iret rfl (Nat.le_refl _) (Nat.le_refl _) dX11_holds_68 ?_
          cases h
          exact ⟨rfl, rfl, rfl, rfl, rfl⟩
      · replace h := gif c5 h
        refine G_iconst (v := -1) dX11_holds_20 rfl ?_
        refine G_iret rfl (Nat.le_refl _) (Nat.le_refl _) dX11_holds_21 ?_
        cases h
        exact ⟨rfl, rfl, rfl, rfl, rfl⟩
def p_X11_papers (I : gIt) (x1 : Int32) (x2 : Int32) : Option (Int32 × gIt) :=
  gB (p_X7_has I x1) fun r1 =>
  if r1 = 0 then
  some ((0 : Int32), I)
  else
  if x2 < 0 then
  some ((0 : Int32), I)
  else
  if (I 0 14) < x2 then
  some ((0 : Int32), I)
  else
  if (I 1 8) < (100 : Int32) then
  gB (p_X7_addPaper I x1 x2) fun r7 =>
  some ((1 : Int32), r7)
  else
  some ((0 : Int32), I)
set_option maxRecDepth 20000 in
theorem q_X11_papers {l : Launch} {I : gIt} {J : gJt} {w : Bool} {x1 : Int32} {x2 : Int32} {v : (Int32 × gIt)} (h : p_X11_papers I x1 x2 = some v) : Cn l gX11_papers 4 0 0 [.ref 0, .int x1, .int x2] gS0 I J (gR0 w) (fun v' S' I' J' R' => v' = some (.int v.1) ∧ S' = gS0 ∧ I' = v.2 ∧ J' = J ∧ R' = gR0 w) := by
  refine Cn.of [some (.ref 0), some (.int x1), some (.int x2)] (by decide) rfl (Nat.le_of_ble_eq_true rfl) ?_
  rw [p_X11_papers] at h
  refine G_aload_n dX11_papers_0 rfl rfl ?_
  refine G_getR fl_X11_10 sl_0 sk_0 rfl (rr_0_0 _) dX11_papers_1 ?_
  refine G_iload_n dX11_papers_4 rfl rfl ?_
  obtain ⟨r1, hr2, h⟩ := gB_some h
  refine G_cV (mj := gX7_has) (As := [.int x1]) (rest := []) ml_X11_100 vX7_has sl_1 sk_1 (by decide) rfl rfl rfl (Nat.le_of_ble_eq_true rfl) (by decide) (Nat.le_refl _) (Nat.le_refl _) dX11_papers_5 (q_X7_has hr2) ?_
  refine G_if_eq 35 dX11_papers_8 (by decide) (fun c3 => ?_) (fun c3 => ?_)
  · replace h := git c3 h
    refine G_iconst (v := 0) dX11_papers_35 rfl ?_
    refine G_zret rfl (Or.inl rfl) (Nat.le_refl _) (Nat.le_refl _) dX11_papers_36 ?_
    cases h
    exact ⟨rfl, rfl, rfl, rfl, rfl⟩
  · replace h := gif c3 h
    refine G_iload_n dX11_papers_11 rfl rfl ?_
    refine G_if_lt 35 dX11_papers_12 (by decide) (fun c4 => ?_) (fun c4 => ?_)
    · replace h := git c4 h
      refine G_iconst (v := 0) dX11_papers_35 rfl ?_
      refine G_zret rfl (Or.inl rfl) (Nat.le_refl _) (Nat.le_refl _) dX11_papers_36 ?_
      cases h
      exact ⟨rfl, rfl, rfl, rfl, rfl⟩
    · replace h := gif c4 h
      refine G_iload_n dX11_papers_15 rfl rfl ?_
      refine G_aload_n dX11_papers_16 rfl rfl ?_
      refine G_getI fl_X11_93 sl_0 sk_0 rfl dX11_papers_17 ?_
      refine G_icmp_gt 35 dX11_papers_20 (by decide) (fun c5 => ?_) (fun c5 => ?_)
      · replace h := git c5 h
        refine G_iconst (v := 0) dX11_papers_35 rfl ?_
        refine G_zret rfl (Or.inl rfl) (Nat.le_refl _) (Nat.le_refl _) dX11_papers_36 ?_
        cases h
        exact ⟨rfl, rfl, rfl, rfl, rfl⟩
      · replace h := gif c5 h
        refine G_aload_n dX11_papers_23 rfl rfl ?_
        refine G_getR fl_X11_10 sl_0 sk_0 rfl (rr_0_0 _) dX11_papers_24 ?_
        refine G_getI fl_X11_320 sl_1 sk_1 rfl dX11_papers_27 ?_
        refine G_bipush (v := 100) dX11_papers_30 rfl ?_
        refine G_icmp_lt 37 dX11_papers_32 (by decide) (fun c6 => ?_) (fun c6 => ?_)
        · replace h := git c6 h
          refine G_aload_n dX11_papers_37 rfl rfl ?_
          refine G_getR fl_X11_10 sl_0 sk_0 rfl (rr_0_0 _) dX11_papers_38 ?_
          refine G_iload_n dX11_papers_41 rfl rfl ?_
          refine G_iload_n dX11_papers_42 rfl rfl ?_
          obtain ⟨r7, hr8, h⟩ := gB_some h
          refine G_cV (mj := gX7_addPaper) (As := [.int x1, .int x2]) (rest := []) ml_X11_323 vX7_addPaper sl_1 sk_1 (by decide) rfl rfl rfl (Nat.le_of_ble_eq_true rfl) (by decide) (Nat.le_refl _) (Nat.le_refl _) dX11_papers_43 (q_X7_addPaper hr8) ?_
          refine G_iconst (v := 1) dX11_papers_46 rfl ?_
          refine G_zret rfl (Or.inr rfl) (Nat.le_refl _) (Nat.le_refl _) dX11_papers_47 ?_
          cases h
          exact ⟨rfl, rfl, rfl, rfl, rfl⟩
        · replace h := gif c6 h
          refine G_iconst (v := 0) dX11_papers_35 rfl ?_
          refine G_zret rfl (Or.inl rfl) (Nat.le_refl _) (Nat.le_refl _) dX11_papers_36 ?_
          cases h
          exact ⟨rfl, rfl, rfl, rfl, rfl⟩
def p_X11_falseOnes_4 (I : gIt) : Nat → Int32 → Int32 → Option Int32
  | 0, _, _ => none
  | n + 1, x1, x2 =>
    if (I 1 7) ≤ x2 then
    some x1
    else
    if (16 : Int32) ≤ x2 then
    some x1
    else
    gB (p_X7_isFalse I x2) fun r3 =>
    if r3 = 0 then
    p_X11_falseOnes_4 I n x1 (x2 + (1 : Int32))
    else
    gL ((x1 ||| (gshl (1 : Int32) x2))) fun z6 =>
    p_X11_falseOnes_4 I n z6 (x2 + (1 : Int32))
def p_X11_falseOnes (I : gIt) : Option Int32 :=
  p_X11_falseOnes_4 I gFu (0 : Int32) (0 : Int32)
set_option maxRecDepth 20000 in
theorem q_X11_falseOnes_4 {l : Launch} {v : Int32} {J : gJt} {w : Bool} {I : gIt} : ∀ (n : Nat) (x1 : Int32) (x2 : Int32), p_X11_falseOnes_4 I n x1 x2 = some v → G l gX11_falseOnes 4 0 0 (fun v' S' I' J' R' => v' = some (.int v) ∧ S' = gS0 ∧ I' = I ∧ J' = J ∧ R' = gR0 w) 0 0 4 [some (.ref 0), some (.int x1), some (.int x2)] [] gS0 I J (gR0 w) := by
  intro n
  induction n with
  | zero => intro _ _ h; cases h
  | succ n ih =>
    intro x1 x2 h
    rw [p_X11_falseOnes_4] at h
    refine G_iload_n dX11_falseOnes_4 rfl rfl ?_
    refine G_aload_n dX11_falseOnes_5 rfl rfl ?_
    refine G_getR fl_X11_10 sl_0 sk_0 rfl (rr_0_0 _) dX11_falseOnes_6 ?_
    refine G_getI fl_X11_97 sl_1 sk_1 rfl dX11_falseOnes_9 ?_
    refine G_icmp_ge 44 dX11_falseOnes_12 (by decide) (fun c1 => ?_) (fun c1 => ?_)
    · replace h := git c1 h
      refine G_iload_n dX11_falseOnes_44 rfl rfl ?_
      refine G_iret rfl (Nat.le_refl _) (Nat.le_refl _) dX11_falseOnes_45 ?_
      cases h
      exact ⟨rfl, rfl, rfl, rfl, rfl⟩
    · replace h := gif c1 h
      refine G_iload_n dX11_falseOnes_15 rfl rfl ?_
      refine G_bipush (v := 16) dX11_falseOnes_16 rfl ?_
      refine G_icmp_ge 44 dX11_falseOnes_18 (by decide) (fun c2 => ?_) (fun c2 => ?_)
      · replace h := git c2 h
        refine G_iload_n dX11_falseOnes_44 rfl rfl ?_
        refine G_iret rfl (Nat.le_refl _) (Nat.le_refl _) dX11_falseOnes_45 ?_
        cases h
        exact ⟨rfl, rfl, rfl, rfl, rfl⟩
      · replace h := gif c2 h
        refine G_aload_n dX11_falseOnes_21 rfl rfl ?_
        refine G_getR fl_X11_10 sl_0 sk_0 rfl (rr_0_0 _) dX11_falseOnes_22 ?_
        refine G_iload_n dX11_falseOnes_25 rfl rfl ?_
        obtain ⟨r3, hr4, h⟩ := gB_some h
        refine G_cV (mj := gX7_isFalse) (As := [.int x2]) (rest := []) ml_X11_327 vX7_isFalse sl_1 sk_1 (by decide) rfl rfl rfl (Nat.le_of_ble_eq_true rfl) (by decide) (Nat.le_refl _) (Nat.le_refl _) dX11_falseOnes_26 (q_X7_isFalse hr4) ?_
        refine G_if_eq 38 dX11_falseOnes_29 (by decide) (fun c5 => ?_) (fun c5 => ?_)
        · replace h := git c5 h
          refine S_iinc (v := (1 : Int32)) [some (.ref 0), some (.int x1), some (.int (x2 + (1 : Int32)))] dX11_falseOnes_38 rfl rfl (by decide) rfl ?_
          refine G_goto 4 dX11_falseOnes_41 (by decide) ?_
          exact ih _ _ h
        · replace h := gif c5 h
          refine G_iload_n dX11_falseOnes_32 rfl rfl ?_
          refine G_iconst (v := 1) dX11_falseOnes_33 rfl ?_
          refine G_iload_n dX11_falseOnes_34 rfl rfl ?_
          refine G_shl dX11_falseOnes_35 ?_
          refine G_ior dX11_falseOnes_36 ?_
          refine G_nI fun z6 ez6 => ?_
          replace h := gL_some ez6 h
          refine S_istore_n [some (.ref 0), some (.int z6), some (.int x2)] dX11_falseOnes_37 rfl (by decide) rfl ?_
          refine S_iinc (v := (1 : Int32)) [some (.ref 0), some (.int z6), some (.int (x2 + (1 : Int32)))] dX11_falseOnes_38 rfl rfl (by decide) rfl ?_
          refine G_goto 4 dX11_falseOnes_41 (by decide) ?_
          exact ih _ _ h
set_option maxRecDepth 20000 in
theorem q_X11_falseOnes {l : Launch} {I : gIt} {J : gJt} {w : Bool} {v : Int32} (h : p_X11_falseOnes I = some v) : Cn l gX11_falseOnes 4 0 0 [.ref 0] gS0 I J (gR0 w) (fun v' S' I' J' R' => v' = some (.int v) ∧ S' = gS0 ∧ I' = I ∧ J' = J ∧ R' = gR0 w) := by
  refine Cn.of [some (.ref 0), none, none] (by decide) rfl (Nat.le_of_ble_eq_true rfl) ?_
  rw [p_X11_falseOnes] at h
  refine G_iconst (v := 0) dX11_falseOnes_0 rfl ?_
  refine S_istore_n [some (.ref 0), some (.int (0 : Int32)), none] dX11_falseOnes_1 rfl (by decide) rfl ?_
  refine G_iconst (v := 0) dX11_falseOnes_2 rfl ?_
  refine S_istore_n [some (.ref 0), some (.int (0 : Int32)), some (.int (0 : Int32))] dX11_falseOnes_3 rfl (by decide) rfl ?_
  exact q_X11_falseOnes_4   gFu _ _ h
def p_X11_look (I : gIt) (x1 : Int32) (x2 : Int32) : Option Int32 :=
  gB (p_X8_has I x1) fun r1 =>
  if r1 = 0 then
  some (-1 : Int32)
  else
  if x2 = (0 : Int32) then
  gck (gin x1 40) (
  some (I 85 (x1).toNatClampNeg))
  else
  if x2 = (1 : Int32) then
  gck (gin x1 40) (
  some (I 86 (x1).toNatClampNeg))
  else
  if x2 = (2 : Int32) then
  gck (gin x1 40) (
  some (I 87 (x1).toNatClampNeg))
  else
  if x2 = (3 : Int32) then
  gck (gin x1 40) (
  some (I 88 (x1).toNatClampNeg))
  else
  if x2 = (4 : Int32) then
  gck (gin x1 40) (
  some (I 89 (x1).toNatClampNeg))
  else
  if x2 = (5 : Int32) then
  gck (gin x1 40) (
  some (I 91 (x1).toNatClampNeg))
  else
  if x2 = (6 : Int32) then
  gck (gin x1 40) (
  some (I 92 (x1).toNatClampNeg))
  else
  if x2 = (7 : Int32) then
  gck (gin x1 40) (
  some (I 93 (x1).toNatClampNeg))
  else
  if x2 = (8 : Int32) then
  gck (gin x1 40) (
  some (I 94 (x1).toNatClampNeg))
  else
  some (-1 : Int32)
set_option maxRecDepth 20000 in
theorem q_X11_look {l : Launch} {I : gIt} {J : gJt} {w : Bool} {x1 : Int32} {x2 : Int32} {v : Int32} (h : p_X11_look I x1 x2 = some v) : Cn l gX11_look 3 0 0 [.ref 0, .int x1, .int x2] gS0 I J (gR0 w) (fun v' S' I' J' R' => v' = some (.int v) ∧ S' = gS0 ∧ I' = I ∧ J' = J ∧ R' = gR0 w) := by
  refine Cn.of [some (.ref 0), some (.int x1), some (.int x2)] (by decide) rfl (Nat.le_of_ble_eq_true rfl) ?_
  rw [p_X11_look] at h
  refine G_aload_n dX11_look_0 rfl rfl ?_
  refine G_getR fl_X11_63 sl_0 sk_0 rfl (rr_0_7 _) dX11_look_1 ?_
  refine G_iload_n dX11_look_4 rfl rfl ?_
  obtain ⟨r1, hr2, h⟩ := gB_some h
  refine G_cV (mj := gX8_has) (As := [.int x1]) (rest := []) ml_X11_217 vX8_has sl_84 sk_84 (by decide) rfl rfl rfl (Nat.le_of_ble_eq_true rfl) (by decide) (Nat.le_refl _) (Nat.le_refl _) dX11_look_5 (q_X8_has hr2) ?_
  refine G_if_ne 13 dX11_look_8 (by decide) (fun c3 => ?_) (fun c3 => ?_)
  · replace h := gif c3 h
    refine G_iload_n dX11_look_13 rfl rfl ?_
    by_cases c4 : x2 = (0 : Int32)
    · replace h := git c4 h
      refine G_tsIn 64 dX11_look_14 (by rw [c4]; decide) (by rw [c4]; decide) (by rw [c4]; rfl) (by decide) ?_
      refine G_aload_n dX11_look_64 rfl rfl ?_
      refine G_getR fl_X11_63 sl_0 sk_0 rfl (rr_0_7 _) dX11_look_65 ?_
      refine G_getR fl_X11_330 sl_84 sk_84 rfl (rr_84_0 _) dX11_look_68 ?_
      refine G_iload_n dX11_look_71 rfl rfl ?_
      obtain ⟨b5, h⟩ := gck_some h
      refine G_iald sl_85 ss_85 (gin_in b5) dX11_look_72 ?_
      refine G_iret rfl (Nat.le_refl _) (Nat.le_refl _) dX11_look_73 ?_
      cases h
      exact ⟨rfl, rfl, rfl, rfl, rfl⟩
    · replace h := gif c4 h
      by_cases c6 : x2 = (1 : Int32)
      · replace h := git c6 h
        refine G_tsIn 74 dX11_look_14 (by rw [c6]; decide) (by rw [c6]; decide) (by rw [c6]; rfl) (by decide) ?_
        refine G_aload_n dX11_look_74 rfl rfl ?_
        refine G_getR fl_X11_63 sl_0 sk_0 rfl (rr_0_7 _) dX11_look_75 ?_
        refine G_getR fl_X11_250 sl_84 sk_84 rfl (rr_84_1 _) dX11_look_78 ?_
        refine G_iload_n dX11_look_81 rfl rfl ?_
        obtain ⟨b7, h⟩ := gck_some h
        refine G_iald sl_86 ss_86 (gin_in b7) dX11_look_82 ?_
        refine G_iret rfl (Nat.le_refl _) (Nat.le_refl _) dX11_look_83 ?_
        cases h
        exact ⟨rfl, rfl, rfl, rfl, rfl⟩
      · replace h := gif c6 h
        by_cases c8 : x2 = (2 : Int32)
        · replace h := git c8 h
          refine G_tsIn 84 dX11_look_14 (by rw [c8]; decide) (by rw [c8]; decide) (by rw [c8]; rfl) (by decide) ?_
          refine G_aload_n dX11_look_84 rfl rfl ?_
          refine G_getR fl_X11_63 sl_0 sk_0 rfl (rr_0_7 _) dX11_look_85 ?_
          refine G_getR fl_X11_218 sl_84 sk_84 rfl (rr_84_2 _) dX11_look_88 ?_
          refine G_iload_n dX11_look_91 rfl rfl ?_
          obtain ⟨b9, h⟩ := gck_some h
          refine G_iald sl_87 ss_87 (gin_in b9) dX11_look_92 ?_
          refine G_iret rfl (Nat.le_refl _) (Nat.le_refl _) dX11_look_93 ?_
          cases h
          exact ⟨rfl, rfl, rfl, rfl, rfl⟩
        · replace h := gif c8 h
          by_cases c10 : x2 = (3 : Int32)
          · replace h := git c10 h
            refine G_tsIn 94 dX11_look_14 (by rw [c10]; decide) (by rw [c10]; decide) (by rw [c10]; rfl) (by decide) ?_
            refine G_aload_n dX11_look_94 rfl rfl ?_
            refine G_getR fl_X11_63 sl_0 sk_0 rfl (rr_0_7 _) dX11_look_95 ?_
            refine G_getR fl_X11_297 sl_84 sk_84 rfl (rr_84_3 _) dX11_look_98 ?_
            refine G_iload_n dX11_look_101 rfl rfl ?_
            obtain ⟨b11, h⟩ := gck_some h
            refine G_iald sl_88 ss_88 (gin_in b11) dX11_look_102 ?_
            refine G_iret rfl (Nat.le_refl _) (Nat.le_refl _) dX11_look_103 ?_
            cases h
            exact ⟨rfl, rfl, rfl, rfl, rfl⟩
          · replace h := gif c10 h
            by_cases c12 : x2 = (4 : Int32)
            · replace h := git c12 h
              refine G_tsIn 104 dX11_look_14 (by rw [c12]; decide) (by rw [c12]; decide) (by rw [c12]; rfl) (by decide) ?_
              refine G_aload_n dX11_look_104 rfl rfl ?_
              refine G_getR fl_X11_63 sl_0 sk_0 rfl (rr_0_7 _) dX11_look_105 ?_
              refine G_getR fl_X11_221 sl_84 sk_84 rfl (rr_84_4 _) dX11_look_108 ?_
              refine G_iload_n dX11_look_111 rfl rfl ?_
              obtain ⟨b13, h⟩ := gck_some h
              refine G_iald sl_89 ss_89 (gin_in b13) dX11_look_112 ?_
              refine G_iret rfl (Nat.le_refl _) (Nat.le_refl _) dX11_look_113 ?_
              cases h
              exact ⟨rfl, rfl, rfl, rfl, rfl⟩
            · replace h := gif c12 h
              by_cases c14 : x2 = (5 : Int32)
              · replace h := git c14 h
                refine G_tsIn 114 dX11_look_14 (by rw [c14]; decide) (by rw [c14]; decide) (by rw [c14]; rfl) (by decide) ?_
                refine G_aload_n dX11_look_114 rfl rfl ?_
                refine G_getR fl_X11_63 sl_0 sk_0 rfl (rr_0_7 _) dX11_look_115 ?_
                refine G_getR fl_X11_253 sl_84 sk_84 rfl (rr_84_6 _) dX11_look_118 ?_
                refine G_iload_n dX11_look_121 rfl rfl ?_
                obtain ⟨b15, h⟩ := gck_some h
                refine G_iald sl_91 ss_91 (gin_in b15) dX11_look_122 ?_
                refine G_iret rfl (Nat.le_refl _) (Nat.le_refl _) dX11_look_123 ?_
                cases h
                exact ⟨rfl, rfl, rfl, rfl, rfl⟩
              · replace h := gif c14 h
                by_cases c16 : x2 = (6 : Int32)
                · replace h := git c16 h
                  refine G_tsIn 124 dX11_look_14 (by rw [c16]; decide) (by rw [c16]; decide) (by rw [c16]; rfl) (by decide) ?_
                  refine G_aload_n dX11_look_124 rfl rfl ?_
                  refine G_getR fl_X11_63 sl_0 sk_0 rfl (rr_0_7 _) dX11_look_125 ?_
                  refine G_getR fl_X11_228 sl_84 sk_84 rfl (rr_84_7 _) dX11_look_128 ?_
                  refine G_iload_n dX11_look_131 rfl rfl ?_
                  obtain ⟨b17, h⟩ := gck_some h
                  refine G_iald sl_92 ss_92 (gin_in b17) dX11_look_132 ?_
                  refine G_iret rfl (Nat.le_refl _) (Nat.le_refl _) dX11_look_133 ?_
                  cases h
                  exact ⟨rfl, rfl, rfl, rfl, rfl⟩
                · replace h := gif c16 h
                  by_cases c18 : x2 = (7 : Int32)
                  · replace h := git c18 h
                    refine G_tsIn 134 dX11_look_14 (by rw [c18]; decide) (by rw [c18]; decide) (by rw [c18]; rfl) (by decide) ?_
                    refine G_aload_n dX11_look_134 rfl rfl ?_
                    refine G_getR fl_X11_63 sl_0 sk_0 rfl (rr_0_7 _) dX11_look_135 ?_
                    refine G_getR fl_X11_232 sl_84 sk_84 rfl (rr_84_8 _) dX11_look_138 ?_
                    refine G_iload_n dX11_look_141 rfl rfl ?_
                    obtain ⟨b19, h⟩ := gck_some h
                    refine G_iald sl_93 ss_93 (gin_in b19) dX11_look_142 ?_
                    refine G_iret rfl (Nat.le_refl _) (Nat.le_refl _) dX11_look_143 ?_
                    cases h
                    exact ⟨rfl, rfl, rfl, rfl, rfl⟩
                  · replace h := gif c18 h
                    by_cases c20 : x2 = (8 : Int32)
                    · replace h := git c20 h
                      refine G_tsIn 144 dX11_look_14 (by rw [c20]; decide) (by rw [c20]; decide) (by rw [c20]; rfl) (by decide) ?_
                      refine G_aload_n dX11_look_144 rfl rfl ?_
                      refine G_getR fl_X11_63 sl_0 sk_0 rfl (rr_0_7 _) dX11_look_145 ?_
                      refine G_getR fl_X11_247 sl_84 sk_84 rfl (rr_84_9 _) dX11_look_148 ?_
                      refine G_iload_n dX11_look_151 rfl rfl ?_
                      obtain ⟨b21, h⟩ := gck_some h
                      refine G_iald sl_94 ss_94 (gin_in b21) dX11_look_152 ?_
                      refine G_iret rfl (Nat.le_refl _) (Nat.le_refl _) dX11_look_153 ?_
                      cases h
                      exact ⟨rfl, rfl, rfl, rfl, rfl⟩
                    · replace h := gif c20 h
                      have nc4 := lv_neT (a := 0) c4 rfl
                      have nc6 := lv_neT (a := 1) c6 rfl
                      have nc8 := lv_neT (a := 2) c8 rfl
                      have nc10 := lv_neT (a := 3) c10 rfl
                      have nc12 := lv_neT (a := 4) c12 rfl
                      have nc14 := lv_neT (a := 5) c14 rfl
                      have nc16 := lv_neT (a := 6) c16 rfl
                      have nc18 := lv_neT (a := 7) c18 rfl
                      have nc20 := lv_neT (a := 8) c20 rfl
                      refine G_tsOut 154 dX11_look_14 (by omega) (by decide) ?_
                      refine G_iconst (v := -1) dX11_look_154 rfl ?_
                      refine G_iret rfl (Nat.le_refl _) (Nat.le_refl _) dX11_look_155 ?_
                      cases h
                      exact ⟨rfl, rfl, rfl, rfl, rfl⟩
  · replace h := git c3 h
    refine G_iconst (v := -1) dX11_look_11 rfl ?_
    refine G_iret rfl (Nat.le_refl _) (Nat.le_refl _) dX11_look_12 ?_
    cases h
    exact ⟨rfl, rfl, rfl, rfl, rfl⟩
def p_X11_countBeyond (I : gIt) (x1 : Int32) : Option Int32 :=
  if x1 < (20 : Int32) then
  if x1 < (40 : Int32) then
  some (-1 : Int32)
  else
  if (56 : Int32) ≤ x1 then
  some (-1 : Int32)
  else
  gB (p_X7_has I (x1 - (40 : Int32))) fun r4 =>
  if r4 = 0 then
  some (-1 : Int32)
  else
  gck (gin (x1 - (40 : Int32)) 16) (
  some (I 5 ((x1 - (40 : Int32))).toNatClampNeg))
  else
  if (30 : Int32) ≤ x1 then
  if x1 < (40 : Int32) then
  some (-1 : Int32)
  else
  if (56 : Int32) ≤ x1 then
  some (-1 : Int32)
  else
  gB (p_X7_has I (x1 - (40 : Int32))) fun r11 =>
  if r11 = 0 then
  some (-1 : Int32)
  else
  gck (gin (x1 - (40 : Int32)) 16) (
  some (I 5 ((x1 - (40 : Int32))).toNatClampNeg))
  else
  gB (p_X11_settlementOf I (x1 - (20 : Int32))) fun r15 =>
  match r15 with
  | none => (
  some (-1 : Int32))
  | some a19 => (
  some (I a19 8))
set_option maxRecDepth 20000 in
theorem q_X11_countBeyond {l : Launch} {I : gIt} {J : gJt} {w : Bool} {x1 : Int32} {v : Int32} (h : p_X11_countBeyond I x1 = some v) : Cn l gX11_countBeyond 3 0 0 [.ref 0, .int x1] gS0 I J (gR0 w) (fun v' S' I' J' R' => v' = some (.int v) ∧ S' = gS0 ∧ I' = I ∧ J' = J ∧ R' = gR0 w) := by
  refine Cn.of [some (.ref 0), some (.int x1), none] (by decide) rfl (Nat.le_of_ble_eq_true rfl) ?_
  rw [p_X11_countBeyond] at h
  refine G_iload_n dX11_countBeyond_0 rfl rfl ?_
  refine G_bipush (v := 20) dX11_countBeyond_1 rfl ?_
  refine G_icmp_lt 34 dX11_countBeyond_3 (by decide) (fun c1 => ?_) (fun c1 => ?_)
  · replace h := git c1 h
    refine G_iload_n dX11_countBeyond_34 rfl rfl ?_
    refine G_bipush (v := 40) dX11_countBeyond_35 rfl ?_
    refine G_icmp_lt 73 dX11_countBeyond_37 (by decide) (fun c2 => ?_) (fun c2 => ?_)
    · replace h := git c2 h
      refine G_iconst (v := -1) dX11_countBeyond_73 rfl ?_
      refine G_iret rfl (Nat.le_refl _) (Nat.le_refl _) dX11_countBeyond_74 ?_
      cases h
      exact ⟨rfl, rfl, rfl, rfl, rfl⟩
    · replace h := gif c2 h
      refine G_iload_n dX11_countBeyond_40 rfl rfl ?_
      refine G_bipush (v := 56) dX11_countBeyond_41 rfl ?_
      refine G_icmp_ge 73 dX11_countBeyond_43 (by decide) (fun c3 => ?_) (fun c3 => ?_)
      · replace h := git c3 h
        refine G_iconst (v := -1) dX11_countBeyond_73 rfl ?_
        refine G_iret rfl (Nat.le_refl _) (Nat.le_refl _) dX11_countBeyond_74 ?_
        cases h
        exact ⟨rfl, rfl, rfl, rfl, rfl⟩
      · replace h := gif c3 h
        refine G_aload_n dX11_countBeyond_46 rfl rfl ?_
        refine G_getR fl_X11_10 sl_0 sk_0 rfl (rr_0_0 _) dX11_countBeyond_47 ?_
        refine G_iload_n dX11_countBeyond_50 rfl rfl ?_
        refine G_bipush (v := 40) dX11_countBeyond_51 rfl ?_
        refine G_isub dX11_countBeyond_53 ?_
        obtain ⟨r4, hr5, h⟩ := gB_some h
        refine G_cV (mj := gX7_has) (As := [.int (x1 - (40 : Int32))]) (rest := []) ml_X11_100 vX7_has sl_1 sk_1 (by decide) rfl rfl rfl (Nat.le_of_ble_eq_true rfl) (by decide) (Nat.le_refl _) (Nat.le_refl _) dX11_countBeyond_54 (q_X7_has hr5) ?_
        refine G_if_eq 73 dX11_countBeyond_57 (by decide) (fun c6 => ?_) (fun c6 => ?_)
        · replace h := git c6 h
          refine G_iconst (v := -1) dX11_countBeyond_73 rfl ?_
          refine G_iret rfl (Nat.le_refl _) (Nat.le_refl _) dX11_countBeyond_74 ?_
          cases h
          exact ⟨rfl, rfl, rfl, rfl, rfl⟩
        · replace h := gif c6 h
          refine G_aload_n dX11_countBeyond_60 rfl rfl ?_
          refine G_getR fl_X11_10 sl_0 sk_0 rfl (rr_0_0 _) dX11_countBeyond_61 ?_
          refine G_getR fl_X11_112 sl_1 sk_1 rfl (rr_1_3 _) dX11_countBeyond_64 ?_
          refine G_iload_n dX11_countBeyond_67 rfl rfl ?_
          refine G_bipush (v := 40) dX11_countBeyond_68 rfl ?_
          refine G_isub dX11_countBeyond_70 ?_
          obtain ⟨b7, h⟩ := gck_some h
          refine G_iald sl_5 ss_5 (gin_in b7) dX11_countBeyond_71 ?_
          refine G_iret rfl (Nat.le_refl _) (Nat.le_refl _) dX11_countBeyond_72 ?_
          cases h
          exact ⟨rfl, rfl, rfl, rfl, rfl⟩
  · replace h := gif c1 h
    refine G_iload_n dX11_countBeyond_6 rfl rfl ?_
    refine G_bipush (v := 30) dX11_countBeyond_7 rfl ?_
    refine G_icmp_ge 34 dX11_countBeyond_9 (by decide) (fun c8 => ?_) (fun c8 => ?_)
    · replace h := git c8 h
      refine G_iload_n dX11_countBeyond_34 rfl rfl ?_
      refine G_bipush (v := 40) dX11_countBeyond_35 rfl ?_
      refine G_icmp_lt 73 dX11_countBeyond_37 (by decide) (fun c9 => ?_) (fun c9 => ?_)
      · replace h := git c9 h
        refine G_iconst (v := -1) dX11_countBeyond_73 rfl ?_
        refine G_iret rfl (Nat.le_refl _) (Nat.le_refl _) dX11_countBeyond_74 ?_
        cases h
        exact ⟨rfl, rfl, rfl, rfl, rfl⟩
      · replace h := gif c9 h
        refine G_iload_n dX11_countBeyond_40 rfl rfl ?_
        refine G_bipush (v := 56) dX11_countBeyond_41 rfl ?_
        refine G_icmp_ge 73 dX11_countBeyond_43 (by decide) (fun c10 => ?_) (fun c10 => ?_)
        · replace h := git c10 h
          refine G_iconst (v := -1) dX11_countBeyond_73 rfl ?_
          refine G_iret rfl (Nat.le_refl _) (Nat.le_refl _) dX11_countBeyond_74 ?_
          cases h
          exact ⟨rfl, rfl, rfl, rfl, rfl⟩
        · replace h := gif c10 h
          refine G_aload_n dX11_countBeyond_46 rfl rfl ?_
          refine G_getR fl_X11_10 sl_0 sk_0 rfl (rr_0_0 _) dX11_countBeyond_47 ?_
          refine G_iload_n dX11_countBeyond_50 rfl rfl ?_
          refine G_bipush (v := 40) dX11_countBeyond_51 rfl ?_
          refine G_isub dX11_countBeyond_53 ?_
          obtain ⟨r11, hr12, h⟩ := gB_some h
          refine G_cV (mj := gX7_has) (As := [.int (x1 - (40 : Int32))]) (rest := []) ml_X11_100 vX7_has sl_1 sk_1 (by decide) rfl rfl rfl (Nat.le_of_ble_eq_true rfl) (by decide) (Nat.le_refl _) (Nat.le_refl _) dX11_countBeyond_54 (q_X7_has hr12) ?_
          refine G_if_eq 73 dX11_countBeyond_57 (by decide) (fun c13 => ?_) (fun c13 => ?_)
          · replace h := git c13 h
            refine G_iconst (v := -1) dX11_countBeyond_73 rfl ?_
            refine G_iret rfl (Nat.le_refl _) (Nat.le_refl _) dX11_countBeyond_74 ?_
            cases h
            exact ⟨rfl, rfl, rfl, rfl, rfl⟩
          · replace h := gif c13 h
            refine G_aload_n dX11_countBeyond_60 rfl rfl ?_
            refine G_getR fl_X11_10 sl_0 sk_0 rfl (rr_0_0 _) dX11_countBeyond_61 ?_
            refine G_getR fl_X11_112 sl_1 sk_1 rfl (rr_1_3 _) dX11_countBeyond_64 ?_
            refine G_iload_n dX11_countBeyond_67 rfl rfl ?_
            refine G_bipush (v := 40) dX11_countBeyond_68 rfl ?_
            refine G_isub dX11_countBeyond_70 ?_
            obtain ⟨b14, h⟩ := gck_some h
            refine G_iald sl_5 ss_5 (gin_in b14) dX11_countBeyond_71 ?_
            refine G_iret rfl (Nat.le_refl _) (Nat.le_refl _) dX11_countBeyond_72 ?_
            cases h
            exact ⟨rfl, rfl, rfl, rfl, rfl⟩
    · replace h := gif c8 h
      refine G_aload_n dX11_countBeyond_12 rfl rfl ?_
      refine G_iload_n dX11_countBeyond_13 rfl rfl ?_
      refine G_bipush (v := 20) dX11_countBeyond_14 rfl ?_
      refine G_isub dX11_countBeyond_16 ?_
      obtain ⟨r15, hr16, h⟩ := gB_some h
      refine G_cVO (mj := gX11_settlementOf) (As := [.int (x1 - (20 : Int32))]) (rest := []) ml_X11_159 vX11_settlementOf sl_0 sk_0 (by decide) rfl rfl rfl (Nat.le_of_ble_eq_true rfl) (by decide) (Nat.le_refl _) (Nat.le_refl _) dX11_countBeyond_17 (q_X11_settlementOf hr16) (fun hset => ?_)
      cases hro18 : r15 with
      | none =>
        rw [hro18] at h hset
        refine S_astore_nN [some (.ref 0), some (.int x1), some (.null)] dX11_countBeyond_20 rfl (by decide) rfl ?_
        refine G_aload_nN dX11_countBeyond_21 rfl rfl ?_
        refine G_ifnonnullN dX11_countBeyond_22 ?_
        refine G_iconst (v := -1) dX11_countBeyond_25 rfl ?_
        refine G_goto 33 dX11_countBeyond_26 (by decide) ?_
        refine G_iret rfl (Nat.le_refl _) (Nat.le_refl _) dX11_countBeyond_33 ?_
        cases h
        exact ⟨rfl, rfl, rfl, rfl, rfl⟩
      | some a19 =>
        rw [hro18] at h hset
        have ha19 : gset a19 := hset a19 rfl
        refine S_astore_n [some (.ref 0), some (.int x1), some (.ref a19)] dX11_countBeyond_20 rfl (by decide) rfl ?_
        refine G_aload_n dX11_countBeyond_21 rfl rfl ?_
        refine G_ifnonnull 29 dX11_countBeyond_22 (by decide) ?_
        refine G_aload_n dX11_countBeyond_29 rfl rfl ?_
        refine G_getI fl_X11_336 (gset_sl ha19) (gset_sk ha19) rfl dX11_countBeyond_30 ?_
        refine G_iret rfl (Nat.le_refl _) (Nat.le_refl _) dX11_countBeyond_33 ?_
        cases h
        exact ⟨rfl, rfl, rfl, rfl, rfl⟩
def p_X11_count (I : gIt) (x1 : Int32) : Option Int32 :=
  if x1 = (0 : Int32) then
  some (I 0 14)
  else
  if x1 = (1 : Int32) then
  some (I 1 7)
  else
  if x1 = (2 : Int32) then
  some (I 0 13)
  else
  if x1 = (3 : Int32) then
  some (I 84 10)
  else
  if x1 = (4 : Int32) then
  some (I 95 5)
  else
  if x1 = (5 : Int32) then
  some (I 1 8)
  else
  if x1 = (6 : Int32) then
  some (I 11 1)
  else
  if x1 = (7 : Int32) then
  if (I 0 12) = 0 then
  some (0 : Int32)
  else
  some (1 : Int32)
  else
  if x1 = (8 : Int32) then
  some (I 9 1)
  else
  if x1 = (9 : Int32) then
  some (I 0 15)
  else
  gB (p_X11_countBeyond I x1) fun r12 =>
  some r12
set_option maxRecDepth 20000 in
theorem q_X11_count {l : Launch} {I : gIt} {J : gJt} {w : Bool} {x1 : Int32} {v : Int32} (h : p_X11_count I x1 = some v) : Cn l gX11_count 4 0 0 [.ref 0, .int x1] gS0 I J (gR0 w) (fun v' S' I' J' R' => v' = some (.int v) ∧ S' = gS0 ∧ I' = I ∧ J' = J ∧ R' = gR0 w) := by
  refine Cn.of [some (.ref 0), some (.int x1)] (by decide) rfl (Nat.le_of_ble_eq_true rfl) ?_
  rw [p_X11_count] at h
  refine G_iload_n dX11_count_0 rfl rfl ?_
  by_cases c1 : x1 = (0 : Int32)
  · replace h := git c1 h
    refine G_tsIn 56 dX11_count_1 (by rw [c1]; decide) (by rw [c1]; decide) (by rw [c1]; rfl) (by decide) ?_
    refine G_aload_n dX11_count_56 rfl rfl ?_
    refine G_getI fl_X11_93 sl_0 sk_0 rfl dX11_count_57 ?_
    refine G_iret rfl (Nat.le_refl _) (Nat.le_refl _) dX11_count_60 ?_
    cases h
    exact ⟨rfl, rfl, rfl, rfl, rfl⟩
  · replace h := gif c1 h
    by_cases c2 : x1 = (1 : Int32)
    · replace h := git c2 h
      refine G_tsIn 61 dX11_count_1 (by rw [c2]; decide) (by rw [c2]; decide) (by rw [c2]; rfl) (by decide) ?_
      refine G_aload_n dX11_count_61 rfl rfl ?_
      refine G_getR fl_X11_10 sl_0 sk_0 rfl (rr_0_0 _) dX11_count_62 ?_
      refine G_getI fl_X11_97 sl_1 sk_1 rfl dX11_count_65 ?_
      refine G_iret rfl (Nat.le_refl _) (Nat.le_refl _) dX11_count_68 ?_
      cases h
      exact ⟨rfl, rfl, rfl, rfl, rfl⟩
    · replace h := gif c2 h
      by_cases c3 : x1 = (2 : Int32)
      · replace h := git c3 h
        refine G_tsIn 69 dX11_count_1 (by rw [c3]; decide) (by rw [c3]; decide) (by rw [c3]; rfl) (by decide) ?_
        refine G_aload_n dX11_count_69 rfl rfl ?_
        refine G_getI fl_X11_142 sl_0 sk_0 rfl dX11_count_70 ?_
        refine G_iret rfl (Nat.le_refl _) (Nat.le_refl _) dX11_count_73 ?_
        cases h
        exact ⟨rfl, rfl, rfl, rfl, rfl⟩
      · replace h := gif c3 h
        by_cases c4 : x1 = (3 : Int32)
        · replace h := git c4 h
          refine G_tsIn 74 dX11_count_1 (by rw [c4]; decide) (by rw [c4]; decide) (by rw [c4]; rfl) (by decide) ?_
          refine G_aload_n dX11_count_74 rfl rfl ?_
          refine G_getR fl_X11_63 sl_0 sk_0 rfl (rr_0_7 _) dX11_count_75 ?_
          refine G_getI fl_X11_206 sl_84 sk_84 rfl dX11_count_78 ?_
          refine G_iret rfl (Nat.le_refl _) (Nat.le_refl _) dX11_count_81 ?_
          cases h
          exact ⟨rfl, rfl, rfl, rfl, rfl⟩
        · replace h := gif c4 h
          by_cases c5 : x1 = (4 : Int32)
          · replace h := git c5 h
            refine G_tsIn 82 dX11_count_1 (by rw [c5]; decide) (by rw [c5]; decide) (by rw [c5]; rfl) (by decide) ?_
            refine G_aload_n dX11_count_82 rfl rfl ?_
            refine G_getR fl_X11_70 sl_0 sk_0 rfl (rr_0_8 _) dX11_count_83 ?_
            refine G_getI fl_X11_235 sl_95 sk_95 rfl dX11_count_86 ?_
            refine G_iret rfl (Nat.le_refl _) (Nat.le_refl _) dX11_count_89 ?_
            cases h
            exact ⟨rfl, rfl, rfl, rfl, rfl⟩
          · replace h := gif c5 h
            by_cases c6 : x1 = (5 : Int32)
            · replace h := git c6 h
              refine G_tsIn 90 dX11_count_1 (by rw [c6]; decide) (by rw [c6]; decide) (by rw [c6]; rfl) (by decide) ?_
              refine G_aload_n dX11_count_90 rfl rfl ?_
              refine G_getR fl_X11_10 sl_0 sk_0 rfl (rr_0_0 _) dX11_count_91 ?_
              refine G_getI fl_X11_320 sl_1 sk_1 rfl dX11_count_94 ?_
              refine G_iret rfl (Nat.le_refl _) (Nat.le_refl _) dX11_count_97 ?_
              cases h
              exact ⟨rfl, rfl, rfl, rfl, rfl⟩
            · replace h := gif c6 h
              by_cases c7 : x1 = (6 : Int32)
              · replace h := git c7 h
                refine G_tsIn 98 dX11_count_1 (by rw [c7]; decide) (by rw [c7]; decide) (by rw [c7]; rfl) (by decide) ?_
                refine G_aload_n dX11_count_98 rfl rfl ?_
                refine G_getR fl_X11_26 sl_0 sk_0 rfl (rr_0_2 _) dX11_count_99 ?_
                refine G_getI fl_X11_136 sl_11 sk_11 rfl dX11_count_102 ?_
                refine G_iret rfl (Nat.le_refl _) (Nat.le_refl _) dX11_count_105 ?_
                cases h
                exact ⟨rfl, rfl, rfl, rfl, rfl⟩
              · replace h := gif c7 h
                by_cases c8 : x1 = (7 : Int32)
                · replace h := git c8 h
                  refine G_tsIn 106 dX11_count_1 (by rw [c8]; decide) (by rw [c8]; decide) (by rw [c8]; rfl) (by decide) ?_
                  refine G_aload_n dX11_count_106 rfl rfl ?_
                  refine G_getI fl_X11_240 sl_0 sk_0 rfl dX11_count_107 ?_
                  refine G_if_eq 117 dX11_count_110 (by decide) (fun c9 => ?_) (fun c9 => ?_)
                  · replace h := git c9 h
                    refine G_iconst (v := 0) dX11_count_117 rfl ?_
                    refine G_iret rfl (Nat.le_refl _) (Nat.le_refl _) dX11_count_118 ?_
                    cases h
                    exact ⟨rfl, rfl, rfl, rfl, rfl⟩
                  · replace h := gif c9 h
                    refine G_iconst (v := 1) dX11_count_113 rfl ?_
                    refine G_goto 118 dX11_count_114 (by decide) ?_
                    refine G_iret rfl (Nat.le_refl _) (Nat.le_refl _) dX11_count_118 ?_
                    cases h
                    exact ⟨rfl, rfl, rfl, rfl, rfl⟩
                · replace h := gif c8 h
                  by_cases c10 : x1 = (8 : Int32)
                  · replace h := git c10 h
                    refine G_tsIn 119 dX11_count_1 (by rw [c10]; decide) (by rw [c10]; decide) (by rw [c10]; rfl) (by decide) ?_
                    refine G_aload_n dX11_count_119 rfl rfl ?_
                    refine G_getR fl_X11_19 sl_0 sk_0 rfl (rr_0_1 _) dX11_count_120 ?_
                    refine G_getI fl_X11_126 sl_9 sk_9 rfl dX11_count_123 ?_
                    refine G_iret rfl (Nat.le_refl _) (Nat.le_refl _) dX11_count_126 ?_
                    cases h
                    exact ⟨rfl, rfl, rfl, rfl, rfl⟩
                  · replace h := gif c10 h
                    by_cases c11 : x1 = (9 : Int32)
                    · replace h := git c11 h
                      refine G_tsIn 127 dX11_count_1 (by rw [c11]; decide) (by rw [c11]; decide) (by rw [c11]; rfl) (by decide) ?_
                      refine G_aload_n dX11_count_127 rfl rfl ?_
                      refine G_getI fl_X11_129 sl_0 sk_0 rfl dX11_count_128 ?_
                      refine G_iret rfl (Nat.le_refl _) (Nat.le_refl _) dX11_count_131 ?_
                      cases h
                      exact ⟨rfl, rfl, rfl, rfl, rfl⟩
                    · replace h := gif c11 h
                      have nc1 := lv_neT (a := 0) c1 rfl
                      have nc2 := lv_neT (a := 1) c2 rfl
                      have nc3 := lv_neT (a := 2) c3 rfl
                      have nc4 := lv_neT (a := 3) c4 rfl
                      have nc5 := lv_neT (a := 4) c5 rfl
                      have nc6 := lv_neT (a := 5) c6 rfl
                      have nc7 := lv_neT (a := 6) c7 rfl
                      have nc8 := lv_neT (a := 7) c8 rfl
                      have nc10 := lv_neT (a := 8) c10 rfl
                      have nc11 := lv_neT (a := 9) c11 rfl
                      refine G_tsOut 132 dX11_count_1 (by omega) (by decide) ?_
                      refine G_aload_n dX11_count_132 rfl rfl ?_
                      refine G_iload_n dX11_count_133 rfl rfl ?_
                      obtain ⟨r12, hr13, h⟩ := gB_some h
                      refine G_cV (mj := gX11_countBeyond) (As := [.int x1]) (rest := []) ml_X11_333 vX11_countBeyond sl_0 sk_0 (by decide) rfl rfl rfl (Nat.le_of_ble_eq_true rfl) (by decide) (Nat.le_refl _) (Nat.le_refl _) dX11_count_134 (q_X11_countBeyond hr13) ?_
                      refine G_iret rfl (Nat.le_refl _) (Nat.le_refl _) dX11_count_137 ?_
                      cases h
                      exact ⟨rfl, rfl, rfl, rfl, rfl⟩
