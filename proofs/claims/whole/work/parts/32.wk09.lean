/-! ===== pure programs and their walks ===== -/
def p_X9_codeFrom (I : gIt) (a0 : Nat) (x1 : Int32) : Option Int32 :=
  if x1 ≤ 0 then
  some (0 : Int32)
  else
  if (8 : Int32) < x1 then
  some (0 : Int32)
  else
  gck (gin (x1 - (1 : Int32)) 8) (
  some (I ((a0 + 2)) ((x1 - (1 : Int32))).toNatClampNeg))
set_option maxRecDepth 20000 in
theorem q_X9_codeFrom {l : Launch} {I : gIt} {J : gJt} {w : Bool} {a0 : Nat} {x1 : Int32} {v : Int32} (ha0 : gset a0) (h : p_X9_codeFrom I a0 x1 = some v) : Cn l gX9_codeFrom 2 0 0 [.ref a0, .int x1] gS0 I J (gR0 w) (fun v' S' I' J' R' => v' = some (.int v) ∧ S' = gS0 ∧ I' = I ∧ J' = J ∧ R' = gR0 w) := by
  refine Cn.of [some (.ref a0), some (.int x1)] (by decide) rfl (Nat.le_of_ble_eq_true rfl) ?_
  rw [p_X9_codeFrom] at h
  refine G_iload_n dX9_codeFrom_0 rfl rfl ?_
  refine G_if_le 21 dX9_codeFrom_1 (by decide) (fun c1 => ?_) (fun c1 => ?_)
  · replace h := git c1 h
    refine G_iconst (v := 0) dX9_codeFrom_21 rfl ?_
    refine G_iret rfl (Nat.le_refl _) (Nat.le_refl _) dX9_codeFrom_22 ?_
    cases h
    exact ⟨rfl, rfl, rfl, rfl, rfl⟩
  · replace h := gif c1 h
    refine G_iload_n dX9_codeFrom_4 rfl rfl ?_
    refine G_bipush (v := 8) dX9_codeFrom_5 rfl ?_
    refine G_icmp_gt 21 dX9_codeFrom_7 (by decide) (fun c2 => ?_) (fun c2 => ?_)
    · replace h := git c2 h
      refine G_iconst (v := 0) dX9_codeFrom_21 rfl ?_
      refine G_iret rfl (Nat.le_refl _) (Nat.le_refl _) dX9_codeFrom_22 ?_
      cases h
      exact ⟨rfl, rfl, rfl, rfl, rfl⟩
    · replace h := gif c2 h
      refine G_aload_n dX9_codeFrom_10 rfl rfl ?_
      refine G_getR fl_X9_15 (gset_sl ha0) (gset_sk ha0) rfl (gset_r1 _ ha0) dX9_codeFrom_11 ?_
      refine G_iload_n dX9_codeFrom_14 rfl rfl ?_
      refine G_iconst (v := 1) dX9_codeFrom_15 rfl ?_
      refine G_isub dX9_codeFrom_16 ?_
      obtain ⟨b3, h⟩ := gck_some h
      refine G_iald (gset_l1 ha0) (gset_s1 ha0) (gin_in b3) dX9_codeFrom_17 ?_
      refine G_goto 22 dX9_codeFrom_18 (by decide) ?_
      refine G_iret rfl (Nat.le_refl _) (Nat.le_refl _) dX9_codeFrom_22 ?_
      cases h
      exact ⟨rfl, rfl, rfl, rfl, rfl⟩
def p_X9_joined (x0 : Int32) (x1 : Int32) (x2 : Int32) : Option Int32 :=
  if x1 = (-1 : Int32) then
  some (x0 ^^^ (1 : Int32))
  else
  if x1 = (-2 : Int32) then
  some ((gushr x0 (1 : Int32)) &&& (x0 ||| (-2 : Int32)))
  else
  if x1 = (-3 : Int32) then
  some ((gushr x0 (1 : Int32)) ||| (x0 &&& (1 : Int32)))
  else
  gB (p_J6_bitCount_0f7a4 (x2 &&& (65535 : Int32))) fun r4 =>
  gB (α := Int32) (
  if (100 : Int32) ≤ x1 then
  if (200 : Int32) ≤ x1 then
  if (300 : Int32) ≤ x1 then
  if r4 = (x1 - (300 : Int32)) then
  some (1 : Int32)
  else
  some (0 : Int32)
  else
  if r4 ≤ (x1 - (200 : Int32)) then
  some (0 : Int32)
  else
  some (1 : Int32)
  else
  if (x1 - (100 : Int32)) ≤ r4 then
  some (0 : Int32)
  else
  some (1 : Int32)
  else
  if ((gushr x2 x1) &&& (1 : Int32)) = (1 : Int32) then
  some (1 : Int32)
  else
  some (0 : Int32)) fun ph6 =>
  if ph6 = 0 then
  some ((gshl x0 (1 : Int32)) ||| (0 : Int32))
  else
  some ((gshl x0 (1 : Int32)) ||| (1 : Int32))
set_option maxRecDepth 20000 in
theorem q_X9_joined {l : Launch} {I : gIt} {J : gJt} {w : Bool} {x0 : Int32} {x1 : Int32} {x2 : Int32} {v : Int32} (h : p_X9_joined x0 x1 x2 = some v) : Cn l gX9_joined 3 0 0 [.int x0, .int x1, .int x2] gS0 I J (gR0 w) (fun v' S' I' J' R' => v' = some (.int v) ∧ S' = gS0 ∧ I' = I ∧ J' = J ∧ R' = gR0 w) := by
  refine Cn.of [some (.int x0), some (.int x1), some (.int x2), none, none] (by decide) rfl (Nat.le_of_ble_eq_true rfl) ?_
  rw [p_X9_joined] at h
  refine G_iload_n dX9_joined_0 rfl rfl ?_
  refine G_iconst (v := -1) dX9_joined_1 rfl ?_
  refine G_icmp_ne 9 dX9_joined_2 (by decide) (fun c1 => ?_) (fun c1 => ?_)
  · replace h := gif c1 h
    refine G_iload_n dX9_joined_9 rfl rfl ?_
    refine G_bipush (v := -2) dX9_joined_10 rfl ?_
    refine G_icmp_ne 24 dX9_joined_12 (by decide) (fun c2 => ?_) (fun c2 => ?_)
    · replace h := gif c2 h
      refine G_iload_n dX9_joined_24 rfl rfl ?_
      refine G_bipush (v := -3) dX9_joined_25 rfl ?_
      refine G_icmp_ne 38 dX9_joined_27 (by decide) (fun c3 => ?_) (fun c3 => ?_)
      · replace h := gif c3 h
        refine G_iload_n dX9_joined_38 rfl rfl ?_
        refine G_ldc dX9_joined_39 kc_X9_119 ?_
        refine G_iand dX9_joined_41 ?_
        obtain ⟨r4, hr5, h⟩ := gB_some h
        refine G_cS (mj := gJ6_bitCount_0f7a4) (As := [.int (x2 &&& (65535 : Int32))]) (rest := []) ml_X9_120 vJ6_bitCount_0f7a4 rfl rfl (Nat.le_of_ble_eq_true rfl) (by decide) (Nat.le_refl _) (Nat.le_refl _) dX9_joined_42 (q_J6_bitCount_0f7a4 hr5) ?_
        refine S_istore_n [some (.int x0), some (.int x1), some (.int x2), some (.int r4), none] dX9_joined_45 rfl (by decide) rfl ?_
        refine G_iload_n dX9_joined_46 rfl rfl ?_
        refine G_bipush (v := 100) dX9_joined_47 rfl ?_
        obtain ⟨ph6, t7, r8⟩ := gB_some h
        have jn9 : G l gX9_joined 3 0 0 (fun v' S' I' J' R' => v' = some (.int v) ∧ S' = gS0 ∧ I' = I ∧ J' = J ∧ R' = gR0 w) 0 0 130 [some (.int x0), some (.int x1), some (.int x2), some (.int r4), none] [.int ph6] gS0 I J (gR0 w) := by
          refine S_istore [some (.int x0), some (.int x1), some (.int x2), some (.int r4), some (.int ph6)] dX9_joined_130 (by decide) rfl ?_
          refine G_iload_n dX9_joined_132 rfl rfl ?_
          refine G_iconst (v := 1) dX9_joined_133 rfl ?_
          refine G_shl dX9_joined_134 ?_
          refine G_iload dX9_joined_135 rfl ?_
          refine G_if_eq 144 dX9_joined_137 (by decide) (fun c10 => ?_) (fun c10 => ?_)
          · replace r8 := git c10 r8
            refine G_iconst (v := 0) dX9_joined_144 rfl ?_
            refine G_ior dX9_joined_145 ?_
            refine G_iret rfl (Nat.le_refl _) (Nat.le_refl _) dX9_joined_146 ?_
            cases r8
            exact ⟨rfl, rfl, rfl, rfl, rfl⟩
          · replace r8 := gif c10 r8
            refine G_iconst (v := 1) dX9_joined_140 rfl ?_
            refine G_goto 145 dX9_joined_141 (by decide) ?_
            refine G_ior dX9_joined_145 ?_
            refine G_iret rfl (Nat.le_refl _) (Nat.le_refl _) dX9_joined_146 ?_
            cases r8
            exact ⟨rfl, rfl, rfl, rfl, rfl⟩
        refine G_icmp_ge 69 dX9_joined_49 (by decide) (fun c11 => ?_) (fun c11 => ?_)
        · replace t7 := git c11 t7
          refine G_iload_n dX9_joined_69 rfl rfl ?_
          refine G_sipush (v := 200) dX9_joined_70 rfl ?_
          refine G_icmp_ge 92 dX9_joined_73 (by decide) (fun c12 => ?_) (fun c12 => ?_)
          · replace t7 := git c12 t7
            refine G_iload_n dX9_joined_92 rfl rfl ?_
            refine G_sipush (v := 300) dX9_joined_93 rfl ?_
            refine G_icmp_ge 116 dX9_joined_96 (by decide) (fun c13 => ?_) (fun c13 => ?_)
            · replace t7 := git c13 t7
              refine G_iload_n dX9_joined_116 rfl rfl ?_
              refine G_iload_n dX9_joined_117 rfl rfl ?_
              refine G_sipush (v := 300) dX9_joined_118 rfl ?_
              refine G_isub dX9_joined_121 ?_
              refine G_icmp_ne 129 dX9_joined_122 (by decide) (fun c14 => ?_) (fun c14 => ?_)
              · replace t7 := gif c14 t7
                refine G_iconst (v := 0) dX9_joined_129 rfl ?_
                cases t7
                exact jn9
              · replace t7 := git c14 t7
                refine G_iconst (v := 1) dX9_joined_125 rfl ?_
                refine G_goto 130 dX9_joined_126 (by decide) ?_
                cases t7
                exact jn9
            · replace t7 := gif c13 t7
              refine G_iload_n dX9_joined_99 rfl rfl ?_
              refine G_iload_n dX9_joined_100 rfl rfl ?_
              refine G_sipush (v := 200) dX9_joined_101 rfl ?_
              refine G_isub dX9_joined_104 ?_
              refine G_icmp_le 112 dX9_joined_105 (by decide) (fun c15 => ?_) (fun c15 => ?_)
              · replace t7 := git c15 t7
                refine G_iconst (v := 0) dX9_joined_112 rfl ?_
                refine G_goto 130 dX9_joined_113 (by decide) ?_
                cases t7
                exact jn9
              · replace t7 := gif c15 t7
                refine G_iconst (v := 1) dX9_joined_108 rfl ?_
                refine G_goto 130 dX9_joined_109 (by decide) ?_
                cases t7
                exact jn9
          · replace t7 := gif c12 t7
            refine G_iload_n dX9_joined_76 rfl rfl ?_
            refine G_iload_n dX9_joined_77 rfl rfl ?_
            refine G_bipush (v := 100) dX9_joined_78 rfl ?_
            refine G_isub dX9_joined_80 ?_
            refine G_icmp_ge 88 dX9_joined_81 (by decide) (fun c16 => ?_) (fun c16 => ?_)
            · replace t7 := git c16 t7
              refine G_iconst (v := 0) dX9_joined_88 rfl ?_
              refine G_goto 130 dX9_joined_89 (by decide) ?_
              cases t7
              exact jn9
            · replace t7 := gif c16 t7
              refine G_iconst (v := 1) dX9_joined_84 rfl ?_
              refine G_goto 130 dX9_joined_85 (by decide) ?_
              cases t7
              exact jn9
        · replace t7 := gif c11 t7
          refine G_iload_n dX9_joined_52 rfl rfl ?_
          refine G_iload_n dX9_joined_53 rfl rfl ?_
          refine G_ushr dX9_joined_54 ?_
          refine G_iconst (v := 1) dX9_joined_55 rfl ?_
          refine G_iand dX9_joined_56 ?_
          refine G_iconst (v := 1) dX9_joined_57 rfl ?_
          refine G_icmp_ne 65 dX9_joined_58 (by decide) (fun c17 => ?_) (fun c17 => ?_)
          · replace t7 := gif c17 t7
            refine G_iconst (v := 0) dX9_joined_65 rfl ?_
            refine G_goto 130 dX9_joined_66 (by decide) ?_
            cases t7
            exact jn9
          · replace t7 := git c17 t7
            refine G_iconst (v := 1) dX9_joined_61 rfl ?_
            refine G_goto 130 dX9_joined_62 (by decide) ?_
            cases t7
            exact jn9
      · replace h := git c3 h
        refine G_iload_n dX9_joined_30 rfl rfl ?_
        refine G_iconst (v := 1) dX9_joined_31 rfl ?_
        refine G_ushr dX9_joined_32 ?_
        refine G_iload_n dX9_joined_33 rfl rfl ?_
        refine G_iconst (v := 1) dX9_joined_34 rfl ?_
        refine G_iand dX9_joined_35 ?_
        refine G_ior dX9_joined_36 ?_
        refine G_iret rfl (Nat.le_refl _) (Nat.le_refl _) dX9_joined_37 ?_
        cases h
        exact ⟨rfl, rfl, rfl, rfl, rfl⟩
    · replace h := git c2 h
      refine G_iload_n dX9_joined_15 rfl rfl ?_
      refine G_iconst (v := 1) dX9_joined_16 rfl ?_
      refine G_ushr dX9_joined_17 ?_
      refine G_iload_n dX9_joined_18 rfl rfl ?_
      refine G_bipush (v := -2) dX9_joined_19 rfl ?_
      refine G_ior dX9_joined_21 ?_
      refine G_iand dX9_joined_22 ?_
      refine G_iret rfl (Nat.le_refl _) (Nat.le_refl _) dX9_joined_23 ?_
      cases h
      exact ⟨rfl, rfl, rfl, rfl, rfl⟩
  · replace h := git c1 h
    refine G_iload_n dX9_joined_5 rfl rfl ?_
    refine G_iconst (v := 1) dX9_joined_6 rfl ?_
    refine G_ixor dX9_joined_7 ?_
    refine G_iret rfl (Nat.le_refl _) (Nat.le_refl _) dX9_joined_8 ?_
    cases h
    exact ⟨rfl, rfl, rfl, rfl, rfl⟩
def p_X9_firstHolding_42 (K2 : Int32 → Option Int32) (I : gIt) (a0 : Nat) (x1 : Int32) (x2 : Int32) (x3 : Int32) : Nat → Int32 → Int32 → Option Int32
  | 0, _, _ => none
  | n + 1, x4, x5 =>
    gck (gin x2 8) (
    if (I ((a0 + 2)) (x2).toNatClampNeg) ≤ x5 then
    if (x4 &&& (1 : Int32)) = (1 : Int32) then
    some x2
    else
    K2 (x2 + (1 : Int32))
    else
    if (nI 100) ≤ x5 then
    if (x4 &&& (1 : Int32)) = (1 : Int32) then
    some x2
    else
    K2 (x2 + (1 : Int32))
    else
    gck (gin x5 100) (
    gB (p_X9_joined x4 (I ((a0 + 5)) (x5).toNatClampNeg) x1) fun r13 =>
    p_X9_firstHolding_42 K2 I a0 x1 x2 x3 n r13 (x5 + (1 : Int32))))
def p_X9_firstHolding_2 (I : gIt) (a0 : Nat) (x1 : Int32) : Nat → Int32 → Option Int32
  | 0, _ => none
  | n + 1, x2 =>
    if (I a0 8) ≤ x2 then
    some (-1 : Int32)
    else
    if (8 : Int32) ≤ x2 then
    some (-1 : Int32)
    else
    gB (p_X9_codeFrom I a0 x2) fun r3 =>
    gck (gin x2 8) (
    if r3 = (I ((a0 + 2)) (x2).toNatClampNeg) then
    p_X9_firstHolding_42 (fun x2 => p_X9_firstHolding_2 I a0 x1 n x2) I a0 x1 x2 r3 gFu (1 : Int32) r3
    else
    p_X9_firstHolding_42 (fun x2 => p_X9_firstHolding_2 I a0 x1 n x2) I a0 x1 x2 r3 gFu (0 : Int32) r3)
def p_X9_firstHolding (I : gIt) (a0 : Nat) (x1 : Int32) : Option Int32 :=
  p_X9_firstHolding_2 I a0 x1 gFu (0 : Int32)
set_option maxRecDepth 20000 in
theorem q_X9_firstHolding_42 {l : Launch} {v : Int32} {J : gJt} {w : Bool} {K2 : Int32 → Option Int32} {I : gIt} {a0 : Nat} {x1 : Int32} {x2 : Int32} {x3 : Int32} (hK2 : ∀ (x2 : Int32), K2 x2 = some v → G l gX9_firstHolding 4 0 0 (fun v' S' I' J' R' => v' = some (.int v) ∧ S' = gS0 ∧ I' = I ∧ J' = J ∧ R' = gR0 w) 0 0 2 [some (.ref a0), some (.int x1), some (.int x2), none, none, none] [] gS0 I J (gR0 w)) (ha0 : gset a0) : ∀ (n : Nat) (x4 : Int32) (x5 : Int32), p_X9_firstHolding_42 K2 I a0 x1 x2 x3 n x4 x5 = some v → G l gX9_firstHolding 4 0 0 (fun v' S' I' J' R' => v' = some (.int v) ∧ S' = gS0 ∧ I' = I ∧ J' = J ∧ R' = gR0 w) 0 0 42 [some (.ref a0), some (.int x1), some (.int x2), some (.int x3), some (.int x4), some (.int x5)] [] gS0 I J (gR0 w) := by
  intro n
  induction n with
  | zero => intro _ _ h; cases h
  | succ n ih =>
    intro x4 x5 h
    rw [p_X9_firstHolding_42] at h
    refine G_iload dX9_firstHolding_42 rfl ?_
    refine G_aload_n dX9_firstHolding_44 rfl rfl ?_
    refine G_getR fl_X9_15 (gset_sl ha0) (gset_sk ha0) rfl (gset_r1 _ ha0) dX9_firstHolding_45 ?_
    refine G_iload_n dX9_firstHolding_48 rfl rfl ?_
    obtain ⟨b7, h⟩ := gck_some h
    refine G_iald (gset_l1 ha0) (gset_s1 ha0) (gin_in b7) dX9_firstHolding_49 ?_
    refine G_icmp_ge 84 dX9_firstHolding_50 (by decide) (fun c8 => ?_) (fun c8 => ?_)
    · replace h := git c8 h
      refine G_iload dX9_firstHolding_84 rfl ?_
      refine G_iconst (v := 1) dX9_firstHolding_86 rfl ?_
      refine G_iand dX9_firstHolding_87 ?_
      refine G_iconst (v := 1) dX9_firstHolding_88 rfl ?_
      refine G_icmp_ne 94 dX9_firstHolding_89 (by decide) (fun c9 => ?_) (fun c9 => ?_)
      · replace h := gif c9 h
        refine S_iinc (v := (1 : Int32)) [some (.ref a0), some (.int x1), some (.int (x2 + (1 : Int32))), some (.int x3), some (.int x4), some (.int x5)] dX9_firstHolding_94 rfl rfl (by decide) rfl ?_
        refine G_goto 2 dX9_firstHolding_97 (by decide) ?_
        refine G_sub [some (.ref a0), some (.int x1), some (.int (x2 + (1 : Int32))), none, none, none] ⟨rfl, rfl, rfl, trivial⟩ ?_
        exact hK2 _ h
      · replace h := git c9 h
        refine G_iload_n dX9_firstHolding_92 rfl rfl ?_
        refine G_iret rfl (Nat.le_refl _) (Nat.le_refl _) dX9_firstHolding_93 ?_
        cases h
        exact ⟨rfl, rfl, rfl, rfl, rfl⟩
    · replace h := gif c8 h
      refine G_iload dX9_firstHolding_53 rfl ?_
      refine G_aload_n dX9_firstHolding_55 rfl rfl ?_
      refine G_getR fl_X9_24 (gset_sl ha0) (gset_sk ha0) rfl (gset_r4 _ ha0) dX9_firstHolding_56 ?_
      refine G_alen (gset_l4 ha0) (gset_s4 ha0) (by decide) (by decide) dX9_firstHolding_59 ?_
      refine G_icmp_ge 84 dX9_firstHolding_60 (by decide) (fun c10 => ?_) (fun c10 => ?_)
      · replace h := git c10 h
        refine G_iload dX9_firstHolding_84 rfl ?_
        refine G_iconst (v := 1) dX9_firstHolding_86 rfl ?_
        refine G_iand dX9_firstHolding_87 ?_
        refine G_iconst (v := 1) dX9_firstHolding_88 rfl ?_
        refine G_icmp_ne 94 dX9_firstHolding_89 (by decide) (fun c11 => ?_) (fun c11 => ?_)
        · replace h := gif c11 h
          refine S_iinc (v := (1 : Int32)) [some (.ref a0), some (.int x1), some (.int (x2 + (1 : Int32))), some (.int x3), some (.int x4), some (.int x5)] dX9_firstHolding_94 rfl rfl (by decide) rfl ?_
          refine G_goto 2 dX9_firstHolding_97 (by decide) ?_
          refine G_sub [some (.ref a0), some (.int x1), some (.int (x2 + (1 : Int32))), none, none, none] ⟨rfl, rfl, rfl, trivial⟩ ?_
          exact hK2 _ h
        · replace h := git c11 h
          refine G_iload_n dX9_firstHolding_92 rfl rfl ?_
          refine G_iret rfl (Nat.le_refl _) (Nat.le_refl _) dX9_firstHolding_93 ?_
          cases h
          exact ⟨rfl, rfl, rfl, rfl, rfl⟩
      · replace h := gif c10 h
        refine G_iload dX9_firstHolding_63 rfl ?_
        refine G_aload_n dX9_firstHolding_65 rfl rfl ?_
        refine G_getR fl_X9_24 (gset_sl ha0) (gset_sk ha0) rfl (gset_r4 _ ha0) dX9_firstHolding_66 ?_
        refine G_iload dX9_firstHolding_69 rfl ?_
        obtain ⟨b12, h⟩ := gck_some h
        refine G_iald (gset_l4 ha0) (gset_s4 ha0) (gin_in b12) dX9_firstHolding_71 ?_
        refine G_iload_n dX9_firstHolding_72 rfl rfl ?_
        obtain ⟨r13, hr14, h⟩ := gB_some h
        refine G_cS (mj := gX9_joined) (As := [.int x4, .int (I ((a0 + 5)) (x5).toNatClampNeg), .int x1]) (rest := []) ml_X9_115 vX9_joined rfl rfl (Nat.le_of_ble_eq_true rfl) (by decide) (Nat.le_refl _) (Nat.le_refl _) dX9_firstHolding_73 (q_X9_joined hr14) ?_
        refine S_istore [some (.ref a0), some (.int x1), some (.int x2), some (.int x3), some (.int r13), some (.int x5)] dX9_firstHolding_76 (by decide) rfl ?_
        refine S_iinc (v := (1 : Int32)) [some (.ref a0), some (.int x1), some (.int x2), some (.int x3), some (.int r13), some (.int (x5 + (1 : Int32)))] dX9_firstHolding_78 rfl rfl (by decide) rfl ?_
        refine G_goto 42 dX9_firstHolding_81 (by decide) ?_
        exact ih _ _ h
set_option maxRecDepth 20000 in
theorem q_X9_firstHolding_2 {l : Launch} {v : Int32} {J : gJt} {w : Bool} {I : gIt} {a0 : Nat} {x1 : Int32} (ha0 : gset a0) : ∀ (n : Nat) (x2 : Int32), p_X9_firstHolding_2 I a0 x1 n x2 = some v → G l gX9_firstHolding 4 0 0 (fun v' S' I' J' R' => v' = some (.int v) ∧ S' = gS0 ∧ I' = I ∧ J' = J ∧ R' = gR0 w) 0 0 2 [some (.ref a0), some (.int x1), some (.int x2), none, none, none] [] gS0 I J (gR0 w) := by
  intro n
  induction n with
  | zero => intro _ h; cases h
  | succ n ih =>
    intro x2 h
    rw [p_X9_firstHolding_2] at h
    refine G_iload_n dX9_firstHolding_2 rfl rfl ?_
    refine G_aload_n dX9_firstHolding_3 rfl rfl ?_
    refine G_getI fl_X9_37 (gset_sl ha0) (gset_sk ha0) rfl dX9_firstHolding_4 ?_
    refine G_icmp_ge 100 dX9_firstHolding_7 (by decide) (fun c1 => ?_) (fun c1 => ?_)
    · replace h := git c1 h
      refine G_iconst (v := -1) dX9_firstHolding_100 rfl ?_
      refine G_iret rfl (Nat.le_refl _) (Nat.le_refl _) dX9_firstHolding_101 ?_
      cases h
      exact ⟨rfl, rfl, rfl, rfl, rfl⟩
    · replace h := gif c1 h
      refine G_iload_n dX9_firstHolding_10 rfl rfl ?_
      refine G_bipush (v := 8) dX9_firstHolding_11 rfl ?_
      refine G_icmp_ge 100 dX9_firstHolding_13 (by decide) (fun c2 => ?_) (fun c2 => ?_)
      · replace h := git c2 h
        refine G_iconst (v := -1) dX9_firstHolding_100 rfl ?_
        refine G_iret rfl (Nat.le_refl _) (Nat.le_refl _) dX9_firstHolding_101 ?_
        cases h
        exact ⟨rfl, rfl, rfl, rfl, rfl⟩
      · replace h := gif c2 h
        refine G_aload_n dX9_firstHolding_16 rfl rfl ?_
        refine G_iload_n dX9_firstHolding_17 rfl rfl ?_
        obtain ⟨r3, hr4, h⟩ := gB_some h
        refine G_cV (mj := gX9_codeFrom) (As := [.int x2]) (rest := []) ml_X9_112 vX9_codeFrom (gset_sl ha0) (gset_sk ha0) (by decide) rfl rfl rfl (Nat.le_of_ble_eq_true rfl) (by decide) (Nat.le_refl _) (Nat.le_refl _) dX9_firstHolding_18 (q_X9_codeFrom ha0 hr4) ?_
        refine S_istore_n [some (.ref a0), some (.int x1), some (.int x2), some (.int r3), none, none] dX9_firstHolding_21 rfl (by decide) rfl ?_
        refine G_iload_n dX9_firstHolding_22 rfl rfl ?_
        refine G_aload_n dX9_firstHolding_23 rfl rfl ?_
        refine G_getR fl_X9_15 (gset_sl ha0) (gset_sk ha0) rfl (gset_r1 _ ha0) dX9_firstHolding_24 ?_
        refine G_iload_n dX9_firstHolding_27 rfl rfl ?_
        obtain ⟨b5, h⟩ := gck_some h
        refine G_iald (gset_l1 ha0) (gset_s1 ha0) (gin_in b5) dX9_firstHolding_28 ?_
        refine G_icmp_ne 36 dX9_firstHolding_29 (by decide) (fun c6 => ?_) (fun c6 => ?_)
        · replace h := gif c6 h
          refine G_iconst (v := 0) dX9_firstHolding_36 rfl ?_
          refine S_istore [some (.ref a0), some (.int x1), some (.int x2), some (.int r3), some (.int (0 : Int32)), none] dX9_firstHolding_37 (by decide) rfl ?_
          refine G_iload_n dX9_firstHolding_39 rfl rfl ?_
          refine S_istore [some (.ref a0), some (.int x1), some (.int x2), some (.int r3), some (.int (0 : Int32)), some (.int r3)] dX9_firstHolding_40 (by decide) rfl ?_
          exact q_X9_firstHolding_42 (fun x2' hq => ih x2' hq) ha0 gFu _ _ h
        · replace h := git c6 h
          refine G_iconst (v := 1) dX9_firstHolding_32 rfl ?_
          refine G_goto 37 dX9_firstHolding_33 (by decide) ?_
          refine S_istore [some (.ref a0), some (.int x1), some (.int x2), some (.int r3), some (.int (1 : Int32)), none] dX9_firstHolding_37 (by decide) rfl ?_
          refine G_iload_n dX9_firstHolding_39 rfl rfl ?_
          refine S_istore [some (.ref a0), some (.int x1), some (.int x2), some (.int r3), some (.int (1 : Int32)), some (.int r3)] dX9_firstHolding_40 (by decide) rfl ?_
          exact q_X9_firstHolding_42 (fun x2' hq => ih x2' hq) ha0 gFu _ _ h
set_option maxRecDepth 20000 in
theorem q_X9_firstHolding {l : Launch} {I : gIt} {J : gJt} {w : Bool} {a0 : Nat} {x1 : Int32} {v : Int32} (ha0 : gset a0) (h : p_X9_firstHolding I a0 x1 = some v) : Cn l gX9_firstHolding 4 0 0 [.ref a0, .int x1] gS0 I J (gR0 w) (fun v' S' I' J' R' => v' = some (.int v) ∧ S' = gS0 ∧ I' = I ∧ J' = J ∧ R' = gR0 w) := by
  refine Cn.of [some (.ref a0), some (.int x1), none, none, none, none] (by decide) rfl (Nat.le_of_ble_eq_true rfl) ?_
  rw [p_X9_firstHolding] at h
  refine G_iconst (v := 0) dX9_firstHolding_0 rfl ?_
  refine S_istore_n [some (.ref a0), some (.int x1), some (.int (0 : Int32)), none, none, none] dX9_firstHolding_1 rfl (by decide) rfl ?_
  exact q_X9_firstHolding_2  ha0 gFu _ h
def p_X9_shareFrom (I : gIt) (a0 : Nat) (x1 : Int32) : Option Int32 :=
  if x1 ≤ 0 then
  some (0 : Int32)
  else
  if (8 : Int32) < x1 then
  some (0 : Int32)
  else
  gck (gin (x1 - (1 : Int32)) 8) (
  some (I ((a0 + 1)) ((x1 - (1 : Int32))).toNatClampNeg))
set_option maxRecDepth 20000 in
theorem q_X9_shareFrom {l : Launch} {I : gIt} {J : gJt} {w : Bool} {a0 : Nat} {x1 : Int32} {v : Int32} (ha0 : gset a0) (h : p_X9_shareFrom I a0 x1 = some v) : Cn l gX9_shareFrom 2 0 0 [.ref a0, .int x1] gS0 I J (gR0 w) (fun v' S' I' J' R' => v' = some (.int v) ∧ S' = gS0 ∧ I' = I ∧ J' = J ∧ R' = gR0 w) := by
  refine Cn.of [some (.ref a0), some (.int x1)] (by decide) rfl (Nat.le_of_ble_eq_true rfl) ?_
  rw [p_X9_shareFrom] at h
  refine G_iload_n dX9_shareFrom_0 rfl rfl ?_
  refine G_if_le 21 dX9_shareFrom_1 (by decide) (fun c1 => ?_) (fun c1 => ?_)
  · replace h := git c1 h
    refine G_iconst (v := 0) dX9_shareFrom_21 rfl ?_
    refine G_iret rfl (Nat.le_refl _) (Nat.le_refl _) dX9_shareFrom_22 ?_
    cases h
    exact ⟨rfl, rfl, rfl, rfl, rfl⟩
  · replace h := gif c1 h
    refine G_iload_n dX9_shareFrom_4 rfl rfl ?_
    refine G_bipush (v := 8) dX9_shareFrom_5 rfl ?_
    refine G_icmp_gt 21 dX9_shareFrom_7 (by decide) (fun c2 => ?_) (fun c2 => ?_)
    · replace h := git c2 h
      refine G_iconst (v := 0) dX9_shareFrom_21 rfl ?_
      refine G_iret rfl (Nat.le_refl _) (Nat.le_refl _) dX9_shareFrom_22 ?_
      cases h
      exact ⟨rfl, rfl, rfl, rfl, rfl⟩
    · replace h := gif c2 h
      refine G_aload_n dX9_shareFrom_10 rfl rfl ?_
      refine G_getR fl_X9_9 (gset_sl ha0) (gset_sk ha0) rfl (gset_r0 _ ha0) dX9_shareFrom_11 ?_
      refine G_iload_n dX9_shareFrom_14 rfl rfl ?_
      refine G_iconst (v := 1) dX9_shareFrom_15 rfl ?_
      refine G_isub dX9_shareFrom_16 ?_
      obtain ⟨b3, h⟩ := gck_some h
      refine G_iald (gset_l0 ha0) (gset_s0 ha0) (gin_in b3) dX9_shareFrom_17 ?_
      refine G_goto 22 dX9_shareFrom_18 (by decide) ?_
      refine G_iret rfl (Nat.le_refl _) (Nat.le_refl _) dX9_shareFrom_22 ?_
      cases h
      exact ⟨rfl, rfl, rfl, rfl, rfl⟩
def p_X9_begin (I : gIt) (a0 : Nat) (x1 : Int32) (x2 : Int32) (x3 : Int32) : Option gIt :=
  gL (gu2 I a0 5 x1) fun I1 =>
  gL (gu2 I1 a0 6 x2) fun I2 =>
  gL (gu2 I2 a0 7 x3) fun I3 =>
  gL (gu2 I3 a0 8 (0 : Int32)) fun I4 =>
  gL (gu2 I4 a0 9 (0 : Int32)) fun I5 =>
  gL (gu2 I5 a0 10 (0 : Int32)) fun I6 =>
  gL (gu2 I6 a0 11 (0 : Int32)) fun I7 =>
  gL (gu2 I7 a0 12 (0 : Int32)) fun I8 =>
  some I8
set_option maxRecDepth 20000 in
theorem q_X9_begin {l : Launch} {I : gIt} {J : gJt} {w : Bool} {a0 : Nat} {x1 : Int32} {x2 : Int32} {x3 : Int32} {v : gIt} (ha0 : gset a0) (h : p_X9_begin I a0 x1 x2 x3 = some v) : Cn l gX9_begin 2 0 0 [.ref a0, .int x1, .int x2, .int x3] gS0 I J (gR0 w) (fun v' S' I' J' R' => v' = none ∧ S' = gS0 ∧ I' = v ∧ J' = J ∧ R' = gR0 w) := by
  refine Cn.of [some (.ref a0), some (.int x1), some (.int x2), some (.int x3)] (by decide) rfl (Nat.le_of_ble_eq_true rfl) ?_
  rw [p_X9_begin] at h
  refine G_aload_n dX9_begin_0 rfl rfl ?_
  refine G_iload_n dX9_begin_1 rfl rfl ?_
  refine G_putI fl_X9_27 (gset_sl ha0) (gset_sk ha0) rfl rfl ⟨rfl, rfl⟩ dX9_begin_2 ?_
  refine G_mI fun I1 eI1 => ?_
  replace h := gL_some eI1 h
  refine G_aload_n dX9_begin_5 rfl rfl ?_
  refine G_iload_n dX9_begin_6 rfl rfl ?_
  refine G_putI fl_X9_31 (gset_sl ha0) (gset_sk ha0) rfl rfl ⟨rfl, rfl⟩ dX9_begin_7 ?_
  refine G_mI fun I2 eI2 => ?_
  replace h := gL_some eI2 h
  refine G_aload_n dX9_begin_10 rfl rfl ?_
  refine G_iload_n dX9_begin_11 rfl rfl ?_
  refine G_putI fl_X9_34 (gset_sl ha0) (gset_sk ha0) rfl rfl ⟨rfl, rfl⟩ dX9_begin_12 ?_
  refine G_mI fun I3 eI3 => ?_
  replace h := gL_some eI3 h
  refine G_aload_n dX9_begin_15 rfl rfl ?_
  refine G_iconst (v := 0) dX9_begin_16 rfl ?_
  refine G_putI fl_X9_37 (gset_sl ha0) (gset_sk ha0) rfl rfl ⟨rfl, rfl⟩ dX9_begin_17 ?_
  refine G_mI fun I4 eI4 => ?_
  replace h := gL_some eI4 h
  refine G_aload_n dX9_begin_20 rfl rfl ?_
  refine G_iconst (v := 0) dX9_begin_21 rfl ?_
  refine G_putI fl_X9_40 (gset_sl ha0) (gset_sk ha0) rfl rfl ⟨rfl, rfl⟩ dX9_begin_22 ?_
  refine G_mI fun I5 eI5 => ?_
  replace h := gL_some eI5 h
  refine G_aload_n dX9_begin_25 rfl rfl ?_
  refine G_iconst (v := 0) dX9_begin_26 rfl ?_
  refine G_putI fl_X9_43 (gset_sl ha0) (gset_sk ha0) rfl rfl ⟨rfl, rfl⟩ dX9_begin_27 ?_
  refine G_mI fun I6 eI6 => ?_
  replace h := gL_some eI6 h
  refine G_aload_n dX9_begin_30 rfl rfl ?_
  refine G_iconst (v := 0) dX9_begin_31 rfl ?_
  refine G_putI fl_X9_46 (gset_sl ha0) (gset_sk ha0) rfl rfl ⟨rfl, rfl⟩ dX9_begin_32 ?_
  refine G_mI fun I7 eI7 => ?_
  replace h := gL_some eI7 h
  refine G_aload_n dX9_begin_35 rfl rfl ?_
  refine G_iconst (v := 0) dX9_begin_36 rfl ?_
  refine G_putI fl_X9_49 (gset_sl ha0) (gset_sk ha0) rfl rfl ⟨rfl, rfl⟩ dX9_begin_37 ?_
  refine G_mI fun I8 eI8 => ?_
  replace h := gL_some eI8 h
  refine G_vret rfl (Nat.le_refl _) (Nat.le_refl _) dX9_begin_40 ?_
  cases h
  exact ⟨rfl, rfl, rfl, rfl, rfl⟩
def p_X9_opensTaker (I : gIt) : Option Int32 :=
  gB (p_X10_peek I) fun r1 =>
  if r1 = (42 : Int32) then
  some (1 : Int32)
  else
  gB (p_X10_letter I) fun r4 =>
  if r4 = (-1 : Int32) then
  some (0 : Int32)
  else
  some (1 : Int32)
set_option maxRecDepth 20000 in
theorem q_X9_opensTaker {l : Launch} {I : gIt} {J : gJt} {w : Bool} {v : Int32} (h : p_X9_opensTaker I = some v) : Cn l gX9_opensTaker 4 0 0 [.ref 11] gS0 I J (gR0 w) (fun v' S' I' J' R' => v' = some (.int v) ∧ S' = gS0 ∧ I' = I ∧ J' = J ∧ R' = gR0 w) := by
  refine Cn.of [some (.ref 11)] (by decide) rfl (Nat.le_of_ble_eq_true rfl) ?_
  rw [p_X9_opensTaker] at h
  refine G_aload_n dX9_opensTaker_0 rfl rfl ?_
  obtain ⟨r1, hr2, h⟩ := gB_some h
  refine G_cV (mj := gX10_peek) (As := []) (rest := []) ml_X9_75 vX10_peek sl_11 sk_11 (by decide) rfl rfl rfl (Nat.le_of_ble_eq_true rfl) (by decide) (Nat.le_refl _) (Nat.le_refl _) dX9_opensTaker_1 (q_X10_peek hr2) ?_
  refine G_bipush (v := 42) dX9_opensTaker_4 rfl ?_
  refine G_icmp_eq 17 dX9_opensTaker_6 (by decide) (fun c3 => ?_) (fun c3 => ?_)
  · replace h := git c3 h
    refine G_iconst (v := 1) dX9_opensTaker_17 rfl ?_
    refine G_goto 22 dX9_opensTaker_18 (by decide) ?_
    refine G_zret rfl (Or.inr rfl) (Nat.le_refl _) (Nat.le_refl _) dX9_opensTaker_22 ?_
    cases h
    exact ⟨rfl, rfl, rfl, rfl, rfl⟩
  · replace h := gif c3 h
    refine G_aload_n dX9_opensTaker_9 rfl rfl ?_
    obtain ⟨r4, hr5, h⟩ := gB_some h
    refine G_cV (mj := gX10_letter) (As := []) (rest := []) ml_X9_79 vX10_letter sl_11 sk_11 (by decide) rfl rfl rfl (Nat.le_of_ble_eq_true rfl) (by decide) (Nat.le_refl _) (Nat.le_refl _) dX9_opensTaker_10 (q_X10_letter hr5) ?_
    refine G_iconst (v := -1) dX9_opensTaker_13 rfl ?_
    refine G_icmp_eq 21 dX9_opensTaker_14 (by decide) (fun c6 => ?_) (fun c6 => ?_)
    · replace h := git c6 h
      refine G_iconst (v := 0) dX9_opensTaker_21 rfl ?_
      refine G_zret rfl (Or.inl rfl) (Nat.le_refl _) (Nat.le_refl _) dX9_opensTaker_22 ?_
      cases h
      exact ⟨rfl, rfl, rfl, rfl, rfl⟩
    · replace h := gif c6 h
      refine G_iconst (v := 1) dX9_opensTaker_17 rfl ?_
      refine G_goto 22 dX9_opensTaker_18 (by decide) ?_
      refine G_zret rfl (Or.inr rfl) (Nat.le_refl _) (Nat.le_refl _) dX9_opensTaker_22 ?_
      cases h
      exact ⟨rfl, rfl, rfl, rfl, rfl⟩
def p_X9_readWho (I : gIt) (a0 : Nat) : Option (Int32 × gIt) :=
  gB (p_X10_take I (42 : Int32)) fun r1 =>
  gB (p_X10_letter r1.2) fun r3 =>
  if r3 = (-1 : Int32) then
  gB (p_X10_refuse r1.2 (1 : Int32)) fun r24 =>
  some ((-1 : Int32), r24.2)
  else
  if r1.1 = 0 then
  if r3 = (r1.2 a0 6) then
  gB (p_X10_refuse r1.2 (2 : Int32)) fun r22 =>
  some ((-1 : Int32), r22.2)
  else
  gL (((r1.2 11 3) + (1 : Int32))) fun z15 =>
  gL (gu2 r1.2 11 3 z15) fun I16 =>
  if r1.1 = 0 then
  gL (((I16 a0 11) ||| (gshl (1 : Int32) r3))) fun z18 =>
  gL (gu2 I16 a0 11 z18) fun I19 =>
  some (r3, I19)
  else
  gL (((I16 a0 12) ||| (gshl (1 : Int32) r3))) fun z20 =>
  gL (gu2 I16 a0 12 z20) fun I21 =>
  some (((16 : Int32) + r3), I21)
  else
  gL (((r1.2 11 3) + (1 : Int32))) fun z7 =>
  gL (gu2 r1.2 11 3 z7) fun I8 =>
  if r1.1 = 0 then
  gL (((I8 a0 11) ||| (gshl (1 : Int32) r3))) fun z10 =>
  gL (gu2 I8 a0 11 z10) fun I11 =>
  some (r3, I11)
  else
  gL (((I8 a0 12) ||| (gshl (1 : Int32) r3))) fun z12 =>
  gL (gu2 I8 a0 12 z12) fun I13 =>
  some (((16 : Int32) + r3), I13)
set_option maxRecDepth 20000 in
theorem q_X9_readWho {l : Launch} {I : gIt} {J : gJt} {w : Bool} {a0 : Nat} {v : (Int32 × gIt)} (ha0 : gset a0) (h : p_X9_readWho I a0 = some v) : Cn l gX9_readWho 4 0 0 [.ref a0, .ref 11] gS0 I J (gR0 w) (fun v' S' I' J' R' => v' = some (.int v.1) ∧ S' = gS0 ∧ I' = v.2 ∧ J' = J ∧ R' = gR0 w) := by
  refine Cn.of [some (.ref a0), some (.ref 11), none, none] (by decide) rfl (Nat.le_of_ble_eq_true rfl) ?_
  rw [p_X9_readWho] at h
  refine G_aload_n dX9_readWho_0 rfl rfl ?_
  refine G_bipush (v := 42) dX9_readWho_1 rfl ?_
  obtain ⟨r1, hr2, h⟩ := gB_some h
  refine G_cV (mj := gX10_take) (As := [.int (42 : Int32)]) (rest := []) ml_X9_65 vX10_take sl_11 sk_11 (by decide) rfl rfl rfl (Nat.le_of_ble_eq_true rfl) (by decide) (Nat.le_refl _) (Nat.le_refl _) dX9_readWho_3 (q_X10_take hr2) ?_
  refine S_istore_n [some (.ref a0), some (.ref 11), some (.int r1.1), none] dX9_readWho_6 rfl (by decide) rfl ?_
  refine G_aload_n dX9_readWho_7 rfl rfl ?_
  obtain ⟨r3, hr4, h⟩ := gB_some h
  refine G_cV (mj := gX10_letter) (As := []) (rest := []) ml_X9_79 vX10_letter sl_11 sk_11 (by decide) rfl rfl rfl (Nat.le_of_ble_eq_true rfl) (by decide) (Nat.le_refl _) (Nat.le_refl _) dX9_readWho_8 (q_X10_letter hr4) ?_
  refine S_istore_n [some (.ref a0), some (.ref 11), some (.int r1.1), some (.int r3)] dX9_readWho_11 rfl (by decide) rfl ?_
  refine G_iload_n dX9_readWho_12 rfl rfl ?_
  refine G_iconst (v := -1) dX9_readWho_13 rfl ?_
  refine G_icmp_ne 25 dX9_readWho_14 (by decide) (fun c5 => ?_) (fun c5 => ?_)
  · replace h := gif c5 h
    refine G_iload_n dX9_readWho_25 rfl rfl ?_
    refine G_if_ne 45 dX9_readWho_26 (by decide) (fun c6 => ?_) (fun c6 => ?_)
    · replace h := gif c6 h
      refine G_aload_n dX9_readWho_45 rfl rfl ?_
      refine G_dup dX9_readWho_46 rfl ?_
      refine G_getI fl_X9_93 sl_11 sk_11 rfl dX9_readWho_47 ?_
      refine G_iconst (v := 1) dX9_readWho_50 rfl ?_
      refine G_iadd dX9_readWho_51 ?_
      refine G_nI fun z7 ez7 => ?_
      replace h := gL_some ez7 h
      refine G_putI fl_X9_93 sl_11 sk_11 rfl rfl ⟨rfl, rfl⟩ dX9_readWho_52 ?_
      refine G_mI fun I8 eI8 => ?_
      replace h := gL_some eI8 h
      refine G_iload_n dX9_readWho_55 rfl rfl ?_
      refine G_if_eq 76 dX9_readWho_56 (by decide) (fun c9 => ?_) (fun c9 => ?_)
      · replace h := git c9 h
        refine G_aload_n dX9_readWho_76 rfl rfl ?_
        refine G_dup dX9_readWho_77 rfl ?_
        refine G_getI fl_X9_46 (gset_sl ha0) (gset_sk ha0) rfl dX9_readWho_78 ?_
        refine G_iconst (v := 1) dX9_readWho_81 rfl ?_
        refine G_iload_n dX9_readWho_82 rfl rfl ?_
        refine G_shl dX9_readWho_83 ?_
        refine G_ior dX9_readWho_84 ?_
        refine G_nI fun z10 ez10 => ?_
        replace h := gL_some ez10 h
        refine G_putI fl_X9_46 (gset_sl ha0) (gset_sk ha0) rfl rfl ⟨rfl, rfl⟩ dX9_readWho_85 ?_
        refine G_mI fun I11 eI11 => ?_
        replace h := gL_some eI11 h
        refine G_iload_n dX9_readWho_88 rfl rfl ?_
        refine G_iret rfl (Nat.le_refl _) (Nat.le_refl _) dX9_readWho_89 ?_
        cases h
        exact ⟨rfl, rfl, rfl, rfl, rfl⟩
      · replace h := gif c9 h
        refine G_aload_n dX9_readWho_59 rfl rfl ?_
        refine G_dup dX9_readWho_60 rfl ?_
        refine G_getI fl_X9_49 (gset_sl ha0) (gset_sk ha0) rfl dX9_readWho_61 ?_
        refine G_iconst (v := 1) dX9_readWho_64 rfl ?_
        refine G_iload_n dX9_readWho_65 rfl rfl ?_
        refine G_shl dX9_readWho_66 ?_
        refine G_ior dX9_readWho_67 ?_
        refine G_nI fun z12 ez12 => ?_
        replace h := gL_some ez12 h
        refine G_putI fl_X9_49 (gset_sl ha0) (gset_sk ha0) rfl rfl ⟨rfl, rfl⟩ dX9_readWho_68 ?_
        refine G_mI fun I13 eI13 => ?_
        replace h := gL_some eI13 h
        refine G_bipush (v := 16) dX9_readWho_71 rfl ?_
        refine G_iload_n dX9_readWho_73 rfl rfl ?_
        refine G_iadd dX9_readWho_74 ?_
        refine G_iret rfl (Nat.le_refl _) (Nat.le_refl _) dX9_readWho_75 ?_
        cases h
        exact ⟨rfl, rfl, rfl, rfl, rfl⟩
    · replace h := git c6 h
      refine G_iload_n dX9_readWho_29 rfl rfl ?_
      refine G_aload_n dX9_readWho_30 rfl rfl ?_
      refine G_getI fl_X9_31 (gset_sl ha0) (gset_sk ha0) rfl dX9_readWho_31 ?_
      refine G_icmp_ne 45 dX9_readWho_34 (by decide) (fun c14 => ?_) (fun c14 => ?_)
      · replace h := gif c14 h
        refine G_aload_n dX9_readWho_45 rfl rfl ?_
        refine G_dup dX9_readWho_46 rfl ?_
        refine G_getI fl_X9_93 sl_11 sk_11 rfl dX9_readWho_47 ?_
        refine G_iconst (v := 1) dX9_readWho_50 rfl ?_
        refine G_iadd dX9_readWho_51 ?_
        refine G_nI fun z15 ez15 => ?_
        replace h := gL_some ez15 h
        refine G_putI fl_X9_93 sl_11 sk_11 rfl rfl ⟨rfl, rfl⟩ dX9_readWho_52 ?_
        refine G_mI fun I16 eI16 => ?_
        replace h := gL_some eI16 h
        refine G_iload_n dX9_readWho_55 rfl rfl ?_
        refine G_if_eq 76 dX9_readWho_56 (by decide) (fun c17 => ?_) (fun c17 => ?_)
        · replace h := git c17 h
          refine G_aload_n dX9_readWho_76 rfl rfl ?_
          refine G_dup dX9_readWho_77 rfl ?_
          refine G_getI fl_X9_46 (gset_sl ha0) (gset_sk ha0) rfl dX9_readWho_78 ?_
          refine G_iconst (v := 1) dX9_readWho_81 rfl ?_
          refine G_iload_n dX9_readWho_82 rfl rfl ?_
          refine G_shl dX9_readWho_83 ?_
          refine G_ior dX9_readWho_84 ?_
          refine G_nI fun z18 ez18 => ?_
          replace h := gL_some ez18 h
          refine G_putI fl_X9_46 (gset_sl ha0) (gset_sk ha0) rfl rfl ⟨rfl, rfl⟩ dX9_readWho_85 ?_
          refine G_mI fun I19 eI19 => ?_
          replace h := gL_some eI19 h
          refine G_iload_n dX9_readWho_88 rfl rfl ?_
          refine G_iret rfl (Nat.le_refl _) (Nat.le_refl _) dX9_readWho_89 ?_
          cases h
          exact ⟨rfl, rfl, rfl, rfl, rfl⟩
        · replace h := gif c17 h
          refine G_aload_n dX9_readWho_59 rfl rfl ?_
          refine G_dup dX9_readWho_60 rfl ?_
          refine G_getI fl_X9_49 (gset_sl ha0) (gset_sk ha0) rfl dX9_readWho_61 ?_
          refine G_iconst (v := 1) dX9_readWho_64 rfl ?_
          refine G_iload_n dX9_readWho_65 rfl rfl ?_
          refine G_shl dX9_readWho_66 ?_
          refine G_ior dX9_readWho_67 ?_
          refine G_nI fun z20 ez20 => ?_
          replace h := gL_some ez20 h
          refine G_putI fl_X9_49 (gset_sl ha0) (gset_sk ha0) rfl rfl ⟨rfl, rfl⟩ dX9_readWho_68 ?_
          refine G_mI fun I21 eI21 => ?_
          replace h := gL_some eI21 h
          refine G_bipush (v := 16) dX9_readWho_71 rfl ?_
          refine G_iload_n dX9_readWho_73 rfl rfl ?_
          refine G_iadd dX9_readWho_74 ?_
          refine G_iret rfl (Nat.le_refl _) (Nat.le_refl _) dX9_readWho_75 ?_
          cases h
          exact ⟨rfl, rfl, rfl, rfl, rfl⟩
      · replace h := git c14 h
        refine G_aload_n dX9_readWho_37 rfl rfl ?_
        refine G_iconst (v := 2) dX9_readWho_38 rfl ?_
        obtain ⟨r22, hr23, h⟩ := gB_some h
        refine G_cV (mj := gX10_refuse) (As := [.int (2 : Int32)]) (rest := []) ml_X9_56 vX10_refuse sl_11 sk_11 (by decide) rfl rfl rfl (Nat.le_of_ble_eq_true rfl) (by decide) (Nat.le_refl _) (Nat.le_refl _) dX9_readWho_39 (q_X10_refuse hr23) ?_
        refine G_pop dX9_readWho_42 rfl ?_
        refine G_iconst (v := -1) dX9_readWho_43 rfl ?_
        refine G_iret rfl (Nat.le_refl _) (Nat.le_refl _) dX9_readWho_44 ?_
        cases h
        exact ⟨rfl, rfl, rfl, rfl, rfl⟩
  · replace h := git c5 h
    refine G_aload_n dX9_readWho_17 rfl rfl ?_
    refine G_iconst (v := 1) dX9_readWho_18 rfl ?_
    obtain ⟨r24, hr25, h⟩ := gB_some h
    refine G_cV (mj := gX10_refuse) (As := [.int (1 : Int32)]) (rest := []) ml_X9_56 vX10_refuse sl_11 sk_11 (by decide) rfl rfl rfl (Nat.le_of_ble_eq_true rfl) (by decide) (Nat.le_refl _) (Nat.le_refl _) dX9_readWho_19 (q_X10_refuse hr25) ?_
    refine G_pop dX9_readWho_22 rfl ?_
    refine G_iconst (v := -1) dX9_readWho_23 rfl ?_
    refine G_iret rfl (Nat.le_refl _) (Nat.le_refl _) dX9_readWho_24 ?_
    cases h
    exact ⟨rfl, rfl, rfl, rfl, rfl⟩
def p_X9_readShare (I : gIt) (a0 : Nat) : Option (Int32 × gIt) :=
  gB (p_X9_readWho I a0) fun r1 =>
  if r1.1 = (-1 : Int32) then
  some ((0 : Int32), r1.2)
  else
  if (r1.2 a0 9) < (nI 32) then
  gB (p_X10_take r1.2 (47 : Int32)) fun r5 =>
  if r5.1 = 0 then
  gck (gin (r5.2 a0 9) 32) (
  gL (gu2 r5.2 ((a0 + 3)) ((r5.2 a0 9)).toNatClampNeg r1.1) fun I9 =>
  gck (gin (I9 a0 9) 32) (
  gL (gu2 I9 ((a0 + 4)) ((I9 a0 9)).toNatClampNeg (1 : Int32)) fun I11 =>
  gL (((I11 a0 9) + (1 : Int32))) fun z12 =>
  gL (gu2 I11 a0 9 z12) fun I13 =>
  some ((1 : Int32), I13)))
  else
  gB (p_X10_takeDigit r5.2 (2 : Int32)) fun r14 =>
  if r14.1 = (-1 : Int32) then
  gB (p_X10_refuse r14.2 (1 : Int32)) fun r23 =>
  gck (gbo r23.1) (
  some (r23.1, r23.2))
  else
  gck (gin (r14.2 a0 9) 32) (
  gL (gu2 r14.2 ((a0 + 3)) ((r14.2 a0 9)).toNatClampNeg r1.1) fun I18 =>
  gck (gin (I18 a0 9) 32) (
  gL (gu2 I18 ((a0 + 4)) ((I18 a0 9)).toNatClampNeg r14.1) fun I20 =>
  gL (((I20 a0 9) + (1 : Int32))) fun z21 =>
  gL (gu2 I20 a0 9 z21) fun I22 =>
  some ((1 : Int32), I22)))
  else
  some ((0 : Int32), r1.2)
set_option maxRecDepth 20000 in
theorem q_X9_readShare {l : Launch} {I : gIt} {J : gJt} {w : Bool} {a0 : Nat} {v : (Int32 × gIt)} (ha0 : gset a0) (h : p_X9_readShare I a0 = some v) : Cn l gX9_readShare 5 0 0 [.ref a0, .ref 11] gS0 I J (gR0 w) (fun v' S' I' J' R' => v' = some (.int v.1) ∧ S' = gS0 ∧ I' = v.2 ∧ J' = J ∧ R' = gR0 w) := by
  refine Cn.of [some (.ref a0), some (.ref 11), none, none] (by decide) rfl (Nat.le_of_ble_eq_true rfl) ?_
  rw [p_X9_readShare] at h
  refine G_aload_n dX9_readShare_0 rfl rfl ?_
  refine G_aload_n dX9_readShare_1 rfl rfl ?_
  obtain ⟨r1, hr2, h⟩ := gB_some h
  refine G_cV (mj := gX9_readWho) (As := [.ref 11]) (rest := []) ml_X9_85 vX9_readWho (gset_sl ha0) (gset_sk ha0) (by decide) rfl rfl rfl (Nat.le_of_ble_eq_true rfl) (by decide) (Nat.le_refl _) (Nat.le_refl _) dX9_readShare_2 (q_X9_readWho ha0 hr2) ?_
  refine S_istore_n [some (.ref a0), some (.ref 11), some (.int r1.1), none] dX9_readShare_5 rfl (by decide) rfl ?_
  refine G_iload_n dX9_readShare_6 rfl rfl ?_
  refine G_iconst (v := -1) dX9_readShare_7 rfl ?_
  refine G_icmp_eq 23 dX9_readShare_8 (by decide) (fun c3 => ?_) (fun c3 => ?_)
  · replace h := git c3 h
    refine G_iconst (v := 0) dX9_readShare_23 rfl ?_
    refine G_zret rfl (Or.inl rfl) (Nat.le_refl _) (Nat.le_refl _) dX9_readShare_24 ?_
    cases h
    exact ⟨rfl, rfl, rfl, rfl, rfl⟩
  · replace h := gif c3 h
    refine G_aload_n dX9_readShare_11 rfl rfl ?_
    refine G_getI fl_X9_40 (gset_sl ha0) (gset_sk ha0) rfl dX9_readShare_12 ?_
    refine G_aload_n dX9_readShare_15 rfl rfl ?_
    refine G_getR fl_X9_18 (gset_sl ha0) (gset_sk ha0) rfl (gset_r2 _ ha0) dX9_readShare_16 ?_
    refine G_alen (gset_l2 ha0) (gset_s2 ha0) (by decide) (by decide) dX9_readShare_19 ?_
    refine G_icmp_lt 25 dX9_readShare_20 (by decide) (fun c4 => ?_) (fun c4 => ?_)
    · replace h := git c4 h
      refine G_iconst (v := 1) dX9_readShare_25 rfl ?_
      refine S_istore_n [some (.ref a0), some (.ref 11), some (.int r1.1), some (.int (1 : Int32))] dX9_readShare_26 rfl (by decide) rfl ?_
      refine G_aload_n dX9_readShare_27 rfl rfl ?_
      refine G_bipush (v := 47) dX9_readShare_28 rfl ?_
      obtain ⟨r5, hr6, h⟩ := gB_some h
      refine G_cV (mj := gX10_take) (As := [.int (47 : Int32)]) (rest := []) ml_X9_65 vX10_take sl_11 sk_11 (by decide) rfl rfl rfl (Nat.le_of_ble_eq_true rfl) (by decide) (Nat.le_refl _) (Nat.le_refl _) dX9_readShare_30 (q_X10_take hr6) ?_
      refine G_if_eq 53 dX9_readShare_33 (by decide) (fun c7 => ?_) (fun c7 => ?_)
      · replace h := git c7 h
        refine G_aload_n dX9_readShare_53 rfl rfl ?_
        refine G_getR fl_X9_18 (gset_sl ha0) (gset_sk ha0) rfl (gset_r2 _ ha0) dX9_readShare_54 ?_
        refine G_aload_n dX9_readShare_57 rfl rfl ?_
        refine G_getI fl_X9_40 (gset_sl ha0) (gset_sk ha0) rfl dX9_readShare_58 ?_
        refine G_iload_n dX9_readShare_61 rfl rfl ?_
        obtain ⟨b8, h⟩ := gck_some h
        refine G_iast (gset_l2 ha0) (gset_s2 ha0) (gin_in b8) dX9_readShare_62 ?_
        refine G_mI fun I9 eI9 => ?_
        replace h := gL_some eI9 h
        refine G_aload_n dX9_readShare_63 rfl rfl ?_
        refine G_getR fl_X9_21 (gset_sl ha0) (gset_sk ha0) rfl (gset_r3 _ ha0) dX9_readShare_64 ?_
        refine G_aload_n dX9_readShare_67 rfl rfl ?_
        refine G_getI fl_X9_40 (gset_sl ha0) (gset_sk ha0) rfl dX9_readShare_68 ?_
        refine G_iload_n dX9_readShare_71 rfl rfl ?_
        obtain ⟨b10, h⟩ := gck_some h
        refine G_iast (gset_l3 ha0) (gset_s3 ha0) (gin_in b10) dX9_readShare_72 ?_
        refine G_mI fun I11 eI11 => ?_
        replace h := gL_some eI11 h
        refine G_aload_n dX9_readShare_73 rfl rfl ?_
        refine G_dup dX9_readShare_74 rfl ?_
        refine G_getI fl_X9_40 (gset_sl ha0) (gset_sk ha0) rfl dX9_readShare_75 ?_
        refine G_iconst (v := 1) dX9_readShare_78 rfl ?_
        refine G_iadd dX9_readShare_79 ?_
        refine G_nI fun z12 ez12 => ?_
        replace h := gL_some ez12 h
        refine G_putI fl_X9_40 (gset_sl ha0) (gset_sk ha0) rfl rfl ⟨rfl, rfl⟩ dX9_readShare_80 ?_
        refine G_mI fun I13 eI13 => ?_
        replace h := gL_some eI13 h
        refine G_iconst (v := 1) dX9_readShare_83 rfl ?_
        refine G_zret rfl (Or.inr rfl) (Nat.le_refl _) (Nat.le_refl _) dX9_readShare_84 ?_
        cases h
        exact ⟨rfl, rfl, rfl, rfl, rfl⟩
      · replace h := gif c7 h
        refine G_aload_n dX9_readShare_36 rfl rfl ?_
        refine G_iconst (v := 2) dX9_readShare_37 rfl ?_
        obtain ⟨r14, hr15, h⟩ := gB_some h
        refine G_cV (mj := gX10_takeDigit) (As := [.int (2 : Int32)]) (rest := []) ml_X9_89 vX10_takeDigit sl_11 sk_11 (by decide) rfl rfl rfl (Nat.le_of_ble_eq_true rfl) (by decide) (Nat.le_refl _) (Nat.le_refl _) dX9_readShare_38 (q_X10_takeDigit hr15) ?_
        refine S_istore_n [some (.ref a0), some (.ref 11), some (.int r1.1), some (.int r14.1)] dX9_readShare_41 rfl (by decide) rfl ?_
        refine G_iload_n dX9_readShare_42 rfl rfl ?_
        refine G_iconst (v := -1) dX9_readShare_43 rfl ?_
        refine G_icmp_ne 53 dX9_readShare_44 (by decide) (fun c16 => ?_) (fun c16 => ?_)
        · replace h := gif c16 h
          refine G_aload_n dX9_readShare_53 rfl rfl ?_
          refine G_getR fl_X9_18 (gset_sl ha0) (gset_sk ha0) rfl (gset_r2 _ ha0) dX9_readShare_54 ?_
          refine G_aload_n dX9_readShare_57 rfl rfl ?_
          refine G_getI fl_X9_40 (gset_sl ha0) (gset_sk ha0) rfl dX9_readShare_58 ?_
          refine G_iload_n dX9_readShare_61 rfl rfl ?_
          obtain ⟨b17, h⟩ := gck_some h
          refine G_iast (gset_l2 ha0) (gset_s2 ha0) (gin_in b17) dX9_readShare_62 ?_
          refine G_mI fun I18 eI18 => ?_
          replace h := gL_some eI18 h
          refine G_aload_n dX9_readShare_63 rfl rfl ?_
          refine G_getR fl_X9_21 (gset_sl ha0) (gset_sk ha0) rfl (gset_r3 _ ha0) dX9_readShare_64 ?_
          refine G_aload_n dX9_readShare_67 rfl rfl ?_
          refine G_getI fl_X9_40 (gset_sl ha0) (gset_sk ha0) rfl dX9_readShare_68 ?_
          refine G_iload_n dX9_readShare_71 rfl rfl ?_
          obtain ⟨b19, h⟩ := gck_some h
          refine G_iast (gset_l3 ha0) (gset_s3 ha0) (gin_in b19) dX9_readShare_72 ?_
          refine G_mI fun I20 eI20 => ?_
          replace h := gL_some eI20 h
          refine G_aload_n dX9_readShare_73 rfl rfl ?_
          refine G_dup dX9_readShare_74 rfl ?_
          refine G_getI fl_X9_40 (gset_sl ha0) (gset_sk ha0) rfl dX9_readShare_75 ?_
          refine G_iconst (v := 1) dX9_readShare_78 rfl ?_
          refine G_iadd dX9_readShare_79 ?_
          refine G_nI fun z21 ez21 => ?_
          replace h := gL_some ez21 h
          refine G_putI fl_X9_40 (gset_sl ha0) (gset_sk ha0) rfl rfl ⟨rfl, rfl⟩ dX9_readShare_80 ?_
          refine G_mI fun I22 eI22 => ?_
          replace h := gL_some eI22 h
          refine G_iconst (v := 1) dX9_readShare_83 rfl ?_
          refine G_zret rfl (Or.inr rfl) (Nat.le_refl _) (Nat.le_refl _) dX9_readShare_84 ?_
          cases h
          exact ⟨rfl, rfl, rfl, rfl, rfl⟩
        · replace h := git c16 h
          refine G_aload_n dX9_readShare_47 rfl rfl ?_
          refine G_iconst (v := 1) dX9_readShare_48 rfl ?_
          obtain ⟨r23, hr24, h⟩ := gB_some h
          refine G_cV (mj := gX10_refuse) (As := [.int (1 : Int32)]) (rest := []) ml_X9_56 vX10_refuse sl_11 sk_11 (by decide) rfl rfl rfl (Nat.le_of_ble_eq_true rfl) (by decide) (Nat.le_refl _) (Nat.le_refl _) dX9_readShare_49 (q_X10_refuse hr24) ?_
          obtain ⟨b25, h⟩ := gck_some h
          refine G_zret rfl (gbo_or b25) (Nat.le_refl _) (Nat.le_refl _) dX9_readShare_52 ?_
          cases h
          exact ⟨rfl, rfl, rfl, rfl, rfl⟩
    · replace h := gif c4 h
      refine G_iconst (v := 0) dX9_readShare_23 rfl ?_
      refine G_zret rfl (Or.inl rfl) (Nat.le_refl _) (Nat.le_refl _) dX9_readShare_24 ?_
      cases h
      exact ⟨rfl, rfl, rfl, rfl, rfl⟩
def p_X9_readShares_2 (a0 : Nat) : Nat → gIt → Int32 → Option (Int32 × gIt)
  | 0, _, _ => none
  | n + 1, I, x2 =>
    if (4 : Int32) < x2 then
    some ((0 : Int32), I)
    else
    gB (p_X9_opensTaker I) fun r2 =>
    if r2 = 0 then
    gB (p_X10_refuse I (1 : Int32)) fun r15 =>
    gck (gbo r15.1) (
    some (r15.1, r15.2))
    else
    if x2 = (4 : Int32) then
    gB (p_X10_refuse I (4 : Int32)) fun r12 =>
    gck (gbo r12.1) (
    some (r12.1, r12.2))
    else
    gB (p_X9_readShare I a0) fun r6 =>
    if r6.1 = 0 then
    some ((0 : Int32), r6.2)
    else
    gB (p_X10_take r6.2 (44 : Int32)) fun r9 =>
    if r9.1 = 0 then
    some ((1 : Int32), r9.2)
    else
    p_X9_readShares_2 a0 n r9.2 (x2 + (1 : Int32))
def p_X9_readShares (I : gIt) (a0 : Nat) : Option (Int32 × gIt) :=
  p_X9_readShares_2 a0 gFu I (0 : Int32)
set_option maxRecDepth 20000 in
theorem q_X9_readShares_2 {l : Launch} {v : (Int32 × gIt)} {J : gJt} {w : Bool} {a0 : Nat} (ha0 : gset a0) : ∀ (n : Nat) (I : gIt) (x2 : Int32), p_X9_readShares_2 a0 n I x2 = some v → G l gX9_readShares 6 0 0 (fun v' S' I' J' R' => v' = some (.int v.1) ∧ S' = gS0 ∧ I' = v.2 ∧ J' = J ∧ R' = gR0 w) 0 0 2 [some (.ref a0), some (.ref 11), some (.int x2)] [] gS0 I J (gR0 w) := by
  intro n
  induction n with
  | zero => intro _ _ h; cases h
  | succ n ih =>
    intro I x2 h
    rw [p_X9_readShares_2] at h
    refine G_iload_n dX9_readShares_2 rfl rfl ?_
    refine G_iconst (v := 4) dX9_readShares_3 rfl ?_
    refine G_icmp_gt 58 dX9_readShares_4 (by decide) (fun c1 => ?_) (fun c1 => ?_)
    · replace h := git c1 h
      refine G_iconst (v := 0) dX9_readShares_58 rfl ?_
      refine G_zret rfl (Or.inl rfl) (Nat.le_refl _) (Nat.le_refl _) dX9_readShares_59 ?_
      cases h
      exact ⟨rfl, rfl, rfl, rfl, rfl⟩
    · replace h := gif c1 h
      refine G_aload_n dX9_readShares_7 rfl rfl ?_
      obtain ⟨r2, hr3, h⟩ := gB_some h
      refine G_cS (mj := gX9_opensTaker) (As := [.ref 11]) (rest := []) ml_X9_52 vX9_opensTaker rfl rfl (Nat.le_of_ble_eq_true rfl) (by decide) (Nat.le_refl _) (Nat.le_refl _) dX9_readShares_8 (q_X9_opensTaker hr3) ?_
      refine G_if_ne 20 dX9_readShares_11 (by decide) (fun c4 => ?_) (fun c4 => ?_)
      · replace h := gif c4 h
        refine G_iload_n dX9_readShares_20 rfl rfl ?_
        refine G_iconst (v := 4) dX9_readShares_21 rfl ?_
        refine G_icmp_ne 31 dX9_readShares_22 (by decide) (fun c5 => ?_) (fun c5 => ?_)
        · replace h := gif c5 h
          refine G_aload_n dX9_readShares_31 rfl rfl ?_
          refine G_aload_n dX9_readShares_32 rfl rfl ?_
          obtain ⟨r6, hr7, h⟩ := gB_some h
          refine G_cV (mj := gX9_readShare) (As := [.ref 11]) (rest := []) ml_X9_82 vX9_readShare (gset_sl ha0) (gset_sk ha0) (by decide) rfl rfl rfl (Nat.le_of_ble_eq_true rfl) (by decide) (Nat.le_refl _) (Nat.le_refl _) dX9_readShares_33 (q_X9_readShare ha0 hr7) ?_
          refine G_if_ne 41 dX9_readShares_36 (by decide) (fun c8 => ?_) (fun c8 => ?_)
          · replace h := gif c8 h
            refine G_aload_n dX9_readShares_41 rfl rfl ?_
            refine G_bipush (v := 44) dX9_readShares_42 rfl ?_
            obtain ⟨r9, hr10, h⟩ := gB_some h
            refine G_cV (mj := gX10_take) (As := [.int (44 : Int32)]) (rest := []) ml_X9_65 vX10_take sl_11 sk_11 (by decide) rfl rfl rfl (Nat.le_of_ble_eq_true rfl) (by decide) (Nat.le_refl _) (Nat.le_refl _) dX9_readShares_44 (q_X10_take hr10) ?_
            refine G_if_ne 52 dX9_readShares_47 (by decide) (fun c11 => ?_) (fun c11 => ?_)
            · replace h := gif c11 h
              refine S_iinc (v := (1 : Int32)) [some (.ref a0), some (.ref 11), some (.int (x2 + (1 : Int32)))] dX9_readShares_52 rfl rfl (by decide) rfl ?_
              refine G_goto 2 dX9_readShares_55 (by decide) ?_
              exact ih _ _ h
            · replace h := git c11 h
              refine G_iconst (v := 1) dX9_readShares_50 rfl ?_
              refine G_zret rfl (Or.inr rfl) (Nat.le_refl _) (Nat.le_refl _) dX9_readShares_51 ?_
              cases h
              exact ⟨rfl, rfl, rfl, rfl, rfl⟩
          · replace h := git c8 h
            refine G_iconst (v := 0) dX9_readShares_39 rfl ?_
            refine G_zret rfl (Or.inl rfl) (Nat.le_refl _) (Nat.le_refl _) dX9_readShares_40 ?_
            cases h
            exact ⟨rfl, rfl, rfl, rfl, rfl⟩
        · replace h := git c5 h
          refine G_aload_n dX9_readShares_25 rfl rfl ?_
          refine G_iconst (v := 4) dX9_readShares_26 rfl ?_
          obtain ⟨r12, hr13, h⟩ := gB_some h
          refine G_cV (mj := gX10_refuse) (As := [.int (4 : Int32)]) (rest := []) ml_X9_56 vX10_refuse sl_11 sk_11 (by decide) rfl rfl rfl (Nat.le_of_ble_eq_true rfl) (by decide) (Nat.le_refl _) (Nat.le_refl _) dX9_readShares_27 (q_X10_refuse hr13) ?_
          obtain ⟨b14, h⟩ := gck_some h
          refine G_zret rfl (gbo_or b14) (Nat.le_refl _) (Nat.le_refl _) dX9_readShares_30 ?_
          cases h
          exact ⟨rfl, rfl, rfl, rfl, rfl⟩
      · replace h := git c4 h
        refine G_aload_n dX9_readShares_14 rfl rfl ?_
        refine G_iconst (v := 1) dX9_readShares_15 rfl ?_
        obtain ⟨r15, hr16, h⟩ := gB_some h
        refine G_cV (mj := gX10_refuse) (As := [.int (1 : Int32)]) (rest := []) ml_X9_56 vX10_refuse sl_11 sk_11 (by decide) rfl rfl rfl (Nat.le_of_ble_eq_true rfl) (by decide) (Nat.le_refl _) (Nat.le_refl _) dX9_readShares_16 (q_X10_refuse hr16) ?_
        obtain ⟨b17, h⟩ := gck_some h
        refine G_zret rfl (gbo_or b17) (Nat.le_refl _) (Nat.le_refl _) dX9_readShares_19 ?_
        cases h
        exact ⟨rfl, rfl, rfl, rfl, rfl⟩
set_option maxRecDepth 20000 in
theorem q_X9_readShares {l : Launch} {I : gIt} {J : gJt} {w : Bool} {a0 : Nat} {v : (Int32 × gIt)} (ha0 : gset a0) (h : p_X9_readShares I a0 = some v) : Cn l gX9_readShares 6 0 0 [.ref a0, .ref 11] gS0 I J (gR0 w) (fun v' S' I' J' R' => v' = some (.int v.1) ∧ S' = gS0 ∧ I' = v.2 ∧ J' = J ∧ R' = gR0 w) := by
  refine Cn.of [some (.ref a0), some (.ref 11), none] (by decide) rfl (Nat.le_of_ble_eq_true rfl) ?_
  rw [p_X9_readShares] at h
  refine G_iconst (v := 0) dX9_readShares_0 rfl ?_
  refine S_istore_n [some (.ref a0), some (.ref 11), some (.int (0 : Int32))] dX9_readShares_1 rfl (by decide) rfl ?_
  exact q_X9_readShares_2  ha0 gFu _ _ h
def p_X9_emit (I : gIt) (a0 : Nat) (x1 : Int32) : Option gIt :=
  if (I a0 10) < 0 then
  some I
  else
  if (nI 100) ≤ (I a0 10) then
  some I
  else
  gck (gin (I a0 10) 100) (
  gL (gu2 I ((a0 + 5)) ((I a0 10)).toNatClampNeg x1) fun I4 =>
  gL (((I4 a0 10) + (1 : Int32))) fun z5 =>
  gL (gu2 I4 a0 10 z5) fun I6 =>
  some I6)
set_option maxRecDepth 20000 in
theorem q_X9_emit {l : Launch} {I : gIt} {J : gJt} {w : Bool} {a0 : Nat} {x1 : Int32} {v : gIt} (ha0 : gset a0) (h : p_X9_emit I a0 x1 = some v) : Cn l gX9_emit 2 0 0 [.ref a0, .int x1] gS0 I J (gR0 w) (fun v' S' I' J' R' => v' = none ∧ S' = gS0 ∧ I' = v ∧ J' = J ∧ R' = gR0 w) := by
  refine Cn.of [some (.ref a0), some (.int x1)] (by decide) rfl (Nat.le_of_ble_eq_true rfl) ?_
  rw [p_X9_emit] at h
  refine G_aload_n dX9_emit_0 rfl rfl ?_
  refine G_getI fl_X9_43 (gset_sl ha0) (gset_sk ha0) rfl dX9_emit_1 ?_
  refine G_if_lt 39 dX9_emit_4 (by decide) (fun c1 => ?_) (fun c1 => ?_)
  · replace h := git c1 h
    refine G_vret rfl (Nat.le_refl _) (Nat.le_refl _) dX9_emit_39 ?_
    cases h
    exact ⟨rfl, rfl, rfl, rfl, rfl⟩
  · replace h := gif c1 h
    refine G_aload_n dX9_emit_7 rfl rfl ?_
    refine G_getI fl_X9_43 (gset_sl ha0) (gset_sk ha0) rfl dX9_emit_8 ?_
    refine G_aload_n dX9_emit_11 rfl rfl ?_
    refine G_getR fl_X9_24 (gset_sl ha0) (gset_sk ha0) rfl (gset_r4 _ ha0) dX9_emit_12 ?_
    refine G_alen (gset_l4 ha0) (gset_s4 ha0) (by decide) (by decide) dX9_emit_15 ?_
    refine G_icmp_ge 39 dX9_emit_16 (by decide) (fun c2 => ?_) (fun c2 => ?_)
    · replace h := git c2 h
      refine G_vret rfl (Nat.le_refl _) (Nat.le_refl _) dX9_emit_39 ?_
      cases h
      exact ⟨rfl, rfl, rfl, rfl, rfl⟩
    · replace h := gif c2 h
      refine G_aload_n dX9_emit_19 rfl rfl ?_
      refine G_getR fl_X9_24 (gset_sl ha0) (gset_sk ha0) rfl (gset_r4 _ ha0) dX9_emit_20 ?_
      refine G_aload_n dX9_emit_23 rfl rfl ?_
      refine G_getI fl_X9_43 (gset_sl ha0) (gset_sk ha0) rfl dX9_emit_24 ?_
      refine G_iload_n dX9_emit_27 rfl rfl ?_
      obtain ⟨b3, h⟩ := gck_some h
      refine G_iast (gset_l4 ha0) (gset_s4 ha0) (gin_in b3) dX9_emit_28 ?_
      refine G_mI fun I4 eI4 => ?_
      replace h := gL_some eI4 h
      refine G_aload_n dX9_emit_29 rfl rfl ?_
      refine G_dup dX9_emit_30 rfl ?_
      refine G_getI fl_X9_43 (gset_sl ha0) (gset_sk ha0) rfl dX9_emit_31 ?_
      refine G_iconst (v := 1) dX9_emit_34 rfl ?_
      refine G_iadd dX9_emit_35 ?_
      refine G_nI fun z5 ez5 => ?_
      replace h := gL_some ez5 h
      refine G_putI fl_X9_43 (gset_sl ha0) (gset_sk ha0) rfl rfl ⟨rfl, rfl⟩ dX9_emit_36 ?_
      refine G_mI fun I6 eI6 => ?_
      replace h := gL_some eI6 h
      refine G_vret rfl (Nat.le_refl _) (Nat.le_refl _) dX9_emit_39 ?_
      cases h
      exact ⟨rfl, rfl, rfl, rfl, rfl⟩
def p_X9_closes (I : gIt) : Option (Int32 × gIt) :=
  gB (p_X10_take I (41 : Int32)) fun r1 =>
  if r1.1 = 0 then
  gB (p_X10_refuse r1.2 (1 : Int32)) fun r4 =>
  if r4.1 = 0 then
  some ((0 : Int32), r4.2)
  else
  some ((1 : Int32), r4.2)
  else
  some ((1 : Int32), r1.2)
set_option maxRecDepth 20000 in
theorem q_X9_closes {l : Launch} {I : gIt} {J : gJt} {w : Bool} {v : (Int32 × gIt)} (h : p_X9_closes I = some v) : Cn l gX9_closes 4 0 0 [.ref 11] gS0 I J (gR0 w) (fun v' S' I' J' R' => v' = some (.int v.1) ∧ S' = gS0 ∧ I' = v.2 ∧ J' = J ∧ R' = gR0 w) := by
  refine Cn.of [some (.ref 11)] (by decide) rfl (Nat.le_of_ble_eq_true rfl) ?_
  rw [p_X9_closes] at h
  refine G_aload_n dX9_closes_0 rfl rfl ?_
  refine G_bipush (v := 41) dX9_closes_1 rfl ?_
  obtain ⟨r1, hr2, h⟩ := gB_some h
  refine G_cV (mj := gX10_take) (As := [.int (41 : Int32)]) (rest := []) ml_X9_65 vX10_take sl_11 sk_11 (by decide) rfl rfl rfl (Nat.le_of_ble_eq_true rfl) (by decide) (Nat.le_refl _) (Nat.le_refl _) dX9_closes_3 (q_X10_take hr2) ?_
  refine G_if_ne 17 dX9_closes_6 (by decide) (fun c3 => ?_) (fun c3 => ?_)
  · replace h := gif c3 h
    refine G_iconst (v := 1) dX9_closes_17 rfl ?_
    refine G_goto 22 dX9_closes_18 (by decide) ?_
    refine G_zret rfl (Or.inr rfl) (Nat.le_refl _) (Nat.le_refl _) dX9_closes_22 ?_
    cases h
    exact ⟨rfl, rfl, rfl, rfl, rfl⟩
  · replace h := git c3 h
    refine G_aload_n dX9_closes_9 rfl rfl ?_
    refine G_iconst (v := 1) dX9_closes_10 rfl ?_
    obtain ⟨r4, hr5, h⟩ := gB_some h
    refine G_cV (mj := gX10_refuse) (As := [.int (1 : Int32)]) (rest := []) ml_X9_56 vX10_refuse sl_11 sk_11 (by decide) rfl rfl rfl (Nat.le_of_ble_eq_true rfl) (by decide) (Nat.le_refl _) (Nat.le_refl _) dX9_closes_11 (q_X10_refuse hr5) ?_
    refine G_if_eq 21 dX9_closes_14 (by decide) (fun c6 => ?_) (fun c6 => ?_)
    · replace h := git c6 h
      refine G_iconst (v := 0) dX9_closes_21 rfl ?_
      refine G_zret rfl (Or.inl rfl) (Nat.le_refl _) (Nat.le_refl _) dX9_closes_22 ?_
      cases h
      exact ⟨rfl, rfl, rfl, rfl, rfl⟩
    · replace h := gif c6 h
      refine G_iconst (v := 1) dX9_closes_17 rfl ?_
      refine G_goto 22 dX9_closes_18 (by decide) ?_
      refine G_zret rfl (Or.inr rfl) (Nat.le_refl _) (Nat.le_refl _) dX9_closes_22 ?_
      cases h
      exact ⟨rfl, rfl, rfl, rfl, rfl⟩
def p_X9_readHowMany (I : gIt) (a0 : Nat) : Option (Int32 × gIt) :=
  gB (p_X10_take I (60 : Int32)) fun r1 =>
  gB (α := (Int32 × gIt)) (
  if r1.1 = 0 then
  gB (p_X10_take r1.2 (62 : Int32)) fun r25 =>
  if r25.1 = 0 then
  gB (p_X10_take r25.2 (61 : Int32)) fun r28 =>
  if r28.1 = 0 then
  some ((-1 : Int32), r28.2)
  else
  some ((300 : Int32), r28.2)
  else
  some ((200 : Int32), r25.2)
  else
  some ((100 : Int32), r1.2)) fun ph3 =>
  if ph3.1 = (-1 : Int32) then
  gB (p_X10_refuse ph3.2 (1 : Int32)) fun r21 =>
  gck (gbo r21.1) (
  some (r21.1, r21.2))
  else
  gB (p_X10_takeDigit ph3.2 (0 : Int32)) fun r8 =>
  if r8.1 = (-1 : Int32) then
  gB (p_X10_refuse r8.2 (1 : Int32)) fun r18 =>
  gck (gbo r18.1) (
  some (r18.1, r18.2))
  else
  gB (p_X10_takeDigit r8.2 (0 : Int32)) fun r11 =>
  if r11.1 = (-1 : Int32) then
  gB (p_X9_emit r11.2 a0 (ph3.1 + r8.1)) fun r16 =>
  some ((1 : Int32), r16)
  else
  gB (p_X9_emit r11.2 a0 (ph3.1 + ((r8.1 * (10 : Int32)) + r11.1))) fun r14 =>
  some ((1 : Int32), r14)
set_option maxRecDepth 20000 in
theorem q_X9_readHowMany {l : Launch} {I : gIt} {J : gJt} {w : Bool} {a0 : Nat} {v : (Int32 × gIt)} (ha0 : gset a0) (h : p_X9_readHowMany I a0 = some v) : Cn l gX9_readHowMany 4 0 0 [.ref a0, .ref 11] gS0 I J (gR0 w) (fun v' S' I' J' R' => v' = some (.int v.1) ∧ S' = gS0 ∧ I' = v.2 ∧ J' = J ∧ R' = gR0 w) := by
  refine Cn.of [some (.ref a0), some (.ref 11), none, none, none] (by decide) rfl (Nat.le_of_ble_eq_true rfl) ?_
  rw [p_X9_readHowMany] at h
  refine G_aload_n dX9_readHowMany_0 rfl rfl ?_
  refine G_bipush (v := 60) dX9_readHowMany_1 rfl ?_
  obtain ⟨r1, hr2, h⟩ := gB_some h
  refine G_cV (mj := gX10_take) (As := [.int (60 : Int32)]) (rest := []) ml_X9_65 vX10_take sl_11 sk_11 (by decide) rfl rfl rfl (Nat.le_of_ble_eq_true rfl) (by decide) (Nat.le_refl _) (Nat.le_refl _) dX9_readHowMany_3 (q_X10_take hr2) ?_
  obtain ⟨ph3, t4, r5⟩ := gB_some h
  have jn6 : G l gX9_readHowMany 4 0 0 (fun v' S' I' J' R' => v' = some (.int v.1) ∧ S' = gS0 ∧ I' = v.2 ∧ J' = J ∧ R' = gR0 w) 0 0 45 [some (.ref a0), some (.ref 11), none, none, none] [.int ph3.1] gS0 ph3.2 J (gR0 w) := by
    refine S_istore_n [some (.ref a0), some (.ref 11), some (.int ph3.1), none, none] dX9_readHowMany_45 rfl (by decide) rfl ?_
    refine G_iload_n dX9_readHowMany_46 rfl rfl ?_
    refine G_iconst (v := -1) dX9_readHowMany_47 rfl ?_
    refine G_icmp_ne 57 dX9_readHowMany_48 (by decide) (fun c7 => ?_) (fun c7 => ?_)
    · replace r5 := gif c7 r5
      refine G_aload_n dX9_readHowMany_57 rfl rfl ?_
      refine G_iconst (v := 0) dX9_readHowMany_58 rfl ?_
      obtain ⟨r8, hr9, r5⟩ := gB_some r5
      refine G_cV (mj := gX10_takeDigit) (As := [.int (0 : Int32)]) (rest := []) ml_X9_89 vX10_takeDigit sl_11 sk_11 (by decide) rfl rfl rfl (Nat.le_of_ble_eq_true rfl) (by decide) (Nat.le_refl _) (Nat.le_refl _) dX9_readHowMany_59 (q_X10_takeDigit hr9) ?_
      refine S_istore_n [some (.ref a0), some (.ref 11), some (.int ph3.1), some (.int r8.1), none] dX9_readHowMany_62 rfl (by decide) rfl ?_
      refine G_iload_n dX9_readHowMany_63 rfl rfl ?_
      refine G_iconst (v := -1) dX9_readHowMany_64 rfl ?_
      refine G_icmp_ne 74 dX9_readHowMany_65 (by decide) (fun c10 => ?_) (fun c10 => ?_)
      · replace r5 := gif c10 r5
        refine G_aload_n dX9_readHowMany_74 rfl rfl ?_
        refine G_iconst (v := 0) dX9_readHowMany_75 rfl ?_
        obtain ⟨r11, hr12, r5⟩ := gB_some r5
        refine G_cV (mj := gX10_takeDigit) (As := [.int (0 : Int32)]) (rest := []) ml_X9_89 vX10_takeDigit sl_11 sk_11 (by decide) rfl rfl rfl (Nat.le_of_ble_eq_true rfl) (by decide) (Nat.le_refl _) (Nat.le_refl _) dX9_readHowMany_76 (q_X10_takeDigit hr12) ?_
        refine S_istore [some (.ref a0), some (.ref 11), some (.int ph3.1), some (.int r8.1), some (.int r11.1)] dX9_readHowMany_79 (by decide) rfl ?_
        refine G_aload_n dX9_readHowMany_81 rfl rfl ?_
        refine G_iload_n dX9_readHowMany_82 rfl rfl ?_
        refine G_iload dX9_readHowMany_83 rfl ?_
        refine G_iconst (v := -1) dX9_readHowMany_85 rfl ?_
        refine G_icmp_ne 93 dX9_readHowMany_86 (by decide) (fun c13 => ?_) (fun c13 => ?_)
        · replace r5 := gif c13 r5
          refine G_iload_n dX9_readHowMany_93 rfl rfl ?_
          refine G_bipush (v := 10) dX9_readHowMany_94 rfl ?_
          refine G_imul dX9_readHowMany_96 ?_
          refine G_iload dX9_readHowMany_97 rfl ?_
          refine G_iadd dX9_readHowMany_99 ?_
          refine G_iadd dX9_readHowMany_100 ?_
          obtain ⟨r14, hr15, r5⟩ := gB_some r5
          refine G_cV (mj := gX9_emit) (As := [.int (ph3.1 + ((r8.1 * (10 : Int32)) + r11.1))]) (rest := []) ml_X9_99 vX9_emit (gset_sl ha0) (gset_sk ha0) (by decide) rfl rfl rfl (Nat.le_of_ble_eq_true rfl) (by decide) (Nat.le_refl _) (Nat.le_refl _) dX9_readHowMany_101 (q_X9_emit ha0 hr15) ?_
          refine G_iconst (v := 1) dX9_readHowMany_104 rfl ?_
          refine G_zret rfl (Or.inr rfl) (Nat.le_refl _) (Nat.le_refl _) dX9_readHowMany_105 ?_
          cases r5
          exact ⟨rfl, rfl, rfl, rfl, rfl⟩
        · replace r5 := git c13 r5
          refine G_iload_n dX9_readHowMany_89 rfl rfl ?_
          refine G_goto 100 dX9_readHowMany_90 (by decide) ?_
          refine G_iadd dX9_readHowMany_100 ?_
          obtain ⟨r16, hr17, r5⟩ := gB_some r5
          refine G_cV (mj := gX9_emit) (As := [.int (ph3.1 + r8.1)]) (rest := []) ml_X9_99 vX9_emit (gset_sl ha0) (gset_sk ha0) (by decide) rfl rfl rfl (Nat.le_of_ble_eq_true rfl) (by decide) (Nat.le_refl _) (Nat.le_refl _) dX9_readHowMany_101 (q_X9_emit ha0 hr17) ?_
          refine G_iconst (v := 1) dX9_readHowMany_104 rfl ?_
          refine G_zret rfl (Or.inr rfl) (Nat.le_refl _) (Nat.le_refl _) dX9_readHowMany_105 ?_
          cases r5
          exact ⟨rfl, rfl, rfl, rfl, rfl⟩
      · replace r5 := git c10 r5
        refine G_aload_n dX9_readHowMany_68 rfl rfl ?_
        refine G_iconst (v := 1) dX9_readHowMany_69 rfl ?_
        obtain ⟨r18, hr19, r5⟩ := gB_some r5
        refine G_cV (mj := gX10_refuse) (As := [.int (1 : Int32)]) (rest := []) ml_X9_56 vX10_refuse sl_11 sk_11 (by decide) rfl rfl rfl (Nat.le_of_ble_eq_true rfl) (by decide) (Nat.le_refl _) (Nat.le_refl _) dX9_readHowMany_70 (q_X10_refuse hr19) ?_
        obtain ⟨b20, r5⟩ := gck_some r5
        refine G_zret rfl (gbo_or b20) (Nat.le_refl _) (Nat.le_refl _) dX9_readHowMany_73 ?_
        cases r5
        exact ⟨rfl, rfl, rfl, rfl, rfl⟩
    · replace r5 := git c7 r5
      refine G_aload_n dX9_readHowMany_51 rfl rfl ?_
      refine G_iconst (v := 1) dX9_readHowMany_52 rfl ?_
      obtain ⟨r21, hr22, r5⟩ := gB_some r5
      refine G_cV (mj := gX10_refuse) (As := [.int (1 : Int32)]) (rest := []) ml_X9_56 vX10_refuse sl_11 sk_11 (by decide) rfl rfl rfl (Nat.le_of_ble_eq_true rfl) (by decide) (Nat.le_refl _) (Nat.le_refl _) dX9_readHowMany_53 (q_X10_refuse hr22) ?_
      obtain ⟨b23, r5⟩ := gck_some r5
      refine G_zret rfl (gbo_or b23) (Nat.le_refl _) (Nat.le_refl _) dX9_readHowMany_56 ?_
      cases r5
      exact ⟨rfl, rfl, rfl, rfl, rfl⟩
  refine G_if_eq 14 dX9_readHowMany_6 (by decide) (fun c24 => ?_) (fun c24 => ?_)
  · replace t4 := git c24 t4
    refine G_aload_n dX9_readHowMany_14 rfl rfl ?_
    refine G_bipush (v := 62) dX9_readHowMany_15 rfl ?_
    obtain ⟨r25, hr26, t4⟩ := gB_some t4
    refine G_cV (mj := gX10_take) (As := [.int (62 : Int32)]) (rest := []) ml_X9_65 vX10_take sl_11 sk_11 (by decide) rfl rfl rfl (Nat.le_of_ble_eq_true rfl) (by decide) (Nat.le_refl _) (Nat.le_refl _) dX9_readHowMany_17 (q_X10_take hr26) ?_
    refine G_if_eq 29 dX9_readHowMany_20 (by decide) (fun c27 => ?_) (fun c27 => ?_)
    · replace t4 := git c27 t4
      refine G_aload_n dX9_readHowMany_29 rfl rfl ?_
      refine G_bipush (v := 61) dX9_readHowMany_30 rfl ?_
      obtain ⟨r28, hr29, t4⟩ := gB_some t4
      refine G_cV (mj := gX10_take) (As := [.int (61 : Int32)]) (rest := []) ml_X9_65 vX10_take sl_11 sk_11 (by decide) rfl rfl rfl (Nat.le_of_ble_eq_true rfl) (by decide) (Nat.le_refl _) (Nat.le_refl _) dX9_readHowMany_32 (q_X10_take hr29) ?_
      refine G_if_eq 44 dX9_readHowMany_35 (by decide) (fun c30 => ?_) (fun c30 => ?_)
      · replace t4 := git c30 t4
        refine G_iconst (v := -1) dX9_readHowMany_44 rfl ?_
        cases t4
        exact jn6
      · replace t4 := gif c30 t4
        refine G_sipush (v := 300) dX9_readHowMany_38 rfl ?_
        refine G_goto 45 dX9_readHowMany_41 (by decide) ?_
        cases t4
        exact jn6
    · replace t4 := gif c27 t4
      refine G_sipush (v := 200) dX9_readHowMany_23 rfl ?_
      refine G_goto 45 dX9_readHowMany_26 (by decide) ?_
      cases t4
      exact jn6
  · replace t4 := gif c24 t4
    refine G_bipush (v := 100) dX9_readHowMany_9 rfl ?_
    refine G_goto 45 dX9_readHowMany_11 (by decide) ?_
    cases t4
    exact jn6
def p_X9_readAll_13 (P : gIt → Nat → Int32 → Option (Int32 × gIt)) (a0 : Nat) (x2 : Int32) : Nat → gIt → Int32 → Option (Int32 × gIt)
  | 0, _, _ => none
  | n + 1, I, x3 =>
    if (100 : Int32) ≤ x3 then
    some ((1 : Int32), I)
    else
    gB (p_X10_take I (38 : Int32)) fun r5 =>
    if r5.1 = 0 then
    some ((1 : Int32), r5.2)
    else
    gB (P r5.2 a0 x2) fun r8 =>
    if r8.1 = 0 then
    some ((0 : Int32), r8.2)
    else
    gB (p_X9_emit r8.2 a0 (-2 : Int32)) fun r11 =>
    p_X9_readAll_13 P a0 x2 n r11 (x3 + (1 : Int32))
def p_X9_readAll (P : gIt → Nat → Int32 → Option (Int32 × gIt)) (I : gIt) (a0 : Nat) (x2 : Int32) : Option (Int32 × gIt) :=
  gB (P I a0 x2) fun r1 =>
  if r1.1 = 0 then
  some ((0 : Int32), r1.2)
  else
  p_X9_readAll_13 P a0 x2 gFu r1.2 (0 : Int32)
set_option maxRecDepth 20000 in
theorem q_X9_readAll_13 {l : Launch} {v : (Int32 × gIt)} {dP : Nat} {P : gIt → Nat → Int32 → Option (Int32 × gIt)} (hP : ∀ {I : gIt} {J : gJt} {w : Bool} {a0 : Nat} {x2 : Int32} {v : (Int32 × gIt)}, gset a0 → P I a0 x2 = some v → Cn l gX9_readPiece dP 0 0 [.ref a0, .ref 11, .int x2] gS0 I J (gR0 w) (fun v' S' I' J' R' => v' = some (.int v.1) ∧ S' = gS0 ∧ I' = v.2 ∧ J' = J ∧ R' = gR0 w)) {J : gJt} {w : Bool} {a0 : Nat} {x2 : Int32} (ha0 : gset a0) : ∀ (n : Nat) (I : gIt) (x3 : Int32), p_X9_readAll_13 P a0 x2 n I x3 = some v → G l gX9_readAll (dP + 6) 0 0 (fun v' S' I' J' R' => v' = some (.int v.1) ∧ S' = gS0 ∧ I' = v.2 ∧ J' = J ∧ R' = gR0 w) 0 0 13 [some (.ref a0), some (.ref 11), some (.int x2), some (.int x3)] [] gS0 I J (gR0 w) := by
  intro n
  induction n with
  | zero => intro _ _ h; cases h
  | succ n ih =>
    intro I x3 h
    rw [p_X9_readAll_13] at h
    refine G_iload_n dX9_readAll_13 rfl rfl ?_
    refine G_bipush (v := 100) dX9_readAll_14 rfl ?_
    refine G_icmp_ge 51 dX9_readAll_16 (by decide) (fun c4 => ?_) (fun c4 => ?_)
    · replace h := git c4 h
      refine G_iconst (v := 1) dX9_readAll_51 rfl ?_
      refine G_zret rfl (Or.inr rfl) (Nat.le_refl _) (Nat.le_refl _) dX9_readAll_52 ?_
      cases h
      exact ⟨rfl, rfl, rfl, rfl, rfl⟩
    · replace h := gif c4 h
      refine G_aload_n dX9_readAll_19 rfl rfl ?_
      refine G_bipush (v := 38) dX9_readAll_20 rfl ?_
      obtain ⟨r5, hr6, h⟩ := gB_some h
      refine G_cV (mj := gX10_take) (As := [.int (38 : Int32)]) (rest := []) ml_X9_65 vX10_take sl_11 sk_11 (by decide) rfl rfl rfl (Nat.le_of_ble_eq_true rfl) (by omega) (Nat.le_refl _) (Nat.le_refl _) dX9_readAll_22 (q_X10_take hr6) ?_
      refine G_if_eq 51 dX9_readAll_25 (by decide) (fun c7 => ?_) (fun c7 => ?_)
      · replace h := git c7 h
        refine G_iconst (v := 1) dX9_readAll_51 rfl ?_
        refine G_zret rfl (Or.inr rfl) (Nat.le_refl _) (Nat.le_refl _) dX9_readAll_52 ?_
        cases h
        exact ⟨rfl, rfl, rfl, rfl, rfl⟩
      · replace h := gif c7 h
        refine G_aload_n dX9_readAll_28 rfl rfl ?_
        refine G_aload_n dX9_readAll_29 rfl rfl ?_
        refine G_iload_n dX9_readAll_30 rfl rfl ?_
        obtain ⟨r8, hr9, h⟩ := gB_some h
        refine G_cV (mj := gX9_readPiece) (As := [.ref 11, .int x2]) (rest := []) ml_X9_103 vX9_readPiece (gset_sl ha0) (gset_sk ha0) (by decide) rfl rfl rfl (Nat.le_of_ble_eq_true rfl) (by omega) (Nat.le_refl _) (Nat.le_refl _) dX9_readAll_31 (hP ha0 hr9) ?_
        refine G_if_ne 39 dX9_readAll_34 (by decide) (fun c10 => ?_) (fun c10 => ?_)
        · replace h := gif c10 h
          refine G_aload_n dX9_readAll_39 rfl rfl ?_
          refine G_bipush (v := -2) dX9_readAll_40 rfl ?_
          obtain ⟨r11, hr12, h⟩ := gB_some h
          refine G_cV (mj := gX9_emit) (As := [.int (-2 : Int32)]) (rest := []) ml_X9_99 vX9_emit (gset_sl ha0) (gset_sk ha0) (by decide) rfl rfl rfl (Nat.le_of_ble_eq_true rfl) (by omega) (Nat.le_refl _) (Nat.le_refl _) dX9_readAll_42 (q_X9_emit ha0 hr12) ?_
          refine S_iinc (v := (1 : Int32)) [some (.ref a0), some (.ref 11), some (.int x2), some (.int (x3 + (1 : Int32)))] dX9_readAll_45 rfl rfl (by decide) rfl ?_
          refine G_goto 13 dX9_readAll_48 (by decide) ?_
          exact ih _ _ h
        · replace h := git c10 h
          refine G_iconst (v := 0) dX9_readAll_37 rfl ?_
          refine G_zret rfl (Or.inl rfl) (Nat.le_refl _) (Nat.le_refl _) dX9_readAll_38 ?_
          cases h
          exact ⟨rfl, rfl, rfl, rfl, rfl⟩
set_option maxRecDepth 20000 in
theorem q_X9_readAll {l : Launch} {dP : Nat} {P : gIt → Nat → Int32 → Option (Int32 × gIt)} (hP : ∀ {I : gIt} {J : gJt} {w : Bool} {a0 : Nat} {x2 : Int32} {v : (Int32 × gIt)}, gset a0 → P I a0 x2 = some v → Cn l gX9_readPiece dP 0 0 [.ref a0, .ref 11, .int x2] gS0 I J (gR0 w) (fun v' S' I' J' R' => v' = some (.int v.1) ∧ S' = gS0 ∧ I' = v.2 ∧ J' = J ∧ R' = gR0 w)) {I : gIt} {J : gJt} {w : Bool} {a0 : Nat} {x2 : Int32} {v : (Int32 × gIt)} (ha0 : gset a0) (h : p_X9_readAll P I a0 x2 = some v) : Cn l gX9_readAll (dP + 6) 0 0 [.ref a0, .ref 11, .int x2] gS0 I J (gR0 w) (fun v' S' I' J' R' => v' = some (.int v.1) ∧ S' = gS0 ∧ I' = v.2 ∧ J' = J ∧ R' = gR0 w) := by
  refine Cn.of [some (.ref a0), some (.ref 11), some (.int x2), none] (by decide) rfl (Nat.le_of_ble_eq_true rfl) ?_
  rw [p_X9_readAll] at h
  refine G_aload_n dX9_readAll_0 rfl rfl ?_
  refine G_aload_n dX9_readAll_1 rfl rfl ?_
  refine G_iload_n dX9_readAll_2 rfl rfl ?_
  obtain ⟨r1, hr2, h⟩ := gB_some h
  refine G_cV (mj := gX9_readPiece) (As := [.ref 11, .int x2]) (rest := []) ml_X9_103 vX9_readPiece (gset_sl ha0) (gset_sk ha0) (by decide) rfl rfl rfl (Nat.le_of_ble_eq_true rfl) (by omega) (Nat.le_refl _) (Nat.le_refl _) dX9_readAll_3 (hP ha0 hr2) ?_
  refine G_if_ne 11 dX9_readAll_6 (by decide) (fun c3 => ?_) (fun c3 => ?_)
  · replace h := gif c3 h
    refine G_iconst (v := 0) dX9_readAll_11 rfl ?_
    refine S_istore_n [some (.ref a0), some (.ref 11), some (.int x2), some (.int (0 : Int32))] dX9_readAll_12 rfl (by decide) rfl ?_
    exact q_X9_readAll_13 hP  ha0 gFu _ _ h
  · replace h := git c3 h
    refine G_iconst (v := 0) dX9_readAll_9 rfl ?_
    refine G_zret rfl (Or.inl rfl) (Nat.le_refl _) (Nat.le_refl _) dX9_readAll_10 ?_
    cases h
    exact ⟨rfl, rfl, rfl, rfl, rfl⟩
def p_X9_readEither_13 (P : gIt → Nat → Int32 → Option (Int32 × gIt)) (a0 : Nat) (x2 : Int32) : Nat → gIt → Int32 → Option (Int32 × gIt)
  | 0, _, _ => none
  | n + 1, I, x3 =>
    if (100 : Int32) ≤ x3 then
    some ((1 : Int32), I)
    else
    gB (p_X10_take I (124 : Int32)) fun r5 =>
    if r5.1 = 0 then
    some ((1 : Int32), r5.2)
    else
    gB (p_X9_readAll P r5.2 a0 x2) fun r8 =>
    if r8.1 = 0 then
    some ((0 : Int32), r8.2)
    else
    gB (p_X9_emit r8.2 a0 (-3 : Int32)) fun r11 =>
    p_X9_readEither_13 P a0 x2 n r11 (x3 + (1 : Int32))
def p_X9_readEither (P : gIt → Nat → Int32 → Option (Int32 × gIt)) (I : gIt) (a0 : Nat) (x2 : Int32) : Option (Int32 × gIt) :=
  gB (p_X9_readAll P I a0 x2) fun r1 =>
  if r1.1 = 0 then
  some ((0 : Int32), r1.2)
  else
  p_X9_readEither_13 P a0 x2 gFu r1.2 (0 : Int32)
set_option maxRecDepth 20000 in
theorem q_X9_readEither_13 {l : Launch} {v : (Int32 × gIt)} {dP : Nat} {P : gIt → Nat → Int32 → Option (Int32 × gIt)} (hP : ∀ {I : gIt} {J : gJt} {w : Bool} {a0 : Nat} {x2 : Int32} {v : (Int32 × gIt)}, gset a0 → P I a0 x2 = some v → Cn l gX9_readPiece dP 0 0 [.ref a0, .ref 11, .int x2] gS0 I J (gR0 w) (fun v' S' I' J' R' => v' = some (.int v.1) ∧ S' = gS0 ∧ I' = v.2 ∧ J' = J ∧ R' = gR0 w)) {J : gJt} {w : Bool} {a0 : Nat} {x2 : Int32} (ha0 : gset a0) : ∀ (n : Nat) (I : gIt) (x3 : Int32), p_X9_readEither_13 P a0 x2 n I x3 = some v → G l gX9_readEither (dP + 7) 0 0 (fun v' S' I' J' R' => v' = some (.int v.1) ∧ S' = gS0 ∧ I' = v.2 ∧ J' = J ∧ R' = gR0 w) 0 0 13 [some (.ref a0), some (.ref 11), some (.int x2), some (.int x3)] [] gS0 I J (gR0 w) := by
  intro n
  induction n with
  | zero => intro _ _ h; cases h
  | succ n ih =>
    intro I x3 h
    rw [p_X9_readEither_13] at h
    refine G_iload_n dX9_readEither_13 rfl rfl ?_
    refine G_bipush (v := 100) dX9_readEither_14 rfl ?_
    refine G_icmp_ge 51 dX9_readEither_16 (by decide) (fun c4 => ?_) (fun c4 => ?_)
    · replace h := git c4 h
      refine G_iconst (v := 1) dX9_readEither_51 rfl ?_
      refine G_zret rfl (Or.inr rfl) (Nat.le_refl _) (Nat.le_refl _) dX9_readEither_52 ?_
      cases h
      exact ⟨rfl, rfl, rfl, rfl, rfl⟩
    · replace h := gif c4 h
      refine G_aload_n dX9_readEither_19 rfl rfl ?_
      refine G_bipush (v := 124) dX9_readEither_20 rfl ?_
      obtain ⟨r5, hr6, h⟩ := gB_some h
      refine G_cV (mj := gX10_take) (As := [.int (124 : Int32)]) (rest := []) ml_X9_65 vX10_take sl_11 sk_11 (by decide) rfl rfl rfl (Nat.le_of_ble_eq_true rfl) (by omega) (Nat.le_refl _) (Nat.le_refl _) dX9_readEither_22 (q_X10_take hr6) ?_
      refine G_if_eq 51 dX9_readEither_25 (by decide) (fun c7 => ?_) (fun c7 => ?_)
      · replace h := git c7 h
        refine G_iconst (v := 1) dX9_readEither_51 rfl ?_
        refine G_zret rfl (Or.inr rfl) (Nat.le_refl _) (Nat.le_refl _) dX9_readEither_52 ?_
        cases h
        exact ⟨rfl, rfl, rfl, rfl, rfl⟩
      · replace h := gif c7 h
        refine G_aload_n dX9_readEither_28 rfl rfl ?_
        refine G_aload_n dX9_readEither_29 rfl rfl ?_
        refine G_iload_n dX9_readEither_30 rfl rfl ?_
        obtain ⟨r8, hr9, h⟩ := gB_some h
        refine G_cV (mj := gX9_readAll) (As := [.ref 11, .int x2]) (rest := []) ml_X9_96 vX9_readAll (gset_sl ha0) (gset_sk ha0) (by decide) rfl rfl rfl (Nat.le_of_ble_eq_true rfl) (by omega) (Nat.le_refl _) (Nat.le_refl _) dX9_readEither_31 (q_X9_readAll hP ha0 hr9) ?_
        refine G_if_ne 39 dX9_readEither_34 (by decide) (fun c10 => ?_) (fun c10 => ?_)
        · replace h := gif c10 h
          refine G_aload_n dX9_readEither_39 rfl rfl ?_
          refine G_bipush (v := -3) dX9_readEither_40 rfl ?_
          obtain ⟨r11, hr12, h⟩ := gB_some h
          refine G_cV (mj := gX9_emit) (As := [.int (-3 : Int32)]) (rest := []) ml_X9_99 vX9_emit (gset_sl ha0) (gset_sk ha0) (by decide) rfl rfl rfl (Nat.le_of_ble_eq_true rfl) (by omega) (Nat.le_refl _) (Nat.le_refl _) dX9_readEither_42 (q_X9_emit ha0 hr12) ?_
          refine S_iinc (v := (1 : Int32)) [some (.ref a0), some (.ref 11), some (.int x2), some (.int (x3 + (1 : Int32)))] dX9_readEither_45 rfl rfl (by decide) rfl ?_
          refine G_goto 13 dX9_readEither_48 (by decide) ?_
          exact ih _ _ h
        · replace h := git c10 h
          refine G_iconst (v := 0) dX9_readEither_37 rfl ?_
          refine G_zret rfl (Or.inl rfl) (Nat.le_refl _) (Nat.le_refl _) dX9_readEither_38 ?_
          cases h
          exact ⟨rfl, rfl, rfl, rfl, rfl⟩
set_option maxRecDepth 20000 in
theorem q_X9_readEither {l : Launch} {dP : Nat} {P : gIt → Nat → Int32 → Option (Int32 × gIt)} (hP : ∀ {I : gIt} {J : gJt} {w : Bool} {a0 : Nat} {x2 : Int32} {v : (Int32 × gIt)}, gset a0 → P I a0 x2 = some v → Cn l gX9_readPiece dP 0 0 [.ref a0, .ref 11, .int x2] gS0 I J (gR0 w) (fun v' S' I' J' R' => v' = some (.int v.1) ∧ S' = gS0 ∧ I' = v.2 ∧ J' = J ∧ R' = gR0 w)) {I : gIt} {J : gJt} {w : Bool} {a0 : Nat} {x2 : Int32} {v : (Int32 × gIt)} (ha0 : gset a0) (h : p_X9_readEither P I a0 x2 = some v) : Cn l gX9_readEither (dP + 7) 0 0 [.ref a0, .ref 11, .int x2] gS0 I J (gR0 w) (fun v' S' I' J' R' => v' = some (.int v.1) ∧ S' = gS0 ∧ I' = v.2 ∧ J' = J ∧ R' = gR0 w) := by
  refine Cn.of [some (.ref a0), some (.ref 11), some (.int x2), none] (by decide) rfl (Nat.le_of_ble_eq_true rfl) ?_
  rw [p_X9_readEither] at h
  refine G_aload_n dX9_readEither_0 rfl rfl ?_
  refine G_aload_n dX9_readEither_1 rfl rfl ?_
  refine G_iload_n dX9_readEither_2 rfl rfl ?_
  obtain ⟨r1, hr2, h⟩ := gB_some h
  refine G_cV (mj := gX9_readAll) (As := [.ref 11, .int x2]) (rest := []) ml_X9_96 vX9_readAll (gset_sl ha0) (gset_sk ha0) (by decide) rfl rfl rfl (Nat.le_of_ble_eq_true rfl) (by omega) (Nat.le_refl _) (Nat.le_refl _) dX9_readEither_3 (q_X9_readAll hP ha0 hr2) ?_
  refine G_if_ne 11 dX9_readEither_6 (by decide) (fun c3 => ?_) (fun c3 => ?_)
  · replace h := gif c3 h
    refine G_iconst (v := 0) dX9_readEither_11 rfl ?_
    refine S_istore_n [some (.ref a0), some (.ref 11), some (.int x2), some (.int (0 : Int32))] dX9_readEither_12 rfl (by decide) rfl ?_
    exact q_X9_readEither_13 hP  ha0 gFu _ _ h
  · replace h := git c3 h
    refine G_iconst (v := 0) dX9_readEither_9 rfl ?_
    refine G_zret rfl (Or.inl rfl) (Nat.le_refl _) (Nat.le_refl _) dX9_readEither_10 ?_
    cases h
    exact ⟨rfl, rfl, rfl, rfl, rfl⟩
def p_X9_readNot (P : gIt → Nat → Int32 → Option (Int32 × gIt)) (I : gIt) (a0 : Nat) (x2 : Int32) : Option (Int32 × gIt) :=
  gB (P I a0 x2) fun r1 =>
  if r1.1 = 0 then
  some ((0 : Int32), r1.2)
  else
  gB (p_X9_emit r1.2 a0 (-1 : Int32)) fun r4 =>
  some ((1 : Int32), r4)
set_option maxRecDepth 20000 in
theorem q_X9_readNot {l : Launch} {dP : Nat} {P : gIt → Nat → Int32 → Option (Int32 × gIt)} (hP : ∀ {I : gIt} {J : gJt} {w : Bool} {a0 : Nat} {x2 : Int32} {v : (Int32 × gIt)}, gset a0 → P I a0 x2 = some v → Cn l gX9_readPiece dP 0 0 [.ref a0, .ref 11, .int x2] gS0 I J (gR0 w) (fun v' S' I' J' R' => v' = some (.int v.1) ∧ S' = gS0 ∧ I' = v.2 ∧ J' = J ∧ R' = gR0 w)) {I : gIt} {J : gJt} {w : Bool} {a0 : Nat} {x2 : Int32} {v : (Int32 × gIt)} (ha0 : gset a0) (h : p_X9_readNot P I a0 x2 = some v) : Cn l gX9_readNot (dP + 6) 0 0 [.ref a0, .ref 11, .int x2] gS0 I J (gR0 w) (fun v' S' I' J' R' => v' = some (.int v.1) ∧ S' = gS0 ∧ I' = v.2 ∧ J' = J ∧ R' = gR0 w) := by
  refine Cn.of [some (.ref a0), some (.ref 11), some (.int x2)] (by decide) rfl (Nat.le_of_ble_eq_true rfl) ?_
  rw [p_X9_readNot] at h
  refine G_aload_n dX9_readNot_0 rfl rfl ?_
  refine G_aload_n dX9_readNot_1 rfl rfl ?_
  refine G_iload_n dX9_readNot_2 rfl rfl ?_
  obtain ⟨r1, hr2, h⟩ := gB_some h
  refine G_cV (mj := gX9_readPiece) (As := [.ref 11, .int x2]) (rest := []) ml_X9_103 vX9_readPiece (gset_sl ha0) (gset_sk ha0) (by decide) rfl rfl rfl (Nat.le_of_ble_eq_true rfl) (by omega) (Nat.le_refl _) (Nat.le_refl _) dX9_readNot_3 (hP ha0 hr2) ?_
  refine G_if_ne 11 dX9_readNot_6 (by decide) (fun c3 => ?_) (fun c3 => ?_)
  · replace h := gif c3 h
    refine G_aload_n dX9_readNot_11 rfl rfl ?_
    refine G_iconst (v := -1) dX9_readNot_12 rfl ?_
    obtain ⟨r4, hr5, h⟩ := gB_some h
    refine G_cV (mj := gX9_emit) (As := [.int (-1 : Int32)]) (rest := []) ml_X9_99 vX9_emit (gset_sl ha0) (gset_sk ha0) (by decide) rfl rfl rfl (Nat.le_of_ble_eq_true rfl) (by omega) (Nat.le_refl _) (Nat.le_refl _) dX9_readNot_13 (q_X9_emit ha0 hr5) ?_
    refine G_iconst (v := 1) dX9_readNot_16 rfl ?_
    refine G_zret rfl (Or.inr rfl) (Nat.le_refl _) (Nat.le_refl _) dX9_readNot_17 ?_
    cases h
    exact ⟨rfl, rfl, rfl, rfl, rfl⟩
  · replace h := git c3 h
    refine G_iconst (v := 0) dX9_readNot_9 rfl ?_
    refine G_zret rfl (Or.inl rfl) (Nat.le_refl _) (Nat.le_refl _) dX9_readNot_10 ?_
    cases h
    exact ⟨rfl, rfl, rfl, rfl, rfl⟩
def p_X9_readPiece : Nat → gIt → Nat → Int32 → Option (Int32 × gIt)
  | 0, _, _, _ => none
  | n + 1, I, a0, x2 =>
    gB (p_X10_peek I) fun r1 =>
    if r1 = (33 : Int32) then
    if x2 < (6 : Int32) then
    gL (((I 11 3) + (1 : Int32))) fun z5 =>
    gL (gu2 I 11 3 z5) fun I6 =>
    if r1 = (33 : Int32) then
    gB (p_X9_readNot (p_X9_readPiece n) I6 a0 (x2 + (1 : Int32))) fun r14 =>
    gck (gbo r14.1) (
    some (r14.1, r14.2))
    else
    gB (p_X9_readEither (p_X9_readPiece n) I6 a0 (x2 + (1 : Int32))) fun r8 =>
    if r8.1 = 0 then
    some ((0 : Int32), r8.2)
    else
    gB (p_X9_closes r8.2) fun r11 =>
    if r11.1 = 0 then
    some ((0 : Int32), r11.2)
    else
    some ((1 : Int32), r11.2)
    else
    gB (p_X10_refuse I (5 : Int32)) fun r17 =>
    gck (gbo r17.1) (
    some (r17.1, r17.2))
    else
    if r1 = (40 : Int32) then
    if x2 < (6 : Int32) then
    gL (((I 11 3) + (1 : Int32))) fun z33 =>
    gL (gu2 I 11 3 z33) fun I34 =>
    if r1 = (33 : Int32) then
    gB (p_X9_readNot (p_X9_readPiece n) I34 a0 (x2 + (1 : Int32))) fun r42 =>
    gck (gbo r42.1) (
    some (r42.1, r42.2))
    else
    gB (p_X9_readEither (p_X9_readPiece n) I34 a0 (x2 + (1 : Int32))) fun r36 =>
    if r36.1 = 0 then
    some ((0 : Int32), r36.2)
    else
    gB (p_X9_closes r36.2) fun r39 =>
    if r39.1 = 0 then
    some ((0 : Int32), r39.2)
    else
    some ((1 : Int32), r39.2)
    else
    gB (p_X10_refuse I (5 : Int32)) fun r45 =>
    gck (gbo r45.1) (
    some (r45.1, r45.2))
    else
    if r1 = (35 : Int32) then
    gL (((I 11 3) + (1 : Int32))) fun z27 =>
    gL (gu2 I 11 3 z27) fun I28 =>
    gB (p_X9_readHowMany I28 a0) fun r29 =>
    gck (gbo r29.1) (
    some (r29.1, r29.2))
    else
    gB (p_X9_readWho I a0) fun r22 =>
    if r22.1 = (-1 : Int32) then
    some ((0 : Int32), r22.2)
    else
    gB (p_X9_emit r22.2 a0 r22.1) fun r25 =>
    some ((1 : Int32), r25)
set_option maxRecDepth 20000 in
theorem q_X9_readPiece {l : Launch} : ∀ (n : Nat) {I : gIt} {J : gJt} {w : Bool} {a0 : Nat} {x2 : Int32} {v : (Int32 × gIt)} (ha0 : gset a0) (h : p_X9_readPiece n I a0 x2 = some v), Cn l gX9_readPiece (8 * n + 8) 0 0 [.ref a0, .ref 11, .int x2] gS0 I J (gR0 w) (fun v' S' I' J' R' => v' = some (.int v.1) ∧ S' = gS0 ∧ I' = v.2 ∧ J' = J ∧ R' = gR0 w) := by
  intro n
  induction n with
  | zero => intro _ _ _ _ _ _ _ h; cases h
  | succ n ih =>
    intro I J w a0 x2 v ha0 h
    refine Cn.of [some (.ref a0), some (.ref 11), some (.int x2), none, none] (by decide) rfl (Nat.le_of_ble_eq_true rfl) ?_
    rw [p_X9_readPiece] at h
    refine G_aload_n dX9_readPiece_0 rfl rfl ?_
    obtain ⟨r1, hr2, h⟩ := gB_some h
    refine G_cV (mj := gX10_peek) (As := []) (rest := []) ml_X9_75 vX10_peek sl_11 sk_11 (by decide) rfl rfl rfl (Nat.le_of_ble_eq_true rfl) (by omega) (Nat.le_refl _) (Nat.le_refl _) dX9_readPiece_1 (q_X10_peek hr2) ?_
    refine S_istore_n [some (.ref a0), some (.ref 11), some (.int x2), some (.int r1), none] dX9_readPiece_4 rfl (by decide) rfl ?_
    refine G_iload_n dX9_readPiece_5 rfl rfl ?_
    refine G_bipush (v := 33) dX9_readPiece_6 rfl ?_
    refine G_icmp_eq 17 dX9_readPiece_8 (by decide) (fun c3 => ?_) (fun c3 => ?_)
    · replace h := git c3 h
      refine G_iload_n dX9_readPiece_17 rfl rfl ?_
      refine G_bipush (v := 6) dX9_readPiece_18 rfl ?_
      refine G_icmp_lt 29 dX9_readPiece_20 (by decide) (fun c4 => ?_) (fun c4 => ?_)
      · replace h := git c4 h
        refine G_aload_n dX9_readPiece_29 rfl rfl ?_
        refine G_dup dX9_readPiece_30 rfl ?_
        refine G_getI fl_X9_93 sl_11 sk_11 rfl dX9_readPiece_31 ?_
        refine G_iconst (v := 1) dX9_readPiece_34 rfl ?_
        refine G_iadd dX9_readPiece_35 ?_
        refine G_nI fun z5 ez5 => ?_
        replace h := gL_some ez5 h
        refine G_putI fl_X9_93 sl_11 sk_11 rfl rfl ⟨rfl, rfl⟩ dX9_readPiece_36 ?_
        refine G_mI fun I6 eI6 => ?_
        replace h := gL_some eI6 h
        refine G_iload_n dX9_readPiece_39 rfl rfl ?_
        refine G_bipush (v := 33) dX9_readPiece_40 rfl ?_
        refine G_icmp_ne 56 dX9_readPiece_42 (by decide) (fun c7 => ?_) (fun c7 => ?_)
        · replace h := gif c7 h
          refine G_aload_n dX9_readPiece_56 rfl rfl ?_
          refine G_aload_n dX9_readPiece_57 rfl rfl ?_
          refine G_iload_n dX9_readPiece_58 rfl rfl ?_
          refine G_iconst (v := 1) dX9_readPiece_59 rfl ?_
          refine G_iadd dX9_readPiece_60 ?_
          obtain ⟨r8, hr9, h⟩ := gB_some h
          refine G_cV (mj := gX9_readEither) (As := [.ref 11, .int (x2 + (1 : Int32))]) (rest := []) ml_X9_68 vX9_readEither (gset_sl ha0) (gset_sk ha0) (by decide) rfl rfl rfl (Nat.le_of_ble_eq_true rfl) (by omega) (Nat.le_refl _) (Nat.le_refl _) dX9_readPiece_61 (q_X9_readEither (fun ha hh => ih ha hh) ha0 hr9) ?_
          refine G_if_eq 78 dX9_readPiece_64 (by decide) (fun c10 => ?_) (fun c10 => ?_)
          · replace h := git c10 h
            refine G_iconst (v := 0) dX9_readPiece_78 rfl ?_
            refine G_zret rfl (Or.inl rfl) (Nat.le_refl _) (Nat.le_refl _) dX9_readPiece_79 ?_
            cases h
            exact ⟨rfl, rfl, rfl, rfl, rfl⟩
          · replace h := gif c10 h
            refine G_aload_n dX9_readPiece_67 rfl rfl ?_
            obtain ⟨r11, hr12, h⟩ := gB_some h
            refine G_cS (mj := gX9_closes) (As := [.ref 11]) (rest := []) ml_X9_72 vX9_closes rfl rfl (Nat.le_of_ble_eq_true rfl) (by omega) (Nat.le_refl _) (Nat.le_refl _) dX9_readPiece_68 (q_X9_closes hr12) ?_
            refine G_if_eq 78 dX9_readPiece_71 (by decide) (fun c13 => ?_) (fun c13 => ?_)
            · replace h := git c13 h
              refine G_iconst (v := 0) dX9_readPiece_78 rfl ?_
              refine G_zret rfl (Or.inl rfl) (Nat.le_refl _) (Nat.le_refl _) dX9_readPiece_79 ?_
              cases h
              exact ⟨rfl, rfl, rfl, rfl, rfl⟩
            · replace h := gif c13 h
              refine G_iconst (v := 1) dX9_readPiece_74 rfl ?_
              refine G_goto 79 dX9_readPiece_75 (by decide) ?_
              refine G_zret rfl (Or.inr rfl) (Nat.le_refl _) (Nat.le_refl _) dX9_readPiece_79 ?_
              cases h
              exact ⟨rfl, rfl, rfl, rfl, rfl⟩
        · replace h := git c7 h
          refine G_aload_n dX9_readPiece_45 rfl rfl ?_
          refine G_aload_n dX9_readPiece_46 rfl rfl ?_
          refine G_iload_n dX9_readPiece_47 rfl rfl ?_
          refine G_iconst (v := 1) dX9_readPiece_48 rfl ?_
          refine G_iadd dX9_readPiece_49 ?_
          obtain ⟨r14, hr15, h⟩ := gB_some h
          refine G_cV (mj := gX9_readNot) (As := [.ref 11, .int (x2 + (1 : Int32))]) (rest := []) ml_X9_106 vX9_readNot (gset_sl ha0) (gset_sk ha0) (by decide) rfl rfl rfl (Nat.le_of_ble_eq_true rfl) (by omega) (Nat.le_refl _) (Nat.le_refl _) dX9_readPiece_50 (q_X9_readNot (fun ha hh => ih ha hh) ha0 hr15) ?_
          refine G_goto 79 dX9_readPiece_53 (by decide) ?_
          obtain ⟨b16, h⟩ := gck_some h
          refine G_zret rfl (gbo_or b16) (Nat.le_refl _) (Nat.le_refl _) dX9_readPiece_79 ?_
          cases h
          exact ⟨rfl, rfl, rfl, rfl, rfl⟩
      · replace h := gif c4 h
        refine G_aload_n dX9_readPiece_23 rfl rfl ?_
        refine G_iconst (v := 5) dX9_readPiece_24 rfl ?_
        obtain ⟨r17, hr18, h⟩ := gB_some h
        refine G_cV (mj := gX10_refuse) (As := [.int (5 : Int32)]) (rest := []) ml_X9_56 vX10_refuse sl_11 sk_11 (by decide) rfl rfl rfl (Nat.le_of_ble_eq_true rfl) (by omega) (Nat.le_refl _) (Nat.le_refl _) dX9_readPiece_25 (q_X10_refuse hr18) ?_
        obtain ⟨b19, h⟩ := gck_some h
        refine G_zret rfl (gbo_or b19) (Nat.le_refl _) (Nat.le_refl _) dX9_readPiece_28 ?_
        cases h
        exact ⟨rfl, rfl, rfl, rfl, rfl⟩
    · replace h := gif c3 h
      refine G_iload_n dX9_readPiece_11 rfl rfl ?_
      refine G_bipush (v := 40) dX9_readPiece_12 rfl ?_
      refine G_icmp_ne 80 dX9_readPiece_14 (by decide) (fun c20 => ?_) (fun c20 => ?_)
      · replace h := gif c20 h
        refine G_iload_n dX9_readPiece_80 rfl rfl ?_
        refine G_bipush (v := 35) dX9_readPiece_81 rfl ?_
        refine G_icmp_ne 102 dX9_readPiece_83 (by decide) (fun c21 => ?_) (fun c21 => ?_)
        · replace h := gif c21 h
          refine G_aload_n dX9_readPiece_102 rfl rfl ?_
          refine G_aload_n dX9_readPiece_103 rfl rfl ?_
          obtain ⟨r22, hr23, h⟩ := gB_some h
          refine G_cV (mj := gX9_readWho) (As := [.ref 11]) (rest := []) ml_X9_85 vX9_readWho (gset_sl ha0) (gset_sk ha0) (by decide) rfl rfl rfl (Nat.le_of_ble_eq_true rfl) (by omega) (Nat.le_refl _) (Nat.le_refl _) dX9_readPiece_104 (q_X9_readWho ha0 hr23) ?_
          refine S_istore [some (.ref a0), some (.ref 11), some (.int x2), some (.int r1), some (.int r22.1)] dX9_readPiece_107 (by decide) rfl ?_
          refine G_iload dX9_readPiece_109 rfl ?_
          refine G_iconst (v := -1) dX9_readPiece_111 rfl ?_
          refine G_icmp_ne 117 dX9_readPiece_112 (by decide) (fun c24 => ?_) (fun c24 => ?_)
          · replace h := gif c24 h
            refine G_aload_n dX9_readPiece_117 rfl rfl ?_
            refine G_iload dX9_readPiece_118 rfl ?_
            obtain ⟨r25, hr26, h⟩ := gB_some h
            refine G_cV (mj := gX9_emit) (As := [.int r22.1]) (rest := []) ml_X9_99 vX9_emit (gset_sl ha0) (gset_sk ha0) (by decide) rfl rfl rfl (Nat.le_of_ble_eq_true rfl) (by omega) (Nat.le_refl _) (Nat.le_refl _) dX9_readPiece_120 (q_X9_emit ha0 hr26) ?_
            refine G_iconst (v := 1) dX9_readPiece_123 rfl ?_
            refine G_zret rfl (Or.inr rfl) (Nat.le_refl _) (Nat.le_refl _) dX9_readPiece_124 ?_
            cases h
            exact ⟨rfl, rfl, rfl, rfl, rfl⟩
          · replace h := git c24 h
            refine G_iconst (v := 0) dX9_readPiece_115 rfl ?_
            refine G_zret rfl (Or.inl rfl) (Nat.le_refl _) (Nat.le_refl _) dX9_readPiece_116 ?_
            cases h
            exact ⟨rfl, rfl, rfl, rfl, rfl⟩
        · replace h := git c21 h
          refine G_aload_n dX9_readPiece_86 rfl rfl ?_
          refine G_dup dX9_readPiece_87 rfl ?_
          refine G_getI fl_X9_93 sl_11 sk_11 rfl dX9_readPiece_88 ?_
          refine G_iconst (v := 1) dX9_readPiece_91 rfl ?_
          refine G_iadd dX9_readPiece_92 ?_
          refine G_nI fun z27 ez27 => ?_
          replace h := gL_some ez27 h
          refine G_putI fl_X9_93 sl_11 sk_11 rfl rfl ⟨rfl, rfl⟩ dX9_readPiece_93 ?_
          refine G_mI fun I28 eI28 => ?_
          replace h := gL_some eI28 h
          refine G_aload_n dX9_readPiece_96 rfl rfl ?_
          refine G_aload_n dX9_readPiece_97 rfl rfl ?_
          obtain ⟨r29, hr30, h⟩ := gB_some h
          refine G_cV (mj := gX9_readHowMany) (As := [.ref 11]) (rest := []) ml_X9_109 vX9_readHowMany (gset_sl ha0) (gset_sk ha0) (by decide) rfl rfl rfl (Nat.le_of_ble_eq_true rfl) (by omega) (Nat.le_refl _) (Nat.le_refl _) dX9_readPiece_98 (q_X9_readHowMany ha0 hr30) ?_
          obtain ⟨b31, h⟩ := gck_some h
          refine G_zret rfl (gbo_or b31) (Nat.le_refl _) (Nat.le_refl _) dX9_readPiece_101 ?_
          cases h
          exact ⟨rfl, rfl, rfl, rfl, rfl⟩
      · replace h := git c20 h
        refine G_iload_n dX9_readPiece_17 rfl rfl ?_
        refine G_bipush (v := 6) dX9_readPiece_18 rfl ?_
        refine G_icmp_lt 29 dX9_readPiece_20 (by decide) (fun c32 => ?_) (fun c32 => ?_)
        · replace h := git c32 h
          refine G_aload_n dX9_readPiece_29 rfl rfl ?_
          refine G_dup dX9_readPiece_30 rfl ?_
          refine G_getI fl_X9_93 sl_11 sk_11 rfl dX9_readPiece_31 ?_
          refine G_iconst (v := 1) dX9_readPiece_34 rfl ?_
          refine G_iadd dX9_readPiece_35 ?_
          refine G_nI fun z33 ez33 => ?_
          replace h := gL_some ez33 h
          refine G_putI fl_X9_93 sl_11 sk_11 rfl rfl ⟨rfl, rfl⟩ dX9_readPiece_36 ?_
          refine G_mI fun I34 eI34 => ?_
          replace h := gL_some eI34 h
          refine G_iload_n dX9_readPiece_39 rfl rfl ?_
          refine G_bipush (v := 33) dX9_readPiece_40 rfl ?_
          refine G_icmp_ne 56 dX9_readPiece_42 (by decide) (fun c35 => ?_) (fun c35 => ?_)
          · replace h := gif c35 h
            refine G_aload_n dX9_readPiece_56 rfl rfl ?_
            refine G_aload_n dX9_readPiece_57 rfl rfl ?_
            refine G_iload_n dX9_readPiece_58 rfl rfl ?_
            refine G_iconst (v := 1) dX9_readPiece_59 rfl ?_
            refine G_iadd dX9_readPiece_60 ?_
            obtain ⟨r36, hr37, h⟩ := gB_some h
            refine G_cV (mj := gX9_readEither) (As := [.ref 11, .int (x2 + (1 : Int32))]) (rest := []) ml_X9_68 vX9_readEither (gset_sl ha0) (gset_sk ha0) (by decide) rfl rfl rfl (Nat.le_of_ble_eq_true rfl) (by omega) (Nat.le_refl _) (Nat.le_refl _) dX9_readPiece_61 (q_X9_readEither (fun ha hh => ih ha hh) ha0 hr37) ?_
            refine G_if_eq 78 dX9_readPiece_64 (by decide) (fun c38 => ?_) (fun c38 => ?_)
            · replace h := git c38 h
              refine G_iconst (v := 0) dX9_readPiece_78 rfl ?_
              refine G_zret rfl (Or.inl rfl) (Nat.le_refl _) (Nat.le_refl _) dX9_readPiece_79 ?_
              cases h
              exact ⟨rfl, rfl, rfl, rfl, rfl⟩
            · replace h := gif c38 h
              refine G_aload_n dX9_readPiece_67 rfl rfl ?_
              obtain ⟨r39, hr40, h⟩ := gB_some h
              refine G_cS (mj := gX9_closes) (As := [.ref 11]) (rest := []) ml_X9_72 vX9_closes rfl rfl (Nat.le_of_ble_eq_true rfl) (by omega) (Nat.le_refl _) (Nat.le_refl _) dX9_readPiece_68 (q_X9_closes hr40) ?_
              refine G_if_eq 78 dX9_readPiece_71 (by decide) (fun c41 => ?_) (fun c41 => ?_)
              · replace h := git c41 h
                refine G_iconst (v := 0) dX9_readPiece_78 rfl ?_
                refine G_zret rfl (Or.inl rfl) (Nat.le_refl _) (Nat.le_refl _) dX9_readPiece_79 ?_
                cases h
                exact ⟨rfl, rfl, rfl, rfl, rfl⟩
              · replace h := gif c41 h
                refine G_iconst (v := 1) dX9_readPiece_74 rfl ?_
                refine G_goto 79 dX9_readPiece_75 (by decide) ?_
                refine G_zret rfl (Or.inr rfl) (Nat.le_refl _) (Nat.le_refl _) dX9_readPiece_79 ?_
                cases h
                exact ⟨rfl, rfl, rfl, rfl, rfl⟩
          · replace h := git c35 h
            refine G_aload_n dX9_readPiece_45 rfl rfl ?_
            refine G_aload_n dX9_readPiece_46 rfl rfl ?_
            refine G_iload_n dX9_readPiece_47 rfl rfl ?_
            refine G_iconst (v := 1) dX9_readPiece_48 rfl ?_
            refine G_iadd dX9_readPiece_49 ?_
            obtain ⟨r42, hr43, h⟩ := gB_some h
            refine G_cV (mj := gX9_readNot) (As := [.ref 11, .int (x2 + (1 : Int32))]) (rest := []) ml_X9_106 vX9_readNot (gset_sl ha0) (gset_sk ha0) (by decide) rfl rfl rfl (Nat.le_of_ble_eq_true rfl) (by omega) (Nat.le_refl _) (Nat.le_refl _) dX9_readPiece_50 (q_X9_readNot (fun ha hh => ih ha hh) ha0 hr43) ?_
            refine G_goto 79 dX9_readPiece_53 (by decide) ?_
            obtain ⟨b44, h⟩ := gck_some h
            refine G_zret rfl (gbo_or b44) (Nat.le_refl _) (Nat.le_refl _) dX9_readPiece_79 ?_
            cases h
            exact ⟨rfl, rfl, rfl, rfl, rfl⟩
        · replace h := gif c32 h
          refine G_aload_n dX9_readPiece_23 rfl rfl ?_
          refine G_iconst (v := 5) dX9_readPiece_24 rfl ?_
          obtain ⟨r45, hr46, h⟩ := gB_some h
          refine G_cV (mj := gX10_refuse) (As := [.int (5 : Int32)]) (rest := []) ml_X9_56 vX10_refuse sl_11 sk_11 (by decide) rfl rfl rfl (Nat.le_of_ble_eq_true rfl) (by omega) (Nat.le_refl _) (Nat.le_refl _) dX9_readPiece_25 (q_X10_refuse hr46) ?_
          obtain ⟨b47, h⟩ := gck_some h
          refine G_zret rfl (gbo_or b47) (Nat.le_refl _) (Nat.le_refl _) dX9_readPiece_28 ?_
          cases h
          exact ⟨rfl, rfl, rfl, rfl, rfl⟩
def p_X9_readText_2 (a0 : Nat) : Nat → gIt → Int32 → Option (Int32 × gIt)
  | 0, _, _ => none
  | n + 1, I, x2 =>
    if (8 : Int32) < x2 then
    some ((0 : Int32), I)
    else
    gB (p_X9_opensTaker I) fun r2 =>
    if r2 = 0 then
    gB (p_X10_refuse I (1 : Int32)) fun r55 =>
    gck (gbo r55.1) (
    some (r55.1, r55.2))
    else
    if x2 = (8 : Int32) then
    gB (p_X10_refuse I (3 : Int32)) fun r52 =>
    gck (gbo r52.1) (
    some (r52.1, r52.2))
    else
    gB (p_X9_readShares I a0) fun r6 =>
    if r6.1 = 0 then
    some ((0 : Int32), r6.2)
    else
    gB (p_X10_take r6.2 (40 : Int32)) fun r9 =>
    if r9.1 = 0 then
    gL ((r9.2 a0 9)) fun z12 =>
    gck (gin x2 8) (
    gL (gu2 r9.2 ((a0 + 1)) (x2).toNatClampNeg z12) fun I14 =>
    gL ((I14 a0 10)) fun z15 =>
    gck (gin x2 8) (
    gL (gu2 I14 ((a0 + 2)) (x2).toNatClampNeg z15) fun I17 =>
    gL ((x2 + (1 : Int32))) fun z18 =>
    gL (gu2 I17 a0 8 z18) fun I19 =>
    gB (p_X10_peek I19) fun r20 =>
    if r20 = (-1 : Int32) then
    some ((1 : Int32), I19)
    else
    gB (p_X10_take I19 (59 : Int32)) fun r23 =>
    if r23.1 = 0 then
    gB (p_X10_refuse r23.2 (1 : Int32)) fun r26 =>
    gck (gbo r26.1) (
    some (r26.1, r26.2))
    else
    p_X9_readText_2 a0 n r23.2 (x2 + (1 : Int32))))
    else
    gB (p_X9_readEither (p_X9_readPiece 8) r9.2 a0 (1 : Int32)) fun r29 =>
    if r29.1 = 0 then
    some ((0 : Int32), r29.2)
    else
    gB (p_X9_closes r29.2) fun r32 =>
    if r32.1 = 0 then
    some ((0 : Int32), r32.2)
    else
    gL ((r32.2 a0 9)) fun z35 =>
    gck (gin x2 8) (
    gL (gu2 r32.2 ((a0 + 1)) (x2).toNatClampNeg z35) fun I37 =>
    gL ((I37 a0 10)) fun z38 =>
    gck (gin x2 8) (
    gL (gu2 I37 ((a0 + 2)) (x2).toNatClampNeg z38) fun I40 =>
    gL ((x2 + (1 : Int32))) fun z41 =>
    gL (gu2 I40 a0 8 z41) fun I42 =>
    gB (p_X10_peek I42) fun r43 =>
    if r43 = (-1 : Int32) then
    some ((1 : Int32), I42)
    else
    gB (p_X10_take I42 (59 : Int32)) fun r46 =>
    if r46.1 = 0 then
    gB (p_X10_refuse r46.2 (1 : Int32)) fun r49 =>
    gck (gbo r49.1) (
    some (r49.1, r49.2))
    else
    p_X9_readText_2 a0 n r46.2 (x2 + (1 : Int32))))
def p_X9_readText (I : gIt) (a0 : Nat) : Option (Int32 × gIt) :=
  p_X9_readText_2 a0 gFu I (0 : Int32)
set_option maxRecDepth 20000 in
theorem q_X9_readText_2 {l : Launch} {v : (Int32 × gIt)} {J : gJt} {w : Bool} {a0 : Nat} (ha0 : gset a0) : ∀ (n : Nat) (I : gIt) (x2 : Int32), p_X9_readText_2 a0 n I x2 = some v → G l gX9_readText 80 0 0 (fun v' S' I' J' R' => v' = some (.int v.1) ∧ S' = gS0 ∧ I' = v.2 ∧ J' = J ∧ R' = gR0 w) 0 0 2 [some (.ref a0), some (.ref 11), some (.int x2)] [] gS0 I J (gR0 w) := by
  intro n
  induction n with
  | zero => intro _ _ h; cases h
  | succ n ih =>
    intro I x2 h
    rw [p_X9_readText_2] at h
    refine G_iload_n dX9_readText_2 rfl rfl ?_
    refine G_bipush (v := 8) dX9_readText_3 rfl ?_
    refine G_icmp_gt 128 dX9_readText_5 (by decide) (fun c1 => ?_) (fun c1 => ?_)
    · replace h := git c1 h
      refine G_iconst (v := 0) dX9_readText_128 rfl ?_
      refine G_zret rfl (Or.inl rfl) (Nat.le_refl _) (Nat.le_refl _) dX9_readText_129 ?_
      cases h
      exact ⟨rfl, rfl, rfl, rfl, rfl⟩
    · replace h := gif c1 h
      refine G_aload_n dX9_readText_8 rfl rfl ?_
      obtain ⟨r2, hr3, h⟩ := gB_some h
      refine G_cS (mj := gX9_opensTaker) (As := [.ref 11]) (rest := []) ml_X9_52 vX9_opensTaker rfl rfl (Nat.le_of_ble_eq_true rfl) (by decide) (Nat.le_refl _) (Nat.le_refl _) dX9_readText_9 (q_X9_opensTaker hr3) ?_
      refine G_if_ne 21 dX9_readText_12 (by decide) (fun c4 => ?_) (fun c4 => ?_)
      · replace h := gif c4 h
        refine G_iload_n dX9_readText_21 rfl rfl ?_
        refine G_bipush (v := 8) dX9_readText_22 rfl ?_
        refine G_icmp_ne 33 dX9_readText_24 (by decide) (fun c5 => ?_) (fun c5 => ?_)
        · replace h := gif c5 h
          refine G_aload_n dX9_readText_33 rfl rfl ?_
          refine G_aload_n dX9_readText_34 rfl rfl ?_
          obtain ⟨r6, hr7, h⟩ := gB_some h
          refine G_cV (mj := gX9_readShares) (As := [.ref 11]) (rest := []) ml_X9_62 vX9_readShares (gset_sl ha0) (gset_sk ha0) (by decide) rfl rfl rfl (Nat.le_of_ble_eq_true rfl) (by decide) (Nat.le_refl _) (Nat.le_refl _) dX9_readText_35 (q_X9_readShares ha0 hr7) ?_
          refine G_if_ne 43 dX9_readText_38 (by decide) (fun c8 => ?_) (fun c8 => ?_)
          · replace h := gif c8 h
            refine G_aload_n dX9_readText_43 rfl rfl ?_
            refine G_bipush (v := 40) dX9_readText_44 rfl ?_
            obtain ⟨r9, hr10, h⟩ := gB_some h
            refine G_cV (mj := gX10_take) (As := [.int (40 : Int32)]) (rest := []) ml_X9_65 vX10_take sl_11 sk_11 (by decide) rfl rfl rfl (Nat.le_of_ble_eq_true rfl) (by decide) (Nat.le_refl _) (Nat.le_refl _) dX9_readText_46 (q_X10_take hr10) ?_
            refine G_if_eq 70 dX9_readText_49 (by decide) (fun c11 => ?_) (fun c11 => ?_)
            · replace h := git c11 h
              refine G_aload_n dX9_readText_70 rfl rfl ?_
              refine G_getR fl_X9_9 (gset_sl ha0) (gset_sk ha0) rfl (gset_r0 _ ha0) dX9_readText_71 ?_
              refine G_iload_n dX9_readText_74 rfl rfl ?_
              refine G_aload_n dX9_readText_75 rfl rfl ?_
              refine G_getI fl_X9_40 (gset_sl ha0) (gset_sk ha0) rfl dX9_readText_76 ?_
              refine G_nI fun z12 ez12 => ?_
              replace h := gL_some ez12 h
              obtain ⟨b13, h⟩ := gck_some h
              refine G_iast (gset_l0 ha0) (gset_s0 ha0) (gin_in b13) dX9_readText_79 ?_
              refine G_mI fun I14 eI14 => ?_
              replace h := gL_some eI14 h
              refine G_aload_n dX9_readText_80 rfl rfl ?_
              refine G_getR fl_X9_15 (gset_sl ha0) (gset_sk ha0) rfl (gset_r1 _ ha0) dX9_readText_81 ?_
              refine G_iload_n dX9_readText_84 rfl rfl ?_
              refine G_aload_n dX9_readText_85 rfl rfl ?_
              refine G_getI fl_X9_43 (gset_sl ha0) (gset_sk ha0) rfl dX9_readText_86 ?_
              refine G_nI fun z15 ez15 => ?_
              replace h := gL_some ez15 h
              obtain ⟨b16, h⟩ := gck_some h
              refine G_iast (gset_l1 ha0) (gset_s1 ha0) (gin_in b16) dX9_readText_89 ?_
              refine G_mI fun I17 eI17 => ?_
              replace h := gL_some eI17 h
              refine G_aload_n dX9_readText_90 rfl rfl ?_
              refine G_iload_n dX9_readText_91 rfl rfl ?_
              refine G_iconst (v := 1) dX9_readText_92 rfl ?_
              refine G_iadd dX9_readText_93 ?_
              refine G_nI fun z18 ez18 => ?_
              replace h := gL_some ez18 h
              refine G_putI fl_X9_37 (gset_sl ha0) (gset_sk ha0) rfl rfl ⟨rfl, rfl⟩ dX9_readText_94 ?_
              refine G_mI fun I19 eI19 => ?_
              replace h := gL_some eI19 h
              refine G_aload_n dX9_readText_97 rfl rfl ?_
              obtain ⟨r20, hr21, h⟩ := gB_some h
              refine G_cV (mj := gX10_peek) (As := []) (rest := []) ml_X9_75 vX10_peek sl_11 sk_11 (by decide) rfl rfl rfl (Nat.le_of_ble_eq_true rfl) (by decide) (Nat.le_refl _) (Nat.le_refl _) dX9_readText_98 (q_X10_peek hr21) ?_
              refine G_iconst (v := -1) dX9_readText_101 rfl ?_
              refine G_icmp_ne 107 dX9_readText_102 (by decide) (fun c22 => ?_) (fun c22 => ?_)
              · replace h := gif c22 h
                refine G_aload_n dX9_readText_107 rfl rfl ?_
                refine G_bipush (v := 59) dX9_readText_108 rfl ?_
                obtain ⟨r23, hr24, h⟩ := gB_some h
                refine G_cV (mj := gX10_take) (As := [.int (59 : Int32)]) (rest := []) ml_X9_65 vX10_take sl_11 sk_11 (by decide) rfl rfl rfl (Nat.le_of_ble_eq_true rfl) (by decide) (Nat.le_refl _) (Nat.le_refl _) dX9_readText_110 (q_X10_take hr24) ?_
                refine G_if_ne 122 dX9_readText_113 (by decide) (fun c25 => ?_) (fun c25 => ?_)
                · replace h := gif c25 h
                  refine S_iinc (v := (1 : Int32)) [some (.ref a0), some (.ref 11), some (.int (x2 + (1 : Int32)))] dX9_readText_122 rfl rfl (by decide) rfl ?_
                  refine G_goto 2 dX9_readText_125 (by decide) ?_
                  exact ih _ _ h
                · replace h := git c25 h
                  refine G_aload_n dX9_readText_116 rfl rfl ?_
                  refine G_iconst (v := 1) dX9_readText_117 rfl ?_
                  obtain ⟨r26, hr27, h⟩ := gB_some h
                  refine G_cV (mj := gX10_refuse) (As := [.int (1 : Int32)]) (rest := []) ml_X9_56 vX10_refuse sl_11 sk_11 (by decide) rfl rfl rfl (Nat.le_of_ble_eq_true rfl) (by decide) (Nat.le_refl _) (Nat.le_refl _) dX9_readText_118 (q_X10_refuse hr27) ?_
                  obtain ⟨b28, h⟩ := gck_some h
                  refine G_zret rfl (gbo_or b28) (Nat.le_refl _) (Nat.le_refl _) dX9_readText_121 ?_
                  cases h
                  exact ⟨rfl, rfl, rfl, rfl, rfl⟩
              · replace h := git c22 h
                refine G_iconst (v := 1) dX9_readText_105 rfl ?_
                refine G_zret rfl (Or.inr rfl) (Nat.le_refl _) (Nat.le_refl _) dX9_readText_106 ?_
                cases h
                exact ⟨rfl, rfl, rfl, rfl, rfl⟩
            · replace h := gif c11 h
              refine G_aload_n dX9_readText_52 rfl rfl ?_
              refine G_aload_n dX9_readText_53 rfl rfl ?_
              refine G_iconst (v := 1) dX9_readText_54 rfl ?_
              obtain ⟨r29, hr30, h⟩ := gB_some h
              refine G_cV (mj := gX9_readEither) (As := [.ref 11, .int (1 : Int32)]) (rest := []) ml_X9_68 vX9_readEither (gset_sl ha0) (gset_sk ha0) (by decide) rfl rfl rfl (Nat.le_of_ble_eq_true rfl) (by decide) (Nat.le_refl _) (Nat.le_refl _) dX9_readText_55 (q_X9_readEither (fun ha hh => q_X9_readPiece 8 ha hh) ha0 hr30) ?_
              refine G_if_eq 68 dX9_readText_58 (by decide) (fun c31 => ?_) (fun c31 => ?_)
              · replace h := git c31 h
                refine G_iconst (v := 0) dX9_readText_68 rfl ?_
                refine G_zret rfl (Or.inl rfl) (Nat.le_refl _) (Nat.le_refl _) dX9_readText_69 ?_
                cases h
                exact ⟨rfl, rfl, rfl, rfl, rfl⟩
              · replace h := gif c31 h
                refine G_aload_n dX9_readText_61 rfl rfl ?_
                obtain ⟨r32, hr33, h⟩ := gB_some h
                refine G_cS (mj := gX9_closes) (As := [.ref 11]) (rest := []) ml_X9_72 vX9_closes rfl rfl (Nat.le_of_ble_eq_true rfl) (by decide) (Nat.le_refl _) (Nat.le_refl _) dX9_readText_62 (q_X9_closes hr33) ?_
                refine G_if_ne 70 dX9_readText_65 (by decide) (fun c34 => ?_) (fun c34 => ?_)
                · replace h := gif c34 h
                  refine G_aload_n dX9_readText_70 rfl rfl ?_
                  refine G_getR fl_X9_9 (gset_sl ha0) (gset_sk ha0) rfl (gset_r0 _ ha0) dX9_readText_71 ?_
                  refine G_iload_n dX9_readText_74 rfl rfl ?_
                  refine G_aload_n dX9_readText_75 rfl rfl ?_
                  refine G_getI fl_X9_40 (gset_sl ha0) (gset_sk ha0) rfl dX9_readText_76 ?_
                  refine G_nI fun z35 ez35 => ?_
                  replace h := gL_some ez35 h
                  obtain ⟨b36, h⟩ := gck_some h
                  refine G_iast (gset_l0 ha0) (gset_s0 ha0) (gin_in b36) dX9_readText_79 ?_
                  refine G_mI fun I37 eI37 => ?_
                  replace h := gL_some eI37 h
                  refine G_aload_n dX9_readText_80 rfl rfl ?_
                  refine G_getR fl_X9_15 (gset_sl ha0) (gset_sk ha0) rfl (gset_r1 _ ha0) dX9_readText_81 ?_
                  refine G_iload_n dX9_readText_84 rfl rfl ?_
                  refine G_aload_n dX9_readText_85 rfl rfl ?_
                  refine G_getI fl_X9_43 (gset_sl ha0) (gset_sk ha0) rfl dX9_readText_86 ?_
                  refine G_nI fun z38 ez38 => ?_
                  replace h := gL_some ez38 h
                  obtain ⟨b39, h⟩ := gck_some h
                  refine G_iast (gset_l1 ha0) (gset_s1 ha0) (gin_in b39) dX9_readText_89 ?_
                  refine G_mI fun I40 eI40 => ?_
                  replace h := gL_some eI40 h
                  refine G_aload_n dX9_readText_90 rfl rfl ?_
                  refine G_iload_n dX9_readText_91 rfl rfl ?_
                  refine G_iconst (v := 1) dX9_readText_92 rfl ?_
                  refine G_iadd dX9_readText_93 ?_
                  refine G_nI fun z41 ez41 => ?_
                  replace h := gL_some ez41 h
                  refine G_putI fl_X9_37 (gset_sl ha0) (gset_sk ha0) rfl rfl ⟨rfl, rfl⟩ dX9_readText_94 ?_
                  refine G_mI fun I42 eI42 => ?_
                  replace h := gL_some eI42 h
                  refine G_aload_n dX9_readText_97 rfl rfl ?_
                  obtain ⟨r43, hr44, h⟩ := gB_some h
                  refine G_cV (mj := gX10_peek) (As := []) (rest := []) ml_X9_75 vX10_peek sl_11 sk_11 (by decide) rfl rfl rfl (Nat.le_of_ble_eq_true rfl) (by decide) (Nat.le_refl _) (Nat.le_refl _) dX9_readText_98 (q_X10_peek hr44) ?_
                  refine G_iconst (v := -1) dX9_readText_101 rfl ?_
                  refine G_icmp_ne 107 dX9_readText_102 (by decide) (fun c45 => ?_) (fun c45 => ?_)
                  · replace h := gif c45 h
                    refine G_aload_n dX9_readText_107 rfl rfl ?_
                    refine G_bipush (v := 59) dX9_readText_108 rfl ?_
                    obtain ⟨r46, hr47, h⟩ := gB_some h
                    refine G_cV (mj := gX10_take) (As := [.int (59 : Int32)]) (rest := []) ml_X9_65 vX10_take sl_11 sk_11 (by decide) rfl rfl rfl (Nat.le_of_ble_eq_true rfl) (by decide) (Nat.le_refl _) (Nat.le_refl _) dX9_readText_110 (q_X10_take hr47) ?_
                    refine G_if_ne 122 dX9_readText_113 (by decide) (fun c48 => ?_) (fun c48 => ?_)
                    · replace h := gif c48 h
                      refine S_iinc (v := (1 : Int32)) [some (.ref a0), some (.ref 11), some (.int (x2 + (1 : Int32)))] dX9_readText_122 rfl rfl (by decide) rfl ?_
                      refine G_goto 2 dX9_readText_125 (by decide) ?_
                      exact ih _ _ h
                    · replace h := git c48 h
                      refine G_aload_n dX9_readText_116 rfl rfl ?_
                      refine G_iconst (v := 1) dX9_readText_117 rfl ?_
                      obtain ⟨r49, hr50, h⟩ := gB_some h
                      refine G_cV (mj := gX10_refuse) (As := [.int (1 : Int32)]) (rest := []) ml_X9_56 vX10_refuse sl_11 sk_11 (by decide) rfl rfl rfl (Nat.le_of_ble_eq_true rfl) (by decide) (Nat.le_refl _) (Nat.le_refl _) dX9_readText_118 (q_X10_refuse hr50) ?_
                      obtain ⟨b51, h⟩ := gck_some h
                      refine G_zret rfl (gbo_or b51) (Nat.le_refl _) (Nat.le_refl _) dX9_readText_121 ?_
                      cases h
                      exact ⟨rfl, rfl, rfl, rfl, rfl⟩
                  · replace h := git c45 h
                    refine G_iconst (v := 1) dX9_readText_105 rfl ?_
                    refine G_zret rfl (Or.inr rfl) (Nat.le_refl _) (Nat.le_refl _) dX9_readText_106 ?_
                    cases h
                    exact ⟨rfl, rfl, rfl, rfl, rfl⟩
                · replace h := git c34 h
                  refine G_iconst (v := 0) dX9_readText_68 rfl ?_
                  refine G_zret rfl (Or.inl rfl) (Nat.le_refl _) (Nat.le_refl _) dX9_readText_69 ?_
                  cases h
                  exact ⟨rfl, rfl, rfl, rfl, rfl⟩
          · replace h := git c8 h
            refine G_iconst (v := 0) dX9_readText_41 rfl ?_
            refine G_zret rfl (Or.inl rfl) (Nat.le_refl _) (Nat.le_refl _) dX9_readText_42 ?_
            cases h
            exact ⟨rfl, rfl, rfl, rfl, rfl⟩
        · replace h := git c5 h
          refine G_aload_n dX9_readText_27 rfl rfl ?_
          refine G_iconst (v := 3) dX9_readText_28 rfl ?_
          obtain ⟨r52, hr53, h⟩ := gB_some h
          refine G_cV (mj := gX10_refuse) (As := [.int (3 : Int32)]) (rest := []) ml_X9_56 vX10_refuse sl_11 sk_11 (by decide) rfl rfl rfl (Nat.le_of_ble_eq_true rfl) (by decide) (Nat.le_refl _) (Nat.le_refl _) dX9_readText_29 (q_X10_refuse hr53) ?_
          obtain ⟨b54, h⟩ := gck_some h
          refine G_zret rfl (gbo_or b54) (Nat.le_refl _) (Nat.le_refl _) dX9_readText_32 ?_
          cases h
          exact ⟨rfl, rfl, rfl, rfl, rfl⟩
      · replace h := git c4 h
        refine G_aload_n dX9_readText_15 rfl rfl ?_
        refine G_iconst (v := 1) dX9_readText_16 rfl ?_
        obtain ⟨r55, hr56, h⟩ := gB_some h
        refine G_cV (mj := gX10_refuse) (As := [.int (1 : Int32)]) (rest := []) ml_X9_56 vX10_refuse sl_11 sk_11 (by decide) rfl rfl rfl (Nat.le_of_ble_eq_true rfl) (by decide) (Nat.le_refl _) (Nat.le_refl _) dX9_readText_17 (q_X10_refuse hr56) ?_
        obtain ⟨b57, h⟩ := gck_some h
        refine G_zret rfl (gbo_or b57) (Nat.le_refl _) (Nat.le_refl _) dX9_readText_20 ?_
        cases h
        exact ⟨rfl, rfl, rfl, rfl, rfl⟩
set_option maxRecDepth 20000 in
theorem q_X9_readText {l : Launch} {I : gIt} {J : gJt} {w : Bool} {a0 : Nat} {v : (Int32 × gIt)} (ha0 : gset a0) (h : p_X9_readText I a0 = some v) : Cn l gX9_readText 80 0 0 [.ref a0, .ref 11] gS0 I J (gR0 w) (fun v' S' I' J' R' => v' = some (.int v.1) ∧ S' = gS0 ∧ I' = v.2 ∧ J' = J ∧ R' = gR0 w) := by
  refine Cn.of [some (.ref a0), some (.ref 11), none] (by decide) rfl (Nat.le_of_ble_eq_true rfl) ?_
  rw [p_X9_readText] at h
  refine G_iconst (v := 0) dX9_readText_0 rfl ?_
  refine S_istore_n [some (.ref a0), some (.ref 11), some (.int (0 : Int32))] dX9_readText_1 rfl (by decide) rfl ?_
  exact q_X9_readText_2  ha0 gFu _ _ h
