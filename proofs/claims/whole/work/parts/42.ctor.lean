set_option maxRecDepth 20000 in
theorem qi_22 {l : Launch} : Cn l gX11_init 3 148 4262 [.ref 0] (1, gS0.2) gz32 gz64 (grl gl_0) (fun v' S' I' J' R' => v' = none ∧ S' = (149, gS0.2) ∧ I' = (gu2 (gu2 gz32 9 1 5) 0 14 1700) ∧ J' = gz64 ∧ R' = grl gl_42) := by
  refine Cn.of [some (.ref 0), none] (by decide) rfl (Nat.le_of_ble_eq_true rfl) ?_
  refine G_aload_n dX11_init_0 rfl rfl ?_
  refine G_objI (gtb_in 110 (by decide +kernel) (by decide +kernel)) (by decide) (Nat.le_of_ble_eq_true rfl) dX11_init_1 gobj_w ?_
  refine G_aload_n dX11_init_4 rfl rfl ?_
  refine G_new (c := 7) (f := gS0.2) (N0 := 1) (gtb_in 113 (by decide +kernel) (by decide +kernel)) (gtb_in 114 (by decide +kernel) (by decide +kernel)) (gtb_in 90 (by decide +kernel) (by decide +kernel)) (by decide) sq_1 (fun _ => rfl) (fun _ => rfl) (grl_none (n := 1) (by decide) (Nat.le_refl _)) (Nat.le_of_ble_eq_true rfl) (Nat.le_of_ble_eq_true rfl) dX11_init_5 ?_
  refine G_dup dX11_init_8 rfl ?_
  refine G_cIN (host := "HopeOffice") (mj := gX7_init) (As := []) (rest := [.ref 1, .ref 0]) (List.mem_of_getElem? (i := 115) (by decide +kernel)) rfl rfl wX7_init (by decide +kernel) (by decide) rfl rfl (Nat.le_of_ble_eq_true rfl) (by decide) (Nat.le_of_ble_eq_true rfl) (Nat.le_of_ble_eq_true rfl) dX11_init_9 qi_1 (Nat.le_refl _) ?_
  refine G_putRF fl_X11_10 (by decide) sq_0 rfl rfl rfl rfl dX11_init_12 ?_
  refine G_aload_n dX11_init_15 rfl rfl ?_
  refine G_new (c := 6) (f := gS0.2) (N0 := 9) (gtb_in 158 (by decide +kernel) (by decide +kernel)) (gtb_in 159 (by decide +kernel) (by decide +kernel)) (gtb_in 91 (by decide +kernel) (by decide +kernel)) (by decide) sq_9 (fun _ => rfl) (fun _ => rfl) (grl_none (n := 9) (by decide) (Nat.le_refl _)) (Nat.le_of_ble_eq_true rfl) (Nat.le_of_ble_eq_true rfl) dX11_init_16 ?_
  refine G_dup dX11_init_19 rfl ?_
  refine G_cIN (host := "HopeOffice") (mj := gX6_init) (As := []) (rest := [.ref 9, .ref 0]) (List.mem_of_getElem? (i := 160) (by decide +kernel)) rfl rfl wX6_init (by decide +kernel) (by decide) rfl rfl (Nat.le_of_ble_eq_true rfl) (by decide) (Nat.le_of_ble_eq_true rfl) (Nat.le_of_ble_eq_true rfl) dX11_init_20 qi_2 (Nat.le_refl _) ?_
  refine G_putRF fl_X11_19 (by decide) sq_0 rfl rfl rfl rfl dX11_init_23 ?_
  refine G_aload_n dX11_init_26 rfl rfl ?_
  refine G_new (c := 10) (f := gS0.2) (N0 := 11) (gtb_in 172 (by decide +kernel) (by decide +kernel)) (gtb_in 173 (by decide +kernel) (by decide +kernel)) (gtb_in 92 (by decide +kernel) (by decide +kernel)) (by decide) sq_11 (fun _ => rfl) (fun _ => rfl) (grl_none (n := 11) (by decide) (Nat.le_refl _)) (Nat.le_of_ble_eq_true rfl) (Nat.le_of_ble_eq_true rfl) dX11_init_27 ?_
  refine G_dup dX11_init_30 rfl ?_
  refine G_cIN (host := "HopeOffice") (mj := gX10_init) (As := []) (rest := [.ref 11, .ref 0]) (List.mem_of_getElem? (i := 174) (by decide +kernel)) rfl rfl wX10_init (by decide +kernel) (by decide) rfl rfl (Nat.le_of_ble_eq_true rfl) (by decide) (Nat.le_of_ble_eq_true rfl) (Nat.le_of_ble_eq_true rfl) dX11_init_31 qi_3 (Nat.le_refl _) ?_
  refine G_putRF fl_X11_26 (by decide) sq_0 rfl rfl rfl rfl dX11_init_34 ?_
  refine G_aload_n dX11_init_37 rfl rfl ?_
  refine G_bipush (v := 10) dX11_init_38 rfl ?_
  refine G_anew (f := gS0.2) (N0 := 13) (len := 10) (gtb_in 198 (by decide +kernel) (by decide +kernel)) sp_13 (grl_none (n := 13) (by decide) (Nat.le_refl _)) (by decide) (by decide) (by decide) (Nat.le_of_ble_eq_true rfl) (Nat.le_of_ble_eq_true rfl) dX11_init_40 ?_
  refine G_putRF fl_X11_32 (by decide) sq_0 rfl rfl rfl rfl dX11_init_43 ?_
  refine G_iconst (v := 0) dX11_init_46 rfl ?_
  refine S_istore_n [some (.ref 0), some (.int (0 : Int32))] dX11_init_47 rfl (by decide) rfl ?_
  refine G_iload_n dX11_init_48 rfl rfl ?_
  refine G_bipush (v := 10) dX11_init_49 rfl ?_
  refine G_icmp_ge 73 dX11_init_51 (by decide) (fun c => absurd c (by decide)) (fun _ => ?_)
  refine G_aload_n dX11_init_54 rfl rfl ?_
  refine G_getR fl_X11_32 (by decide) sq_0 rfl (r := 13) (by decide) dX11_init_55 ?_
  refine G_iload_n dX11_init_58 rfl rfl ?_
  refine G_new (c := 9) (f := gS0.2) (N0 := 14) (gtb_in 198 (by decide +kernel) (by decide +kernel)) (gtb_in 200 (by decide +kernel) (by decide +kernel)) (gtb_in 93 (by decide +kernel) (by decide +kernel)) (by decide) sq_14 (fun _ => rfl) (fun _ => rfl) (grl_none (n := 14) (by decide) (Nat.le_refl _)) (Nat.le_of_ble_eq_true rfl) (Nat.le_of_ble_eq_true rfl) dX11_init_59 ?_
  refine G_dup dX11_init_62 rfl ?_
  refine G_cIN (host := "HopeOffice") (mj := gX9_init) (As := []) (rest := [.ref 14, .int (0 : Int32), .ref 13]) (List.mem_of_getElem? (i := 201) (by decide +kernel)) rfl rfl wX9_init (by decide +kernel) (by decide) rfl rfl (Nat.le_of_ble_eq_true rfl) (by decide) (Nat.le_of_ble_eq_true rfl) (Nat.le_of_ble_eq_true rfl) dX11_init_63 qi_4 (Nat.le_refl _) ?_
  refine G_aast (by decide) sp_13 (by decide) sq_14 (gin_in (by decide)) dX11_init_66 ?_
  refine S_iinc (v := 1) [some (.ref 0), some (.int (1 : Int32))] dX11_init_67 rfl rfl (by decide) rfl ?_
  refine G_goto 48 dX11_init_70 (by decide) ?_
  refine G_iload_n dX11_init_48 rfl rfl ?_
  refine G_bipush (v := 10) dX11_init_49 rfl ?_
  refine G_icmp_ge 73 dX11_init_51 (by decide) (fun c => absurd c (by decide)) (fun _ => ?_)
  refine G_aload_n dX11_init_54 rfl rfl ?_
  refine G_getR fl_X11_32 (by decide) sq_0 rfl (r := 13) (by decide) dX11_init_55 ?_
  refine G_iload_n dX11_init_58 rfl rfl ?_
  refine G_new (c := 9) (f := gS0.2) (N0 := 20) (gtb_in 198 (by decide +kernel) (by decide +kernel)) (gtb_in 200 (by decide +kernel) (by decide +kernel)) (gtb_in 93 (by decide +kernel) (by decide +kernel)) (by decide) sq_20 (fun _ => rfl) (fun _ => rfl) (grl_none (n := 20) (by decide) (Nat.le_refl _)) (Nat.le_of_ble_eq_true rfl) (Nat.le_of_ble_eq_true rfl) dX11_init_59 ?_
  refine G_dup dX11_init_62 rfl ?_
  refine G_cIN (host := "HopeOffice") (mj := gX9_init) (As := []) (rest := [.ref 20, .int (1 : Int32), .ref 13]) (List.mem_of_getElem? (i := 201) (by decide +kernel)) rfl rfl wX9_init (by decide +kernel) (by decide) rfl rfl (Nat.le_of_ble_eq_true rfl) (by decide) (Nat.le_of_ble_eq_true rfl) (Nat.le_of_ble_eq_true rfl) dX11_init_63 qi_5 (Nat.le_refl _) ?_
  refine G_aast (by decide) sp_13 (by decide) sq_20 (gin_in (by decide)) dX11_init_66 ?_
  refine S_iinc (v := 1) [some (.ref 0), some (.int (2 : Int32))] dX11_init_67 rfl rfl (by decide) rfl ?_
  refine G_goto 48 dX11_init_70 (by decide) ?_
  refine G_iload_n dX11_init_48 rfl rfl ?_
  refine G_bipush (v := 10) dX11_init_49 rfl ?_
  refine G_icmp_ge 73 dX11_init_51 (by decide) (fun c => absurd c (by decide)) (fun _ => ?_)
  refine G_aload_n dX11_init_54 rfl rfl ?_
  refine G_getR fl_X11_32 (by decide) sq_0 rfl (r := 13) (by decide) dX11_init_55 ?_
  refine G_iload_n dX11_init_58 rfl rfl ?_
  refine G_new (c := 9) (f := gS0.2) (N0 := 26) (gtb_in 198 (by decide +kernel) (by decide +kernel)) (gtb_in 200 (by decide +kernel) (by decide +kernel)) (gtb_in 93 (by decide +kernel) (by decide +kernel)) (by decide) sq_26 (fun _ => rfl) (fun _ => rfl) (grl_none (n := 26) (by decide) (Nat.le_refl _)) (Nat.le_of_ble_eq_true rfl) (Nat.le_of_ble_eq_true rfl) dX11_init_59 ?_
  refine G_dup dX11_init_62 rfl ?_
  refine G_cIN (host := "HopeOffice") (mj := gX9_init) (As := []) (rest := [.ref 26, .int (2 : Int32), .ref 13]) (List.mem_of_getElem? (i := 201) (by decide +kernel)) rfl rfl wX9_init (by decide +kernel) (by decide) rfl rfl (Nat.le_of_ble_eq_true rfl) (by decide) (Nat.le_of_ble_eq_true rfl) (Nat.le_of_ble_eq_true rfl) dX11_init_63 qi_6 (Nat.le_refl _) ?_
  refine G_aast (by decide) sp_13 (by decide) sq_26 (gin_in (by decide)) dX11_init_66 ?_
  refine S_iinc (v := 1) [some (.ref 0), some (.int (3 : Int32))] dX11_init_67 rfl rfl (by decide) rfl ?_
  refine G_goto 48 dX11_init_70 (by decide) ?_
  refine G_iload_n dX11_init_48 rfl rfl ?_
  refine G_bipush (v := 10) dX11_init_49 rfl ?_
  refine G_icmp_ge 73 dX11_init_51 (by decide) (fun c => absurd c (by decide)) (fun _ => ?_)
  refine G_aload_n dX11_init_54 rfl rfl ?_
  refine G_getR fl_X11_32 (by decide) sq_0 rfl (r := 13) (by decide) dX11_init_55 ?_
  refine G_iload_n dX11_init_58 rfl rfl ?_
  refine G_new (c := 9) (f := gS0.2) (N0 := 32) (gtb_in 198 (by decide +kernel) (by decide +kernel)) (gtb_in 200 (by decide +kernel) (by decide +kernel)) (gtb_in 93 (by decide +kernel) (by decide +kernel)) (by decide) sq_32 (fun _ => rfl) (fun _ => rfl) (grl_none (n := 32) (by decide) (Nat.le_refl _)) (Nat.le_of_ble_eq_true rfl) (Nat.le_of_ble_eq_true rfl) dX11_init_59 ?_
  refine G_dup dX11_init_62 rfl ?_
  refine G_cIN (host := "HopeOffice") (mj := gX9_init) (As := []) (rest := [.ref 32, .int (3 : Int32), .ref 13]) (List.mem_of_getElem? (i := 201) (by decide +kernel)) rfl rfl wX9_init (by decide +kernel) (by decide) rfl rfl (Nat.le_of_ble_eq_true rfl) (by decide) (Nat.le_of_ble_eq_true rfl) (Nat.le_of_ble_eq_true rfl) dX11_init_63 qi_7 (Nat.le_refl _) ?_
  refine G_aast (by decide) sp_13 (by decide) sq_32 (gin_in (by decide)) dX11_init_66 ?_
  refine S_iinc (v := 1) [some (.ref 0), some (.int (4 : Int32))] dX11_init_67 rfl rfl (by decide) rfl ?_
  refine G_goto 48 dX11_init_70 (by decide) ?_
  refine G_iload_n dX11_init_48 rfl rfl ?_
  refine G_bipush (v := 10) dX11_init_49 rfl ?_
  refine G_icmp_ge 73 dX11_init_51 (by decide) (fun c => absurd c (by decide)) (fun _ => ?_)
  refine G_aload_n dX11_init_54 rfl rfl ?_
  refine G_getR fl_X11_32 (by decide) sq_0 rfl (r := 13) (by decide) dX11_init_55 ?_
  refine G_iload_n dX11_init_58 rfl rfl ?_
  refine G_new (c := 9) (f := gS0.2) (N0 := 38) (gtb_in 198 (by decide +kernel) (by decide +kernel)) (gtb_in 200 (by decide +kernel) (by decide +kernel)) (gtb_in 93 (by decide +kernel) (by decide +kernel)) (by decide) sq_38 (fun _ => rfl) (fun _ => rfl) (grl_none (n := 38) (by decide) (Nat.le_refl _)) (Nat.le_of_ble_eq_true rfl) (Nat.le_of_ble_eq_true rfl) dX11_init_59 ?_
  refine G_dup dX11_init_62 rfl ?_
  refine G_cIN (host := "HopeOffice") (mj := gX9_init) (As := []) (rest := [.ref 38, .int (4 : Int32), .ref 13]) (List.mem_of_getElem? (i := 201) (by decide +kernel)) rfl rfl wX9_init (by decide +kernel) (by decide) rfl rfl (Nat.le_of_ble_eq_true rfl) (by decide) (Nat.le_of_ble_eq_true rfl) (Nat.le_of_ble_eq_true rfl) dX11_init_63 qi_8 (Nat.le_refl _) ?_
  refine G_aast (by decide) sp_13 (by decide) sq_38 (gin_in (by decide)) dX11_init_66 ?_
  refine S_iinc (v := 1) [some (.ref 0), some (.int (5 : Int32))] dX11_init_67 rfl rfl (by decide) rfl ?_
  refine G_goto 48 dX11_init_70 (by decide) ?_
  refine G_iload_n dX11_init_48 rfl rfl ?_
  refine G_bipush (v := 10) dX11_init_49 rfl ?_
  refine G_icmp_ge 73 dX11_init_51 (by decide) (fun c => absurd c (by decide)) (fun _ => ?_)
  refine G_aload_n dX11_init_54 rfl rfl ?_
  refine G_getR fl_X11_32 (by decide) sq_0 rfl (r := 13) (by decide) dX11_init_55 ?_
  refine G_iload_n dX11_init_58 rfl rfl ?_
  refine G_new (c := 9) (f := gS0.2) (N0 := 44) (gtb_in 198 (by decide +kernel) (by decide +kernel)) (gtb_in 200 (by decide +kernel) (by decide +kernel)) (gtb_in 93 (by decide +kernel) (by decide +kernel)) (by decide) sq_44 (fun _ => rfl) (fun _ => rfl) (grl_none (n := 44) (by decide) (Nat.le_refl _)) (Nat.le_of_ble_eq_true rfl) (Nat.le_of_ble_eq_true rfl) dX11_init_59 ?_
  refine G_dup dX11_init_62 rfl ?_
  refine G_cIN (host := "HopeOffice") (mj := gX9_init) (As := []) (rest := [.ref 44, .int (5 : Int32), .ref 13]) (List.mem_of_getElem? (i := 201) (by decide +kernel)) rfl rfl wX9_init (by decide +kernel) (by decide) rfl rfl (Nat.le_of_ble_eq_true rfl) (by decide) (Nat.le_of_ble_eq_true rfl) (Nat.le_of_ble_eq_true rfl) dX11_init_63 qi_9 (Nat.le_refl _) ?_
  refine G_aast (by decide) sp_13 (by decide) sq_44 (gin_in (by decide)) dX11_init_66 ?_
  refine S_iinc (v := 1) [some (.ref 0), some (.int (6 : Int32))] dX11_init_67 rfl rfl (by decide) rfl ?_
  refine G_goto 48 dX11_init_70 (by decide) ?_
  refine G_iload_n dX11_init_48 rfl rfl ?_
  refine G_bipush (v := 10) dX11_init_49 rfl ?_
  refine G_icmp_ge 73 dX11_init_51 (by decide) (fun c => absurd c (by decide)) (fun _ => ?_)
  refine G_aload_n dX11_init_54 rfl rfl ?_
  refine G_getR fl_X11_32 (by decide) sq_0 rfl (r := 13) (by decide) dX11_init_55 ?_
  refine G_iload_n dX11_init_58 rfl rfl ?_
  refine G_new (c := 9) (f := gS0.2) (N0 := 50) (gtb_in 198 (by decide +kernel) (by decide +kernel)) (gtb_in 200 (by decide +kernel) (by decide +kernel)) (gtb_in 93 (by decide +kernel) (by decide +kernel)) (by decide) sq_50 (fun _ => rfl) (fun _ => rfl) (grl_none (n := 50) (by decide) (Nat.le_refl _)) (Nat.le_of_ble_eq_true rfl) (Nat.le_of_ble_eq_true rfl) dX11_init_59 ?_
  refine G_dup dX11_init_62 rfl ?_
  refine G_cIN (host := "HopeOffice") (mj := gX9_init) (As := []) (rest := [.ref 50, .int (6 : Int32), .ref 13]) (List.mem_of_getElem? (i := 201) (by decide +kernel)) rfl rfl wX9_init (by decide +kernel) (by decide) rfl rfl (Nat.le_of_ble_eq_true rfl) (by decide) (Nat.le_of_ble_eq_true rfl) (Nat.le_of_ble_eq_true rfl) dX11_init_63 qi_10 (Nat.le_refl _) ?_
  refine G_aast (by decide) sp_13 (by decide) sq_50 (gin_in (by decide)) dX11_init_66 ?_
  refine S_iinc (v := 1) [some (.ref 0), some (.int (7 : Int32))] dX11_init_67 rfl rfl (by decide) rfl ?_
  refine G_goto 48 dX11_init_70 (by decide) ?_
  refine G_iload_n dX11_init_48 rfl rfl ?_
  refine G_bipush (v := 10) dX11_init_49 rfl ?_
  refine G_icmp_ge 73 dX11_init_51 (by decide) (fun c => absurd c (by decide)) (fun _ => ?_)
  refine G_aload_n dX11_init_54 rfl rfl ?_
  refine G_getR fl_X11_32 (by decide) sq_0 rfl (r := 13) (by decide) dX11_init_55 ?_
  refine G_iload_n dX11_init_58 rfl rfl ?_
  refine G_new (c := 9) (f := gS0.2) (N0 := 56) (gtb_in 198 (by decide +kernel) (by decide +kernel)) (gtb_in 200 (by decide +kernel) (by decide +kernel)) (gtb_in 93 (by decide +kernel) (by decide +kernel)) (by decide) sq_56 (fun _ => rfl) (fun _ => rfl) (grl_none (n := 56) (by decide) (Nat.le_refl _)) (Nat.le_of_ble_eq_true rfl) (Nat.le_of_ble_eq_true rfl) dX11_init_59 ?_
  refine G_dup dX11_init_62 rfl ?_
  refine G_cIN (host := "HopeOffice") (mj := gX9_init) (As := []) (rest := [.ref 56, .int (7 : Int32), .ref 13]) (List.mem_of_getElem? (i := 201) (by decide +kernel)) rfl rfl wX9_init (by decide +kernel) (by decide) rfl rfl (Nat.le_of_ble_eq_true rfl) (by decide) (Nat.le_of_ble_eq_true rfl) (Nat.le_of_ble_eq_true rfl) dX11_init_63 qi_11 (Nat.le_refl _) ?_
  refine G_aast (by decide) sp_13 (by decide) sq_56 (gin_in (by decide)) dX11_init_66 ?_
  refine S_iinc (v := 1) [some (.ref 0), some (.int (8 : Int32))] dX11_init_67 rfl rfl (by decide) rfl ?_
  refine G_goto 48 dX11_init_70 (by decide) ?_
  refine G_iload_n dX11_init_48 rfl rfl ?_
  refine G_bipush (v := 10) dX11_init_49 rfl ?_
  refine G_icmp_ge 73 dX11_init_51 (by decide) (fun c => absurd c (by decide)) (fun _ => ?_)
  refine G_aload_n dX11_init_54 rfl rfl ?_
  refine G_getR fl_X11_32 (by decide) sq_0 rfl (r := 13) (by decide) dX11_init_55 ?_
  refine G_iload_n dX11_init_58 rfl rfl ?_
  refine G_new (c := 9) (f := gS0.2) (N0 := 62) (gtb_in 198 (by decide +kernel) (by decide +kernel)) (gtb_in 200 (by decide +kernel) (by decide +kernel)) (gtb_in 93 (by decide +kernel) (by decide +kernel)) (by decide) sq_62 (fun _ => rfl) (fun _ => rfl) (grl_none (n := 62) (by decide) (Nat.le_refl _)) (Nat.le_of_ble_eq_true rfl) (Nat.le_of_ble_eq_true rfl) dX11_init_59 ?_
  refine G_dup dX11_init_62 rfl ?_
  refine G_cIN (host := "HopeOffice") (mj := gX9_init) (As := []) (rest := [.ref 62, .int (8 : Int32), .ref 13]) (List.mem_of_getElem? (i := 201) (by decide +kernel)) rfl rfl wX9_init (by decide +kernel) (by decide) rfl rfl (Nat.le_of_ble_eq_true rfl) (by decide) (Nat.le_of_ble_eq_true rfl) (Nat.le_of_ble_eq_true rfl) dX11_init_63 qi_12 (Nat.le_refl _) ?_
  refine G_aast (by decide) sp_13 (by decide) sq_62 (gin_in (by decide)) dX11_init_66 ?_
  refine S_iinc (v := 1) [some (.ref 0), some (.int (9 : Int32))] dX11_init_67 rfl rfl (by decide) rfl ?_
  refine G_goto 48 dX11_init_70 (by decide) ?_
  refine G_iload_n dX11_init_48 rfl rfl ?_
  refine G_bipush (v := 10) dX11_init_49 rfl ?_
  refine G_icmp_ge 73 dX11_init_51 (by decide) (fun c => absurd c (by decide)) (fun _ => ?_)
  refine G_aload_n dX11_init_54 rfl rfl ?_
  refine G_getR fl_X11_32 (by decide) sq_0 rfl (r := 13) (by decide) dX11_init_55 ?_
  refine G_iload_n dX11_init_58 rfl rfl ?_
  refine G_new (c := 9) (f := gS0.2) (N0 := 68) (gtb_in 198 (by decide +kernel) (by decide +kernel)) (gtb_in 200 (by decide +kernel) (by decide +kernel)) (gtb_in 93 (by decide +kernel) (by decide +kernel)) (by decide) sq_68 (fun _ => rfl) (fun _ => rfl) (grl_none (n := 68) (by decide) (Nat.le_refl _)) (Nat.le_of_ble_eq_true rfl) (Nat.le_of_ble_eq_true rfl) dX11_init_59 ?_
  refine G_dup dX11_init_62 rfl ?_
  refine G_cIN (host := "HopeOffice") (mj := gX9_init) (As := []) (rest := [.ref 68, .int (9 : Int32), .ref 13]) (List.mem_of_getElem? (i := 201) (by decide +kernel)) rfl rfl wX9_init (by decide +kernel) (by decide) rfl rfl (Nat.le_of_ble_eq_true rfl) (by decide) (Nat.le_of_ble_eq_true rfl) (Nat.le_of_ble_eq_true rfl) dX11_init_63 qi_13 (Nat.le_refl _) ?_
  refine G_aast (by decide) sp_13 (by decide) sq_68 (gin_in (by decide)) dX11_init_66 ?_
  refine S_iinc (v := 1) [some (.ref 0), some (.int (10 : Int32))] dX11_init_67 rfl rfl (by decide) rfl ?_
  refine G_goto 48 dX11_init_70 (by decide) ?_
  refine G_iload_n dX11_init_48 rfl rfl ?_
  refine G_bipush (v := 10) dX11_init_49 rfl ?_
  refine G_icmp_ge 73 dX11_init_51 (by decide) (fun _ => ?_) (fun c => absurd (by decide) c)
  refine G_aload_n dX11_init_73 rfl rfl ?_
  refine G_new (c := 5) (f := gS0.2) (N0 := 74) (gtb_in 258 (by decide +kernel) (by decide +kernel)) (gtb_in 259 (by decide +kernel) (by decide +kernel)) (gtb_in 94 (by decide +kernel) (by decide +kernel)) (by decide) sq_74 (fun _ => rfl) (fun _ => rfl) (grl_none (n := 74) (by decide) (Nat.le_refl _)) (Nat.le_of_ble_eq_true rfl) (Nat.le_of_ble_eq_true rfl) dX11_init_74 ?_
  refine G_dup dX11_init_77 rfl ?_
  refine G_cIN (host := "HopeOffice") (mj := gX5_init) (As := []) (rest := [.ref 74, .ref 0]) (List.mem_of_getElem? (i := 260) (by decide +kernel)) rfl rfl wX5_init (by decide +kernel) (by decide) rfl rfl (Nat.le_of_ble_eq_true rfl) (by decide) (Nat.le_of_ble_eq_true rfl) (Nat.le_of_ble_eq_true rfl) dX11_init_78 qi_14 (Nat.le_refl _) ?_
  refine G_putRF fl_X11_40 (by decide) sq_0 rfl rfl rfl rfl dX11_init_81 ?_
  refine G_aload_n dX11_init_84 rfl rfl ?_
  refine G_new (c := 3) (f := gS0.2) (N0 := 76) (gtb_in 277 (by decide +kernel) (by decide +kernel)) (gtb_in 278 (by decide +kernel) (by decide +kernel)) (gtb_in 95 (by decide +kernel) (by decide +kernel)) (by decide) sq_76 (fun _ => rfl) (fun _ => rfl) (grl_none (n := 76) (by decide) (Nat.le_refl _)) (Nat.le_of_ble_eq_true rfl) (Nat.le_of_ble_eq_true rfl) dX11_init_85 ?_
  refine G_dup dX11_init_88 rfl ?_
  refine G_cIN (host := "HopeOffice") (mj := gX3_init) (As := []) (rest := [.ref 76, .ref 0]) (List.mem_of_getElem? (i := 279) (by decide +kernel)) rfl rfl wX3_init (by decide +kernel) (by decide) rfl rfl (Nat.le_of_ble_eq_true rfl) (by decide) (Nat.le_of_ble_eq_true rfl) (Nat.le_of_ble_eq_true rfl) dX11_init_89 qi_15 (Nat.le_refl _) ?_
  refine G_putRF fl_X11_47 (by decide) sq_0 rfl rfl rfl rfl dX11_init_92 ?_
  refine G_aload_n dX11_init_95 rfl rfl ?_
  refine G_new (c := 1) (f := gS0.2) (N0 := 78) (gtb_in 290 (by decide +kernel) (by decide +kernel)) (gtb_in 291 (by decide +kernel) (by decide +kernel)) (gtb_in 96 (by decide +kernel) (by decide +kernel)) (by decide) sq_78 (fun _ => rfl) (fun _ => rfl) (grl_none (n := 78) (by decide) (Nat.le_refl _)) (Nat.le_of_ble_eq_true rfl) (Nat.le_of_ble_eq_true rfl) dX11_init_96 ?_
  refine G_dup dX11_init_99 rfl ?_
  refine G_aload_n dX11_init_100 rfl rfl ?_
  refine G_getR fl_X11_10 (by decide) sq_0 rfl (r := 1) (by decide) dX11_init_101 ?_
  refine G_aload_n dX11_init_104 rfl rfl ?_
  refine G_getR fl_X11_19 (by decide) sq_0 rfl (r := 9) (by decide) dX11_init_105 ?_
  refine G_aload_n dX11_init_108 rfl rfl ?_
  refine G_getR fl_X11_40 (by decide) sq_0 rfl (r := 74) (by decide) dX11_init_109 ?_
  refine G_aload_n dX11_init_112 rfl rfl ?_
  refine G_getR fl_X11_47 (by decide) sq_0 rfl (r := 76) (by decide) dX11_init_113 ?_
  refine G_cI (mj := gX1_init) (As := [.ref 1, .ref 9, .ref 74, .ref 76]) (rest := [.ref 78, .ref 0]) (gtb_in 292 (by decide +kernel) (by decide +kernel)) rfl rfl wX1_init (by decide +kernel) (by decide) rfl rfl (Nat.le_of_ble_eq_true rfl) (by decide) (Nat.le_of_ble_eq_true rfl) (Nat.le_of_ble_eq_true rfl) dX11_init_116 qi_16 (Nat.le_refl _) ?_
  refine G_putRF fl_X11_56 (by decide) sq_0 rfl rfl rfl rfl dX11_init_119 ?_
  refine G_aload_n dX11_init_122 rfl rfl ?_
  refine G_new (c := 8) (f := gS0.2) (N0 := 84) (gtb_in 337 (by decide +kernel) (by decide +kernel)) (gtb_in 338 (by decide +kernel) (by decide +kernel)) (gtb_in 97 (by decide +kernel) (by decide +kernel)) (by decide) sq_84 (fun _ => rfl) (fun _ => rfl) (grl_none (n := 84) (by decide) (Nat.le_refl _)) (Nat.le_of_ble_eq_true rfl) (Nat.le_of_ble_eq_true rfl) dX11_init_123 ?_
  refine G_dup dX11_init_126 rfl ?_
  refine G_cIN (host := "HopeOffice") (mj := gX8_init) (As := []) (rest := [.ref 84, .ref 0]) (List.mem_of_getElem? (i := 339) (by decide +kernel)) rfl rfl wX8_init (by decide +kernel) (by decide) rfl rfl (Nat.le_of_ble_eq_true rfl) (by decide) (Nat.le_of_ble_eq_true rfl) (Nat.le_of_ble_eq_true rfl) dX11_init_127 qi_17 (Nat.le_refl _) ?_
  refine G_putRF fl_X11_63 (by decide) sq_0 rfl rfl rfl rfl dX11_init_130 ?_
  refine G_aload_n dX11_init_133 rfl rfl ?_
  refine G_new (c := 2) (f := gS0.2) (N0 := 95) (gtb_in 395 (by decide +kernel) (by decide +kernel)) (gtb_in 396 (by decide +kernel) (by decide +kernel)) (gtb_in 98 (by decide +kernel) (by decide +kernel)) (by decide) sq_95 (fun _ => rfl) (fun _ => rfl) (grl_none (n := 95) (by decide) (Nat.le_refl _)) (Nat.le_of_ble_eq_true rfl) (Nat.le_of_ble_eq_true rfl) dX11_init_134 ?_
  refine G_dup dX11_init_137 rfl ?_
  refine G_cIN (host := "HopeOffice") (mj := gX2_init) (As := []) (rest := [.ref 95, .ref 0]) (List.mem_of_getElem? (i := 397) (by decide +kernel)) rfl rfl wX2_init (by decide +kernel) (by decide) rfl rfl (Nat.le_of_ble_eq_true rfl) (by decide) (Nat.le_of_ble_eq_true rfl) (Nat.le_of_ble_eq_true rfl) dX11_init_138 qi_18 (Nat.le_refl _) ?_
  refine G_putRF fl_X11_70 (by decide) sq_0 rfl rfl rfl rfl dX11_init_141 ?_
  refine G_aload_n dX11_init_144 rfl rfl ?_
  refine G_new (c := 4) (f := gS0.2) (N0 := 101) (gtb_in 423 (by decide +kernel) (by decide +kernel)) (gtb_in 424 (by decide +kernel) (by decide +kernel)) (gtb_in 99 (by decide +kernel) (by decide +kernel)) (by decide) sq_101 (fun _ => rfl) (fun _ => rfl) (grl_none (n := 101) (by decide) (Nat.le_refl _)) (Nat.le_of_ble_eq_true rfl) (Nat.le_of_ble_eq_true rfl) dX11_init_145 ?_
  refine G_dup dX11_init_148 rfl ?_
  refine G_aload_n dX11_init_149 rfl rfl ?_
  refine G_getR fl_X11_63 (by decide) sq_0 rfl (r := 84) (by decide) dX11_init_150 ?_
  refine G_aload_n dX11_init_153 rfl rfl ?_
  refine G_getR fl_X11_40 (by decide) sq_0 rfl (r := 74) (by decide) dX11_init_154 ?_
  refine G_aload_n dX11_init_157 rfl rfl ?_
  refine G_getR fl_X11_47 (by decide) sq_0 rfl (r := 76) (by decide) dX11_init_158 ?_
  refine G_cI (mj := gX4_init) (As := [.ref 84, .ref 74, .ref 76]) (rest := [.ref 101, .ref 0]) (gtb_in 425 (by decide +kernel) (by decide +kernel)) rfl rfl wX4_init (by decide +kernel) (by decide) rfl rfl (Nat.le_of_ble_eq_true rfl) (by decide) (Nat.le_of_ble_eq_true rfl) (Nat.le_of_ble_eq_true rfl) dX11_init_161 qi_19 (Nat.le_refl _) ?_
  refine G_putRF fl_X11_79 (by decide) sq_0 rfl rfl rfl rfl dX11_init_164 ?_
  refine G_aload_n dX11_init_167 rfl rfl ?_
  refine G_new (c := 0) (f := gS0.2) (N0 := 103) (gtb_in 461 (by decide +kernel) (by decide +kernel)) (gtb_in 462 (by decide +kernel) (by decide +kernel)) (gtb_in 100 (by decide +kernel) (by decide +kernel)) (by decide) sq_103 (fun _ => rfl) (fun _ => rfl) (grl_none (n := 103) (by decide) (Nat.le_refl _)) (Nat.le_of_ble_eq_true rfl) (Nat.le_of_ble_eq_true rfl) dX11_init_168 ?_
  refine G_dup dX11_init_171 rfl ?_
  refine G_cIN (host := "HopeOffice") (mj := gX0_init) (As := []) (rest := [.ref 103, .ref 0]) (List.mem_of_getElem? (i := 463) (by decide +kernel)) rfl rfl wX0_init (by decide +kernel) (by decide) rfl rfl (Nat.le_of_ble_eq_true rfl) (by decide) (Nat.le_of_ble_eq_true rfl) (Nat.le_of_ble_eq_true rfl) dX11_init_172 qi_20 (Nat.le_refl _) ?_
  refine G_putRN fl_X11_86 (by decide) sq_0 rfl rfl dX11_init_175 ?_
  refine G_aload_n dX11_init_178 rfl rfl ?_
  refine G_new (c := 0) (f := gS0.2) (N0 := 126) (gtb_in 461 (by decide +kernel) (by decide +kernel)) (gtb_in 462 (by decide +kernel) (by decide +kernel)) (gtb_in 100 (by decide +kernel) (by decide +kernel)) (by decide) sq_126 (fun _ => rfl) (fun _ => rfl) (grl_none (n := 126) (by decide) (Nat.le_refl _)) (Nat.le_of_ble_eq_true rfl) (Nat.le_of_ble_eq_true rfl) dX11_init_179 ?_
  refine G_dup dX11_init_182 rfl ?_
  refine G_cIN (host := "HopeOffice") (mj := gX0_init) (As := []) (rest := [.ref 126, .ref 0]) (List.mem_of_getElem? (i := 463) (by decide +kernel)) rfl rfl wX0_init (by decide +kernel) (by decide) rfl rfl (Nat.le_of_ble_eq_true rfl) (by decide) (Nat.le_of_ble_eq_true rfl) (Nat.le_of_ble_eq_true rfl) dX11_init_183 qi_21 (Nat.le_refl _) ?_
  refine G_putRN fl_X11_90 (by decide) sq_0 rfl rfl dX11_init_186 ?_
  refine G_aload_n dX11_init_189 rfl rfl ?_
  refine G_sipush (v := 1700) dX11_init_190 rfl ?_
  refine G_putI fl_X11_93 (by decide) sq_0 rfl rfl ⟨rfl, rfl⟩ dX11_init_193 ?_
  refine G_vret rfl (Nat.le_refl _) (Nat.le_refl _) dX11_init_196 ?_
  exact ⟨rfl, rfl, rfl, rfl, rfl⟩
def gl_43 : List (Nat × Nat × Nat) := (149, 66, 193) :: (149, 65, 192) :: (149, 64, 191) :: (149, 63, 190) :: (149, 62, 189) :: (149, 58, 188) :: (149, 57, 187) :: (149, 56, 186) :: (149, 55, 185) :: (149, 54, 184) :: (149, 53, 183) :: (149, 52, 182) :: (149, 51, 181) :: (149, 50, 180) :: (149, 49, 179) :: (149, 48, 178) :: (149, 47, 177) :: (149, 46, 176) :: (149, 45, 175) :: (149, 44, 174) :: (149, 43, 173) :: (149, 41, 172) :: (149, 38, 171) :: (149, 37, 170) :: (149, 36, 169) :: (149, 27, 168) :: (149, 26, 167) :: (149, 25, 166) :: (149, 24, 165) :: (149, 23, 164) :: (149, 22, 163) :: (149, 21, 162) :: (149, 20, 161) :: (149, 19, 160) :: (149, 18, 159) :: (149, 17, 158) :: (149, 16, 157) :: (149, 15, 156) :: (149, 14, 155) :: (149, 13, 154) :: (149, 12, 153) :: (149, 11, 152) :: (149, 10, 151) :: (149, 0, 150) :: gl_42
set_option maxRecDepth 20000 in
theorem qi_23 {l : Launch} : Cn l gX12_init 2 44 4964 [.ref 149] (150, gS0.2) (gu2 (gu2 gz32 9 1 5) 0 14 1700) gz64 (grl gl_42) (fun v' S' I' J' R' => v' = none ∧ S' = (194, gS0.2) ∧ I' = (gu2 (gu2 (gu2 (gu2 gz32 9 1 5) 0 14 1700) 149 2 1700) 149 8 5) ∧ J' = gz64 ∧ R' = grl gl_43) := by
  refine Cn.of [some (.ref 149)] (by decide) rfl (Nat.le_of_ble_eq_true rfl) ?_
  refine G_aload_n dX12_init_0 rfl rfl ?_
  refine G_objI (gtb_in 1075 (by decide +kernel) (by decide +kernel)) (by decide) (Nat.le_of_ble_eq_true rfl) dX12_init_1 gobj_w ?_
  refine G_aload_n dX12_init_4 rfl rfl ?_
  refine G_bipush (v := 100) dX12_init_5 rfl ?_
  refine G_newarr (aty := .byte) (ty := .byte) (f := gS0.2) (N0 := 150) (t := 13) (q := 0) (len := 100) rfl (fun _ => rfl) (fun _ _ h => h) (by decide) sp_150 (gblk0 150 100 (fun _ => rfl)) gac_0 (by decide) (by decide) (by decide) (Nat.le_of_ble_eq_true rfl) (Nat.le_of_ble_eq_true rfl) dX12_init_7 ?_
  refine G_putRF fl_X12_7 (by decide) sq_149 rfl rfl rfl rfl dX12_init_9 ?_
  refine G_aload_n dX12_init_12 rfl rfl ?_
  refine G_sipush (v := 1700) dX12_init_13 rfl ?_
  refine G_putI fl_X12_13 (by decide) sq_149 rfl rfl ⟨rfl, rfl⟩ dX12_init_16 ?_
  refine G_aload_n dX12_init_19 rfl rfl ?_
  refine G_iconst (v := 5) dX12_init_20 rfl ?_
  refine G_putI fl_X12_17 (by decide) sq_149 rfl rfl ⟨rfl, rfl⟩ dX12_init_21 ?_
  refine G_aload_n dX12_init_24 rfl rfl ?_
  refine G_bipush (v := 16) dX12_init_25 rfl ?_
  refine G_newarr (aty := .int) (ty := .int) (f := gS0.2) (N0 := 151) (t := 14) (q := 1) (len := 16) rfl (fun _ => rfl) (fun _ _ h => h) (by decide) sp_151 (gblk1 151 16 (fun _ => rfl)) gac_1 (by decide) (by decide) (by decide) (Nat.le_of_ble_eq_true rfl) (Nat.le_of_ble_eq_true rfl) dX12_init_27 ?_
  refine G_putRF fl_X12_20 (by decide) sq_149 rfl rfl rfl rfl dX12_init_29 ?_
  refine G_aload_n dX12_init_32 rfl rfl ?_
  refine G_bipush (v := 16) dX12_init_33 rfl ?_
  refine G_newarr (aty := .int) (ty := .int) (f := gS0.2) (N0 := 152) (t := 14) (q := 1) (len := 16) rfl (fun _ => rfl) (fun _ _ h => h) (by decide) sp_152 (gblk1 152 16 (fun _ => rfl)) gac_1 (by decide) (by decide) (by decide) (Nat.le_of_ble_eq_true rfl) (Nat.le_of_ble_eq_true rfl) dX12_init_35 ?_
  refine G_putRF fl_X12_24 (by decide) sq_149 rfl rfl rfl rfl dX12_init_37 ?_
  refine G_aload_n dX12_init_40 rfl rfl ?_
  refine G_bipush (v := 16) dX12_init_41 rfl ?_
  refine G_newarr (aty := .int) (ty := .int) (f := gS0.2) (N0 := 153) (t := 14) (q := 1) (len := 16) rfl (fun _ => rfl) (fun _ _ h => h) (by decide) sp_153 (gblk1 153 16 (fun _ => rfl)) gac_1 (by decide) (by decide) (by decide) (Nat.le_of_ble_eq_true rfl) (Nat.le_of_ble_eq_true rfl) dX12_init_43 ?_
  refine G_putRF fl_X12_27 (by decide) sq_149 rfl rfl rfl rfl dX12_init_45 ?_
  refine G_aload_n dX12_init_48 rfl rfl ?_
  refine G_bipush (v := 16) dX12_init_49 rfl ?_
  refine G_newarr (aty := .int) (ty := .int) (f := gS0.2) (N0 := 154) (t := 14) (q := 1) (len := 16) rfl (fun _ => rfl) (fun _ _ h => h) (by decide) sp_154 (gblk1 154 16 (fun _ => rfl)) gac_1 (by decide) (by decide) (by decide) (Nat.le_of_ble_eq_true rfl) (Nat.le_of_ble_eq_true rfl) dX12_init_51 ?_
  refine G_putRF fl_X12_30 (by decide) sq_149 rfl rfl rfl rfl dX12_init_53 ?_
  refine G_aload_n dX12_init_56 rfl rfl ?_
  refine G_bipush (v := 16) dX12_init_57 rfl ?_
  refine G_newarr (aty := .int) (ty := .int) (f := gS0.2) (N0 := 155) (t := 14) (q := 1) (len := 16) rfl (fun _ => rfl) (fun _ _ h => h) (by decide) sp_155 (gblk1 155 16 (fun _ => rfl)) gac_1 (by decide) (by decide) (by decide) (Nat.le_of_ble_eq_true rfl) (Nat.le_of_ble_eq_true rfl) dX12_init_59 ?_
  refine G_putRF fl_X12_33 (by decide) sq_149 rfl rfl rfl rfl dX12_init_61 ?_
  refine G_aload_n dX12_init_64 rfl rfl ?_
  refine G_bipush (v := 48) dX12_init_65 rfl ?_
  refine G_newarr (aty := .int) (ty := .int) (f := gS0.2) (N0 := 156) (t := 14) (q := 1) (len := 48) rfl (fun _ => rfl) (fun _ _ h => h) (by decide) sp_156 (gblk1 156 48 (fun _ => rfl)) gac_1 (by decide) (by decide) (by decide) (Nat.le_of_ble_eq_true rfl) (Nat.le_of_ble_eq_true rfl) dX12_init_67 ?_
  refine G_putRF fl_X12_36 (by decide) sq_149 rfl rfl rfl rfl dX12_init_69 ?_
  refine G_aload_n dX12_init_72 rfl rfl ?_
  refine G_bipush (v := 10) dX12_init_73 rfl ?_
  refine G_newarr (aty := .int) (ty := .int) (f := gS0.2) (N0 := 157) (t := 14) (q := 1) (len := 10) rfl (fun _ => rfl) (fun _ _ h => h) (by decide) sp_157 (gblk1 157 10 (fun _ => rfl)) gac_1 (by decide) (by decide) (by decide) (Nat.le_of_ble_eq_true rfl) (Nat.le_of_ble_eq_true rfl) dX12_init_75 ?_
  refine G_putRF fl_X12_39 (by decide) sq_149 rfl rfl rfl rfl dX12_init_77 ?_
  refine G_aload_n dX12_init_80 rfl rfl ?_
  refine G_bipush (v := 10) dX12_init_81 rfl ?_
  refine G_newarr (aty := .int) (ty := .int) (f := gS0.2) (N0 := 158) (t := 14) (q := 1) (len := 10) rfl (fun _ => rfl) (fun _ _ h => h) (by decide) sp_158 (gblk1 158 10 (fun _ => rfl)) gac_1 (by decide) (by decide) (by decide) (Nat.le_of_ble_eq_true rfl) (Nat.le_of_ble_eq_true rfl) dX12_init_83 ?_
  refine G_putRF fl_X12_42 (by decide) sq_149 rfl rfl rfl rfl dX12_init_85 ?_
  refine G_aload_n dX12_init_88 rfl rfl ?_
  refine G_bipush (v := 10) dX12_init_89 rfl ?_
  refine G_newarr (aty := .int) (ty := .int) (f := gS0.2) (N0 := 159) (t := 14) (q := 1) (len := 10) rfl (fun _ => rfl) (fun _ _ h => h) (by decide) sp_159 (gblk1 159 10 (fun _ => rfl)) gac_1 (by decide) (by decide) (by decide) (Nat.le_of_ble_eq_true rfl) (Nat.le_of_ble_eq_true rfl) dX12_init_91 ?_
  refine G_putRF fl_X12_45 (by decide) sq_149 rfl rfl rfl rfl dX12_init_93 ?_
  refine G_aload_n dX12_init_96 rfl rfl ?_
  refine G_bipush (v := 10) dX12_init_97 rfl ?_
  refine G_newarr (aty := .int) (ty := .int) (f := gS0.2) (N0 := 160) (t := 14) (q := 1) (len := 10) rfl (fun _ => rfl) (fun _ _ h => h) (by decide) sp_160 (gblk1 160 10 (fun _ => rfl)) gac_1 (by decide) (by decide) (by decide) (Nat.le_of_ble_eq_true rfl) (Nat.le_of_ble_eq_true rfl) dX12_init_99 ?_
  refine G_putRF fl_X12_48 (by decide) sq_149 rfl rfl rfl rfl dX12_init_101 ?_
  refine G_aload_n dX12_init_104 rfl rfl ?_
  refine G_bipush (v := 80) dX12_init_105 rfl ?_
  refine G_newarr (aty := .int) (ty := .int) (f := gS0.2) (N0 := 161) (t := 14) (q := 1) (len := 80) rfl (fun _ => rfl) (fun _ _ h => h) (by decide) sp_161 (gblk1 161 80 (fun _ => rfl)) gac_1 (by decide) (by decide) (by decide) (Nat.le_of_ble_eq_true rfl) (Nat.le_of_ble_eq_true rfl) dX12_init_107 ?_
  refine G_putRF fl_X12_51 (by decide) sq_149 rfl rfl rfl rfl dX12_init_109 ?_
  refine G_aload_n dX12_init_112 rfl rfl ?_
  refine G_bipush (v := 80) dX12_init_113 rfl ?_
  refine G_newarr (aty := .int) (ty := .int) (f := gS0.2) (N0 := 162) (t := 14) (q := 1) (len := 80) rfl (fun _ => rfl) (fun _ _ h => h) (by decide) sp_162 (gblk1 162 80 (fun _ => rfl)) gac_1 (by decide) (by decide) (by decide) (Nat.le_of_ble_eq_true rfl) (Nat.le_of_ble_eq_true rfl) dX12_init_115 ?_
  refine G_putRF fl_X12_54 (by decide) sq_149 rfl rfl rfl rfl dX12_init_117 ?_
  refine G_aload_n dX12_init_120 rfl rfl ?_
  refine G_bipush (v := 80) dX12_init_121 rfl ?_
  refine G_newarr (aty := .int) (ty := .int) (f := gS0.2) (N0 := 163) (t := 14) (q := 1) (len := 80) rfl (fun _ => rfl) (fun _ _ h => h) (by decide) sp_163 (gblk1 163 80 (fun _ => rfl)) gac_1 (by decide) (by decide) (by decide) (Nat.le_of_ble_eq_true rfl) (Nat.le_of_ble_eq_true rfl) dX12_init_123 ?_
  refine G_putRF fl_X12_57 (by decide) sq_149 rfl rfl rfl rfl dX12_init_125 ?_
  refine G_aload_n dX12_init_128 rfl rfl ?_
  refine G_sipush (v := 320) dX12_init_129 rfl ?_
  refine G_newarr (aty := .boolean) (ty := .boolean) (f := gS0.2) (N0 := 164) (t := 16) (q := 3) (len := 320) rfl (fun _ => rfl) (fun _ _ h => h) (by decide) sp_164 (gblk3 164 320 (fun _ => rfl)) gac_3 (by decide) (by decide) (by decide) (Nat.le_of_ble_eq_true rfl) (Nat.le_of_ble_eq_true rfl) dX12_init_132 ?_
  refine G_putRF fl_X12_60 (by decide) sq_149 rfl rfl rfl rfl dX12_init_134 ?_
  refine G_aload_n dX12_init_137 rfl rfl ?_
  refine G_sipush (v := 320) dX12_init_138 rfl ?_
  refine G_newarr (aty := .int) (ty := .int) (f := gS0.2) (N0 := 165) (t := 14) (q := 1) (len := 320) rfl (fun _ => rfl) (fun _ _ h => h) (by decide) sp_165 (gblk1 165 320 (fun _ => rfl)) gac_1 (by decide) (by decide) (by decide) (Nat.le_of_ble_eq_true rfl) (Nat.le_of_ble_eq_true rfl) dX12_init_141 ?_
  refine G_putRF fl_X12_64 (by decide) sq_149 rfl rfl rfl rfl dX12_init_143 ?_
  refine G_aload_n dX12_init_146 rfl rfl ?_
  refine G_sipush (v := 320) dX12_init_147 rfl ?_
  refine G_newarr (aty := .int) (ty := .int) (f := gS0.2) (N0 := 166) (t := 14) (q := 1) (len := 320) rfl (fun _ => rfl) (fun _ _ h => h) (by decide) sp_166 (gblk1 166 320 (fun _ => rfl)) gac_1 (by decide) (by decide) (by decide) (Nat.le_of_ble_eq_true rfl) (Nat.le_of_ble_eq_true rfl) dX12_init_150 ?_
  refine G_putRF fl_X12_67 (by decide) sq_149 rfl rfl rfl rfl dX12_init_152 ?_
  refine G_aload_n dX12_init_155 rfl rfl ?_
  refine G_sipush (v := 1000) dX12_init_156 rfl ?_
  refine G_newarr (aty := .int) (ty := .int) (f := gS0.2) (N0 := 167) (t := 14) (q := 1) (len := 1000) rfl (fun _ => rfl) (fun _ _ h => h) (by decide) sp_167 (gblk1 167 1000 (fun _ => rfl)) gac_1 (by decide) (by decide) (by decide) (Nat.le_of_ble_eq_true rfl) (Nat.le_of_ble_eq_true rfl) dX12_init_159 ?_
  refine G_putRF fl_X12_70 (by decide) sq_149 rfl rfl rfl rfl dX12_init_161 ?_
  refine G_aload_n dX12_init_164 rfl rfl ?_
  refine G_sipush (v := 1000) dX12_init_165 rfl ?_
  refine G_newarr (aty := .int) (ty := .int) (f := gS0.2) (N0 := 168) (t := 14) (q := 1) (len := 1000) rfl (fun _ => rfl) (fun _ _ h => h) (by decide) sp_168 (gblk1 168 1000 (fun _ => rfl)) gac_1 (by decide) (by decide) (by decide) (Nat.le_of_ble_eq_true rfl) (Nat.le_of_ble_eq_true rfl) dX12_init_168 ?_
  refine G_putRF fl_X12_73 (by decide) sq_149 rfl rfl rfl rfl dX12_init_170 ?_
  refine G_aload_n dX12_init_173 rfl rfl ?_
  refine G_bipush (v := 120) dX12_init_174 rfl ?_
  refine G_newarr (aty := .int) (ty := .int) (f := gS0.2) (N0 := 169) (t := 14) (q := 1) (len := 120) rfl (fun _ => rfl) (fun _ _ h => h) (by decide) sp_169 (gblk1 169 120 (fun _ => rfl)) gac_1 (by decide) (by decide) (by decide) (Nat.le_of_ble_eq_true rfl) (Nat.le_of_ble_eq_true rfl) dX12_init_176 ?_
  refine G_putRF fl_X12_76 (by decide) sq_149 rfl rfl rfl rfl dX12_init_178 ?_
  refine G_aload_n dX12_init_181 rfl rfl ?_
  refine G_bipush (v := 120) dX12_init_182 rfl ?_
  refine G_newarr (aty := .boolean) (ty := .boolean) (f := gS0.2) (N0 := 170) (t := 16) (q := 3) (len := 120) rfl (fun _ => rfl) (fun _ _ h => h) (by decide) sp_170 (gblk3 170 120 (fun _ => rfl)) gac_3 (by decide) (by decide) (by decide) (Nat.le_of_ble_eq_true rfl) (Nat.le_of_ble_eq_true rfl) dX12_init_184 ?_
  refine G_putRF fl_X12_79 (by decide) sq_149 rfl rfl rfl rfl dX12_init_186 ?_
  refine G_aload_n dX12_init_189 rfl rfl ?_
  refine G_bipush (v := 16) dX12_init_190 rfl ?_
  refine G_newarr (aty := .int) (ty := .int) (f := gS0.2) (N0 := 171) (t := 14) (q := 1) (len := 16) rfl (fun _ => rfl) (fun _ _ h => h) (by decide) sp_171 (gblk1 171 16 (fun _ => rfl)) gac_1 (by decide) (by decide) (by decide) (Nat.le_of_ble_eq_true rfl) (Nat.le_of_ble_eq_true rfl) dX12_init_192 ?_
  refine G_putRF fl_X12_82 (by decide) sq_149 rfl rfl rfl rfl dX12_init_194 ?_
  refine G_aload_n dX12_init_197 rfl rfl ?_
  refine G_iconst (v := 4) dX12_init_198 rfl ?_
  refine G_newarr (aty := .int) (ty := .int) (f := gS0.2) (N0 := 172) (t := 14) (q := 1) (len := 4) rfl (fun _ => rfl) (fun _ _ h => h) (by decide) sp_172 (gblk1 172 4 (fun _ => rfl)) gac_1 (by decide) (by decide) (by decide) (Nat.le_of_ble_eq_true rfl) (Nat.le_of_ble_eq_true rfl) dX12_init_199 ?_
  refine G_putRF fl_X12_85 (by decide) sq_149 rfl rfl rfl rfl dX12_init_201 ?_
  refine G_aload_n dX12_init_204 rfl rfl ?_
  refine G_bipush (v := 16) dX12_init_205 rfl ?_
  refine G_newarr (aty := .int) (ty := .int) (f := gS0.2) (N0 := 173) (t := 14) (q := 1) (len := 16) rfl (fun _ => rfl) (fun _ _ h => h) (by decide) sp_173 (gblk1 173 16 (fun _ => rfl)) gac_1 (by decide) (by decide) (by decide) (Nat.le_of_ble_eq_true rfl) (Nat.le_of_ble_eq_true rfl) dX12_init_207 ?_
  refine G_putRF fl_X12_88 (by decide) sq_149 rfl rfl rfl rfl dX12_init_209 ?_
  refine G_aload_n dX12_init_212 rfl rfl ?_
  refine G_bipush (v := 40) dX12_init_213 rfl ?_
  refine G_newarr (aty := .int) (ty := .int) (f := gS0.2) (N0 := 174) (t := 14) (q := 1) (len := 40) rfl (fun _ => rfl) (fun _ _ h => h) (by decide) sp_174 (gblk1 174 40 (fun _ => rfl)) gac_1 (by decide) (by decide) (by decide) (Nat.le_of_ble_eq_true rfl) (Nat.le_of_ble_eq_true rfl) dX12_init_215 ?_
  refine G_putRF fl_X12_91 (by decide) sq_149 rfl rfl rfl rfl dX12_init_217 ?_
  refine G_aload_n dX12_init_220 rfl rfl ?_
  refine G_bipush (v := 40) dX12_init_221 rfl ?_
  refine G_newarr (aty := .int) (ty := .int) (f := gS0.2) (N0 := 175) (t := 14) (q := 1) (len := 40) rfl (fun _ => rfl) (fun _ _ h => h) (by decide) sp_175 (gblk1 175 40 (fun _ => rfl)) gac_1 (by decide) (by decide) (by decide) (Nat.le_of_ble_eq_true rfl) (Nat.le_of_ble_eq_true rfl) dX12_init_223 ?_
  refine G_putRF fl_X12_94 (by decide) sq_149 rfl rfl rfl rfl dX12_init_225 ?_
  refine G_aload_n dX12_init_228 rfl rfl ?_
  refine G_bipush (v := 40) dX12_init_229 rfl ?_
  refine G_newarr (aty := .int) (ty := .int) (f := gS0.2) (N0 := 176) (t := 14) (q := 1) (len := 40) rfl (fun _ => rfl) (fun _ _ h => h) (by decide) sp_176 (gblk1 176 40 (fun _ => rfl)) gac_1 (by decide) (by decide) (by decide) (Nat.le_of_ble_eq_true rfl) (Nat.le_of_ble_eq_true rfl) dX12_init_231 ?_
  refine G_putRF fl_X12_97 (by decide) sq_149 rfl rfl rfl rfl dX12_init_233 ?_
  refine G_aload_n dX12_init_236 rfl rfl ?_
  refine G_bipush (v := 40) dX12_init_237 rfl ?_
  refine G_newarr (aty := .int) (ty := .int) (f := gS0.2) (N0 := 177) (t := 14) (q := 1) (len := 40) rfl (fun _ => rfl) (fun _ _ h => h) (by decide) sp_177 (gblk1 177 40 (fun _ => rfl)) gac_1 (by decide) (by decide) (by decide) (Nat.le_of_ble_eq_true rfl) (Nat.le_of_ble_eq_true rfl) dX12_init_239 ?_
  refine G_putRF fl_X12_100 (by decide) sq_149 rfl rfl rfl rfl dX12_init_241 ?_
  refine G_aload_n dX12_init_244 rfl rfl ?_
  refine G_bipush (v := 40) dX12_init_245 rfl ?_
  refine G_newarr (aty := .int) (ty := .int) (f := gS0.2) (N0 := 178) (t := 14) (q := 1) (len := 40) rfl (fun _ => rfl) (fun _ _ h => h) (by decide) sp_178 (gblk1 178 40 (fun _ => rfl)) gac_1 (by decide) (by decide) (by decide) (Nat.le_of_ble_eq_true rfl) (Nat.le_of_ble_eq_true rfl) dX12_init_247 ?_
  refine G_putRF fl_X12_103 (by decide) sq_149 rfl rfl rfl rfl dX12_init_249 ?_
  refine G_aload_n dX12_init_252 rfl rfl ?_
  refine G_bipush (v := 40) dX12_init_253 rfl ?_
  refine G_newarr (aty := .int) (ty := .int) (f := gS0.2) (N0 := 179) (t := 14) (q := 1) (len := 40) rfl (fun _ => rfl) (fun _ _ h => h) (by decide) sp_179 (gblk1 179 40 (fun _ => rfl)) gac_1 (by decide) (by decide) (by decide) (Nat.le_of_ble_eq_true rfl) (Nat.le_of_ble_eq_true rfl) dX12_init_255 ?_
  refine G_putRF fl_X12_106 (by decide) sq_149 rfl rfl rfl rfl dX12_init_257 ?_
  refine G_aload_n dX12_init_260 rfl rfl ?_
  refine G_bipush (v := 40) dX12_init_261 rfl ?_
  refine G_newarr (aty := .boolean) (ty := .boolean) (f := gS0.2) (N0 := 180) (t := 16) (q := 3) (len := 40) rfl (fun _ => rfl) (fun _ _ h => h) (by decide) sp_180 (gblk3 180 40 (fun _ => rfl)) gac_3 (by decide) (by decide) (by decide) (Nat.le_of_ble_eq_true rfl) (Nat.le_of_ble_eq_true rfl) dX12_init_263 ?_
  refine G_putRF fl_X12_109 (by decide) sq_149 rfl rfl rfl rfl dX12_init_265 ?_
  refine G_aload_n dX12_init_268 rfl rfl ?_
  refine G_bipush (v := 40) dX12_init_269 rfl ?_
  refine G_newarr (aty := .int) (ty := .int) (f := gS0.2) (N0 := 181) (t := 14) (q := 1) (len := 40) rfl (fun _ => rfl) (fun _ _ h => h) (by decide) sp_181 (gblk1 181 40 (fun _ => rfl)) gac_1 (by decide) (by decide) (by decide) (Nat.le_of_ble_eq_true rfl) (Nat.le_of_ble_eq_true rfl) dX12_init_271 ?_
  refine G_putRF fl_X12_112 (by decide) sq_149 rfl rfl rfl rfl dX12_init_273 ?_
  refine G_aload_n dX12_init_276 rfl rfl ?_
  refine G_bipush (v := 40) dX12_init_277 rfl ?_
  refine G_newarr (aty := .int) (ty := .int) (f := gS0.2) (N0 := 182) (t := 14) (q := 1) (len := 40) rfl (fun _ => rfl) (fun _ _ h => h) (by decide) sp_182 (gblk1 182 40 (fun _ => rfl)) gac_1 (by decide) (by decide) (by decide) (Nat.le_of_ble_eq_true rfl) (Nat.le_of_ble_eq_true rfl) dX12_init_279 ?_
  refine G_putRF fl_X12_115 (by decide) sq_149 rfl rfl rfl rfl dX12_init_281 ?_
  refine G_aload_n dX12_init_284 rfl rfl ?_
  refine G_bipush (v := 40) dX12_init_285 rfl ?_
  refine G_newarr (aty := .int) (ty := .int) (f := gS0.2) (N0 := 183) (t := 14) (q := 1) (len := 40) rfl (fun _ => rfl) (fun _ _ h => h) (by decide) sp_183 (gblk1 183 40 (fun _ => rfl)) gac_1 (by decide) (by decide) (by decide) (Nat.le_of_ble_eq_true rfl) (Nat.le_of_ble_eq_true rfl) dX12_init_287 ?_
  refine G_putRF fl_X12_118 (by decide) sq_149 rfl rfl rfl rfl dX12_init_289 ?_
  refine G_aload_n dX12_init_292 rfl rfl ?_
  refine G_bipush (v := 20) dX12_init_293 rfl ?_
  refine G_newarr (aty := .int) (ty := .int) (f := gS0.2) (N0 := 184) (t := 14) (q := 1) (len := 20) rfl (fun _ => rfl) (fun _ _ h => h) (by decide) sp_184 (gblk1 184 20 (fun _ => rfl)) gac_1 (by decide) (by decide) (by decide) (Nat.le_of_ble_eq_true rfl) (Nat.le_of_ble_eq_true rfl) dX12_init_295 ?_
  refine G_putRF fl_X12_121 (by decide) sq_149 rfl rfl rfl rfl dX12_init_297 ?_
  refine G_aload_n dX12_init_300 rfl rfl ?_
  refine G_bipush (v := 20) dX12_init_301 rfl ?_
  refine G_newarr (aty := .int) (ty := .int) (f := gS0.2) (N0 := 185) (t := 14) (q := 1) (len := 20) rfl (fun _ => rfl) (fun _ _ h => h) (by decide) sp_185 (gblk1 185 20 (fun _ => rfl)) gac_1 (by decide) (by decide) (by decide) (Nat.le_of_ble_eq_true rfl) (Nat.le_of_ble_eq_true rfl) dX12_init_303 ?_
  refine G_putRF fl_X12_124 (by decide) sq_149 rfl rfl rfl rfl dX12_init_305 ?_
  refine G_aload_n dX12_init_308 rfl rfl ?_
  refine G_bipush (v := 20) dX12_init_309 rfl ?_
  refine G_newarr (aty := .int) (ty := .int) (f := gS0.2) (N0 := 186) (t := 14) (q := 1) (len := 20) rfl (fun _ => rfl) (fun _ _ h => h) (by decide) sp_186 (gblk1 186 20 (fun _ => rfl)) gac_1 (by decide) (by decide) (by decide) (Nat.le_of_ble_eq_true rfl) (Nat.le_of_ble_eq_true rfl) dX12_init_311 ?_
  refine G_putRF fl_X12_127 (by decide) sq_149 rfl rfl rfl rfl dX12_init_313 ?_
  refine G_aload_n dX12_init_316 rfl rfl ?_
  refine G_bipush (v := 20) dX12_init_317 rfl ?_
  refine G_newarr (aty := .int) (ty := .int) (f := gS0.2) (N0 := 187) (t := 14) (q := 1) (len := 20) rfl (fun _ => rfl) (fun _ _ h => h) (by decide) sp_187 (gblk1 187 20 (fun _ => rfl)) gac_1 (by decide) (by decide) (by decide) (Nat.le_of_ble_eq_true rfl) (Nat.le_of_ble_eq_true rfl) dX12_init_319 ?_
  refine G_putRF fl_X12_130 (by decide) sq_149 rfl rfl rfl rfl dX12_init_321 ?_
  refine G_aload_n dX12_init_324 rfl rfl ?_
  refine G_bipush (v := 20) dX12_init_325 rfl ?_
  refine G_newarr (aty := .int) (ty := .int) (f := gS0.2) (N0 := 188) (t := 14) (q := 1) (len := 20) rfl (fun _ => rfl) (fun _ _ h => h) (by decide) sp_188 (gblk1 188 20 (fun _ => rfl)) gac_1 (by decide) (by decide) (by decide) (Nat.le_of_ble_eq_true rfl) (Nat.le_of_ble_eq_true rfl) dX12_init_327 ?_
  refine G_putRF fl_X12_133 (by decide) sq_149 rfl rfl rfl rfl dX12_init_329 ?_
  refine G_aload_n dX12_init_332 rfl rfl ?_
  refine G_sipush (v := 200) dX12_init_333 rfl ?_
  refine G_newarr (aty := .int) (ty := .int) (f := gS0.2) (N0 := 189) (t := 14) (q := 1) (len := 200) rfl (fun _ => rfl) (fun _ _ h => h) (by decide) sp_189 (gblk1 189 200 (fun _ => rfl)) gac_1 (by decide) (by decide) (by decide) (Nat.le_of_ble_eq_true rfl) (Nat.le_of_ble_eq_true rfl) dX12_init_336 ?_
  refine G_putRF fl_X12_136 (by decide) sq_149 rfl rfl rfl rfl dX12_init_338 ?_
  refine G_aload_n dX12_init_341 rfl rfl ?_
  refine G_sipush (v := 200) dX12_init_342 rfl ?_
  refine G_newarr (aty := .int) (ty := .int) (f := gS0.2) (N0 := 190) (t := 14) (q := 1) (len := 200) rfl (fun _ => rfl) (fun _ _ h => h) (by decide) sp_190 (gblk1 190 200 (fun _ => rfl)) gac_1 (by decide) (by decide) (by decide) (Nat.le_of_ble_eq_true rfl) (Nat.le_of_ble_eq_true rfl) dX12_init_345 ?_
  refine G_putRF fl_X12_139 (by decide) sq_149 rfl rfl rfl rfl dX12_init_347 ?_
  refine G_aload_n dX12_init_350 rfl rfl ?_
  refine G_bipush (v := 120) dX12_init_351 rfl ?_
  refine G_newarr (aty := .long) (ty := .long) (f := gS0.2) (N0 := 191) (t := 15) (q := 2) (len := 120) rfl (fun _ => rfl) (fun _ _ h => h) (by decide) sp_191 (gblk2 191 120 (fun _ => rfl)) gac_2 (by decide) (by decide) (by decide) (Nat.le_of_ble_eq_true rfl) (Nat.le_of_ble_eq_true rfl) dX12_init_353 ?_
  refine G_putRF fl_X12_142 (by decide) sq_149 rfl rfl rfl rfl dX12_init_355 ?_
  refine G_aload_n dX12_init_358 rfl rfl ?_
  refine G_bipush (v := 100) dX12_init_359 rfl ?_
  refine G_newarr (aty := .int) (ty := .int) (f := gS0.2) (N0 := 192) (t := 14) (q := 1) (len := 100) rfl (fun _ => rfl) (fun _ _ h => h) (by decide) sp_192 (gblk1 192 100 (fun _ => rfl)) gac_1 (by decide) (by decide) (by decide) (Nat.le_of_ble_eq_true rfl) (Nat.le_of_ble_eq_true rfl) dX12_init_361 ?_
  refine G_putRF fl_X12_146 (by decide) sq_149 rfl rfl rfl rfl dX12_init_363 ?_
  refine G_aload_n dX12_init_366 rfl rfl ?_
  refine G_bipush (v := 100) dX12_init_367 rfl ?_
  refine G_newarr (aty := .int) (ty := .int) (f := gS0.2) (N0 := 193) (t := 14) (q := 1) (len := 100) rfl (fun _ => rfl) (fun _ _ h => h) (by decide) sp_193 (gblk1 193 100 (fun _ => rfl)) gac_1 (by decide) (by decide) (by decide) (Nat.le_of_ble_eq_true rfl) (Nat.le_of_ble_eq_true rfl) dX12_init_369 ?_
  refine G_putRF fl_X12_149 (by decide) sq_149 rfl rfl rfl rfl dX12_init_371 ?_
  refine G_vret rfl (Nat.le_refl _) (Nat.le_refl _) dX12_init_374 ?_
  exact ⟨rfl, rfl, rfl, rfl, rfl⟩
-- ('qi_22', 'gl_42', 148, 4262, 3) ('qi_23', 'gl_43', 44, 4964, 2) I=(gu2 (gu2 (gu2 (gu2 gz32 9 1 5) 0 14 1700) 149 2 1700) 149 8 5)
def gIz : gIt := (gu2 (gu2 (gu2 (gu2 gz32 9 1 5) 0 14 1700) 149 2 1700) 149 8 5)
set_option maxRecDepth 20000 in
theorem gend_a : ∀ q ∈ gl_43, gR0 false q.1 q.2.1 = some q.2.2 := by decide +kernel
set_option maxRecDepth 20000 in
theorem gend_c : ∀ x, x < 194 → ∀ y, y < (grtab.getD x []).length → (gR0 false x y).isSome = true → (gl_43.any (fun q => q.1 == x && q.2.1 == y)) = true := by decide +kernel
theorem gend_l : grtab.length = 194 := by decide +kernel
theorem gend_d {α : Type} {l : List α} {i : Nat} {d : α} (h : l.length ≤ i) : l.getD i d = d := by
  rw [List.getD_eq_getElem?_getD, List.getElem?_eq_none h]
  rfl
theorem grl_end : grl gl_43 = gR0 false := by
  funext x y
  unfold grl
  cases h : gl_43.find? (fun q => q.1 == x && q.2.1 == y) with
  | some q =>
    have h1 := List.find?_some h
    simp at h1
    have h2 := gend_a q (List.mem_of_find?_eq_some h)
    rw [h1.1, h1.2] at h2
    rw [h2]
    rfl
  | none =>
    cases h2 : gR0 false x y with
    | none => rfl
    | some r =>
      exfalso
      have hxy : x < 194 ∧ y < (grtab.getD x []).length := by
        unfold gR0 at h2
        by_cases e1 : x = 0 ∧ y = 10
        · obtain ⟨rfl, rfl⟩ := e1
          decide
        · by_cases e2 : x = 0 ∧ y = 11
          · obtain ⟨rfl, rfl⟩ := e2
            decide
          · rw [if_neg e1, if_neg e2] at h2
            have hy : y < (grtab.getD x []).length := by
              apply Nat.not_le.mp
              intro q
              rw [gend_d q] at h2
              cases h2
            refine ⟨?_, hy⟩
            apply Nat.not_le.mp
            intro q
            rw [gend_d (l := grtab) (by rw [gend_l]; exact q)] at hy
            exact absurd hy (Nat.not_lt_zero _)
      have h3 := gend_c x hxy.1 y hxy.2 (by rw [h2]; rfl)
      rw [List.any_eq_true] at h3
      obtain ⟨q, hq, hq2⟩ := h3
      exact absurd hq2 (by have := List.find?_eq_none.mp h q hq; exact this)
