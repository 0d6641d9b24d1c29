/-! ===== decode rows ===== -/
theorem dX0_init_0 : decode cX0_init 0 = .ok (.aload_n 0, 1) := by decide +kernel
theorem dX0_init_1 : decode cX0_init 1 = .ok (.invokespecial 3, 3) := by decide +kernel
theorem dX0_init_4 : decode cX0_init 4 = .ok (.aload_n 0, 1) := by decide +kernel
theorem dX0_init_5 : decode cX0_init 5 = .ok (.bipush 60, 2) := by decide +kernel
theorem dX0_init_7 : decode cX0_init 7 = .ok (.newarray .int, 2) := by decide +kernel
theorem dX0_init_9 : decode cX0_init 9 = .ok (.putfield 9, 3) := by decide +kernel
theorem dX0_init_12 : decode cX0_init 12 = .ok (.aload_n 0, 1) := by decide +kernel
theorem dX0_init_13 : decode cX0_init 13 = .ok (.iconst 4, 1) := by decide +kernel
theorem dX0_init_14 : decode cX0_init 14 = .ok (.newarray .long, 2) := by decide +kernel
theorem dX0_init_16 : decode cX0_init 16 = .ok (.putfield 15, 3) := by decide +kernel
theorem dX0_init_19 : decode cX0_init 19 = .ok (.aload_n 0, 1) := by decide +kernel
theorem dX0_init_20 : decode cX0_init 20 = .ok (.bipush 16, 2) := by decide +kernel
theorem dX0_init_22 : decode cX0_init 22 = .ok (.bipush 32, 2) := by decide +kernel
theorem dX0_init_24 : decode cX0_init 24 = .ok (.multianewarray 19 2, 4) := by decide +kernel
theorem dX0_init_28 : decode cX0_init 28 = .ok (.putfield 21, 3) := by decide +kernel
theorem dX0_init_31 : decode cX0_init 31 = .ok (.aload_n 0, 1) := by decide +kernel
theorem dX0_init_32 : decode cX0_init 32 = .ok (.bipush 32, 2) := by decide +kernel
theorem dX0_init_34 : decode cX0_init 34 = .ok (.newarray .long, 2) := by decide +kernel
theorem dX0_init_36 : decode cX0_init 36 = .ok (.putfield 24, 3) := by decide +kernel
theorem dX0_init_39 : decode cX0_init 39 = .ok (.aload_n 0, 1) := by decide +kernel
theorem dX0_init_40 : decode cX0_init 40 = .ok (.bipush 32, 2) := by decide +kernel
theorem dX0_init_42 : decode cX0_init 42 = .ok (.newarray .long, 2) := by decide +kernel
theorem dX0_init_44 : decode cX0_init 44 = .ok (.putfield 27, 3) := by decide +kernel
theorem dX0_init_47 : decode cX0_init 47 = .ok (.aload_n 0, 1) := by decide +kernel
theorem dX0_init_48 : decode cX0_init 48 = .ok (.bipush 32, 2) := by decide +kernel
theorem dX0_init_50 : decode cX0_init 50 = .ok (.newarray .long, 2) := by decide +kernel
theorem dX0_init_52 : decode cX0_init 52 = .ok (.putfield 30, 3) := by decide +kernel
theorem dX0_init_55 : decode cX0_init 55 = .ok (.return_, 1) := by decide +kernel
theorem dX0_readText_0 : decode cX0_readText 0 = .ok (.aload_n 0, 1) := by decide +kernel
theorem dX0_readText_1 : decode cX0_readText 1 = .ok (.iconst 0, 1) := by decide +kernel
theorem dX0_readText_2 : decode cX0_readText 2 = .ok (.putfield 33, 3) := by decide +kernel
theorem dX0_readText_5 : decode cX0_readText 5 = .ok (.aload_n 0, 1) := by decide +kernel
theorem dX0_readText_6 : decode cX0_readText 6 = .ok (.aload_n 1, 1) := by decide +kernel
theorem dX0_readText_7 : decode cX0_readText 7 = .ok (.iconst 0, 1) := by decide +kernel
theorem dX0_readText_8 : decode cX0_readText 8 = .ok (.invokevirtual 37, 3) := by decide +kernel
theorem dX0_readText_11 : decode cX0_readText 11 = .ok (.ifCond .ne 5, 3) := by decide +kernel
theorem dX0_readText_14 : decode cX0_readText 14 = .ok (.iconst 0, 1) := by decide +kernel
theorem dX0_readText_15 : decode cX0_readText 15 = .ok (.ireturn, 1) := by decide +kernel
theorem dX0_readText_16 : decode cX0_readText 16 = .ok (.aload_n 0, 1) := by decide +kernel
theorem dX0_readText_17 : decode cX0_readText 17 = .ok (.aload_n 0, 1) := by decide +kernel
theorem dX0_readText_18 : decode cX0_readText 18 = .ok (.getfield 33, 3) := by decide +kernel
theorem dX0_readText_21 : decode cX0_readText 21 = .ok (.putfield 41, 3) := by decide +kernel
theorem dX0_readText_24 : decode cX0_readText 24 = .ok (.aload_n 0, 1) := by decide +kernel
theorem dX0_readText_25 : decode cX0_readText 25 = .ok (.aload_n 1, 1) := by decide +kernel
theorem dX0_readText_26 : decode cX0_readText 26 = .ok (.bipush 60, 2) := by decide +kernel
theorem dX0_readText_28 : decode cX0_readText 28 = .ok (.invokevirtual 44, 3) := by decide +kernel
theorem dX0_readText_31 : decode cX0_readText 31 = .ok (.putfield 50, 3) := by decide +kernel
theorem dX0_readText_34 : decode cX0_readText 34 = .ok (.aload_n 0, 1) := by decide +kernel
theorem dX0_readText_35 : decode cX0_readText 35 = .ok (.getfield 50, 3) := by decide +kernel
theorem dX0_readText_38 : decode cX0_readText 38 = .ok (.ifCond .ne 18, 3) := by decide +kernel
theorem dX0_readText_41 : decode cX0_readText 41 = .ok (.aload_n 1, 1) := by decide +kernel
theorem dX0_readText_42 : decode cX0_readText 42 = .ok (.bipush 62, 2) := by decide +kernel
theorem dX0_readText_44 : decode cX0_readText 44 = .ok (.invokevirtual 44, 3) := by decide +kernel
theorem dX0_readText_47 : decode cX0_readText 47 = .ok (.ifCond .ne 9, 3) := by decide +kernel
theorem dX0_readText_50 : decode cX0_readText 50 = .ok (.aload_n 1, 1) := by decide +kernel
theorem dX0_readText_51 : decode cX0_readText 51 = .ok (.iconst 1, 1) := by decide +kernel
theorem dX0_readText_52 : decode cX0_readText 52 = .ok (.invokevirtual 54, 3) := by decide +kernel
theorem dX0_readText_55 : decode cX0_readText 55 = .ok (.ireturn, 1) := by decide +kernel
theorem dX0_readText_56 : decode cX0_readText 56 = .ok (.aload_n 0, 1) := by decide +kernel
theorem dX0_readText_57 : decode cX0_readText 57 = .ok (.aload_n 1, 1) := by decide +kernel
theorem dX0_readText_58 : decode cX0_readText 58 = .ok (.iconst 0, 1) := by decide +kernel
theorem dX0_readText_59 : decode cX0_readText 59 = .ok (.invokevirtual 37, 3) := by decide +kernel
theorem dX0_readText_62 : decode cX0_readText 62 = .ok (.ifCond .ne 5, 3) := by decide +kernel
theorem dX0_readText_65 : decode cX0_readText 65 = .ok (.iconst 0, 1) := by decide +kernel
theorem dX0_readText_66 : decode cX0_readText 66 = .ok (.ireturn, 1) := by decide +kernel
theorem dX0_readText_67 : decode cX0_readText 67 = .ok (.aload_n 1, 1) := by decide +kernel
theorem dX0_readText_68 : decode cX0_readText 68 = .ok (.invokevirtual 57, 3) := by decide +kernel
theorem dX0_readText_71 : decode cX0_readText 71 = .ok (.iconst (-1), 1) := by decide +kernel
theorem dX0_readText_72 : decode cX0_readText 72 = .ok (.if_icmp .eq 11, 3) := by decide +kernel
theorem dX0_readText_75 : decode cX0_readText 75 = .ok (.aload_n 1, 1) := by decide +kernel
theorem dX0_readText_76 : decode cX0_readText 76 = .ok (.iconst 1, 1) := by decide +kernel
theorem dX0_readText_77 : decode cX0_readText 77 = .ok (.invokevirtual 54, 3) := by decide +kernel
theorem dX0_readText_80 : decode cX0_readText 80 = .ok (.ifCond .eq 7, 3) := by decide +kernel
theorem dX0_readText_83 : decode cX0_readText 83 = .ok (.iconst 1, 1) := by decide +kernel
theorem dX0_readText_84 : decode cX0_readText 84 = .ok (.goto 4, 3) := by decide +kernel
theorem dX0_readText_87 : decode cX0_readText 87 = .ok (.iconst 0, 1) := by decide +kernel
theorem dX0_readText_88 : decode cX0_readText 88 = .ok (.ireturn, 1) := by decide +kernel
theorem dX0_readSum_0 : decode cX0_readSum 0 = .ok (.aload_n 0, 1) := by decide +kernel
theorem dX0_readSum_1 : decode cX0_readSum 1 = .ok (.aload_n 1, 1) := by decide +kernel
theorem dX0_readSum_2 : decode cX0_readSum 2 = .ok (.iload_n 2, 1) := by decide +kernel
theorem dX0_readSum_3 : decode cX0_readSum 3 = .ok (.invokevirtual 61, 3) := by decide +kernel
theorem dX0_readSum_6 : decode cX0_readSum 6 = .ok (.ifCond .ne 5, 3) := by decide +kernel
theorem dX0_readSum_9 : decode cX0_readSum 9 = .ok (.iconst 0, 1) := by decide +kernel
theorem dX0_readSum_10 : decode cX0_readSum 10 = .ok (.ireturn, 1) := by decide +kernel
theorem dX0_readSum_11 : decode cX0_readSum 11 = .ok (.iconst 0, 1) := by decide +kernel
theorem dX0_readSum_12 : decode cX0_readSum 12 = .ok (.istore_n 3, 1) := by decide +kernel
theorem dX0_readSum_13 : decode cX0_readSum 13 = .ok (.iload_n 3, 1) := by decide +kernel
theorem dX0_readSum_14 : decode cX0_readSum 14 = .ok (.bipush 100, 2) := by decide +kernel
theorem dX0_readSum_16 : decode cX0_readSum 16 = .ok (.if_icmp .ge 64, 3) := by decide +kernel
theorem dX0_readSum_19 : decode cX0_readSum 19 = .ok (.aload_n 1, 1) := by decide +kernel
theorem dX0_readSum_20 : decode cX0_readSum 20 = .ok (.bipush 43, 2) := by decide +kernel
theorem dX0_readSum_22 : decode cX0_readSum 22 = .ok (.invokevirtual 44, 3) := by decide +kernel
theorem dX0_readSum_25 : decode cX0_readSum 25 = .ok (.ifCond .eq 8, 3) := by decide +kernel
theorem dX0_readSum_28 : decode cX0_readSum 28 = .ok (.bipush (-6), 2) := by decide +kernel
theorem dX0_readSum_30 : decode cX0_readSum 30 = .ok (.goto 18, 3) := by decide +kernel
theorem dX0_readSum_33 : decode cX0_readSum 33 = .ok (.aload_n 1, 1) := by decide +kernel
theorem dX0_readSum_34 : decode cX0_readSum 34 = .ok (.bipush 45, 2) := by decide +kernel
theorem dX0_readSum_36 : decode cX0_readSum 36 = .ok (.invokevirtual 44, 3) := by decide +kernel
theorem dX0_readSum_39 : decode cX0_readSum 39 = .ok (.ifCond .eq 8, 3) := by decide +kernel
theorem dX0_readSum_42 : decode cX0_readSum 42 = .ok (.bipush (-7), 2) := by decide +kernel
theorem dX0_readSum_44 : decode cX0_readSum 44 = .ok (.goto 4, 3) := by decide +kernel
theorem dX0_readSum_47 : decode cX0_readSum 47 = .ok (.iconst 0, 1) := by decide +kernel
theorem dX0_readSum_48 : decode cX0_readSum 48 = .ok (.istore 4, 2) := by decide +kernel
theorem dX0_readSum_50 : decode cX0_readSum 50 = .ok (.iload 4, 2) := by decide +kernel
theorem dX0_readSum_52 : decode cX0_readSum 52 = .ok (.ifCond .ne 5, 3) := by decide +kernel
theorem dX0_readSum_55 : decode cX0_readSum 55 = .ok (.iconst 1, 1) := by decide +kernel
theorem dX0_readSum_56 : decode cX0_readSum 56 = .ok (.ireturn, 1) := by decide +kernel
theorem dX0_readSum_57 : decode cX0_readSum 57 = .ok (.aload_n 0, 1) := by decide +kernel
theorem dX0_readSum_58 : decode cX0_readSum 58 = .ok (.aload_n 1, 1) := by decide +kernel
theorem dX0_readSum_59 : decode cX0_readSum 59 = .ok (.iload_n 2, 1) := by decide +kernel
theorem dX0_readSum_60 : decode cX0_readSum 60 = .ok (.invokevirtual 61, 3) := by decide +kernel
theorem dX0_readSum_63 : decode cX0_readSum 63 = .ok (.ifCond .ne 5, 3) := by decide +kernel
theorem dX0_readSum_66 : decode cX0_readSum 66 = .ok (.iconst 0, 1) := by decide +kernel
theorem dX0_readSum_67 : decode cX0_readSum 67 = .ok (.ireturn, 1) := by decide +kernel
theorem dX0_readSum_68 : decode cX0_readSum 68 = .ok (.aload_n 0, 1) := by decide +kernel
theorem dX0_readSum_69 : decode cX0_readSum 69 = .ok (.iload 4, 2) := by decide +kernel
theorem dX0_readSum_71 : decode cX0_readSum 71 = .ok (.invokevirtual 64, 3) := by decide +kernel
theorem dX0_readSum_74 : decode cX0_readSum 74 = .ok (.iinc 3 1, 3) := by decide +kernel
theorem dX0_readSum_77 : decode cX0_readSum 77 = .ok (.goto (-64), 3) := by decide +kernel
theorem dX0_readSum_80 : decode cX0_readSum 80 = .ok (.iconst 1, 1) := by decide +kernel
theorem dX0_readSum_81 : decode cX0_readSum 81 = .ok (.ireturn, 1) := by decide +kernel
theorem dX0_readProduct_0 : decode cX0_readProduct 0 = .ok (.aload_n 0, 1) := by decide +kernel
theorem dX0_readProduct_1 : decode cX0_readProduct 1 = .ok (.aload_n 1, 1) := by decide +kernel
theorem dX0_readProduct_2 : decode cX0_readProduct 2 = .ok (.iload_n 2, 1) := by decide +kernel
theorem dX0_readProduct_3 : decode cX0_readProduct 3 = .ok (.invokevirtual 68, 3) := by decide +kernel
theorem dX0_readProduct_6 : decode cX0_readProduct 6 = .ok (.ifCond .ne 5, 3) := by decide +kernel
theorem dX0_readProduct_9 : decode cX0_readProduct 9 = .ok (.iconst 0, 1) := by decide +kernel
theorem dX0_readProduct_10 : decode cX0_readProduct 10 = .ok (.ireturn, 1) := by decide +kernel
theorem dX0_readProduct_11 : decode cX0_readProduct 11 = .ok (.iconst 0, 1) := by decide +kernel
theorem dX0_readProduct_12 : decode cX0_readProduct 12 = .ok (.istore_n 3, 1) := by decide +kernel
theorem dX0_readProduct_13 : decode cX0_readProduct 13 = .ok (.iload_n 3, 1) := by decide +kernel
theorem dX0_readProduct_14 : decode cX0_readProduct 14 = .ok (.bipush 100, 2) := by decide +kernel
theorem dX0_readProduct_16 : decode cX0_readProduct 16 = .ok (.if_icmp .ge 35, 3) := by decide +kernel
theorem dX0_readProduct_19 : decode cX0_readProduct 19 = .ok (.aload_n 1, 1) := by decide +kernel
theorem dX0_readProduct_20 : decode cX0_readProduct 20 = .ok (.bipush 42, 2) := by decide +kernel
theorem dX0_readProduct_22 : decode cX0_readProduct 22 = .ok (.invokevirtual 44, 3) := by decide +kernel
theorem dX0_readProduct_25 : decode cX0_readProduct 25 = .ok (.ifCond .eq 26, 3) := by decide +kernel
theorem dX0_readProduct_28 : decode cX0_readProduct 28 = .ok (.aload_n 0, 1) := by decide +kernel
theorem dX0_readProduct_29 : decode cX0_readProduct 29 = .ok (.aload_n 1, 1) := by decide +kernel
theorem dX0_readProduct_30 : decode cX0_readProduct 30 = .ok (.iload_n 2, 1) := by decide +kernel
theorem dX0_readProduct_31 : decode cX0_readProduct 31 = .ok (.invokevirtual 68, 3) := by decide +kernel
theorem dX0_readProduct_34 : decode cX0_readProduct 34 = .ok (.ifCond .ne 5, 3) := by decide +kernel
theorem dX0_readProduct_37 : decode cX0_readProduct 37 = .ok (.iconst 0, 1) := by decide +kernel
theorem dX0_readProduct_38 : decode cX0_readProduct 38 = .ok (.ireturn, 1) := by decide +kernel
theorem dX0_readProduct_39 : decode cX0_readProduct 39 = .ok (.aload_n 0, 1) := by decide +kernel
theorem dX0_readProduct_40 : decode cX0_readProduct 40 = .ok (.bipush (-8), 2) := by decide +kernel
theorem dX0_readProduct_42 : decode cX0_readProduct 42 = .ok (.invokevirtual 64, 3) := by decide +kernel
theorem dX0_readProduct_45 : decode cX0_readProduct 45 = .ok (.iinc 3 1, 3) := by decide +kernel
theorem dX0_readProduct_48 : decode cX0_readProduct 48 = .ok (.goto (-35), 3) := by decide +kernel
theorem dX0_readProduct_51 : decode cX0_readProduct 51 = .ok (.iconst 1, 1) := by decide +kernel
theorem dX0_readProduct_52 : decode cX0_readProduct 52 = .ok (.ireturn, 1) := by decide +kernel
theorem dX0_readFactor_0 : decode cX0_readFactor 0 = .ok (.aload_n 1, 1) := by decide +kernel
theorem dX0_readFactor_1 : decode cX0_readFactor 1 = .ok (.invokevirtual 57, 3) := by decide +kernel
theorem dX0_readFactor_4 : decode cX0_readFactor 4 = .ok (.bipush 40, 2) := by decide +kernel
theorem dX0_readFactor_6 : decode cX0_readFactor 6 = .ok (.if_icmp .ne 59, 3) := by decide +kernel
theorem dX0_readFactor_9 : decode cX0_readFactor 9 = .ok (.iload_n 2, 1) := by decide +kernel
theorem dX0_readFactor_10 : decode cX0_readFactor 10 = .ok (.bipush 6, 2) := by decide +kernel
theorem dX0_readFactor_12 : decode cX0_readFactor 12 = .ok (.if_icmp .lt 9, 3) := by decide +kernel
theorem dX0_readFactor_15 : decode cX0_readFactor 15 = .ok (.aload_n 1, 1) := by decide +kernel
theorem dX0_readFactor_16 : decode cX0_readFactor 16 = .ok (.iconst 5, 1) := by decide +kernel
theorem dX0_readFactor_17 : decode cX0_readFactor 17 = .ok (.invokevirtual 54, 3) := by decide +kernel
theorem dX0_readFactor_20 : decode cX0_readFactor 20 = .ok (.ireturn, 1) := by decide +kernel
theorem dX0_readFactor_21 : decode cX0_readFactor 21 = .ok (.aload_n 1, 1) := by decide +kernel
theorem dX0_readFactor_22 : decode cX0_readFactor 22 = .ok (.dup, 1) := by decide +kernel
theorem dX0_readFactor_23 : decode cX0_readFactor 23 = .ok (.getfield 71, 3) := by decide +kernel
theorem dX0_readFactor_26 : decode cX0_readFactor 26 = .ok (.iconst 1, 1) := by decide +kernel
theorem dX0_readFactor_27 : decode cX0_readFactor 27 = .ok (.iadd, 1) := by decide +kernel
theorem dX0_readFactor_28 : decode cX0_readFactor 28 = .ok (.putfield 71, 3) := by decide +kernel
theorem dX0_readFactor_31 : decode cX0_readFactor 31 = .ok (.aload_n 0, 1) := by decide +kernel
theorem dX0_readFactor_32 : decode cX0_readFactor 32 = .ok (.aload_n 1, 1) := by decide +kernel
theorem dX0_readFactor_33 : decode cX0_readFactor 33 = .ok (.iload_n 2, 1) := by decide +kernel
theorem dX0_readFactor_34 : decode cX0_readFactor 34 = .ok (.iconst 1, 1) := by decide +kernel
theorem dX0_readFactor_35 : decode cX0_readFactor 35 = .ok (.iadd, 1) := by decide +kernel
theorem dX0_readFactor_36 : decode cX0_readFactor 36 = .ok (.invokevirtual 37, 3) := by decide +kernel
theorem dX0_readFactor_39 : decode cX0_readFactor 39 = .ok (.ifCond .eq 24, 3) := by decide +kernel
theorem dX0_readFactor_42 : decode cX0_readFactor 42 = .ok (.aload_n 1, 1) := by decide +kernel
theorem dX0_readFactor_43 : decode cX0_readFactor 43 = .ok (.bipush 41, 2) := by decide +kernel
theorem dX0_readFactor_45 : decode cX0_readFactor 45 = .ok (.invokevirtual 44, 3) := by decide +kernel
theorem dX0_readFactor_48 : decode cX0_readFactor 48 = .ok (.ifCond .ne 11, 3) := by decide +kernel
theorem dX0_readFactor_51 : decode cX0_readFactor 51 = .ok (.aload_n 1, 1) := by decide +kernel
theorem dX0_readFactor_52 : decode cX0_readFactor 52 = .ok (.iconst 1, 1) := by decide +kernel
theorem dX0_readFactor_53 : decode cX0_readFactor 53 = .ok (.invokevirtual 54, 3) := by decide +kernel
theorem dX0_readFactor_56 : decode cX0_readFactor 56 = .ok (.ifCond .eq 7, 3) := by decide +kernel
theorem dX0_readFactor_59 : decode cX0_readFactor 59 = .ok (.iconst 1, 1) := by decide +kernel
theorem dX0_readFactor_60 : decode cX0_readFactor 60 = .ok (.goto 4, 3) := by decide +kernel
theorem dX0_readFactor_63 : decode cX0_readFactor 63 = .ok (.iconst 0, 1) := by decide +kernel
theorem dX0_readFactor_64 : decode cX0_readFactor 64 = .ok (.ireturn, 1) := by decide +kernel
theorem dX0_readFactor_65 : decode cX0_readFactor 65 = .ok (.aload_n 1, 1) := by decide +kernel
theorem dX0_readFactor_66 : decode cX0_readFactor 66 = .ok (.invokevirtual 74, 3) := by decide +kernel
theorem dX0_readFactor_69 : decode cX0_readFactor 69 = .ok (.ifCond .eq 9, 3) := by decide +kernel
theorem dX0_readFactor_72 : decode cX0_readFactor 72 = .ok (.aload_n 0, 1) := by decide +kernel
theorem dX0_readFactor_73 : decode cX0_readFactor 73 = .ok (.aload_n 1, 1) := by decide +kernel
theorem dX0_readFactor_74 : decode cX0_readFactor 74 = .ok (.invokevirtual 78, 3) := by decide +kernel
theorem dX0_readFactor_77 : decode cX0_readFactor 77 = .ok (.ireturn, 1) := by decide +kernel
theorem dX0_readFactor_78 : decode cX0_readFactor 78 = .ok (.aload_n 1, 1) := by decide +kernel
theorem dX0_readFactor_79 : decode cX0_readFactor 79 = .ok (.invokevirtual 57, 3) := by decide +kernel
theorem dX0_readFactor_82 : decode cX0_readFactor 82 = .ok (.invokestatic 82, 3) := by decide +kernel
theorem dX0_readFactor_85 : decode cX0_readFactor 85 = .ok (.istore_n 3, 1) := by decide +kernel
theorem dX0_readFactor_86 : decode cX0_readFactor 86 = .ok (.iload_n 3, 1) := by decide +kernel
theorem dX0_readFactor_87 : decode cX0_readFactor 87 = .ok (.ifCond .ne 9, 3) := by decide +kernel
theorem dX0_readFactor_90 : decode cX0_readFactor 90 = .ok (.aload_n 1, 1) := by decide +kernel
theorem dX0_readFactor_91 : decode cX0_readFactor 91 = .ok (.iconst 1, 1) := by decide +kernel
theorem dX0_readFactor_92 : decode cX0_readFactor 92 = .ok (.invokevirtual 54, 3) := by decide +kernel
theorem dX0_readFactor_95 : decode cX0_readFactor 95 = .ok (.ireturn, 1) := by decide +kernel
theorem dX0_readFactor_96 : decode cX0_readFactor 96 = .ok (.aload_n 1, 1) := by decide +kernel
theorem dX0_readFactor_97 : decode cX0_readFactor 97 = .ok (.dup, 1) := by decide +kernel
theorem dX0_readFactor_98 : decode cX0_readFactor 98 = .ok (.getfield 71, 3) := by decide +kernel
theorem dX0_readFactor_101 : decode cX0_readFactor 101 = .ok (.iconst 1, 1) := by decide +kernel
theorem dX0_readFactor_102 : decode cX0_readFactor 102 = .ok (.iadd, 1) := by decide +kernel
theorem dX0_readFactor_103 : decode cX0_readFactor 103 = .ok (.putfield 71, 3) := by decide +kernel
theorem dX0_readFactor_106 : decode cX0_readFactor 106 = .ok (.aload_n 0, 1) := by decide +kernel
theorem dX0_readFactor_107 : decode cX0_readFactor 107 = .ok (.iload_n 3, 1) := by decide +kernel
theorem dX0_readFactor_108 : decode cX0_readFactor 108 = .ok (.invokevirtual 64, 3) := by decide +kernel
theorem dX0_readFactor_111 : decode cX0_readFactor 111 = .ok (.iconst 1, 1) := by decide +kernel
theorem dX0_readFactor_112 : decode cX0_readFactor 112 = .ok (.ireturn, 1) := by decide +kernel
theorem dX0_readNumber_0 : decode cX0_readNumber 0 = .ok (.iconst 0, 1) := by decide +kernel
theorem dX0_readNumber_1 : decode cX0_readNumber 1 = .ok (.istore_n 2, 1) := by decide +kernel
theorem dX0_readNumber_2 : decode cX0_readNumber 2 = .ok (.iconst 0, 1) := by decide +kernel
theorem dX0_readNumber_3 : decode cX0_readNumber 3 = .ok (.istore_n 3, 1) := by decide +kernel
theorem dX0_readNumber_4 : decode cX0_readNumber 4 = .ok (.iload_n 3, 1) := by decide +kernel
theorem dX0_readNumber_5 : decode cX0_readNumber 5 = .ok (.bipush 6, 2) := by decide +kernel
theorem dX0_readNumber_7 : decode cX0_readNumber 7 = .ok (.if_icmp .ge 27, 3) := by decide +kernel
theorem dX0_readNumber_10 : decode cX0_readNumber 10 = .ok (.aload_n 1, 1) := by decide +kernel
theorem dX0_readNumber_11 : decode cX0_readNumber 11 = .ok (.invokevirtual 74, 3) := by decide +kernel
theorem dX0_readNumber_14 : decode cX0_readNumber 14 = .ok (.ifCond .eq 20, 3) := by decide +kernel
theorem dX0_readNumber_17 : decode cX0_readNumber 17 = .ok (.iload_n 2, 1) := by decide +kernel
theorem dX0_readNumber_18 : decode cX0_readNumber 18 = .ok (.bipush 10, 2) := by decide +kernel
theorem dX0_readNumber_20 : decode cX0_readNumber 20 = .ok (.imul, 1) := by decide +kernel
theorem dX0_readNumber_21 : decode cX0_readNumber 21 = .ok (.aload_n 1, 1) := by decide +kernel
theorem dX0_readNumber_22 : decode cX0_readNumber 22 = .ok (.iconst 0, 1) := by decide +kernel
theorem dX0_readNumber_23 : decode cX0_readNumber 23 = .ok (.invokevirtual 86, 3) := by decide +kernel
theorem dX0_readNumber_26 : decode cX0_readNumber 26 = .ok (.iadd, 1) := by decide +kernel
theorem dX0_readNumber_27 : decode cX0_readNumber 27 = .ok (.istore_n 2, 1) := by decide +kernel
theorem dX0_readNumber_28 : decode cX0_readNumber 28 = .ok (.iinc 3 1, 3) := by decide +kernel
theorem dX0_readNumber_31 : decode cX0_readNumber 31 = .ok (.goto (-27), 3) := by decide +kernel
theorem dX0_readNumber_34 : decode cX0_readNumber 34 = .ok (.aload_n 1, 1) := by decide +kernel
theorem dX0_readNumber_35 : decode cX0_readNumber 35 = .ok (.invokevirtual 74, 3) := by decide +kernel
theorem dX0_readNumber_38 : decode cX0_readNumber 38 = .ok (.ifCond .eq 9, 3) := by decide +kernel
theorem dX0_readNumber_41 : decode cX0_readNumber 41 = .ok (.aload_n 1, 1) := by decide +kernel
theorem dX0_readNumber_42 : decode cX0_readNumber 42 = .ok (.iconst 2, 1) := by decide +kernel
theorem dX0_readNumber_43 : decode cX0_readNumber 43 = .ok (.invokevirtual 54, 3) := by decide +kernel
theorem dX0_readNumber_46 : decode cX0_readNumber 46 = .ok (.ireturn, 1) := by decide +kernel
theorem dX0_readNumber_47 : decode cX0_readNumber 47 = .ok (.aload_n 0, 1) := by decide +kernel
theorem dX0_readNumber_48 : decode cX0_readNumber 48 = .ok (.iload_n 2, 1) := by decide +kernel
theorem dX0_readNumber_49 : decode cX0_readNumber 49 = .ok (.invokevirtual 64, 3) := by decide +kernel
theorem dX0_readNumber_52 : decode cX0_readNumber 52 = .ok (.iconst 1, 1) := by decide +kernel
theorem dX0_readNumber_53 : decode cX0_readNumber 53 = .ok (.ireturn, 1) := by decide +kernel
theorem dX0_wordOf_0 : decode cX0_wordOf 0 = .ok (.iload_n 0, 1) := by decide +kernel
theorem dX0_wordOf_1 : decode cX0_wordOf 1 = .ok (.lookupswitch 65 #[(97, 56), (112, 51), (116, 62), (118, 59), (119, 53)], 51) := by decide +kernel
theorem dX0_wordOf_52 : decode cX0_wordOf 52 = .ok (.iconst (-1), 1) := by decide +kernel
theorem dX0_wordOf_53 : decode cX0_wordOf 53 = .ok (.ireturn, 1) := by decide +kernel
theorem dX0_wordOf_54 : decode cX0_wordOf 54 = .ok (.bipush (-2), 2) := by decide +kernel
theorem dX0_wordOf_56 : decode cX0_wordOf 56 = .ok (.ireturn, 1) := by decide +kernel
theorem dX0_wordOf_57 : decode cX0_wordOf 57 = .ok (.bipush (-3), 2) := by decide +kernel
theorem dX0_wordOf_59 : decode cX0_wordOf 59 = .ok (.ireturn, 1) := by decide +kernel
theorem dX0_wordOf_60 : decode cX0_wordOf 60 = .ok (.bipush (-4), 2) := by decide +kernel
theorem dX0_wordOf_62 : decode cX0_wordOf 62 = .ok (.ireturn, 1) := by decide +kernel
theorem dX0_wordOf_63 : decode cX0_wordOf 63 = .ok (.bipush (-5), 2) := by decide +kernel
theorem dX0_wordOf_65 : decode cX0_wordOf 65 = .ok (.ireturn, 1) := by decide +kernel
theorem dX0_wordOf_66 : decode cX0_wordOf 66 = .ok (.iconst 0, 1) := by decide +kernel
theorem dX0_wordOf_67 : decode cX0_wordOf 67 = .ok (.ireturn, 1) := by decide +kernel
theorem dX0_emit_0 : decode cX0_emit 0 = .ok (.aload_n 0, 1) := by decide +kernel
theorem dX0_emit_1 : decode cX0_emit 1 = .ok (.getfield 33, 3) := by decide +kernel
theorem dX0_emit_4 : decode cX0_emit 4 = .ok (.ifCond .lt 35, 3) := by decide +kernel
theorem dX0_emit_7 : decode cX0_emit 7 = .ok (.aload_n 0, 1) := by decide +kernel
theorem dX0_emit_8 : decode cX0_emit 8 = .ok (.getfield 33, 3) := by decide +kernel
theorem dX0_emit_11 : decode cX0_emit 11 = .ok (.aload_n 0, 1) := by decide +kernel
theorem dX0_emit_12 : decode cX0_emit 12 = .ok (.getfield 9, 3) := by decide +kernel
theorem dX0_emit_15 : decode cX0_emit 15 = .ok (.arraylength, 1) := by decide +kernel
theorem dX0_emit_16 : decode cX0_emit 16 = .ok (.if_icmp .ge 23, 3) := by decide +kernel
theorem dX0_emit_19 : decode cX0_emit 19 = .ok (.aload_n 0, 1) := by decide +kernel
theorem dX0_emit_20 : decode cX0_emit 20 = .ok (.getfield 9, 3) := by decide +kernel
theorem dX0_emit_23 : decode cX0_emit 23 = .ok (.aload_n 0, 1) := by decide +kernel
theorem dX0_emit_24 : decode cX0_emit 24 = .ok (.getfield 33, 3) := by decide +kernel
theorem dX0_emit_27 : decode cX0_emit 27 = .ok (.iload_n 1, 1) := by decide +kernel
theorem dX0_emit_28 : decode cX0_emit 28 = .ok (.iastore, 1) := by decide +kernel
theorem dX0_emit_29 : decode cX0_emit 29 = .ok (.aload_n 0, 1) := by decide +kernel
theorem dX0_emit_30 : decode cX0_emit 30 = .ok (.dup, 1) := by decide +kernel
theorem dX0_emit_31 : decode cX0_emit 31 = .ok (.getfield 33, 3) := by decide +kernel
theorem dX0_emit_34 : decode cX0_emit 34 = .ok (.iconst 1, 1) := by decide +kernel
theorem dX0_emit_35 : decode cX0_emit 35 = .ok (.iadd, 1) := by decide +kernel
theorem dX0_emit_36 : decode cX0_emit 36 = .ok (.putfield 33, 3) := by decide +kernel
theorem dX0_emit_39 : decode cX0_emit 39 = .ok (.return_, 1) := by decide +kernel
theorem dX0_reduce_0 : decode cX0_reduce 0 = .ok (.aload_n 0, 1) := by decide +kernel
theorem dX0_reduce_1 : decode cX0_reduce 1 = .ok (.getfield 15, 3) := by decide +kernel
theorem dX0_reduce_4 : decode cX0_reduce 4 = .ok (.iconst 0, 1) := by decide +kernel
theorem dX0_reduce_5 : decode cX0_reduce 5 = .ok (.lload_n 1, 1) := by decide +kernel
theorem dX0_reduce_6 : decode cX0_reduce 6 = .ok (.lastore, 1) := by decide +kernel
theorem dX0_reduce_7 : decode cX0_reduce 7 = .ok (.aload_n 0, 1) := by decide +kernel
theorem dX0_reduce_8 : decode cX0_reduce 8 = .ok (.getfield 15, 3) := by decide +kernel
theorem dX0_reduce_11 : decode cX0_reduce 11 = .ok (.iconst 1, 1) := by decide +kernel
theorem dX0_reduce_12 : decode cX0_reduce 12 = .ok (.lload_n 3, 1) := by decide +kernel
theorem dX0_reduce_13 : decode cX0_reduce 13 = .ok (.lastore, 1) := by decide +kernel
theorem dX0_reduce_14 : decode cX0_reduce 14 = .ok (.aload_n 0, 1) := by decide +kernel
theorem dX0_reduce_15 : decode cX0_reduce 15 = .ok (.getfield 15, 3) := by decide +kernel
theorem dX0_reduce_18 : decode cX0_reduce 18 = .ok (.iconst 2, 1) := by decide +kernel
theorem dX0_reduce_19 : decode cX0_reduce 19 = .ok (.lload 5, 2) := by decide +kernel
theorem dX0_reduce_21 : decode cX0_reduce 21 = .ok (.lastore, 1) := by decide +kernel
theorem dX0_reduce_22 : decode cX0_reduce 22 = .ok (.aload_n 0, 1) := by decide +kernel
theorem dX0_reduce_23 : decode cX0_reduce 23 = .ok (.getfield 15, 3) := by decide +kernel
theorem dX0_reduce_26 : decode cX0_reduce 26 = .ok (.iconst 3, 1) := by decide +kernel
theorem dX0_reduce_27 : decode cX0_reduce 27 = .ok (.lload 7, 2) := by decide +kernel
theorem dX0_reduce_29 : decode cX0_reduce 29 = .ok (.lastore, 1) := by decide +kernel
theorem dX0_reduce_30 : decode cX0_reduce 30 = .ok (.aload_n 0, 1) := by decide +kernel
theorem dX0_reduce_31 : decode cX0_reduce 31 = .ok (.iconst 0, 1) := by decide +kernel
theorem dX0_reduce_32 : decode cX0_reduce 32 = .ok (.aload_n 0, 1) := by decide +kernel
theorem dX0_reduce_33 : decode cX0_reduce 33 = .ok (.getfield 41, 3) := by decide +kernel
theorem dX0_reduce_36 : decode cX0_reduce 36 = .ok (.aload_n 0, 1) := by decide +kernel
theorem dX0_reduce_37 : decode cX0_reduce 37 = .ok (.getfield 27, 3) := by decide +kernel
theorem dX0_reduce_40 : decode cX0_reduce 40 = .ok (.invokevirtual 89, 3) := by decide +kernel
theorem dX0_reduce_43 : decode cX0_reduce 43 = .ok (.aload_n 0, 1) := by decide +kernel
theorem dX0_reduce_44 : decode cX0_reduce 44 = .ok (.aload_n 0, 1) := by decide +kernel
theorem dX0_reduce_45 : decode cX0_reduce 45 = .ok (.getfield 41, 3) := by decide +kernel
theorem dX0_reduce_48 : decode cX0_reduce 48 = .ok (.aload_n 0, 1) := by decide +kernel
theorem dX0_reduce_49 : decode cX0_reduce 49 = .ok (.getfield 33, 3) := by decide +kernel
theorem dX0_reduce_52 : decode cX0_reduce 52 = .ok (.aload_n 0, 1) := by decide +kernel
theorem dX0_reduce_53 : decode cX0_reduce 53 = .ok (.getfield 30, 3) := by decide +kernel
theorem dX0_reduce_56 : decode cX0_reduce 56 = .ok (.invokevirtual 89, 3) := by decide +kernel
theorem dX0_reduce_59 : decode cX0_reduce 59 = .ok (.aload_n 0, 1) := by decide +kernel
theorem dX0_reduce_60 : decode cX0_reduce 60 = .ok (.iconst 0, 1) := by decide +kernel
theorem dX0_reduce_61 : decode cX0_reduce 61 = .ok (.putfield 93, 3) := by decide +kernel
theorem dX0_reduce_64 : decode cX0_reduce 64 = .ok (.iconst 0, 1) := by decide +kernel
theorem dX0_reduce_65 : decode cX0_reduce 65 = .ok (.istore 9, 2) := by decide +kernel
theorem dX0_reduce_67 : decode cX0_reduce 67 = .ok (.iload 9, 2) := by decide +kernel
theorem dX0_reduce_69 : decode cX0_reduce 69 = .ok (.bipush 32, 2) := by decide +kernel
theorem dX0_reduce_71 : decode cX0_reduce 71 = .ok (.if_icmp .ge 39, 3) := by decide +kernel
theorem dX0_reduce_74 : decode cX0_reduce 74 = .ok (.aload_n 0, 1) := by decide +kernel
theorem dX0_reduce_75 : decode cX0_reduce 75 = .ok (.getfield 27, 3) := by decide +kernel
theorem dX0_reduce_78 : decode cX0_reduce 78 = .ok (.iload 9, 2) := by decide +kernel
theorem dX0_reduce_80 : decode cX0_reduce 80 = .ok (.laload, 1) := by decide +kernel
theorem dX0_reduce_81 : decode cX0_reduce 81 = .ok (.lconst 0, 1) := by decide +kernel
theorem dX0_reduce_82 : decode cX0_reduce 82 = .ok (.lcmp, 1) := by decide +kernel
theorem dX0_reduce_83 : decode cX0_reduce 83 = .ok (.ifCond .ne 15, 3) := by decide +kernel
theorem dX0_reduce_86 : decode cX0_reduce 86 = .ok (.aload_n 0, 1) := by decide +kernel
theorem dX0_reduce_87 : decode cX0_reduce 87 = .ok (.getfield 30, 3) := by decide +kernel
theorem dX0_reduce_90 : decode cX0_reduce 90 = .ok (.iload 9, 2) := by decide +kernel
theorem dX0_reduce_92 : decode cX0_reduce 92 = .ok (.laload, 1) := by decide +kernel
theorem dX0_reduce_93 : decode cX0_reduce 93 = .ok (.lconst 0, 1) := by decide +kernel
theorem dX0_reduce_94 : decode cX0_reduce 94 = .ok (.lcmp, 1) := by decide +kernel
theorem dX0_reduce_95 : decode cX0_reduce 95 = .ok (.ifCond .eq 9, 3) := by decide +kernel
theorem dX0_reduce_98 : decode cX0_reduce 98 = .ok (.aload_n 0, 1) := by decide +kernel
theorem dX0_reduce_99 : decode cX0_reduce 99 = .ok (.iload 9, 2) := by decide +kernel
theorem dX0_reduce_101 : decode cX0_reduce 101 = .ok (.putfield 93, 3) := by decide +kernel
theorem dX0_reduce_104 : decode cX0_reduce 104 = .ok (.iinc 9 1, 3) := by decide +kernel
theorem dX0_reduce_107 : decode cX0_reduce 107 = .ok (.goto (-40), 3) := by decide +kernel
theorem dX0_reduce_110 : decode cX0_reduce 110 = .ok (.return_, 1) := by decide +kernel
theorem dX0_reduceSide_0 : decode cX0_reduceSide 0 = .ok (.aload_n 0, 1) := by decide +kernel
theorem dX0_reduceSide_1 : decode cX0_reduceSide 1 = .ok (.iconst 0, 1) := by decide +kernel
theorem dX0_reduceSide_2 : decode cX0_reduceSide 2 = .ok (.putfield 96, 3) := by decide +kernel
theorem dX0_reduceSide_5 : decode cX0_reduceSide 5 = .ok (.iload_n 1, 1) := by decide +kernel
theorem dX0_reduceSide_6 : decode cX0_reduceSide 6 = .ok (.istore 4, 2) := by decide +kernel
theorem dX0_reduceSide_8 : decode cX0_reduceSide 8 = .ok (.iload 4, 2) := by decide +kernel
theorem dX0_reduceSide_10 : decode cX0_reduceSide 10 = .ok (.iload_n 2, 1) := by decide +kernel
theorem dX0_reduceSide_11 : decode cX0_reduceSide 11 = .ok (.if_icmp .ge 83, 3) := by decide +kernel
theorem dX0_reduceSide_14 : decode cX0_reduceSide 14 = .ok (.iload 4, 2) := by decide +kernel
theorem dX0_reduceSide_16 : decode cX0_reduceSide 16 = .ok (.aload_n 0, 1) := by decide +kernel
theorem dX0_reduceSide_17 : decode cX0_reduceSide 17 = .ok (.getfield 9, 3) := by decide +kernel
theorem dX0_reduceSide_20 : decode cX0_reduceSide 20 = .ok (.arraylength, 1) := by decide +kernel
theorem dX0_reduceSide_21 : decode cX0_reduceSide 21 = .ok (.if_icmp .ge 73, 3) := by decide +kernel
theorem dX0_reduceSide_24 : decode cX0_reduceSide 24 = .ok (.aload_n 0, 1) := by decide +kernel
theorem dX0_reduceSide_25 : decode cX0_reduceSide 25 = .ok (.getfield 9, 3) := by decide +kernel
theorem dX0_reduceSide_28 : decode cX0_reduceSide 28 = .ok (.iload 4, 2) := by decide +kernel
theorem dX0_reduceSide_30 : decode cX0_reduceSide 30 = .ok (.iaload, 1) := by decide +kernel
theorem dX0_reduceSide_31 : decode cX0_reduceSide 31 = .ok (.istore 5, 2) := by decide +kernel
theorem dX0_reduceSide_33 : decode cX0_reduceSide 33 = .ok (.iload 5, 2) := by decide +kernel
theorem dX0_reduceSide_35 : decode cX0_reduceSide 35 = .ok (.bipush (-6), 2) := by decide +kernel
theorem dX0_reduceSide_37 : decode cX0_reduceSide 37 = .ok (.if_icmp .eq 10, 3) := by decide +kernel
theorem dX0_reduceSide_40 : decode cX0_reduceSide 40 = .ok (.iload 5, 2) := by decide +kernel
theorem dX0_reduceSide_42 : decode cX0_reduceSide 42 = .ok (.bipush (-7), 2) := by decide +kernel
theorem dX0_reduceSide_44 : decode cX0_reduceSide 44 = .ok (.if_icmp .ne 24, 3) := by decide +kernel
theorem dX0_reduceSide_47 : decode cX0_reduceSide 47 = .ok (.aload_n 0, 1) := by decide +kernel
theorem dX0_reduceSide_48 : decode cX0_reduceSide 48 = .ok (.iload 5, 2) := by decide +kernel
theorem dX0_reduceSide_50 : decode cX0_reduceSide 50 = .ok (.bipush (-6), 2) := by decide +kernel
theorem dX0_reduceSide_52 : decode cX0_reduceSide 52 = .ok (.if_icmp .ne 7, 3) := by decide +kernel
theorem dX0_reduceSide_55 : decode cX0_reduceSide 55 = .ok (.lconst 1, 1) := by decide +kernel
theorem dX0_reduceSide_56 : decode cX0_reduceSide 56 = .ok (.goto 6, 3) := by decide +kernel
theorem dX0_reduceSide_59 : decode cX0_reduceSide 59 = .ok (.ldc2_w 99, 3) := by decide +kernel
theorem dX0_reduceSide_62 : decode cX0_reduceSide 62 = .ok (.invokevirtual 101, 3) := by decide +kernel
theorem dX0_reduceSide_65 : decode cX0_reduceSide 65 = .ok (.goto 23, 3) := by decide +kernel
theorem dX0_reduceSide_68 : decode cX0_reduceSide 68 = .ok (.iload 5, 2) := by decide +kernel
theorem dX0_reduceSide_70 : decode cX0_reduceSide 70 = .ok (.bipush (-8), 2) := by decide +kernel
theorem dX0_reduceSide_72 : decode cX0_reduceSide 72 = .ok (.if_icmp .ne 10, 3) := by decide +kernel
theorem dX0_reduceSide_75 : decode cX0_reduceSide 75 = .ok (.aload_n 0, 1) := by decide +kernel
theorem dX0_reduceSide_76 : decode cX0_reduceSide 76 = .ok (.invokevirtual 105, 3) := by decide +kernel
theorem dX0_reduceSide_79 : decode cX0_reduceSide 79 = .ok (.goto 9, 3) := by decide +kernel
theorem dX0_reduceSide_82 : decode cX0_reduceSide 82 = .ok (.aload_n 0, 1) := by decide +kernel
theorem dX0_reduceSide_83 : decode cX0_reduceSide 83 = .ok (.iload 5, 2) := by decide +kernel
theorem dX0_reduceSide_85 : decode cX0_reduceSide 85 = .ok (.invokevirtual 108, 3) := by decide +kernel
theorem dX0_reduceSide_88 : decode cX0_reduceSide 88 = .ok (.iinc 4 1, 3) := by decide +kernel
theorem dX0_reduceSide_91 : decode cX0_reduceSide 91 = .ok (.goto (-83), 3) := by decide +kernel
theorem dX0_reduceSide_94 : decode cX0_reduceSide 94 = .ok (.aload_n 0, 1) := by decide +kernel
theorem dX0_reduceSide_95 : decode cX0_reduceSide 95 = .ok (.getfield 21, 3) := by decide +kernel
theorem dX0_reduceSide_98 : decode cX0_reduceSide 98 = .ok (.iconst 0, 1) := by decide +kernel
theorem dX0_reduceSide_99 : decode cX0_reduceSide 99 = .ok (.aaload, 1) := by decide +kernel
theorem dX0_reduceSide_100 : decode cX0_reduceSide 100 = .ok (.iconst 0, 1) := by decide +kernel
theorem dX0_reduceSide_101 : decode cX0_reduceSide 101 = .ok (.aload_n 3, 1) := by decide +kernel
theorem dX0_reduceSide_102 : decode cX0_reduceSide 102 = .ok (.iconst 0, 1) := by decide +kernel
theorem dX0_reduceSide_103 : decode cX0_reduceSide 103 = .ok (.bipush 32, 2) := by decide +kernel
theorem dX0_reduceSide_105 : decode cX0_reduceSide 105 = .ok (.invokestatic 111, 3) := by decide +kernel
theorem dX0_reduceSide_108 : decode cX0_reduceSide 108 = .ok (.return_, 1) := by decide +kernel
theorem dX0_push_0 : decode cX0_push 0 = .ok (.aload_n 0, 1) := by decide +kernel
theorem dX0_push_1 : decode cX0_push 1 = .ok (.getfield 96, 3) := by decide +kernel
theorem dX0_push_4 : decode cX0_push 4 = .ok (.ifCond .lt 12, 3) := by decide +kernel
theorem dX0_push_7 : decode cX0_push 7 = .ok (.aload_n 0, 1) := by decide +kernel
theorem dX0_push_8 : decode cX0_push 8 = .ok (.getfield 96, 3) := by decide +kernel
theorem dX0_push_11 : decode cX0_push 11 = .ok (.bipush 16, 2) := by decide +kernel
theorem dX0_push_13 : decode cX0_push 13 = .ok (.if_icmp .lt 4, 3) := by decide +kernel
theorem dX0_push_16 : decode cX0_push 16 = .ok (.return_, 1) := by decide +kernel
theorem dX0_push_17 : decode cX0_push 17 = .ok (.aload_n 0, 1) := by decide +kernel
theorem dX0_push_18 : decode cX0_push 18 = .ok (.getfield 21, 3) := by decide +kernel
theorem dX0_push_21 : decode cX0_push 21 = .ok (.aload_n 0, 1) := by decide +kernel
theorem dX0_push_22 : decode cX0_push 22 = .ok (.getfield 96, 3) := by decide +kernel
theorem dX0_push_25 : decode cX0_push 25 = .ok (.aaload, 1) := by decide +kernel
theorem dX0_push_26 : decode cX0_push 26 = .ok (.astore_n 2, 1) := by decide +kernel
theorem dX0_push_27 : decode cX0_push 27 = .ok (.iconst 0, 1) := by decide +kernel
theorem dX0_push_28 : decode cX0_push 28 = .ok (.istore_n 3, 1) := by decide +kernel
theorem dX0_push_29 : decode cX0_push 29 = .ok (.iload_n 3, 1) := by decide +kernel
theorem dX0_push_30 : decode cX0_push 30 = .ok (.bipush 32, 2) := by decide +kernel
theorem dX0_push_32 : decode cX0_push 32 = .ok (.if_icmp .ge 13, 3) := by decide +kernel
theorem dX0_push_35 : decode cX0_push 35 = .ok (.aload_n 2, 1) := by decide +kernel
theorem dX0_push_36 : decode cX0_push 36 = .ok (.iload_n 3, 1) := by decide +kernel
theorem dX0_push_37 : decode cX0_push 37 = .ok (.lconst 0, 1) := by decide +kernel
theorem dX0_push_38 : decode cX0_push 38 = .ok (.lastore, 1) := by decide +kernel
theorem dX0_push_39 : decode cX0_push 39 = .ok (.iinc 3 1, 3) := by decide +kernel
theorem dX0_push_42 : decode cX0_push 42 = .ok (.goto (-13), 3) := by decide +kernel
theorem dX0_push_45 : decode cX0_push 45 = .ok (.iload_n 1, 1) := by decide +kernel
theorem dX0_push_46 : decode cX0_push 46 = .ok (.iconst (-1), 1) := by decide +kernel
theorem dX0_push_47 : decode cX0_push 47 = .ok (.if_icmp .ne 10, 3) := by decide +kernel
theorem dX0_push_50 : decode cX0_push 50 = .ok (.aload_n 2, 1) := by decide +kernel
theorem dX0_push_51 : decode cX0_push 51 = .ok (.iconst 1, 1) := by decide +kernel
theorem dX0_push_52 : decode cX0_push 52 = .ok (.lconst 1, 1) := by decide +kernel
theorem dX0_push_53 : decode cX0_push 53 = .ok (.lastore, 1) := by decide +kernel
theorem dX0_push_54 : decode cX0_push 54 = .ok (.goto 46, 3) := by decide +kernel
theorem dX0_push_57 : decode cX0_push 57 = .ok (.iload_n 1, 1) := by decide +kernel
theorem dX0_push_58 : decode cX0_push 58 = .ok (.ifCond .lt 11, 3) := by decide +kernel
theorem dX0_push_61 : decode cX0_push 61 = .ok (.aload_n 2, 1) := by decide +kernel
theorem dX0_push_62 : decode cX0_push 62 = .ok (.iconst 0, 1) := by decide +kernel
theorem dX0_push_63 : decode cX0_push 63 = .ok (.iload_n 1, 1) := by decide +kernel
theorem dX0_push_64 : decode cX0_push 64 = .ok (.i2l, 1) := by decide +kernel
theorem dX0_push_65 : decode cX0_push 65 = .ok (.lastore, 1) := by decide +kernel
theorem dX0_push_66 : decode cX0_push 66 = .ok (.goto 34, 3) := by decide +kernel
theorem dX0_push_69 : decode cX0_push 69 = .ok (.bipush (-2), 2) := by decide +kernel
theorem dX0_push_71 : decode cX0_push 71 = .ok (.iload_n 1, 1) := by decide +kernel
theorem dX0_push_72 : decode cX0_push 72 = .ok (.isub, 1) := by decide +kernel
theorem dX0_push_73 : decode cX0_push 73 = .ok (.istore_n 3, 1) := by decide +kernel
theorem dX0_push_74 : decode cX0_push 74 = .ok (.aload_n 2, 1) := by decide +kernel
theorem dX0_push_75 : decode cX0_push 75 = .ok (.iconst 0, 1) := by decide +kernel
theorem dX0_push_76 : decode cX0_push 76 = .ok (.iload_n 3, 1) := by decide +kernel
theorem dX0_push_77 : decode cX0_push 77 = .ok (.ifCond .lt 21, 3) := by decide +kernel
theorem dX0_push_80 : decode cX0_push 80 = .ok (.iload_n 3, 1) := by decide +kernel
theorem dX0_push_81 : decode cX0_push 81 = .ok (.aload_n 0, 1) := by decide +kernel
theorem dX0_push_82 : decode cX0_push 82 = .ok (.getfield 15, 3) := by decide +kernel
theorem dX0_push_85 : decode cX0_push 85 = .ok (.arraylength, 1) := by decide +kernel
theorem dX0_push_86 : decode cX0_push 86 = .ok (.if_icmp .ge 12, 3) := by decide +kernel
theorem dX0_push_89 : decode cX0_push 89 = .ok (.aload_n 0, 1) := by decide +kernel
theorem dX0_push_90 : decode cX0_push 90 = .ok (.getfield 15, 3) := by decide +kernel
theorem dX0_push_93 : decode cX0_push 93 = .ok (.iload_n 3, 1) := by decide +kernel
theorem dX0_push_94 : decode cX0_push 94 = .ok (.laload, 1) := by decide +kernel
theorem dX0_push_95 : decode cX0_push 95 = .ok (.goto 4, 3) := by decide +kernel
theorem dX0_push_98 : decode cX0_push 98 = .ok (.lconst 0, 1) := by decide +kernel
theorem dX0_push_99 : decode cX0_push 99 = .ok (.lastore, 1) := by decide +kernel
theorem dX0_push_100 : decode cX0_push 100 = .ok (.aload_n 0, 1) := by decide +kernel
theorem dX0_push_101 : decode cX0_push 101 = .ok (.dup, 1) := by decide +kernel
theorem dX0_push_102 : decode cX0_push 102 = .ok (.getfield 96, 3) := by decide +kernel
theorem dX0_push_105 : decode cX0_push 105 = .ok (.iconst 1, 1) := by decide +kernel
theorem dX0_push_106 : decode cX0_push 106 = .ok (.iadd, 1) := by decide +kernel
theorem dX0_push_107 : decode cX0_push 107 = .ok (.putfield 96, 3) := by decide +kernel
theorem dX0_push_110 : decode cX0_push 110 = .ok (.return_, 1) := by decide +kernel
theorem dX0_drop_0 : decode cX0_drop 0 = .ok (.aload_n 0, 1) := by decide +kernel
theorem dX0_drop_1 : decode cX0_drop 1 = .ok (.getfield 96, 3) := by decide +kernel
theorem dX0_drop_4 : decode cX0_drop 4 = .ok (.iconst 2, 1) := by decide +kernel
theorem dX0_drop_5 : decode cX0_drop 5 = .ok (.if_icmp .lt 12, 3) := by decide +kernel
theorem dX0_drop_8 : decode cX0_drop 8 = .ok (.aload_n 0, 1) := by decide +kernel
theorem dX0_drop_9 : decode cX0_drop 9 = .ok (.getfield 96, 3) := by decide +kernel
theorem dX0_drop_12 : decode cX0_drop 12 = .ok (.bipush 16, 2) := by decide +kernel
theorem dX0_drop_14 : decode cX0_drop 14 = .ok (.if_icmp .le 5, 3) := by decide +kernel
theorem dX0_drop_17 : decode cX0_drop 17 = .ok (.iconst 0, 1) := by decide +kernel
theorem dX0_drop_18 : decode cX0_drop 18 = .ok (.ireturn, 1) := by decide +kernel
theorem dX0_drop_19 : decode cX0_drop 19 = .ok (.aload_n 0, 1) := by decide +kernel
theorem dX0_drop_20 : decode cX0_drop 20 = .ok (.dup, 1) := by decide +kernel
theorem dX0_drop_21 : decode cX0_drop 21 = .ok (.getfield 96, 3) := by decide +kernel
theorem dX0_drop_24 : decode cX0_drop 24 = .ok (.iconst 1, 1) := by decide +kernel
theorem dX0_drop_25 : decode cX0_drop 25 = .ok (.isub, 1) := by decide +kernel
theorem dX0_drop_26 : decode cX0_drop 26 = .ok (.putfield 96, 3) := by decide +kernel
theorem dX0_drop_29 : decode cX0_drop 29 = .ok (.iconst 1, 1) := by decide +kernel
theorem dX0_drop_30 : decode cX0_drop 30 = .ok (.ireturn, 1) := by decide +kernel
theorem dX0_addTop_0 : decode cX0_addTop 0 = .ok (.aload_n 0, 1) := by decide +kernel
theorem dX0_addTop_1 : decode cX0_addTop 1 = .ok (.invokevirtual 117, 3) := by decide +kernel
theorem dX0_addTop_4 : decode cX0_addTop 4 = .ok (.ifCond .ne 4, 3) := by decide +kernel
theorem dX0_addTop_7 : decode cX0_addTop 7 = .ok (.return_, 1) := by decide +kernel
theorem dX0_addTop_8 : decode cX0_addTop 8 = .ok (.iconst 0, 1) := by decide +kernel
theorem dX0_addTop_9 : decode cX0_addTop 9 = .ok (.istore_n 3, 1) := by decide +kernel
theorem dX0_addTop_10 : decode cX0_addTop 10 = .ok (.iload_n 3, 1) := by decide +kernel
theorem dX0_addTop_11 : decode cX0_addTop 11 = .ok (.bipush 32, 2) := by decide +kernel
theorem dX0_addTop_13 : decode cX0_addTop 13 = .ok (.if_icmp .ge 38, 3) := by decide +kernel
theorem dX0_addTop_16 : decode cX0_addTop 16 = .ok (.aload_n 0, 1) := by decide +kernel
theorem dX0_addTop_17 : decode cX0_addTop 17 = .ok (.getfield 21, 3) := by decide +kernel
theorem dX0_addTop_20 : decode cX0_addTop 20 = .ok (.aload_n 0, 1) := by decide +kernel
theorem dX0_addTop_21 : decode cX0_addTop 21 = .ok (.getfield 96, 3) := by decide +kernel
theorem dX0_addTop_24 : decode cX0_addTop 24 = .ok (.iconst 1, 1) := by decide +kernel
theorem dX0_addTop_25 : decode cX0_addTop 25 = .ok (.isub, 1) := by decide +kernel
theorem dX0_addTop_26 : decode cX0_addTop 26 = .ok (.aaload, 1) := by decide +kernel
theorem dX0_addTop_27 : decode cX0_addTop 27 = .ok (.iload_n 3, 1) := by decide +kernel
theorem dX0_addTop_28 : decode cX0_addTop 28 = .ok (.dup2, 1) := by decide +kernel
theorem dX0_addTop_29 : decode cX0_addTop 29 = .ok (.laload, 1) := by decide +kernel
theorem dX0_addTop_30 : decode cX0_addTop 30 = .ok (.lload_n 1, 1) := by decide +kernel
theorem dX0_addTop_31 : decode cX0_addTop 31 = .ok (.aload_n 0, 1) := by decide +kernel
theorem dX0_addTop_32 : decode cX0_addTop 32 = .ok (.getfield 21, 3) := by decide +kernel
theorem dX0_addTop_35 : decode cX0_addTop 35 = .ok (.aload_n 0, 1) := by decide +kernel
theorem dX0_addTop_36 : decode cX0_addTop 36 = .ok (.getfield 96, 3) := by decide +kernel
theorem dX0_addTop_39 : decode cX0_addTop 39 = .ok (.aaload, 1) := by decide +kernel
theorem dX0_addTop_40 : decode cX0_addTop 40 = .ok (.iload_n 3, 1) := by decide +kernel
theorem dX0_addTop_41 : decode cX0_addTop 41 = .ok (.laload, 1) := by decide +kernel
theorem dX0_addTop_42 : decode cX0_addTop 42 = .ok (.lmul, 1) := by decide +kernel
theorem dX0_addTop_43 : decode cX0_addTop 43 = .ok (.ladd, 1) := by decide +kernel
theorem dX0_addTop_44 : decode cX0_addTop 44 = .ok (.lastore, 1) := by decide +kernel
theorem dX0_addTop_45 : decode cX0_addTop 45 = .ok (.iinc 3 1, 3) := by decide +kernel
theorem dX0_addTop_48 : decode cX0_addTop 48 = .ok (.goto (-38), 3) := by decide +kernel
theorem dX0_addTop_51 : decode cX0_addTop 51 = .ok (.return_, 1) := by decide +kernel
theorem dX0_multiplyTop_0 : decode cX0_multiplyTop 0 = .ok (.aload_n 0, 1) := by decide +kernel
theorem dX0_multiplyTop_1 : decode cX0_multiplyTop 1 = .ok (.invokevirtual 117, 3) := by decide +kernel
theorem dX0_multiplyTop_4 : decode cX0_multiplyTop 4 = .ok (.ifCond .ne 4, 3) := by decide +kernel
theorem dX0_multiplyTop_7 : decode cX0_multiplyTop 7 = .ok (.return_, 1) := by decide +kernel
theorem dX0_multiplyTop_8 : decode cX0_multiplyTop 8 = .ok (.iconst 0, 1) := by decide +kernel
theorem dX0_multiplyTop_9 : decode cX0_multiplyTop 9 = .ok (.istore_n 1, 1) := by decide +kernel
theorem dX0_multiplyTop_10 : decode cX0_multiplyTop 10 = .ok (.iload_n 1, 1) := by decide +kernel
theorem dX0_multiplyTop_11 : decode cX0_multiplyTop 11 = .ok (.bipush 32, 2) := by decide +kernel
theorem dX0_multiplyTop_13 : decode cX0_multiplyTop 13 = .ok (.if_icmp .ge 65, 3) := by decide +kernel
theorem dX0_multiplyTop_16 : decode cX0_multiplyTop 16 = .ok (.aload_n 0, 1) := by decide +kernel
theorem dX0_multiplyTop_17 : decode cX0_multiplyTop 17 = .ok (.getfield 24, 3) := by decide +kernel
theorem dX0_multiplyTop_20 : decode cX0_multiplyTop 20 = .ok (.iload_n 1, 1) := by decide +kernel
theorem dX0_multiplyTop_21 : decode cX0_multiplyTop 21 = .ok (.lconst 0, 1) := by decide +kernel
theorem dX0_multiplyTop_22 : decode cX0_multiplyTop 22 = .ok (.lastore, 1) := by decide +kernel
theorem dX0_multiplyTop_23 : decode cX0_multiplyTop 23 = .ok (.iconst 0, 1) := by decide +kernel
theorem dX0_multiplyTop_24 : decode cX0_multiplyTop 24 = .ok (.istore_n 2, 1) := by decide +kernel
theorem dX0_multiplyTop_25 : decode cX0_multiplyTop 25 = .ok (.iload_n 2, 1) := by decide +kernel
theorem dX0_multiplyTop_26 : decode cX0_multiplyTop 26 = .ok (.iload_n 1, 1) := by decide +kernel
theorem dX0_multiplyTop_27 : decode cX0_multiplyTop 27 = .ok (.if_icmp .gt 45, 3) := by decide +kernel
theorem dX0_multiplyTop_30 : decode cX0_multiplyTop 30 = .ok (.aload_n 0, 1) := by decide +kernel
theorem dX0_multiplyTop_31 : decode cX0_multiplyTop 31 = .ok (.getfield 24, 3) := by decide +kernel
theorem dX0_multiplyTop_34 : decode cX0_multiplyTop 34 = .ok (.iload_n 1, 1) := by decide +kernel
theorem dX0_multiplyTop_35 : decode cX0_multiplyTop 35 = .ok (.dup2, 1) := by decide +kernel
theorem dX0_multiplyTop_36 : decode cX0_multiplyTop 36 = .ok (.laload, 1) := by decide +kernel
theorem dX0_multiplyTop_37 : decode cX0_multiplyTop 37 = .ok (.aload_n 0, 1) := by decide +kernel
theorem dX0_multiplyTop_38 : decode cX0_multiplyTop 38 = .ok (.getfield 21, 3) := by decide +kernel
theorem dX0_multiplyTop_41 : decode cX0_multiplyTop 41 = .ok (.aload_n 0, 1) := by decide +kernel
theorem dX0_multiplyTop_42 : decode cX0_multiplyTop 42 = .ok (.getfield 96, 3) := by decide +kernel
theorem dX0_multiplyTop_45 : decode cX0_multiplyTop 45 = .ok (.iconst 1, 1) := by decide +kernel
theorem dX0_multiplyTop_46 : decode cX0_multiplyTop 46 = .ok (.isub, 1) := by decide +kernel
theorem dX0_multiplyTop_47 : decode cX0_multiplyTop 47 = .ok (.aaload, 1) := by decide +kernel
theorem dX0_multiplyTop_48 : decode cX0_multiplyTop 48 = .ok (.iload_n 2, 1) := by decide +kernel
theorem dX0_multiplyTop_49 : decode cX0_multiplyTop 49 = .ok (.laload, 1) := by decide +kernel
theorem dX0_multiplyTop_50 : decode cX0_multiplyTop 50 = .ok (.aload_n 0, 1) := by decide +kernel
theorem dX0_multiplyTop_51 : decode cX0_multiplyTop 51 = .ok (.getfield 21, 3) := by decide +kernel
theorem dX0_multiplyTop_54 : decode cX0_multiplyTop 54 = .ok (.aload_n 0, 1) := by decide +kernel
theorem dX0_multiplyTop_55 : decode cX0_multiplyTop 55 = .ok (.getfield 96, 3) := by decide +kernel
theorem dX0_multiplyTop_58 : decode cX0_multiplyTop 58 = .ok (.aaload, 1) := by decide +kernel
theorem dX0_multiplyTop_59 : decode cX0_multiplyTop 59 = .ok (.iload_n 1, 1) := by decide +kernel
theorem dX0_multiplyTop_60 : decode cX0_multiplyTop 60 = .ok (.iload_n 2, 1) := by decide +kernel
theorem dX0_multiplyTop_61 : decode cX0_multiplyTop 61 = .ok (.isub, 1) := by decide +kernel
theorem dX0_multiplyTop_62 : decode cX0_multiplyTop 62 = .ok (.laload, 1) := by decide +kernel
theorem dX0_multiplyTop_63 : decode cX0_multiplyTop 63 = .ok (.lmul, 1) := by decide +kernel
theorem dX0_multiplyTop_64 : decode cX0_multiplyTop 64 = .ok (.ladd, 1) := by decide +kernel
theorem dX0_multiplyTop_65 : decode cX0_multiplyTop 65 = .ok (.lastore, 1) := by decide +kernel
theorem dX0_multiplyTop_66 : decode cX0_multiplyTop 66 = .ok (.iinc 2 1, 3) := by decide +kernel
theorem dX0_multiplyTop_69 : decode cX0_multiplyTop 69 = .ok (.goto (-44), 3) := by decide +kernel
theorem dX0_multiplyTop_72 : decode cX0_multiplyTop 72 = .ok (.iinc 1 1, 3) := by decide +kernel
theorem dX0_multiplyTop_75 : decode cX0_multiplyTop 75 = .ok (.goto (-65), 3) := by decide +kernel
theorem dX0_multiplyTop_78 : decode cX0_multiplyTop 78 = .ok (.aload_n 0, 1) := by decide +kernel
theorem dX0_multiplyTop_79 : decode cX0_multiplyTop 79 = .ok (.getfield 24, 3) := by decide +kernel
theorem dX0_multiplyTop_82 : decode cX0_multiplyTop 82 = .ok (.iconst 0, 1) := by decide +kernel
theorem dX0_multiplyTop_83 : decode cX0_multiplyTop 83 = .ok (.aload_n 0, 1) := by decide +kernel
theorem dX0_multiplyTop_84 : decode cX0_multiplyTop 84 = .ok (.getfield 21, 3) := by decide +kernel
theorem dX0_multiplyTop_87 : decode cX0_multiplyTop 87 = .ok (.aload_n 0, 1) := by decide +kernel
theorem dX0_multiplyTop_88 : decode cX0_multiplyTop 88 = .ok (.getfield 96, 3) := by decide +kernel
theorem dX0_multiplyTop_91 : decode cX0_multiplyTop 91 = .ok (.iconst 1, 1) := by decide +kernel
theorem dX0_multiplyTop_92 : decode cX0_multiplyTop 92 = .ok (.isub, 1) := by decide +kernel
theorem dX0_multiplyTop_93 : decode cX0_multiplyTop 93 = .ok (.aaload, 1) := by decide +kernel
theorem dX0_multiplyTop_94 : decode cX0_multiplyTop 94 = .ok (.iconst 0, 1) := by decide +kernel
theorem dX0_multiplyTop_95 : decode cX0_multiplyTop 95 = .ok (.bipush 32, 2) := by decide +kernel
theorem dX0_multiplyTop_97 : decode cX0_multiplyTop 97 = .ok (.invokestatic 111, 3) := by decide +kernel
theorem dX0_multiplyTop_100 : decode cX0_multiplyTop 100 = .ok (.return_, 1) := by decide +kernel
theorem dX0_condemns_0 : decode cX0_condemns 0 = .ok (.lconst 0, 1) := by decide +kernel
theorem dX0_condemns_1 : decode cX0_condemns 1 = .ok (.lstore_n 3, 1) := by decide +kernel
theorem dX0_condemns_2 : decode cX0_condemns 2 = .ok (.lconst 0, 1) := by decide +kernel
theorem dX0_condemns_3 : decode cX0_condemns 3 = .ok (.lstore 5, 2) := by decide +kernel
theorem dX0_condemns_5 : decode cX0_condemns 5 = .ok (.aload_n 0, 1) := by decide +kernel
theorem dX0_condemns_6 : decode cX0_condemns 6 = .ok (.getfield 93, 3) := by decide +kernel
theorem dX0_condemns_9 : decode cX0_condemns 9 = .ok (.bipush 31, 2) := by decide +kernel
theorem dX0_condemns_11 : decode cX0_condemns 11 = .ok (.invokestatic 120, 3) := by decide +kernel
theorem dX0_condemns_14 : decode cX0_condemns 14 = .ok (.istore 7, 2) := by decide +kernel
theorem dX0_condemns_16 : decode cX0_condemns 16 = .ok (.iload 7, 2) := by decide +kernel
theorem dX0_condemns_18 : decode cX0_condemns 18 = .ok (.ifCond .lt 35, 3) := by decide +kernel
theorem dX0_condemns_21 : decode cX0_condemns 21 = .ok (.lload_n 3, 1) := by decide +kernel
theorem dX0_condemns_22 : decode cX0_condemns 22 = .ok (.lload_n 1, 1) := by decide +kernel
theorem dX0_condemns_23 : decode cX0_condemns 23 = .ok (.lmul, 1) := by decide +kernel
theorem dX0_condemns_24 : decode cX0_condemns 24 = .ok (.aload_n 0, 1) := by decide +kernel
theorem dX0_condemns_25 : decode cX0_condemns 25 = .ok (.getfield 27, 3) := by decide +kernel
theorem dX0_condemns_28 : decode cX0_condemns 28 = .ok (.iload 7, 2) := by decide +kernel
theorem dX0_condemns_30 : decode cX0_condemns 30 = .ok (.laload, 1) := by decide +kernel
theorem dX0_condemns_31 : decode cX0_condemns 31 = .ok (.ladd, 1) := by decide +kernel
theorem dX0_condemns_32 : decode cX0_condemns 32 = .ok (.lstore_n 3, 1) := by decide +kernel
theorem dX0_condemns_33 : decode cX0_condemns 33 = .ok (.lload 5, 2) := by decide +kernel
theorem dX0_condemns_35 : decode cX0_condemns 35 = .ok (.lload_n 1, 1) := by decide +kernel
theorem dX0_condemns_36 : decode cX0_condemns 36 = .ok (.lmul, 1) := by decide +kernel
theorem dX0_condemns_37 : decode cX0_condemns 37 = .ok (.aload_n 0, 1) := by decide +kernel
theorem dX0_condemns_38 : decode cX0_condemns 38 = .ok (.getfield 30, 3) := by decide +kernel
theorem dX0_condemns_41 : decode cX0_condemns 41 = .ok (.iload 7, 2) := by decide +kernel
theorem dX0_condemns_43 : decode cX0_condemns 43 = .ok (.laload, 1) := by decide +kernel
theorem dX0_condemns_44 : decode cX0_condemns 44 = .ok (.ladd, 1) := by decide +kernel
theorem dX0_condemns_45 : decode cX0_condemns 45 = .ok (.lstore 5, 2) := by decide +kernel
theorem dX0_condemns_47 : decode cX0_condemns 47 = .ok (.iinc 7 (-1), 3) := by decide +kernel
theorem dX0_condemns_50 : decode cX0_condemns 50 = .ok (.goto (-34), 3) := by decide +kernel
theorem dX0_condemns_53 : decode cX0_condemns 53 = .ok (.aload_n 0, 1) := by decide +kernel
theorem dX0_condemns_54 : decode cX0_condemns 54 = .ok (.getfield 50, 3) := by decide +kernel
theorem dX0_condemns_57 : decode cX0_condemns 57 = .ok (.ifCond .eq 18, 3) := by decide +kernel
theorem dX0_condemns_60 : decode cX0_condemns 60 = .ok (.lload_n 3, 1) := by decide +kernel
theorem dX0_condemns_61 : decode cX0_condemns 61 = .ok (.lload 5, 2) := by decide +kernel
theorem dX0_condemns_63 : decode cX0_condemns 63 = .ok (.lcmp, 1) := by decide +kernel
theorem dX0_condemns_64 : decode cX0_condemns 64 = .ok (.ifCond .ge 7, 3) := by decide +kernel
theorem dX0_condemns_67 : decode cX0_condemns 67 = .ok (.iconst 1, 1) := by decide +kernel
theorem dX0_condemns_68 : decode cX0_condemns 68 = .ok (.goto 19, 3) := by decide +kernel
theorem dX0_condemns_71 : decode cX0_condemns 71 = .ok (.iconst 0, 1) := by decide +kernel
theorem dX0_condemns_72 : decode cX0_condemns 72 = .ok (.goto 15, 3) := by decide +kernel
theorem dX0_condemns_75 : decode cX0_condemns 75 = .ok (.lload_n 3, 1) := by decide +kernel
theorem dX0_condemns_76 : decode cX0_condemns 76 = .ok (.lload 5, 2) := by decide +kernel
theorem dX0_condemns_78 : decode cX0_condemns 78 = .ok (.lcmp, 1) := by decide +kernel
theorem dX0_condemns_79 : decode cX0_condemns 79 = .ok (.ifCond .le 7, 3) := by decide +kernel
theorem dX0_condemns_82 : decode cX0_condemns 82 = .ok (.iconst 1, 1) := by decide +kernel
theorem dX0_condemns_83 : decode cX0_condemns 83 = .ok (.goto 4, 3) := by decide +kernel
theorem dX0_condemns_86 : decode cX0_condemns 86 = .ok (.iconst 0, 1) := by decide +kernel
theorem dX0_condemns_87 : decode cX0_condemns 87 = .ok (.ireturn, 1) := by decide +kernel
theorem dX1_init_0 : decode cX1_init 0 = .ok (.aload_n 0, 1) := by decide +kernel
theorem dX1_init_1 : decode cX1_init 1 = .ok (.invokespecial 3, 3) := by decide +kernel
theorem dX1_init_4 : decode cX1_init 4 = .ok (.aload_n 0, 1) := by decide +kernel
theorem dX1_init_5 : decode cX1_init 5 = .ok (.iconst 4, 1) := by decide +kernel
theorem dX1_init_6 : decode cX1_init 6 = .ok (.newarray .int, 2) := by decide +kernel
theorem dX1_init_8 : decode cX1_init 8 = .ok (.putfield 9, 3) := by decide +kernel
theorem dX1_init_11 : decode cX1_init 11 = .ok (.aload_n 0, 1) := by decide +kernel
theorem dX1_init_12 : decode cX1_init 12 = .ok (.iconst 4, 1) := by decide +kernel
theorem dX1_init_13 : decode cX1_init 13 = .ok (.newarray .int, 2) := by decide +kernel
theorem dX1_init_15 : decode cX1_init 15 = .ok (.putfield 15, 3) := by decide +kernel
theorem dX1_init_18 : decode cX1_init 18 = .ok (.aload_n 0, 1) := by decide +kernel
theorem dX1_init_19 : decode cX1_init 19 = .ok (.iconst 4, 1) := by decide +kernel
theorem dX1_init_20 : decode cX1_init 20 = .ok (.newarray .int, 2) := by decide +kernel
theorem dX1_init_22 : decode cX1_init 22 = .ok (.putfield 18, 3) := by decide +kernel
theorem dX1_init_25 : decode cX1_init 25 = .ok (.aload_n 0, 1) := by decide +kernel
theorem dX1_init_26 : decode cX1_init 26 = .ok (.iconst 4, 1) := by decide +kernel
theorem dX1_init_27 : decode cX1_init 27 = .ok (.newarray .int, 2) := by decide +kernel
theorem dX1_init_29 : decode cX1_init 29 = .ok (.putfield 21, 3) := by decide +kernel
theorem dX1_init_32 : decode cX1_init 32 = .ok (.aload_n 0, 1) := by decide +kernel
theorem dX1_init_33 : decode cX1_init 33 = .ok (.bipush 16, 2) := by decide +kernel
theorem dX1_init_35 : decode cX1_init 35 = .ok (.newarray .int, 2) := by decide +kernel
theorem dX1_init_37 : decode cX1_init 37 = .ok (.putfield 24, 3) := by decide +kernel
theorem dX1_init_40 : decode cX1_init 40 = .ok (.aload_n 0, 1) := by decide +kernel
theorem dX1_init_41 : decode cX1_init 41 = .ok (.aload_n 1, 1) := by decide +kernel
theorem dX1_init_42 : decode cX1_init 42 = .ok (.putfield 27, 3) := by decide +kernel
theorem dX1_init_45 : decode cX1_init 45 = .ok (.aload_n 0, 1) := by decide +kernel
theorem dX1_init_46 : decode cX1_init 46 = .ok (.aload_n 2, 1) := by decide +kernel
theorem dX1_init_47 : decode cX1_init 47 = .ok (.putfield 31, 3) := by decide +kernel
theorem dX1_init_50 : decode cX1_init 50 = .ok (.aload_n 0, 1) := by decide +kernel
theorem dX1_init_51 : decode cX1_init 51 = .ok (.aload_n 3, 1) := by decide +kernel
theorem dX1_init_52 : decode cX1_init 52 = .ok (.putfield 35, 3) := by decide +kernel
theorem dX1_init_55 : decode cX1_init 55 = .ok (.aload_n 0, 1) := by decide +kernel
theorem dX1_init_56 : decode cX1_init 56 = .ok (.aload 4, 2) := by decide +kernel
theorem dX1_init_58 : decode cX1_init 58 = .ok (.putfield 39, 3) := by decide +kernel
theorem dX1_init_61 : decode cX1_init 61 = .ok (.return_, 1) := by decide +kernel
theorem dX1_reckon_0 : decode cX1_reckon 0 = .ok (.aload_n 0, 1) := by decide +kernel
theorem dX1_reckon_1 : decode cX1_reckon 1 = .ok (.getfield 35, 3) := by decide +kernel
theorem dX1_reckon_4 : decode cX1_reckon 4 = .ok (.aload_n 0, 1) := by decide +kernel
theorem dX1_reckon_5 : decode cX1_reckon 5 = .ok (.getfield 27, 3) := by decide +kernel
theorem dX1_reckon_8 : decode cX1_reckon 8 = .ok (.iload_n 3, 1) := by decide +kernel
theorem dX1_reckon_9 : decode cX1_reckon 9 = .ok (.invokevirtual 43, 3) := by decide +kernel
theorem dX1_reckon_12 : decode cX1_reckon 12 = .ok (.aload_n 1, 1) := by decide +kernel
theorem dX1_reckon_13 : decode cX1_reckon 13 = .ok (.getfield 49, 3) := by decide +kernel
theorem dX1_reckon_16 : decode cX1_reckon 16 = .ok (.istore 5, 2) := by decide +kernel
theorem dX1_reckon_18 : decode cX1_reckon 18 = .ok (.aload_n 0, 1) := by decide +kernel
theorem dX1_reckon_19 : decode cX1_reckon 19 = .ok (.getfield 27, 3) := by decide +kernel
theorem dX1_reckon_22 : decode cX1_reckon 22 = .ok (.iload 5, 2) := by decide +kernel
theorem dX1_reckon_24 : decode cX1_reckon 24 = .ok (.invokevirtual 55, 3) := by decide +kernel
theorem dX1_reckon_27 : decode cX1_reckon 27 = .ok (.ifCond .eq 28, 3) := by decide +kernel
theorem dX1_reckon_30 : decode cX1_reckon 30 = .ok (.aload_n 0, 1) := by decide +kernel
theorem dX1_reckon_31 : decode cX1_reckon 31 = .ok (.getfield 35, 3) := by decide +kernel
theorem dX1_reckon_34 : decode cX1_reckon 34 = .ok (.getfield 60, 3) := by decide +kernel
theorem dX1_reckon_37 : decode cX1_reckon 37 = .ok (.aload_n 0, 1) := by decide +kernel
theorem dX1_reckon_38 : decode cX1_reckon 38 = .ok (.getfield 35, 3) := by decide +kernel
theorem dX1_reckon_41 : decode cX1_reckon 41 = .ok (.getfield 63, 3) := by decide +kernel
theorem dX1_reckon_44 : decode cX1_reckon 44 = .ok (.iconst (-1), 1) := by decide +kernel
theorem dX1_reckon_45 : decode cX1_reckon 45 = .ok (.ixor, 1) := by decide +kernel
theorem dX1_reckon_46 : decode cX1_reckon 46 = .ok (.iand, 1) := by decide +kernel
theorem dX1_reckon_47 : decode cX1_reckon 47 = .ok (.iconst 1, 1) := by decide +kernel
theorem dX1_reckon_48 : decode cX1_reckon 48 = .ok (.iload 5, 2) := by decide +kernel
theorem dX1_reckon_50 : decode cX1_reckon 50 = .ok (.ishl, 1) := by decide +kernel
theorem dX1_reckon_51 : decode cX1_reckon 51 = .ok (.iand, 1) := by decide +kernel
theorem dX1_reckon_52 : decode cX1_reckon 52 = .ok (.ifCond .ne 5, 3) := by decide +kernel
theorem dX1_reckon_55 : decode cX1_reckon 55 = .ok (.iconst 0, 1) := by decide +kernel
theorem dX1_reckon_56 : decode cX1_reckon 56 = .ok (.ireturn, 1) := by decide +kernel
theorem dX1_reckon_57 : decode cX1_reckon 57 = .ok (.aload_n 0, 1) := by decide +kernel
theorem dX1_reckon_58 : decode cX1_reckon 58 = .ok (.aload_n 1, 1) := by decide +kernel
theorem dX1_reckon_59 : decode cX1_reckon 59 = .ok (.getfield 66, 3) := by decide +kernel
theorem dX1_reckon_62 : decode cX1_reckon 62 = .ok (.putfield 69, 3) := by decide +kernel
theorem dX1_reckon_65 : decode cX1_reckon 65 = .ok (.aload_n 0, 1) := by decide +kernel
theorem dX1_reckon_66 : decode cX1_reckon 66 = .ok (.iload 4, 2) := by decide +kernel
theorem dX1_reckon_68 : decode cX1_reckon 68 = .ok (.aload_n 0, 1) := by decide +kernel
theorem dX1_reckon_69 : decode cX1_reckon 69 = .ok (.getfield 27, 3) := by decide +kernel
theorem dX1_reckon_72 : decode cX1_reckon 72 = .ok (.getfield 70, 3) := by decide +kernel
theorem dX1_reckon_75 : decode cX1_reckon 75 = .ok (.iload 5, 2) := by decide +kernel
theorem dX1_reckon_77 : decode cX1_reckon 77 = .ok (.iaload, 1) := by decide +kernel
theorem dX1_reckon_78 : decode cX1_reckon 78 = .ok (.isub, 1) := by decide +kernel
theorem dX1_reckon_79 : decode cX1_reckon 79 = .ok (.putfield 73, 3) := by decide +kernel
theorem dX1_reckon_82 : decode cX1_reckon 82 = .ok (.aload_n 0, 1) := by decide +kernel
theorem dX1_reckon_83 : decode cX1_reckon 83 = .ok (.aload_n 0, 1) := by decide +kernel
theorem dX1_reckon_84 : decode cX1_reckon 84 = .ok (.getfield 31, 3) := by decide +kernel
theorem dX1_reckon_87 : decode cX1_reckon 87 = .ok (.aload_n 0, 1) := by decide +kernel
theorem dX1_reckon_88 : decode cX1_reckon 88 = .ok (.getfield 69, 3) := by decide +kernel
theorem dX1_reckon_91 : decode cX1_reckon 91 = .ok (.aload_n 0, 1) := by decide +kernel
theorem dX1_reckon_92 : decode cX1_reckon 92 = .ok (.getfield 73, 3) := by decide +kernel
theorem dX1_reckon_95 : decode cX1_reckon 95 = .ok (.invokevirtual 76, 3) := by decide +kernel
theorem dX1_reckon_98 : decode cX1_reckon 98 = .ok (.i2l, 1) := by decide +kernel
theorem dX1_reckon_99 : decode cX1_reckon 99 = .ok (.putfield 82, 3) := by decide +kernel
theorem dX1_reckon_102 : decode cX1_reckon 102 = .ok (.aload_n 0, 1) := by decide +kernel
theorem dX1_reckon_103 : decode cX1_reckon 103 = .ok (.getfield 82, 3) := by decide +kernel
theorem dX1_reckon_106 : decode cX1_reckon 106 = .ok (.lconst 0, 1) := by decide +kernel
theorem dX1_reckon_107 : decode cX1_reckon 107 = .ok (.lcmp, 1) := by decide +kernel
theorem dX1_reckon_108 : decode cX1_reckon 108 = .ok (.ifCond .le 30, 3) := by decide +kernel
theorem dX1_reckon_111 : decode cX1_reckon 111 = .ok (.aload_n 0, 1) := by decide +kernel
theorem dX1_reckon_112 : decode cX1_reckon 112 = .ok (.aload_n 0, 1) := by decide +kernel
theorem dX1_reckon_113 : decode cX1_reckon 113 = .ok (.getfield 35, 3) := by decide +kernel
theorem dX1_reckon_116 : decode cX1_reckon 116 = .ok (.aload_n 1, 1) := by decide +kernel
theorem dX1_reckon_117 : decode cX1_reckon 117 = .ok (.invokevirtual 86, 3) := by decide +kernel
theorem dX1_reckon_120 : decode cX1_reckon 120 = .ok (.aload_n 0, 1) := by decide +kernel
theorem dX1_reckon_121 : decode cX1_reckon 121 = .ok (.getfield 35, 3) := by decide +kernel
theorem dX1_reckon_124 : decode cX1_reckon 124 = .ok (.getfield 63, 3) := by decide +kernel
theorem dX1_reckon_127 : decode cX1_reckon 127 = .ok (.iconst (-1), 1) := by decide +kernel
theorem dX1_reckon_128 : decode cX1_reckon 128 = .ok (.ixor, 1) := by decide +kernel
theorem dX1_reckon_129 : decode cX1_reckon 129 = .ok (.iand, 1) := by decide +kernel
theorem dX1_reckon_130 : decode cX1_reckon 130 = .ok (.iload 4, 2) := by decide +kernel
theorem dX1_reckon_132 : decode cX1_reckon 132 = .ok (.invokevirtual 90, 3) := by decide +kernel
theorem dX1_reckon_135 : decode cX1_reckon 135 = .ok (.ifCond .ne 5, 3) := by decide +kernel
theorem dX1_reckon_138 : decode cX1_reckon 138 = .ok (.iconst 0, 1) := by decide +kernel
theorem dX1_reckon_139 : decode cX1_reckon 139 = .ok (.ireturn, 1) := by decide +kernel
theorem dX1_reckon_140 : decode cX1_reckon 140 = .ok (.iconst 0, 1) := by decide +kernel
theorem dX1_reckon_141 : decode cX1_reckon 141 = .ok (.istore 6, 2) := by decide +kernel
theorem dX1_reckon_143 : decode cX1_reckon 143 = .ok (.iload 6, 2) := by decide +kernel
theorem dX1_reckon_145 : decode cX1_reckon 145 = .ok (.iconst 1, 1) := by decide +kernel
theorem dX1_reckon_146 : decode cX1_reckon 146 = .ok (.aload_n 0, 1) := by decide +kernel
theorem dX1_reckon_147 : decode cX1_reckon 147 = .ok (.getfield 94, 3) := by decide +kernel
theorem dX1_reckon_150 : decode cX1_reckon 150 = .ok (.ishl, 1) := by decide +kernel
theorem dX1_reckon_151 : decode cX1_reckon 151 = .ok (.if_icmp .ge 52, 3) := by decide +kernel
theorem dX1_reckon_154 : decode cX1_reckon 154 = .ok (.iload 6, 2) := by decide +kernel
theorem dX1_reckon_156 : decode cX1_reckon 156 = .ok (.aload_n 0, 1) := by decide +kernel
theorem dX1_reckon_157 : decode cX1_reckon 157 = .ok (.getfield 24, 3) := by decide +kernel
theorem dX1_reckon_160 : decode cX1_reckon 160 = .ok (.arraylength, 1) := by decide +kernel
theorem dX1_reckon_161 : decode cX1_reckon 161 = .ok (.if_icmp .ge 42, 3) := by decide +kernel
theorem dX1_reckon_164 : decode cX1_reckon 164 = .ok (.aload_n 0, 1) := by decide +kernel
theorem dX1_reckon_165 : decode cX1_reckon 165 = .ok (.getfield 39, 3) := by decide +kernel
theorem dX1_reckon_168 : decode cX1_reckon 168 = .ok (.aload_n 1, 1) := by decide +kernel
theorem dX1_reckon_169 : decode cX1_reckon 169 = .ok (.aload_n 0, 1) := by decide +kernel
theorem dX1_reckon_170 : decode cX1_reckon 170 = .ok (.getfield 35, 3) := by decide +kernel
theorem dX1_reckon_173 : decode cX1_reckon 173 = .ok (.aload_n 0, 1) := by decide +kernel
theorem dX1_reckon_174 : decode cX1_reckon 174 = .ok (.iload 6, 2) := by decide +kernel
theorem dX1_reckon_176 : decode cX1_reckon 176 = .ok (.invokevirtual 97, 3) := by decide +kernel
theorem dX1_reckon_179 : decode cX1_reckon 179 = .ok (.invokevirtual 101, 3) := by decide +kernel
theorem dX1_reckon_182 : decode cX1_reckon 182 = .ok (.aload_n 0, 1) := by decide +kernel
theorem dX1_reckon_183 : decode cX1_reckon 183 = .ok (.getfield 24, 3) := by decide +kernel
theorem dX1_reckon_186 : decode cX1_reckon 186 = .ok (.iload 6, 2) := by decide +kernel
theorem dX1_reckon_188 : decode cX1_reckon 188 = .ok (.aload_n 0, 1) := by decide +kernel
theorem dX1_reckon_189 : decode cX1_reckon 189 = .ok (.getfield 39, 3) := by decide +kernel
theorem dX1_reckon_192 : decode cX1_reckon 192 = .ok (.iload_n 2, 1) := by decide +kernel
theorem dX1_reckon_193 : decode cX1_reckon 193 = .ok (.invokevirtual 107, 3) := by decide +kernel
theorem dX1_reckon_196 : decode cX1_reckon 196 = .ok (.iastore, 1) := by decide +kernel
theorem dX1_reckon_197 : decode cX1_reckon 197 = .ok (.iinc 6 1, 3) := by decide +kernel
theorem dX1_reckon_200 : decode cX1_reckon 200 = .ok (.goto (-57), 3) := by decide +kernel
theorem dX1_reckon_203 : decode cX1_reckon 203 = .ok (.iconst 1, 1) := by decide +kernel
theorem dX1_reckon_204 : decode cX1_reckon 204 = .ok (.ireturn, 1) := by decide +kernel
theorem dX1_listLiving_0 : decode cX1_listLiving 0 = .ok (.aload_n 0, 1) := by decide +kernel
theorem dX1_listLiving_1 : decode cX1_listLiving 1 = .ok (.iconst 0, 1) := by decide +kernel
theorem dX1_listLiving_2 : decode cX1_listLiving 2 = .ok (.putfield 94, 3) := by decide +kernel
theorem dX1_listLiving_5 : decode cX1_listLiving 5 = .ok (.iconst 0, 1) := by decide +kernel
theorem dX1_listLiving_6 : decode cX1_listLiving 6 = .ok (.istore_n 3, 1) := by decide +kernel
theorem dX1_listLiving_7 : decode cX1_listLiving 7 = .ok (.iload_n 3, 1) := by decide +kernel
theorem dX1_listLiving_8 : decode cX1_listLiving 8 = .ok (.aload_n 0, 1) := by decide +kernel
theorem dX1_listLiving_9 : decode cX1_listLiving 9 = .ok (.getfield 27, 3) := by decide +kernel
theorem dX1_listLiving_12 : decode cX1_listLiving 12 = .ok (.getfield 110, 3) := by decide +kernel
theorem dX1_listLiving_15 : decode cX1_listLiving 15 = .ok (.if_icmp .ge 128, 3) := by decide +kernel
theorem dX1_listLiving_18 : decode cX1_listLiving 18 = .ok (.iload_n 3, 1) := by decide +kernel
theorem dX1_listLiving_19 : decode cX1_listLiving 19 = .ok (.bipush 16, 2) := by decide +kernel
theorem dX1_listLiving_21 : decode cX1_listLiving 21 = .ok (.if_icmp .ge 122, 3) := by decide +kernel
theorem dX1_listLiving_24 : decode cX1_listLiving 24 = .ok (.iload_n 1, 1) := by decide +kernel
theorem dX1_listLiving_25 : decode cX1_listLiving 25 = .ok (.iload_n 3, 1) := by decide +kernel
theorem dX1_listLiving_26 : decode cX1_listLiving 26 = .ok (.iushr, 1) := by decide +kernel
theorem dX1_listLiving_27 : decode cX1_listLiving 27 = .ok (.iconst 1, 1) := by decide +kernel
theorem dX1_listLiving_28 : decode cX1_listLiving 28 = .ok (.iand, 1) := by decide +kernel
theorem dX1_listLiving_29 : decode cX1_listLiving 29 = .ok (.ifCond .ne 6, 3) := by decide +kernel
theorem dX1_listLiving_32 : decode cX1_listLiving 32 = .ok (.goto 105, 3) := by decide +kernel
theorem dX1_listLiving_35 : decode cX1_listLiving 35 = .ok (.aload_n 0, 1) := by decide +kernel
theorem dX1_listLiving_36 : decode cX1_listLiving 36 = .ok (.getfield 31, 3) := by decide +kernel
theorem dX1_listLiving_39 : decode cX1_listLiving 39 = .ok (.aload_n 0, 1) := by decide +kernel
theorem dX1_listLiving_40 : decode cX1_listLiving 40 = .ok (.getfield 69, 3) := by decide +kernel
theorem dX1_listLiving_43 : decode cX1_listLiving 43 = .ok (.iload_n 2, 1) := by decide +kernel
theorem dX1_listLiving_44 : decode cX1_listLiving 44 = .ok (.aload_n 0, 1) := by decide +kernel
theorem dX1_listLiving_45 : decode cX1_listLiving 45 = .ok (.getfield 27, 3) := by decide +kernel
theorem dX1_listLiving_48 : decode cX1_listLiving 48 = .ok (.getfield 70, 3) := by decide +kernel
theorem dX1_listLiving_51 : decode cX1_listLiving 51 = .ok (.iload_n 3, 1) := by decide +kernel
theorem dX1_listLiving_52 : decode cX1_listLiving 52 = .ok (.iaload, 1) := by decide +kernel
theorem dX1_listLiving_53 : decode cX1_listLiving 53 = .ok (.isub, 1) := by decide +kernel
theorem dX1_listLiving_54 : decode cX1_listLiving 54 = .ok (.invokevirtual 76, 3) := by decide +kernel
theorem dX1_listLiving_57 : decode cX1_listLiving 57 = .ok (.istore 4, 2) := by decide +kernel
theorem dX1_listLiving_59 : decode cX1_listLiving 59 = .ok (.aload_n 0, 1) := by decide +kernel
theorem dX1_listLiving_60 : decode cX1_listLiving 60 = .ok (.getfield 94, 3) := by decide +kernel
theorem dX1_listLiving_63 : decode cX1_listLiving 63 = .ok (.iconst 4, 1) := by decide +kernel
theorem dX1_listLiving_64 : decode cX1_listLiving 64 = .ok (.if_icmp .ge 8, 3) := by decide +kernel
theorem dX1_listLiving_67 : decode cX1_listLiving 67 = .ok (.iload 4, 2) := by decide +kernel
theorem dX1_listLiving_69 : decode cX1_listLiving 69 = .ok (.ifCond .gt 5, 3) := by decide +kernel
theorem dX1_listLiving_72 : decode cX1_listLiving 72 = .ok (.iconst 0, 1) := by decide +kernel
theorem dX1_listLiving_73 : decode cX1_listLiving 73 = .ok (.ireturn, 1) := by decide +kernel
theorem dX1_listLiving_74 : decode cX1_listLiving 74 = .ok (.aload_n 0, 1) := by decide +kernel
theorem dX1_listLiving_75 : decode cX1_listLiving 75 = .ok (.getfield 18, 3) := by decide +kernel
theorem dX1_listLiving_78 : decode cX1_listLiving 78 = .ok (.aload_n 0, 1) := by decide +kernel
theorem dX1_listLiving_79 : decode cX1_listLiving 79 = .ok (.getfield 94, 3) := by decide +kernel
theorem dX1_listLiving_82 : decode cX1_listLiving 82 = .ok (.iload_n 3, 1) := by decide +kernel
theorem dX1_listLiving_83 : decode cX1_listLiving 83 = .ok (.iastore, 1) := by decide +kernel
theorem dX1_listLiving_84 : decode cX1_listLiving 84 = .ok (.aload_n 0, 1) := by decide +kernel
theorem dX1_listLiving_85 : decode cX1_listLiving 85 = .ok (.getfield 9, 3) := by decide +kernel
theorem dX1_listLiving_88 : decode cX1_listLiving 88 = .ok (.aload_n 0, 1) := by decide +kernel
theorem dX1_listLiving_89 : decode cX1_listLiving 89 = .ok (.getfield 94, 3) := by decide +kernel
theorem dX1_listLiving_92 : decode cX1_listLiving 92 = .ok (.iload_n 2, 1) := by decide +kernel
theorem dX1_listLiving_93 : decode cX1_listLiving 93 = .ok (.aload_n 0, 1) := by decide +kernel
theorem dX1_listLiving_94 : decode cX1_listLiving 94 = .ok (.getfield 27, 3) := by decide +kernel
theorem dX1_listLiving_97 : decode cX1_listLiving 97 = .ok (.getfield 70, 3) := by decide +kernel
theorem dX1_listLiving_100 : decode cX1_listLiving 100 = .ok (.iload_n 3, 1) := by decide +kernel
theorem dX1_listLiving_101 : decode cX1_listLiving 101 = .ok (.iaload, 1) := by decide +kernel
theorem dX1_listLiving_102 : decode cX1_listLiving 102 = .ok (.isub, 1) := by decide +kernel
theorem dX1_listLiving_103 : decode cX1_listLiving 103 = .ok (.iastore, 1) := by decide +kernel
theorem dX1_listLiving_104 : decode cX1_listLiving 104 = .ok (.aload_n 0, 1) := by decide +kernel
theorem dX1_listLiving_105 : decode cX1_listLiving 105 = .ok (.getfield 15, 3) := by decide +kernel
theorem dX1_listLiving_108 : decode cX1_listLiving 108 = .ok (.aload_n 0, 1) := by decide +kernel
theorem dX1_listLiving_109 : decode cX1_listLiving 109 = .ok (.getfield 94, 3) := by decide +kernel
theorem dX1_listLiving_112 : decode cX1_listLiving 112 = .ok (.iload 4, 2) := by decide +kernel
theorem dX1_listLiving_114 : decode cX1_listLiving 114 = .ok (.iastore, 1) := by decide +kernel
theorem dX1_listLiving_115 : decode cX1_listLiving 115 = .ok (.aload_n 0, 1) := by decide +kernel
theorem dX1_listLiving_116 : decode cX1_listLiving 116 = .ok (.dup, 1) := by decide +kernel
theorem dX1_listLiving_117 : decode cX1_listLiving 117 = .ok (.getfield 82, 3) := by decide +kernel
theorem dX1_listLiving_120 : decode cX1_listLiving 120 = .ok (.iload 4, 2) := by decide +kernel
theorem dX1_listLiving_122 : decode cX1_listLiving 122 = .ok (.i2l, 1) := by decide +kernel
theorem dX1_listLiving_123 : decode cX1_listLiving 123 = .ok (.lmul, 1) := by decide +kernel
theorem dX1_listLiving_124 : decode cX1_listLiving 124 = .ok (.putfield 82, 3) := by decide +kernel
theorem dX1_listLiving_127 : decode cX1_listLiving 127 = .ok (.aload_n 0, 1) := by decide +kernel
theorem dX1_listLiving_128 : decode cX1_listLiving 128 = .ok (.dup, 1) := by decide +kernel
theorem dX1_listLiving_129 : decode cX1_listLiving 129 = .ok (.getfield 94, 3) := by decide +kernel
theorem dX1_listLiving_132 : decode cX1_listLiving 132 = .ok (.iconst 1, 1) := by decide +kernel
theorem dX1_listLiving_133 : decode cX1_listLiving 133 = .ok (.iadd, 1) := by decide +kernel
theorem dX1_listLiving_134 : decode cX1_listLiving 134 = .ok (.putfield 94, 3) := by decide +kernel
theorem dX1_listLiving_137 : decode cX1_listLiving 137 = .ok (.iinc 3 1, 3) := by decide +kernel
theorem dX1_listLiving_140 : decode cX1_listLiving 140 = .ok (.goto (-133), 3) := by decide +kernel
theorem dX1_listLiving_143 : decode cX1_listLiving 143 = .ok (.iconst 1, 1) := by decide +kernel
theorem dX1_listLiving_144 : decode cX1_listLiving 144 = .ok (.ireturn, 1) := by decide +kernel
theorem dX1_personsOf_0 : decode cX1_personsOf 0 = .ok (.iconst 0, 1) := by decide +kernel
theorem dX1_personsOf_1 : decode cX1_personsOf 1 = .ok (.istore_n 2, 1) := by decide +kernel
theorem dX1_personsOf_2 : decode cX1_personsOf 2 = .ok (.iconst 0, 1) := by decide +kernel
theorem dX1_personsOf_3 : decode cX1_personsOf 3 = .ok (.istore_n 3, 1) := by decide +kernel
theorem dX1_personsOf_4 : decode cX1_personsOf 4 = .ok (.iload_n 3, 1) := by decide +kernel
theorem dX1_personsOf_5 : decode cX1_personsOf 5 = .ok (.aload_n 0, 1) := by decide +kernel
theorem dX1_personsOf_6 : decode cX1_personsOf 6 = .ok (.getfield 94, 3) := by decide +kernel
theorem dX1_personsOf_9 : decode cX1_personsOf 9 = .ok (.if_icmp .ge 34, 3) := by decide +kernel
theorem dX1_personsOf_12 : decode cX1_personsOf 12 = .ok (.iload_n 3, 1) := by decide +kernel
theorem dX1_personsOf_13 : decode cX1_personsOf 13 = .ok (.iconst 4, 1) := by decide +kernel
theorem dX1_personsOf_14 : decode cX1_personsOf 14 = .ok (.if_icmp .ge 29, 3) := by decide +kernel
theorem dX1_personsOf_17 : decode cX1_personsOf 17 = .ok (.iload_n 1, 1) := by decide +kernel
theorem dX1_personsOf_18 : decode cX1_personsOf 18 = .ok (.iload_n 3, 1) := by decide +kernel
theorem dX1_personsOf_19 : decode cX1_personsOf 19 = .ok (.iushr, 1) := by decide +kernel
theorem dX1_personsOf_20 : decode cX1_personsOf 20 = .ok (.iconst 1, 1) := by decide +kernel
theorem dX1_personsOf_21 : decode cX1_personsOf 21 = .ok (.iand, 1) := by decide +kernel
theorem dX1_personsOf_22 : decode cX1_personsOf 22 = .ok (.iconst 1, 1) := by decide +kernel
theorem dX1_personsOf_23 : decode cX1_personsOf 23 = .ok (.if_icmp .ne 14, 3) := by decide +kernel
theorem dX1_personsOf_26 : decode cX1_personsOf 26 = .ok (.iload_n 2, 1) := by decide +kernel
theorem dX1_personsOf_27 : decode cX1_personsOf 27 = .ok (.iconst 1, 1) := by decide +kernel
theorem dX1_personsOf_28 : decode cX1_personsOf 28 = .ok (.aload_n 0, 1) := by decide +kernel
theorem dX1_personsOf_29 : decode cX1_personsOf 29 = .ok (.getfield 18, 3) := by decide +kernel
theorem dX1_personsOf_32 : decode cX1_personsOf 32 = .ok (.iload_n 3, 1) := by decide +kernel
theorem dX1_personsOf_33 : decode cX1_personsOf 33 = .ok (.iaload, 1) := by decide +kernel
theorem dX1_personsOf_34 : decode cX1_personsOf 34 = .ok (.ishl, 1) := by decide +kernel
theorem dX1_personsOf_35 : decode cX1_personsOf 35 = .ok (.ior, 1) := by decide +kernel
theorem dX1_personsOf_36 : decode cX1_personsOf 36 = .ok (.istore_n 2, 1) := by decide +kernel
theorem dX1_personsOf_37 : decode cX1_personsOf 37 = .ok (.iinc 3 1, 3) := by decide +kernel
theorem dX1_personsOf_40 : decode cX1_personsOf 40 = .ok (.goto (-36), 3) := by decide +kernel
theorem dX1_personsOf_43 : decode cX1_personsOf 43 = .ok (.iload_n 2, 1) := by decide +kernel
theorem dX1_personsOf_44 : decode cX1_personsOf 44 = .ok (.ireturn, 1) := by decide +kernel
theorem dX1_enterYear_0 : decode cX1_enterYear 0 = .ok (.iconst 0, 1) := by decide +kernel
theorem dX1_enterYear_1 : decode cX1_enterYear 1 = .ok (.istore_n 2, 1) := by decide +kernel
theorem dX1_enterYear_2 : decode cX1_enterYear 2 = .ok (.iload_n 2, 1) := by decide +kernel
theorem dX1_enterYear_3 : decode cX1_enterYear 3 = .ok (.aload_n 0, 1) := by decide +kernel
theorem dX1_enterYear_4 : decode cX1_enterYear 4 = .ok (.getfield 94, 3) := by decide +kernel
theorem dX1_enterYear_7 : decode cX1_enterYear 7 = .ok (.if_icmp .ge 41, 3) := by decide +kernel
theorem dX1_enterYear_10 : decode cX1_enterYear 10 = .ok (.iload_n 2, 1) := by decide +kernel
theorem dX1_enterYear_11 : decode cX1_enterYear 11 = .ok (.iconst 4, 1) := by decide +kernel
theorem dX1_enterYear_12 : decode cX1_enterYear 12 = .ok (.if_icmp .ge 36, 3) := by decide +kernel
theorem dX1_enterYear_15 : decode cX1_enterYear 15 = .ok (.aload_n 0, 1) := by decide +kernel
theorem dX1_enterYear_16 : decode cX1_enterYear 16 = .ok (.getfield 21, 3) := by decide +kernel
theorem dX1_enterYear_19 : decode cX1_enterYear 19 = .ok (.iload_n 2, 1) := by decide +kernel
theorem dX1_enterYear_20 : decode cX1_enterYear 20 = .ok (.aload_n 0, 1) := by decide +kernel
theorem dX1_enterYear_21 : decode cX1_enterYear 21 = .ok (.getfield 31, 3) := by decide +kernel
theorem dX1_enterYear_24 : decode cX1_enterYear 24 = .ok (.aload_n 0, 1) := by decide +kernel
theorem dX1_enterYear_25 : decode cX1_enterYear 25 = .ok (.getfield 69, 3) := by decide +kernel
theorem dX1_enterYear_28 : decode cX1_enterYear 28 = .ok (.aload_n 0, 1) := by decide +kernel
theorem dX1_enterYear_29 : decode cX1_enterYear 29 = .ok (.getfield 9, 3) := by decide +kernel
theorem dX1_enterYear_32 : decode cX1_enterYear 32 = .ok (.iload_n 2, 1) := by decide +kernel
theorem dX1_enterYear_33 : decode cX1_enterYear 33 = .ok (.iaload, 1) := by decide +kernel
theorem dX1_enterYear_34 : decode cX1_enterYear 34 = .ok (.iload_n 1, 1) := by decide +kernel
theorem dX1_enterYear_35 : decode cX1_enterYear 35 = .ok (.iadd, 1) := by decide +kernel
theorem dX1_enterYear_36 : decode cX1_enterYear 36 = .ok (.iconst 1, 1) := by decide +kernel
theorem dX1_enterYear_37 : decode cX1_enterYear 37 = .ok (.iadd, 1) := by decide +kernel
theorem dX1_enterYear_38 : decode cX1_enterYear 38 = .ok (.invokevirtual 76, 3) := by decide +kernel
theorem dX1_enterYear_41 : decode cX1_enterYear 41 = .ok (.iastore, 1) := by decide +kernel
theorem dX1_enterYear_42 : decode cX1_enterYear 42 = .ok (.iinc 2 1, 3) := by decide +kernel
theorem dX1_enterYear_45 : decode cX1_enterYear 45 = .ok (.goto (-43), 3) := by decide +kernel
theorem dX1_enterYear_48 : decode cX1_enterYear 48 = .ok (.aload_n 0, 1) := by decide +kernel
theorem dX1_enterYear_49 : decode cX1_enterYear 49 = .ok (.getfield 31, 3) := by decide +kernel
theorem dX1_enterYear_52 : decode cX1_enterYear 52 = .ok (.aload_n 0, 1) := by decide +kernel
theorem dX1_enterYear_53 : decode cX1_enterYear 53 = .ok (.getfield 69, 3) := by decide +kernel
theorem dX1_enterYear_56 : decode cX1_enterYear 56 = .ok (.aload_n 0, 1) := by decide +kernel
theorem dX1_enterYear_57 : decode cX1_enterYear 57 = .ok (.getfield 73, 3) := by decide +kernel
theorem dX1_enterYear_60 : decode cX1_enterYear 60 = .ok (.iload_n 1, 1) := by decide +kernel
theorem dX1_enterYear_61 : decode cX1_enterYear 61 = .ok (.iadd, 1) := by decide +kernel
theorem dX1_enterYear_62 : decode cX1_enterYear 62 = .ok (.invokevirtual 76, 3) := by decide +kernel
theorem dX1_enterYear_65 : decode cX1_enterYear 65 = .ok (.aload_n 0, 1) := by decide +kernel
theorem dX1_enterYear_66 : decode cX1_enterYear 66 = .ok (.getfield 31, 3) := by decide +kernel
theorem dX1_enterYear_69 : decode cX1_enterYear 69 = .ok (.aload_n 0, 1) := by decide +kernel
theorem dX1_enterYear_70 : decode cX1_enterYear 70 = .ok (.getfield 69, 3) := by decide +kernel
theorem dX1_enterYear_73 : decode cX1_enterYear 73 = .ok (.aload_n 0, 1) := by decide +kernel
theorem dX1_enterYear_74 : decode cX1_enterYear 74 = .ok (.getfield 73, 3) := by decide +kernel
theorem dX1_enterYear_77 : decode cX1_enterYear 77 = .ok (.iload_n 1, 1) := by decide +kernel
theorem dX1_enterYear_78 : decode cX1_enterYear 78 = .ok (.iadd, 1) := by decide +kernel
theorem dX1_enterYear_79 : decode cX1_enterYear 79 = .ok (.iconst 1, 1) := by decide +kernel
theorem dX1_enterYear_80 : decode cX1_enterYear 80 = .ok (.iadd, 1) := by decide +kernel
theorem dX1_enterYear_81 : decode cX1_enterYear 81 = .ok (.invokevirtual 76, 3) := by decide +kernel
theorem dX1_enterYear_84 : decode cX1_enterYear 84 = .ok (.isub, 1) := by decide +kernel
theorem dX1_enterYear_85 : decode cX1_enterYear 85 = .ok (.i2l, 1) := by decide +kernel
theorem dX1_enterYear_86 : decode cX1_enterYear 86 = .ok (.lreturn, 1) := by decide +kernel
theorem dX1_weightOf_0 : decode cX1_weightOf 0 = .ok (.lload_n 2, 1) := by decide +kernel
theorem dX1_weightOf_1 : decode cX1_weightOf 1 = .ok (.lstore 4, 2) := by decide +kernel
theorem dX1_weightOf_3 : decode cX1_weightOf 3 = .ok (.iconst 0, 1) := by decide +kernel
theorem dX1_weightOf_4 : decode cX1_weightOf 4 = .ok (.istore 6, 2) := by decide +kernel
theorem dX1_weightOf_6 : decode cX1_weightOf 6 = .ok (.iload 6, 2) := by decide +kernel
theorem dX1_weightOf_8 : decode cX1_weightOf 8 = .ok (.aload_n 0, 1) := by decide +kernel
theorem dX1_weightOf_9 : decode cX1_weightOf 9 = .ok (.getfield 94, 3) := by decide +kernel
theorem dX1_weightOf_12 : decode cX1_weightOf 12 = .ok (.if_icmp .ge 57, 3) := by decide +kernel
theorem dX1_weightOf_15 : decode cX1_weightOf 15 = .ok (.iload 6, 2) := by decide +kernel
theorem dX1_weightOf_17 : decode cX1_weightOf 17 = .ok (.iconst 4, 1) := by decide +kernel
theorem dX1_weightOf_18 : decode cX1_weightOf 18 = .ok (.if_icmp .ge 51, 3) := by decide +kernel
theorem dX1_weightOf_21 : decode cX1_weightOf 21 = .ok (.lload 4, 2) := by decide +kernel
theorem dX1_weightOf_23 : decode cX1_weightOf 23 = .ok (.iload_n 1, 1) := by decide +kernel
theorem dX1_weightOf_24 : decode cX1_weightOf 24 = .ok (.iload 6, 2) := by decide +kernel
theorem dX1_weightOf_26 : decode cX1_weightOf 26 = .ok (.iushr, 1) := by decide +kernel
theorem dX1_weightOf_27 : decode cX1_weightOf 27 = .ok (.iconst 1, 1) := by decide +kernel
theorem dX1_weightOf_28 : decode cX1_weightOf 28 = .ok (.iand, 1) := by decide +kernel
theorem dX1_weightOf_29 : decode cX1_weightOf 29 = .ok (.iconst 1, 1) := by decide +kernel
theorem dX1_weightOf_30 : decode cX1_weightOf 30 = .ok (.if_icmp .ne 14, 3) := by decide +kernel
theorem dX1_weightOf_33 : decode cX1_weightOf 33 = .ok (.aload_n 0, 1) := by decide +kernel
theorem dX1_weightOf_34 : decode cX1_weightOf 34 = .ok (.getfield 21, 3) := by decide +kernel
theorem dX1_weightOf_37 : decode cX1_weightOf 37 = .ok (.iload 6, 2) := by decide +kernel
theorem dX1_weightOf_39 : decode cX1_weightOf 39 = .ok (.iaload, 1) := by decide +kernel
theorem dX1_weightOf_40 : decode cX1_weightOf 40 = .ok (.i2l, 1) := by decide +kernel
theorem dX1_weightOf_41 : decode cX1_weightOf 41 = .ok (.goto 19, 3) := by decide +kernel
theorem dX1_weightOf_44 : decode cX1_weightOf 44 = .ok (.aload_n 0, 1) := by decide +kernel
theorem dX1_weightOf_45 : decode cX1_weightOf 45 = .ok (.getfield 15, 3) := by decide +kernel
theorem dX1_weightOf_48 : decode cX1_weightOf 48 = .ok (.iload 6, 2) := by decide +kernel
theorem dX1_weightOf_50 : decode cX1_weightOf 50 = .ok (.iaload, 1) := by decide +kernel
theorem dX1_weightOf_51 : decode cX1_weightOf 51 = .ok (.aload_n 0, 1) := by decide +kernel
theorem dX1_weightOf_52 : decode cX1_weightOf 52 = .ok (.getfield 21, 3) := by decide +kernel
theorem dX1_weightOf_55 : decode cX1_weightOf 55 = .ok (.iload 6, 2) := by decide +kernel
theorem dX1_weightOf_57 : decode cX1_weightOf 57 = .ok (.iaload, 1) := by decide +kernel
theorem dX1_weightOf_58 : decode cX1_weightOf 58 = .ok (.isub, 1) := by decide +kernel
theorem dX1_weightOf_59 : decode cX1_weightOf 59 = .ok (.i2l, 1) := by decide +kernel
theorem dX1_weightOf_60 : decode cX1_weightOf 60 = .ok (.lmul, 1) := by decide +kernel
theorem dX1_weightOf_61 : decode cX1_weightOf 61 = .ok (.lstore 4, 2) := by decide +kernel
theorem dX1_weightOf_63 : decode cX1_weightOf 63 = .ok (.iinc 6 1, 3) := by decide +kernel
theorem dX1_weightOf_66 : decode cX1_weightOf 66 = .ok (.goto (-60), 3) := by decide +kernel
theorem dX1_weightOf_69 : decode cX1_weightOf 69 = .ok (.lload 4, 2) := by decide +kernel
theorem dX1_weightOf_71 : decode cX1_weightOf 71 = .ok (.lreturn, 1) := by decide +kernel
theorem dX1_hopeful_0 : decode cX1_hopeful 0 = .ok (.lconst 0, 1) := by decide +kernel
theorem dX1_hopeful_1 : decode cX1_hopeful 1 = .ok (.lstore_n 1, 1) := by decide +kernel
theorem dX1_hopeful_2 : decode cX1_hopeful 2 = .ok (.iconst 0, 1) := by decide +kernel
theorem dX1_hopeful_3 : decode cX1_hopeful 3 = .ok (.istore_n 3, 1) := by decide +kernel
theorem dX1_hopeful_4 : decode cX1_hopeful 4 = .ok (.iload_n 3, 1) := by decide +kernel
theorem dX1_hopeful_5 : decode cX1_hopeful 5 = .ok (.bipush 110, 2) := by decide +kernel
theorem dX1_hopeful_7 : decode cX1_hopeful 7 = .ok (.if_icmp .ge 71, 3) := by decide +kernel
theorem dX1_hopeful_10 : decode cX1_hopeful 10 = .ok (.aload_n 0, 1) := by decide +kernel
theorem dX1_hopeful_11 : decode cX1_hopeful 11 = .ok (.iload_n 3, 1) := by decide +kernel
theorem dX1_hopeful_12 : decode cX1_hopeful 12 = .ok (.invokevirtual 113, 3) := by decide +kernel
theorem dX1_hopeful_15 : decode cX1_hopeful 15 = .ok (.lstore 4, 2) := by decide +kernel
theorem dX1_hopeful_17 : decode cX1_hopeful 17 = .ok (.iconst 0, 1) := by decide +kernel
theorem dX1_hopeful_18 : decode cX1_hopeful 18 = .ok (.istore 6, 2) := by decide +kernel
theorem dX1_hopeful_20 : decode cX1_hopeful 20 = .ok (.iload 6, 2) := by decide +kernel
theorem dX1_hopeful_22 : decode cX1_hopeful 22 = .ok (.iconst 1, 1) := by decide +kernel
theorem dX1_hopeful_23 : decode cX1_hopeful 23 = .ok (.aload_n 0, 1) := by decide +kernel
theorem dX1_hopeful_24 : decode cX1_hopeful 24 = .ok (.getfield 94, 3) := by decide +kernel
theorem dX1_hopeful_27 : decode cX1_hopeful 27 = .ok (.ishl, 1) := by decide +kernel
theorem dX1_hopeful_28 : decode cX1_hopeful 28 = .ok (.if_icmp .ge 44, 3) := by decide +kernel
theorem dX1_hopeful_31 : decode cX1_hopeful 31 = .ok (.iload 6, 2) := by decide +kernel
theorem dX1_hopeful_33 : decode cX1_hopeful 33 = .ok (.aload_n 0, 1) := by decide +kernel
theorem dX1_hopeful_34 : decode cX1_hopeful 34 = .ok (.getfield 24, 3) := by decide +kernel
theorem dX1_hopeful_37 : decode cX1_hopeful 37 = .ok (.arraylength, 1) := by decide +kernel
theorem dX1_hopeful_38 : decode cX1_hopeful 38 = .ok (.if_icmp .ge 34, 3) := by decide +kernel
theorem dX1_hopeful_41 : decode cX1_hopeful 41 = .ok (.lload_n 1, 1) := by decide +kernel
theorem dX1_hopeful_42 : decode cX1_hopeful 42 = .ok (.aload_n 0, 1) := by decide +kernel
theorem dX1_hopeful_43 : decode cX1_hopeful 43 = .ok (.getfield 24, 3) := by decide +kernel
theorem dX1_hopeful_46 : decode cX1_hopeful 46 = .ok (.iload 6, 2) := by decide +kernel
theorem dX1_hopeful_48 : decode cX1_hopeful 48 = .ok (.iaload, 1) := by decide +kernel
theorem dX1_hopeful_49 : decode cX1_hopeful 49 = .ok (.ifCond .le 14, 3) := by decide +kernel
theorem dX1_hopeful_52 : decode cX1_hopeful 52 = .ok (.aload_n 0, 1) := by decide +kernel
theorem dX1_hopeful_53 : decode cX1_hopeful 53 = .ok (.iload 6, 2) := by decide +kernel
theorem dX1_hopeful_55 : decode cX1_hopeful 55 = .ok (.lload 4, 2) := by decide +kernel
theorem dX1_hopeful_57 : decode cX1_hopeful 57 = .ok (.invokevirtual 117, 3) := by decide +kernel
theorem dX1_hopeful_60 : decode cX1_hopeful 60 = .ok (.goto 4, 3) := by decide +kernel
theorem dX1_hopeful_63 : decode cX1_hopeful 63 = .ok (.lconst 0, 1) := by decide +kernel
theorem dX1_hopeful_64 : decode cX1_hopeful 64 = .ok (.ladd, 1) := by decide +kernel
theorem dX1_hopeful_65 : decode cX1_hopeful 65 = .ok (.lstore_n 1, 1) := by decide +kernel
theorem dX1_hopeful_66 : decode cX1_hopeful 66 = .ok (.iinc 6 1, 3) := by decide +kernel
theorem dX1_hopeful_69 : decode cX1_hopeful 69 = .ok (.goto (-49), 3) := by decide +kernel
theorem dX1_hopeful_72 : decode cX1_hopeful 72 = .ok (.iinc 3 1, 3) := by decide +kernel
theorem dX1_hopeful_75 : decode cX1_hopeful 75 = .ok (.goto (-71), 3) := by decide +kernel
theorem dX1_hopeful_78 : decode cX1_hopeful 78 = .ok (.lload_n 1, 1) := by decide +kernel
theorem dX1_hopeful_79 : decode cX1_hopeful 79 = .ok (.lreturn, 1) := by decide +kernel
theorem dX1_worthNow_0 : decode cX1_worthNow 0 = .ok (.aload_n 0, 1) := by decide +kernel
theorem dX1_worthNow_1 : decode cX1_worthNow 1 = .ok (.getfield 82, 3) := by decide +kernel
theorem dX1_worthNow_4 : decode cX1_worthNow 4 = .ok (.lconst 0, 1) := by decide +kernel
theorem dX1_worthNow_5 : decode cX1_worthNow 5 = .ok (.lcmp, 1) := by decide +kernel
theorem dX1_worthNow_6 : decode cX1_worthNow 6 = .ok (.ifCond .gt 7, 3) := by decide +kernel
theorem dX1_worthNow_9 : decode cX1_worthNow 9 = .ok (.ldc2_w 121, 3) := by decide +kernel
theorem dX1_worthNow_12 : decode cX1_worthNow 12 = .ok (.lreturn, 1) := by decide +kernel
theorem dX1_worthNow_13 : decode cX1_worthNow 13 = .ok (.lconst 0, 1) := by decide +kernel
theorem dX1_worthNow_14 : decode cX1_worthNow 14 = .ok (.lstore_n 1, 1) := by decide +kernel
theorem dX1_worthNow_15 : decode cX1_worthNow 15 = .ok (.ldc2_w 123, 3) := by decide +kernel
theorem dX1_worthNow_18 : decode cX1_worthNow 18 = .ok (.lstore_n 3, 1) := by decide +kernel
theorem dX1_worthNow_19 : decode cX1_worthNow 19 = .ok (.iconst 0, 1) := by decide +kernel
theorem dX1_worthNow_20 : decode cX1_worthNow 20 = .ok (.istore 5, 2) := by decide +kernel
theorem dX1_worthNow_22 : decode cX1_worthNow 22 = .ok (.iload 5, 2) := by decide +kernel
theorem dX1_worthNow_24 : decode cX1_worthNow 24 = .ok (.bipush 110, 2) := by decide +kernel
theorem dX1_worthNow_26 : decode cX1_worthNow 26 = .ok (.if_icmp .ge 97, 3) := by decide +kernel
theorem dX1_worthNow_29 : decode cX1_worthNow 29 = .ok (.aload_n 0, 1) := by decide +kernel
theorem dX1_worthNow_30 : decode cX1_worthNow 30 = .ok (.iload 5, 2) := by decide +kernel
theorem dX1_worthNow_32 : decode cX1_worthNow 32 = .ok (.invokevirtual 113, 3) := by decide +kernel
theorem dX1_worthNow_35 : decode cX1_worthNow 35 = .ok (.lstore 6, 2) := by decide +kernel
theorem dX1_worthNow_37 : decode cX1_worthNow 37 = .ok (.lconst 0, 1) := by decide +kernel
theorem dX1_worthNow_38 : decode cX1_worthNow 38 = .ok (.lstore 8, 2) := by decide +kernel
theorem dX1_worthNow_40 : decode cX1_worthNow 40 = .ok (.iconst 0, 1) := by decide +kernel
theorem dX1_worthNow_41 : decode cX1_worthNow 41 = .ok (.istore 10, 2) := by decide +kernel
theorem dX1_worthNow_43 : decode cX1_worthNow 43 = .ok (.iload 10, 2) := by decide +kernel
theorem dX1_worthNow_45 : decode cX1_worthNow 45 = .ok (.iconst 1, 1) := by decide +kernel
theorem dX1_worthNow_46 : decode cX1_worthNow 46 = .ok (.aload_n 0, 1) := by decide +kernel
theorem dX1_worthNow_47 : decode cX1_worthNow 47 = .ok (.getfield 94, 3) := by decide +kernel
theorem dX1_worthNow_50 : decode cX1_worthNow 50 = .ok (.ishl, 1) := by decide +kernel
theorem dX1_worthNow_51 : decode cX1_worthNow 51 = .ok (.if_icmp .ge 41, 3) := by decide +kernel
theorem dX1_worthNow_54 : decode cX1_worthNow 54 = .ok (.iload 10, 2) := by decide +kernel
theorem dX1_worthNow_56 : decode cX1_worthNow 56 = .ok (.aload_n 0, 1) := by decide +kernel
theorem dX1_worthNow_57 : decode cX1_worthNow 57 = .ok (.getfield 24, 3) := by decide +kernel
theorem dX1_worthNow_60 : decode cX1_worthNow 60 = .ok (.arraylength, 1) := by decide +kernel
theorem dX1_worthNow_61 : decode cX1_worthNow 61 = .ok (.if_icmp .ge 31, 3) := by decide +kernel
theorem dX1_worthNow_64 : decode cX1_worthNow 64 = .ok (.lload 8, 2) := by decide +kernel
theorem dX1_worthNow_66 : decode cX1_worthNow 66 = .ok (.aload_n 0, 1) := by decide +kernel
theorem dX1_worthNow_67 : decode cX1_worthNow 67 = .ok (.iload 10, 2) := by decide +kernel
theorem dX1_worthNow_69 : decode cX1_worthNow 69 = .ok (.lload 6, 2) := by decide +kernel
theorem dX1_worthNow_71 : decode cX1_worthNow 71 = .ok (.invokevirtual 117, 3) := by decide +kernel
theorem dX1_worthNow_74 : decode cX1_worthNow 74 = .ok (.aload_n 0, 1) := by decide +kernel
theorem dX1_worthNow_75 : decode cX1_worthNow 75 = .ok (.getfield 24, 3) := by decide +kernel
theorem dX1_worthNow_78 : decode cX1_worthNow 78 = .ok (.iload 10, 2) := by decide +kernel
theorem dX1_worthNow_80 : decode cX1_worthNow 80 = .ok (.iaload, 1) := by decide +kernel
theorem dX1_worthNow_81 : decode cX1_worthNow 81 = .ok (.i2l, 1) := by decide +kernel
theorem dX1_worthNow_82 : decode cX1_worthNow 82 = .ok (.lmul, 1) := by decide +kernel
theorem dX1_worthNow_83 : decode cX1_worthNow 83 = .ok (.ladd, 1) := by decide +kernel
theorem dX1_worthNow_84 : decode cX1_worthNow 84 = .ok (.lstore 8, 2) := by decide +kernel
theorem dX1_worthNow_86 : decode cX1_worthNow 86 = .ok (.iinc 10 1, 3) := by decide +kernel
theorem dX1_worthNow_89 : decode cX1_worthNow 89 = .ok (.goto (-46), 3) := by decide +kernel
theorem dX1_worthNow_92 : decode cX1_worthNow 92 = .ok (.aload_n 0, 1) := by decide +kernel
theorem dX1_worthNow_93 : decode cX1_worthNow 93 = .ok (.getfield 31, 3) := by decide +kernel
theorem dX1_worthNow_96 : decode cX1_worthNow 96 = .ok (.lload_n 3, 1) := by decide +kernel
theorem dX1_worthNow_97 : decode cX1_worthNow 97 = .ok (.invokevirtual 125, 3) := by decide +kernel
theorem dX1_worthNow_100 : decode cX1_worthNow 100 = .ok (.lstore_n 3, 1) := by decide +kernel
theorem dX1_worthNow_101 : decode cX1_worthNow 101 = .ok (.lload_n 1, 1) := by decide +kernel
theorem dX1_worthNow_102 : decode cX1_worthNow 102 = .ok (.lload 8, 2) := by decide +kernel
theorem dX1_worthNow_104 : decode cX1_worthNow 104 = .ok (.aload_n 0, 1) := by decide +kernel
theorem dX1_worthNow_105 : decode cX1_worthNow 105 = .ok (.getfield 82, 3) := by decide +kernel
theorem dX1_worthNow_108 : decode cX1_worthNow 108 = .ok (.ldiv, 1) := by decide +kernel
theorem dX1_worthNow_109 : decode cX1_worthNow 109 = .ok (.lload_n 3, 1) := by decide +kernel
theorem dX1_worthNow_110 : decode cX1_worthNow 110 = .ok (.lmul, 1) := by decide +kernel
theorem dX1_worthNow_111 : decode cX1_worthNow 111 = .ok (.ldc2_w 123, 3) := by decide +kernel
theorem dX1_worthNow_114 : decode cX1_worthNow 114 = .ok (.ldiv, 1) := by decide +kernel
theorem dX1_worthNow_115 : decode cX1_worthNow 115 = .ok (.ladd, 1) := by decide +kernel
theorem dX1_worthNow_116 : decode cX1_worthNow 116 = .ok (.lstore_n 1, 1) := by decide +kernel
theorem dX1_worthNow_117 : decode cX1_worthNow 117 = .ok (.iinc 5 1, 3) := by decide +kernel
theorem dX1_worthNow_120 : decode cX1_worthNow 120 = .ok (.goto (-98), 3) := by decide +kernel
theorem dX1_worthNow_123 : decode cX1_worthNow 123 = .ok (.lload_n 1, 1) := by decide +kernel
theorem dX1_worthNow_124 : decode cX1_worthNow 124 = .ok (.lreturn, 1) := by decide +kernel
theorem dX2_init_0 : decode cX2_init 0 = .ok (.aload_n 0, 1) := by decide +kernel
theorem dX2_init_1 : decode cX2_init 1 = .ok (.invokespecial 3, 3) := by decide +kernel
theorem dX2_init_4 : decode cX2_init 4 = .ok (.aload_n 0, 1) := by decide +kernel
theorem dX2_init_5 : decode cX2_init 5 = .ok (.bipush 20, 2) := by decide +kernel
theorem dX2_init_7 : decode cX2_init 7 = .ok (.newarray .int, 2) := by decide +kernel
theorem dX2_init_9 : decode cX2_init 9 = .ok (.putfield 9, 3) := by decide +kernel
theorem dX2_init_12 : decode cX2_init 12 = .ok (.aload_n 0, 1) := by decide +kernel
theorem dX2_init_13 : decode cX2_init 13 = .ok (.bipush 20, 2) := by decide +kernel
theorem dX2_init_15 : decode cX2_init 15 = .ok (.newarray .int, 2) := by decide +kernel
theorem dX2_init_17 : decode cX2_init 17 = .ok (.putfield 15, 3) := by decide +kernel
theorem dX2_init_20 : decode cX2_init 20 = .ok (.aload_n 0, 1) := by decide +kernel
theorem dX2_init_21 : decode cX2_init 21 = .ok (.bipush 20, 2) := by decide +kernel
theorem dX2_init_23 : decode cX2_init 23 = .ok (.newarray .int, 2) := by decide +kernel
theorem dX2_init_25 : decode cX2_init 25 = .ok (.putfield 18, 3) := by decide +kernel
theorem dX2_init_28 : decode cX2_init 28 = .ok (.aload_n 0, 1) := by decide +kernel
theorem dX2_init_29 : decode cX2_init 29 = .ok (.bipush 20, 2) := by decide +kernel
theorem dX2_init_31 : decode cX2_init 31 = .ok (.newarray .int, 2) := by decide +kernel
theorem dX2_init_33 : decode cX2_init 33 = .ok (.putfield 21, 3) := by decide +kernel
theorem dX2_init_36 : decode cX2_init 36 = .ok (.aload_n 0, 1) := by decide +kernel
theorem dX2_init_37 : decode cX2_init 37 = .ok (.bipush 20, 2) := by decide +kernel
theorem dX2_init_39 : decode cX2_init 39 = .ok (.newarray .int, 2) := by decide +kernel
theorem dX2_init_41 : decode cX2_init 41 = .ok (.putfield 24, 3) := by decide +kernel
theorem dX2_init_44 : decode cX2_init 44 = .ok (.return_, 1) := by decide +kernel
theorem dX2_add_0 : decode cX2_add 0 = .ok (.aload_n 0, 1) := by decide +kernel
theorem dX2_add_1 : decode cX2_add 1 = .ok (.getfield 27, 3) := by decide +kernel
theorem dX2_add_4 : decode cX2_add 4 = .ok (.ifCond .lt 12, 3) := by decide +kernel
theorem dX2_add_7 : decode cX2_add 7 = .ok (.aload_n 0, 1) := by decide +kernel
theorem dX2_add_8 : decode cX2_add 8 = .ok (.getfield 27, 3) := by decide +kernel
theorem dX2_add_11 : decode cX2_add 11 = .ok (.bipush 20, 2) := by decide +kernel
theorem dX2_add_13 : decode cX2_add 13 = .ok (.if_icmp .lt 5, 3) := by decide +kernel
theorem dX2_add_16 : decode cX2_add 16 = .ok (.iconst (-1), 1) := by decide +kernel
theorem dX2_add_17 : decode cX2_add 17 = .ok (.ireturn, 1) := by decide +kernel
theorem dX2_add_18 : decode cX2_add 18 = .ok (.aload_n 0, 1) := by decide +kernel
theorem dX2_add_19 : decode cX2_add 19 = .ok (.getfield 27, 3) := by decide +kernel
theorem dX2_add_22 : decode cX2_add 22 = .ok (.istore 6, 2) := by decide +kernel
theorem dX2_add_24 : decode cX2_add 24 = .ok (.aload_n 0, 1) := by decide +kernel
theorem dX2_add_25 : decode cX2_add 25 = .ok (.getfield 9, 3) := by decide +kernel
theorem dX2_add_28 : decode cX2_add 28 = .ok (.iload 6, 2) := by decide +kernel
theorem dX2_add_30 : decode cX2_add 30 = .ok (.iload_n 1, 1) := by decide +kernel
theorem dX2_add_31 : decode cX2_add 31 = .ok (.iastore, 1) := by decide +kernel
theorem dX2_add_32 : decode cX2_add 32 = .ok (.aload_n 0, 1) := by decide +kernel
theorem dX2_add_33 : decode cX2_add 33 = .ok (.getfield 15, 3) := by decide +kernel
theorem dX2_add_36 : decode cX2_add 36 = .ok (.iload 6, 2) := by decide +kernel
theorem dX2_add_38 : decode cX2_add 38 = .ok (.iload_n 2, 1) := by decide +kernel
theorem dX2_add_39 : decode cX2_add 39 = .ok (.iastore, 1) := by decide +kernel
theorem dX2_add_40 : decode cX2_add 40 = .ok (.aload_n 0, 1) := by decide +kernel
theorem dX2_add_41 : decode cX2_add 41 = .ok (.getfield 18, 3) := by decide +kernel
theorem dX2_add_44 : decode cX2_add 44 = .ok (.iload 6, 2) := by decide +kernel
theorem dX2_add_46 : decode cX2_add 46 = .ok (.iload_n 3, 1) := by decide +kernel
theorem dX2_add_47 : decode cX2_add 47 = .ok (.iastore, 1) := by decide +kernel
theorem dX2_add_48 : decode cX2_add 48 = .ok (.aload_n 0, 1) := by decide +kernel
theorem dX2_add_49 : decode cX2_add 49 = .ok (.getfield 21, 3) := by decide +kernel
theorem dX2_add_52 : decode cX2_add 52 = .ok (.iload 6, 2) := by decide +kernel
theorem dX2_add_54 : decode cX2_add 54 = .ok (.iload 4, 2) := by decide +kernel
theorem dX2_add_56 : decode cX2_add 56 = .ok (.iastore, 1) := by decide +kernel
theorem dX2_add_57 : decode cX2_add 57 = .ok (.aload_n 0, 1) := by decide +kernel
theorem dX2_add_58 : decode cX2_add 58 = .ok (.getfield 24, 3) := by decide +kernel
theorem dX2_add_61 : decode cX2_add 61 = .ok (.iload 6, 2) := by decide +kernel
theorem dX2_add_63 : decode cX2_add 63 = .ok (.iload 5, 2) := by decide +kernel
theorem dX2_add_65 : decode cX2_add 65 = .ok (.iastore, 1) := by decide +kernel
theorem dX2_add_66 : decode cX2_add 66 = .ok (.aload_n 0, 1) := by decide +kernel
theorem dX2_add_67 : decode cX2_add 67 = .ok (.dup, 1) := by decide +kernel
theorem dX2_add_68 : decode cX2_add 68 = .ok (.getfield 27, 3) := by decide +kernel
theorem dX2_add_71 : decode cX2_add 71 = .ok (.iconst 1, 1) := by decide +kernel
theorem dX2_add_72 : decode cX2_add 72 = .ok (.iadd, 1) := by decide +kernel
theorem dX2_add_73 : decode cX2_add 73 = .ok (.putfield 27, 3) := by decide +kernel
theorem dX2_add_76 : decode cX2_add 76 = .ok (.iload 6, 2) := by decide +kernel
theorem dX2_add_78 : decode cX2_add 78 = .ok (.ireturn, 1) := by decide +kernel
theorem dX2_binds_0 : decode cX2_binds 0 = .ok (.iload_n 1, 1) := by decide +kernel
theorem dX2_binds_1 : decode cX2_binds 1 = .ok (.ifCond .lt 52, 3) := by decide +kernel
theorem dX2_binds_4 : decode cX2_binds 4 = .ok (.iload_n 1, 1) := by decide +kernel
theorem dX2_binds_5 : decode cX2_binds 5 = .ok (.aload_n 0, 1) := by decide +kernel
theorem dX2_binds_6 : decode cX2_binds 6 = .ok (.getfield 27, 3) := by decide +kernel
theorem dX2_binds_9 : decode cX2_binds 9 = .ok (.if_icmp .ge 44, 3) := by decide +kernel
theorem dX2_binds_12 : decode cX2_binds 12 = .ok (.iload_n 1, 1) := by decide +kernel
theorem dX2_binds_13 : decode cX2_binds 13 = .ok (.bipush 20, 2) := by decide +kernel
theorem dX2_binds_15 : decode cX2_binds 15 = .ok (.if_icmp .ge 38, 3) := by decide +kernel
theorem dX2_binds_18 : decode cX2_binds 18 = .ok (.aload_n 0, 1) := by decide +kernel
theorem dX2_binds_19 : decode cX2_binds 19 = .ok (.getfield 9, 3) := by decide +kernel
theorem dX2_binds_22 : decode cX2_binds 22 = .ok (.iload_n 1, 1) := by decide +kernel
theorem dX2_binds_23 : decode cX2_binds 23 = .ok (.iaload, 1) := by decide +kernel
theorem dX2_binds_24 : decode cX2_binds 24 = .ok (.iload_n 2, 1) := by decide +kernel
theorem dX2_binds_25 : decode cX2_binds 25 = .ok (.if_icmp .ne 28, 3) := by decide +kernel
theorem dX2_binds_28 : decode cX2_binds 28 = .ok (.aload_n 0, 1) := by decide +kernel
theorem dX2_binds_29 : decode cX2_binds 29 = .ok (.getfield 15, 3) := by decide +kernel
theorem dX2_binds_32 : decode cX2_binds 32 = .ok (.iload_n 1, 1) := by decide +kernel
theorem dX2_binds_33 : decode cX2_binds 33 = .ok (.iaload, 1) := by decide +kernel
theorem dX2_binds_34 : decode cX2_binds 34 = .ok (.iload_n 3, 1) := by decide +kernel
theorem dX2_binds_35 : decode cX2_binds 35 = .ok (.if_icmp .ne 18, 3) := by decide +kernel
theorem dX2_binds_38 : decode cX2_binds 38 = .ok (.aload_n 0, 1) := by decide +kernel
theorem dX2_binds_39 : decode cX2_binds 39 = .ok (.getfield 24, 3) := by decide +kernel
theorem dX2_binds_42 : decode cX2_binds 42 = .ok (.iload_n 1, 1) := by decide +kernel
theorem dX2_binds_43 : decode cX2_binds 43 = .ok (.iaload, 1) := by decide +kernel
theorem dX2_binds_44 : decode cX2_binds 44 = .ok (.iload 4, 2) := by decide +kernel
theorem dX2_binds_46 : decode cX2_binds 46 = .ok (.if_icmp .gt 7, 3) := by decide +kernel
theorem dX2_binds_49 : decode cX2_binds 49 = .ok (.iconst 1, 1) := by decide +kernel
theorem dX2_binds_50 : decode cX2_binds 50 = .ok (.goto 4, 3) := by decide +kernel
theorem dX2_binds_53 : decode cX2_binds 53 = .ok (.iconst 0, 1) := by decide +kernel
theorem dX2_binds_54 : decode cX2_binds 54 = .ok (.ireturn, 1) := by decide +kernel
theorem dX3_init_0 : decode cX3_init 0 = .ok (.aload_n 0, 1) := by decide +kernel
theorem dX3_init_1 : decode cX3_init 1 = .ok (.invokespecial 3, 3) := by decide +kernel
theorem dX3_init_4 : decode cX3_init 4 = .ok (.aload_n 0, 1) := by decide +kernel
theorem dX3_init_5 : decode cX3_init 5 = .ok (.bipush 16, 2) := by decide +kernel
theorem dX3_init_7 : decode cX3_init 7 = .ok (.newarray .int, 2) := by decide +kernel
theorem dX3_init_9 : decode cX3_init 9 = .ok (.putfield 9, 3) := by decide +kernel
theorem dX3_init_12 : decode cX3_init 12 = .ok (.return_, 1) := by decide +kernel
theorem dX3_divide_0 : decode cX3_divide 0 = .ok (.iconst 0, 1) := by decide +kernel
theorem dX3_divide_1 : decode cX3_divide 1 = .ok (.istore 4, 2) := by decide +kernel
theorem dX3_divide_3 : decode cX3_divide 3 = .ok (.iload 4, 2) := by decide +kernel
theorem dX3_divide_5 : decode cX3_divide 5 = .ok (.bipush 16, 2) := by decide +kernel
theorem dX3_divide_7 : decode cX3_divide 7 = .ok (.if_icmp .ge 17, 3) := by decide +kernel
theorem dX3_divide_10 : decode cX3_divide 10 = .ok (.aload_n 0, 1) := by decide +kernel
theorem dX3_divide_11 : decode cX3_divide 11 = .ok (.getfield 9, 3) := by decide +kernel
theorem dX3_divide_14 : decode cX3_divide 14 = .ok (.iload 4, 2) := by decide +kernel
theorem dX3_divide_16 : decode cX3_divide 16 = .ok (.iconst 0, 1) := by decide +kernel
theorem dX3_divide_17 : decode cX3_divide 17 = .ok (.iastore, 1) := by decide +kernel
theorem dX3_divide_18 : decode cX3_divide 18 = .ok (.iinc 4 1, 3) := by decide +kernel
theorem dX3_divide_21 : decode cX3_divide 21 = .ok (.goto (-18), 3) := by decide +kernel
theorem dX3_divide_24 : decode cX3_divide 24 = .ok (.aload_n 0, 1) := by decide +kernel
theorem dX3_divide_25 : decode cX3_divide 25 = .ok (.aload_n 1, 1) := by decide +kernel
theorem dX3_divide_26 : decode cX3_divide 26 = .ok (.getfield 15, 3) := by decide +kernel
theorem dX3_divide_29 : decode cX3_divide 29 = .ok (.putfield 21, 3) := by decide +kernel
theorem dX3_divide_32 : decode cX3_divide 32 = .ok (.aload_n 1, 1) := by decide +kernel
theorem dX3_divide_33 : decode cX3_divide 33 = .ok (.aload_n 2, 1) := by decide +kernel
theorem dX3_divide_34 : decode cX3_divide 34 = .ok (.iload_n 3, 1) := by decide +kernel
theorem dX3_divide_35 : decode cX3_divide 35 = .ok (.invokevirtual 24, 3) := by decide +kernel
theorem dX3_divide_38 : decode cX3_divide 38 = .ok (.invokevirtual 30, 3) := by decide +kernel
theorem dX3_divide_41 : decode cX3_divide 41 = .ok (.istore 4, 2) := by decide +kernel
theorem dX3_divide_43 : decode cX3_divide 43 = .ok (.iload 4, 2) := by decide +kernel
theorem dX3_divide_45 : decode cX3_divide 45 = .ok (.ifCond .lt 10, 3) := by decide +kernel
theorem dX3_divide_48 : decode cX3_divide 48 = .ok (.iload 4, 2) := by decide +kernel
theorem dX3_divide_50 : decode cX3_divide 50 = .ok (.bipush 8, 2) := by decide +kernel
theorem dX3_divide_52 : decode cX3_divide 52 = .ok (.if_icmp .lt 4, 3) := by decide +kernel
theorem dX3_divide_55 : decode cX3_divide 55 = .ok (.return_, 1) := by decide +kernel
theorem dX3_divide_56 : decode cX3_divide 56 = .ok (.aload_n 1, 1) := by decide +kernel
theorem dX3_divide_57 : decode cX3_divide 57 = .ok (.iload 4, 2) := by decide +kernel
theorem dX3_divide_59 : decode cX3_divide 59 = .ok (.invokevirtual 33, 3) := by decide +kernel
theorem dX3_divide_62 : decode cX3_divide 62 = .ok (.istore 5, 2) := by decide +kernel
theorem dX3_divide_64 : decode cX3_divide 64 = .ok (.iload 5, 2) := by decide +kernel
theorem dX3_divide_66 : decode cX3_divide 66 = .ok (.aload_n 1, 1) := by decide +kernel
theorem dX3_divide_67 : decode cX3_divide 67 = .ok (.getfield 36, 3) := by decide +kernel
theorem dX3_divide_70 : decode cX3_divide 70 = .ok (.iload 4, 2) := by decide +kernel
theorem dX3_divide_72 : decode cX3_divide 72 = .ok (.iaload, 1) := by decide +kernel
theorem dX3_divide_73 : decode cX3_divide 73 = .ok (.if_icmp .ge 18, 3) := by decide +kernel
theorem dX3_divide_76 : decode cX3_divide 76 = .ok (.aload_n 0, 1) := by decide +kernel
theorem dX3_divide_77 : decode cX3_divide 77 = .ok (.aload_n 1, 1) := by decide +kernel
theorem dX3_divide_78 : decode cX3_divide 78 = .ok (.iload 5, 2) := by decide +kernel
theorem dX3_divide_80 : decode cX3_divide 80 = .ok (.aload_n 2, 1) := by decide +kernel
theorem dX3_divide_81 : decode cX3_divide 81 = .ok (.iload_n 3, 1) := by decide +kernel
theorem dX3_divide_82 : decode cX3_divide 82 = .ok (.invokevirtual 39, 3) := by decide +kernel
theorem dX3_divide_85 : decode cX3_divide 85 = .ok (.iinc 5 1, 3) := by decide +kernel
theorem dX3_divide_88 : decode cX3_divide 88 = .ok (.goto (-24), 3) := by decide +kernel
theorem dX3_divide_91 : decode cX3_divide 91 = .ok (.return_, 1) := by decide +kernel
theorem dX3_giveShare_0 : decode cX3_giveShare 0 = .ok (.iload_n 2, 1) := by decide +kernel
theorem dX3_giveShare_1 : decode cX3_giveShare 1 = .ok (.ifCond .lt 21, 3) := by decide +kernel
theorem dX3_giveShare_4 : decode cX3_giveShare 4 = .ok (.iload_n 2, 1) := by decide +kernel
theorem dX3_giveShare_5 : decode cX3_giveShare 5 = .ok (.aload_n 1, 1) := by decide +kernel
theorem dX3_giveShare_6 : decode cX3_giveShare 6 = .ok (.getfield 43, 3) := by decide +kernel
theorem dX3_giveShare_9 : decode cX3_giveShare 9 = .ok (.arraylength, 1) := by decide +kernel
theorem dX3_giveShare_10 : decode cX3_giveShare 10 = .ok (.if_icmp .ge 12, 3) := by decide +kernel
theorem dX3_giveShare_13 : decode cX3_giveShare 13 = .ok (.aload_n 1, 1) := by decide +kernel
theorem dX3_giveShare_14 : decode cX3_giveShare 14 = .ok (.getfield 46, 3) := by decide +kernel
theorem dX3_giveShare_17 : decode cX3_giveShare 17 = .ok (.iload_n 2, 1) := by decide +kernel
theorem dX3_giveShare_18 : decode cX3_giveShare 18 = .ok (.iaload, 1) := by decide +kernel
theorem dX3_giveShare_19 : decode cX3_giveShare 19 = .ok (.ifCond .gt 4, 3) := by decide +kernel
theorem dX3_giveShare_22 : decode cX3_giveShare 22 = .ok (.return_, 1) := by decide +kernel
theorem dX3_giveShare_23 : decode cX3_giveShare 23 = .ok (.aload_n 1, 1) := by decide +kernel
theorem dX3_giveShare_24 : decode cX3_giveShare 24 = .ok (.getfield 43, 3) := by decide +kernel
theorem dX3_giveShare_27 : decode cX3_giveShare 27 = .ok (.iload_n 2, 1) := by decide +kernel
theorem dX3_giveShare_28 : decode cX3_giveShare 28 = .ok (.iaload, 1) := by decide +kernel
theorem dX3_giveShare_29 : decode cX3_giveShare 29 = .ok (.istore 5, 2) := by decide +kernel
theorem dX3_giveShare_31 : decode cX3_giveShare 31 = .ok (.iload 5, 2) := by decide +kernel
theorem dX3_giveShare_33 : decode cX3_giveShare 33 = .ok (.bipush 16, 2) := by decide +kernel
theorem dX3_giveShare_35 : decode cX3_giveShare 35 = .ok (.if_icmp .lt 7, 3) := by decide +kernel
theorem dX3_giveShare_38 : decode cX3_giveShare 38 = .ok (.iconst 1, 1) := by decide +kernel
theorem dX3_giveShare_39 : decode cX3_giveShare 39 = .ok (.goto 4, 3) := by decide +kernel
theorem dX3_giveShare_42 : decode cX3_giveShare 42 = .ok (.iconst 0, 1) := by decide +kernel
theorem dX3_giveShare_43 : decode cX3_giveShare 43 = .ok (.istore 6, 2) := by decide +kernel
theorem dX3_giveShare_45 : decode cX3_giveShare 45 = .ok (.iload 4, 2) := by decide +kernel
theorem dX3_giveShare_47 : decode cX3_giveShare 47 = .ok (.iload 6, 2) := by decide +kernel
theorem dX3_giveShare_49 : decode cX3_giveShare 49 = .ok (.ifCond .eq 15, 3) := by decide +kernel
theorem dX3_giveShare_52 : decode cX3_giveShare 52 = .ok (.aload_n 3, 1) := by decide +kernel
theorem dX3_giveShare_53 : decode cX3_giveShare 53 = .ok (.iload 5, 2) := by decide +kernel
theorem dX3_giveShare_55 : decode cX3_giveShare 55 = .ok (.bipush 16, 2) := by decide +kernel
theorem dX3_giveShare_57 : decode cX3_giveShare 57 = .ok (.isub, 1) := by decide +kernel
theorem dX3_giveShare_58 : decode cX3_giveShare 58 = .ok (.invokevirtual 49, 3) := by decide +kernel
theorem dX3_giveShare_61 : decode cX3_giveShare 61 = .ok (.goto 7, 3) := by decide +kernel
theorem dX3_giveShare_64 : decode cX3_giveShare 64 = .ok (.iconst 1, 1) := by decide +kernel
theorem dX3_giveShare_65 : decode cX3_giveShare 65 = .ok (.iload 5, 2) := by decide +kernel
theorem dX3_giveShare_67 : decode cX3_giveShare 67 = .ok (.ishl, 1) := by decide +kernel
theorem dX3_giveShare_68 : decode cX3_giveShare 68 = .ok (.iand, 1) := by decide +kernel
theorem dX3_giveShare_69 : decode cX3_giveShare 69 = .ok (.istore 7, 2) := by decide +kernel
theorem dX3_giveShare_71 : decode cX3_giveShare 71 = .ok (.iload 7, 2) := by decide +kernel
theorem dX3_giveShare_73 : decode cX3_giveShare 73 = .ok (.invokestatic 52, 3) := by decide +kernel
theorem dX3_giveShare_76 : decode cX3_giveShare 76 = .ok (.istore 8, 2) := by decide +kernel
theorem dX3_giveShare_78 : decode cX3_giveShare 78 = .ok (.iload 8, 2) := by decide +kernel
theorem dX3_giveShare_80 : decode cX3_giveShare 80 = .ok (.ifCond .ne 4, 3) := by decide +kernel
theorem dX3_giveShare_83 : decode cX3_giveShare 83 = .ok (.return_, 1) := by decide +kernel
theorem dX3_giveShare_84 : decode cX3_giveShare 84 = .ok (.aload_n 1, 1) := by decide +kernel
theorem dX3_giveShare_85 : decode cX3_giveShare 85 = .ok (.getfield 15, 3) := by decide +kernel
theorem dX3_giveShare_88 : decode cX3_giveShare 88 = .ok (.aload_n 1, 1) := by decide +kernel
theorem dX3_giveShare_89 : decode cX3_giveShare 89 = .ok (.getfield 46, 3) := by decide +kernel
theorem dX3_giveShare_92 : decode cX3_giveShare 92 = .ok (.iload_n 2, 1) := by decide +kernel
theorem dX3_giveShare_93 : decode cX3_giveShare 93 = .ok (.iaload, 1) := by decide +kernel
theorem dX3_giveShare_94 : decode cX3_giveShare 94 = .ok (.idiv, 1) := by decide +kernel
theorem dX3_giveShare_95 : decode cX3_giveShare 95 = .ok (.iload 8, 2) := by decide +kernel
theorem dX3_giveShare_97 : decode cX3_giveShare 97 = .ok (.idiv, 1) := by decide +kernel
theorem dX3_giveShare_98 : decode cX3_giveShare 98 = .ok (.istore 9, 2) := by decide +kernel
theorem dX3_giveShare_100 : decode cX3_giveShare 100 = .ok (.iconst 0, 1) := by decide +kernel
theorem dX3_giveShare_101 : decode cX3_giveShare 101 = .ok (.istore 10, 2) := by decide +kernel
theorem dX3_giveShare_103 : decode cX3_giveShare 103 = .ok (.iload 10, 2) := by decide +kernel
theorem dX3_giveShare_105 : decode cX3_giveShare 105 = .ok (.bipush 16, 2) := by decide +kernel
theorem dX3_giveShare_107 : decode cX3_giveShare 107 = .ok (.if_icmp .ge 28, 3) := by decide +kernel
theorem dX3_giveShare_110 : decode cX3_giveShare 110 = .ok (.iload 7, 2) := by decide +kernel
theorem dX3_giveShare_112 : decode cX3_giveShare 112 = .ok (.iload 10, 2) := by decide +kernel
theorem dX3_giveShare_114 : decode cX3_giveShare 114 = .ok (.iushr, 1) := by decide +kernel
theorem dX3_giveShare_115 : decode cX3_giveShare 115 = .ok (.iconst 1, 1) := by decide +kernel
theorem dX3_giveShare_116 : decode cX3_giveShare 116 = .ok (.iand, 1) := by decide +kernel
theorem dX3_giveShare_117 : decode cX3_giveShare 117 = .ok (.iconst 1, 1) := by decide +kernel
theorem dX3_giveShare_118 : decode cX3_giveShare 118 = .ok (.if_icmp .ne 11, 3) := by decide +kernel
theorem dX3_giveShare_121 : decode cX3_giveShare 121 = .ok (.aload_n 0, 1) := by decide +kernel
theorem dX3_giveShare_122 : decode cX3_giveShare 122 = .ok (.iload 10, 2) := by decide +kernel
theorem dX3_giveShare_124 : decode cX3_giveShare 124 = .ok (.iload 9, 2) := by decide +kernel
theorem dX3_giveShare_126 : decode cX3_giveShare 126 = .ok (.invokevirtual 57, 3) := by decide +kernel
theorem dX3_giveShare_129 : decode cX3_giveShare 129 = .ok (.iinc 10 1, 3) := by decide +kernel
theorem dX3_giveShare_132 : decode cX3_giveShare 132 = .ok (.goto (-29), 3) := by decide +kernel
theorem dX3_giveShare_135 : decode cX3_giveShare 135 = .ok (.return_, 1) := by decide +kernel
theorem dX3_give_0 : decode cX3_give 0 = .ok (.iload_n 2, 1) := by decide +kernel
theorem dX3_give_1 : decode cX3_give 1 = .ok (.aload_n 0, 1) := by decide +kernel
theorem dX3_give_2 : decode cX3_give 2 = .ok (.getfield 21, 3) := by decide +kernel
theorem dX3_give_5 : decode cX3_give 5 = .ok (.invokestatic 61, 3) := by decide +kernel
theorem dX3_give_8 : decode cX3_give 8 = .ok (.istore_n 3, 1) := by decide +kernel
theorem dX3_give_9 : decode cX3_give 9 = .ok (.aload_n 0, 1) := by decide +kernel
theorem dX3_give_10 : decode cX3_give 10 = .ok (.getfield 9, 3) := by decide +kernel
theorem dX3_give_13 : decode cX3_give 13 = .ok (.iload_n 1, 1) := by decide +kernel
theorem dX3_give_14 : decode cX3_give 14 = .ok (.dup2, 1) := by decide +kernel
theorem dX3_give_15 : decode cX3_give 15 = .ok (.iaload, 1) := by decide +kernel
theorem dX3_give_16 : decode cX3_give 16 = .ok (.iload_n 3, 1) := by decide +kernel
theorem dX3_give_17 : decode cX3_give 17 = .ok (.iadd, 1) := by decide +kernel
theorem dX3_give_18 : decode cX3_give 18 = .ok (.iastore, 1) := by decide +kernel
theorem dX3_give_19 : decode cX3_give 19 = .ok (.aload_n 0, 1) := by decide +kernel
theorem dX3_give_20 : decode cX3_give 20 = .ok (.dup, 1) := by decide +kernel
theorem dX3_give_21 : decode cX3_give 21 = .ok (.getfield 21, 3) := by decide +kernel
theorem dX3_give_24 : decode cX3_give 24 = .ok (.iload_n 3, 1) := by decide +kernel
theorem dX3_give_25 : decode cX3_give 25 = .ok (.isub, 1) := by decide +kernel
theorem dX3_give_26 : decode cX3_give 26 = .ok (.putfield 21, 3) := by decide +kernel
theorem dX3_give_29 : decode cX3_give 29 = .ok (.return_, 1) := by decide +kernel
theorem dX3_givenTo_0 : decode cX3_givenTo 0 = .ok (.iload_n 1, 1) := by decide +kernel
theorem dX3_givenTo_1 : decode cX3_givenTo 1 = .ok (.ifCond .lt 18, 3) := by decide +kernel
theorem dX3_givenTo_4 : decode cX3_givenTo 4 = .ok (.iload_n 1, 1) := by decide +kernel
theorem dX3_givenTo_5 : decode cX3_givenTo 5 = .ok (.bipush 16, 2) := by decide +kernel
theorem dX3_givenTo_7 : decode cX3_givenTo 7 = .ok (.if_icmp .ge 12, 3) := by decide +kernel
theorem dX3_givenTo_10 : decode cX3_givenTo 10 = .ok (.aload_n 0, 1) := by decide +kernel
theorem dX3_givenTo_11 : decode cX3_givenTo 11 = .ok (.getfield 9, 3) := by decide +kernel
theorem dX3_givenTo_14 : decode cX3_givenTo 14 = .ok (.iload_n 1, 1) := by decide +kernel
theorem dX3_givenTo_15 : decode cX3_givenTo 15 = .ok (.iaload, 1) := by decide +kernel
theorem dX3_givenTo_16 : decode cX3_givenTo 16 = .ok (.goto 4, 3) := by decide +kernel
theorem dX3_givenTo_19 : decode cX3_givenTo 19 = .ok (.iconst 0, 1) := by decide +kernel
theorem dX3_givenTo_20 : decode cX3_givenTo 20 = .ok (.ireturn, 1) := by decide +kernel
theorem dX4_init_0 : decode cX4_init 0 = .ok (.aload_n 0, 1) := by decide +kernel
theorem dX4_init_1 : decode cX4_init 1 = .ok (.invokespecial 3, 3) := by decide +kernel
theorem dX4_init_4 : decode cX4_init 4 = .ok (.aload_n 0, 1) := by decide +kernel
theorem dX4_init_5 : decode cX4_init 5 = .ok (.bipush 40, 2) := by decide +kernel
theorem dX4_init_7 : decode cX4_init 7 = .ok (.newarray .int, 2) := by decide +kernel
theorem dX4_init_9 : decode cX4_init 9 = .ok (.putfield 9, 3) := by decide +kernel
theorem dX4_init_12 : decode cX4_init 12 = .ok (.aload_n 0, 1) := by decide +kernel
theorem dX4_init_13 : decode cX4_init 13 = .ok (.aload_n 1, 1) := by decide +kernel
theorem dX4_init_14 : decode cX4_init 14 = .ok (.putfield 15, 3) := by decide +kernel
theorem dX4_init_17 : decode cX4_init 17 = .ok (.aload_n 0, 1) := by decide +kernel
theorem dX4_init_18 : decode cX4_init 18 = .ok (.aload_n 2, 1) := by decide +kernel
theorem dX4_init_19 : decode cX4_init 19 = .ok (.putfield 19, 3) := by decide +kernel
theorem dX4_init_22 : decode cX4_init 22 = .ok (.aload_n 0, 1) := by decide +kernel
theorem dX4_init_23 : decode cX4_init 23 = .ok (.aload_n 3, 1) := by decide +kernel
theorem dX4_init_24 : decode cX4_init 24 = .ok (.putfield 23, 3) := by decide +kernel
theorem dX4_init_27 : decode cX4_init 27 = .ok (.return_, 1) := by decide +kernel
theorem dX4_gather_0 : decode cX4_gather 0 = .ok (.aload_n 0, 1) := by decide +kernel
theorem dX4_gather_1 : decode cX4_gather 1 = .ok (.iconst 0, 1) := by decide +kernel
theorem dX4_gather_2 : decode cX4_gather 2 = .ok (.putfield 27, 3) := by decide +kernel
theorem dX4_gather_5 : decode cX4_gather 5 = .ok (.aload_n 0, 1) := by decide +kernel
theorem dX4_gather_6 : decode cX4_gather 6 = .ok (.iconst 0, 1) := by decide +kernel
theorem dX4_gather_7 : decode cX4_gather 7 = .ok (.putfield 31, 3) := by decide +kernel
theorem dX4_gather_10 : decode cX4_gather 10 = .ok (.aload_n 0, 1) := by decide +kernel
theorem dX4_gather_11 : decode cX4_gather 11 = .ok (.iconst 0, 1) := by decide +kernel
theorem dX4_gather_12 : decode cX4_gather 12 = .ok (.putfield 34, 3) := by decide +kernel
theorem dX4_gather_15 : decode cX4_gather 15 = .ok (.iconst 0, 1) := by decide +kernel
theorem dX4_gather_16 : decode cX4_gather 16 = .ok (.istore 5, 2) := by decide +kernel
theorem dX4_gather_18 : decode cX4_gather 18 = .ok (.iload 5, 2) := by decide +kernel
theorem dX4_gather_20 : decode cX4_gather 20 = .ok (.aload_n 0, 1) := by decide +kernel
theorem dX4_gather_21 : decode cX4_gather 21 = .ok (.getfield 15, 3) := by decide +kernel
theorem dX4_gather_24 : decode cX4_gather 24 = .ok (.getfield 37, 3) := by decide +kernel
theorem dX4_gather_27 : decode cX4_gather 27 = .ok (.if_icmp .ge 159, 3) := by decide +kernel
theorem dX4_gather_30 : decode cX4_gather 30 = .ok (.iload 5, 2) := by decide +kernel
theorem dX4_gather_32 : decode cX4_gather 32 = .ok (.bipush 40, 2) := by decide +kernel
theorem dX4_gather_34 : decode cX4_gather 34 = .ok (.if_icmp .ge 152, 3) := by decide +kernel
theorem dX4_gather_37 : decode cX4_gather 37 = .ok (.aload_n 0, 1) := by decide +kernel
theorem dX4_gather_38 : decode cX4_gather 38 = .ok (.getfield 15, 3) := by decide +kernel
theorem dX4_gather_41 : decode cX4_gather 41 = .ok (.getfield 42, 3) := by decide +kernel
theorem dX4_gather_44 : decode cX4_gather 44 = .ok (.iload 5, 2) := by decide +kernel
theorem dX4_gather_46 : decode cX4_gather 46 = .ok (.iaload, 1) := by decide +kernel
theorem dX4_gather_47 : decode cX4_gather 47 = .ok (.istore 6, 2) := by decide +kernel
theorem dX4_gather_49 : decode cX4_gather 49 = .ok (.aload_n 0, 1) := by decide +kernel
theorem dX4_gather_50 : decode cX4_gather 50 = .ok (.getfield 9, 3) := by decide +kernel
theorem dX4_gather_53 : decode cX4_gather 53 = .ok (.iload 5, 2) := by decide +kernel
theorem dX4_gather_55 : decode cX4_gather 55 = .ok (.iconst (-1), 1) := by decide +kernel
theorem dX4_gather_56 : decode cX4_gather 56 = .ok (.iastore, 1) := by decide +kernel
theorem dX4_gather_57 : decode cX4_gather 57 = .ok (.aload_n 0, 1) := by decide +kernel
theorem dX4_gather_58 : decode cX4_gather 58 = .ok (.getfield 15, 3) := by decide +kernel
theorem dX4_gather_61 : decode cX4_gather 61 = .ok (.getfield 45, 3) := by decide +kernel
theorem dX4_gather_64 : decode cX4_gather 64 = .ok (.iload 5, 2) := by decide +kernel
theorem dX4_gather_66 : decode cX4_gather 66 = .ok (.iaload, 1) := by decide +kernel
theorem dX4_gather_67 : decode cX4_gather 67 = .ok (.iload_n 1, 1) := by decide +kernel
theorem dX4_gather_68 : decode cX4_gather 68 = .ok (.if_icmp .ne 112, 3) := by decide +kernel
theorem dX4_gather_71 : decode cX4_gather 71 = .ok (.aload_n 0, 1) := by decide +kernel
theorem dX4_gather_72 : decode cX4_gather 72 = .ok (.getfield 15, 3) := by decide +kernel
theorem dX4_gather_75 : decode cX4_gather 75 = .ok (.getfield 48, 3) := by decide +kernel
theorem dX4_gather_78 : decode cX4_gather 78 = .ok (.iload 5, 2) := by decide +kernel
theorem dX4_gather_80 : decode cX4_gather 80 = .ok (.iaload, 1) := by decide +kernel
theorem dX4_gather_81 : decode cX4_gather 81 = .ok (.iconst (-1), 1) := by decide +kernel
theorem dX4_gather_82 : decode cX4_gather 82 = .ok (.if_icmp .eq 6, 3) := by decide +kernel
theorem dX4_gather_85 : decode cX4_gather 85 = .ok (.goto 95, 3) := by decide +kernel
theorem dX4_gather_88 : decode cX4_gather 88 = .ok (.iload 6, 2) := by decide +kernel
theorem dX4_gather_90 : decode cX4_gather 90 = .ok (.ifCond .lt 90, 3) := by decide +kernel
theorem dX4_gather_93 : decode cX4_gather 93 = .ok (.iload 6, 2) := by decide +kernel
theorem dX4_gather_95 : decode cX4_gather 95 = .ok (.iload_n 3, 1) := by decide +kernel
theorem dX4_gather_96 : decode cX4_gather 96 = .ok (.if_icmp .ge 84, 3) := by decide +kernel
theorem dX4_gather_99 : decode cX4_gather 99 = .ok (.iload 6, 2) := by decide +kernel
theorem dX4_gather_101 : decode cX4_gather 101 = .ok (.aload_n 2, 1) := by decide +kernel
theorem dX4_gather_102 : decode cX4_gather 102 = .ok (.arraylength, 1) := by decide +kernel
theorem dX4_gather_103 : decode cX4_gather 103 = .ok (.if_icmp .ge 77, 3) := by decide +kernel
theorem dX4_gather_106 : decode cX4_gather 106 = .ok (.aload_n 0, 1) := by decide +kernel
theorem dX4_gather_107 : decode cX4_gather 107 = .ok (.aload_n 2, 1) := by decide +kernel
theorem dX4_gather_108 : decode cX4_gather 108 = .ok (.iload 6, 2) := by decide +kernel
theorem dX4_gather_110 : decode cX4_gather 110 = .ok (.aaload, 1) := by decide +kernel
theorem dX4_gather_111 : decode cX4_gather 111 = .ok (.invokevirtual 51, 3) := by decide +kernel
theorem dX4_gather_114 : decode cX4_gather 114 = .ok (.ifCond .eq 6, 3) := by decide +kernel
theorem dX4_gather_117 : decode cX4_gather 117 = .ok (.goto 63, 3) := by decide +kernel
theorem dX4_gather_120 : decode cX4_gather 120 = .ok (.aload_n 0, 1) := by decide +kernel
theorem dX4_gather_121 : decode cX4_gather 121 = .ok (.getfield 9, 3) := by decide +kernel
theorem dX4_gather_124 : decode cX4_gather 124 = .ok (.iload 5, 2) := by decide +kernel
theorem dX4_gather_126 : decode cX4_gather 126 = .ok (.aload_n 0, 1) := by decide +kernel
theorem dX4_gather_127 : decode cX4_gather 127 = .ok (.getfield 15, 3) := by decide +kernel
theorem dX4_gather_130 : decode cX4_gather 130 = .ok (.iload 5, 2) := by decide +kernel
theorem dX4_gather_132 : decode cX4_gather 132 = .ok (.iload 4, 2) := by decide +kernel
theorem dX4_gather_134 : decode cX4_gather 134 = .ok (.invokevirtual 55, 3) := by decide +kernel
theorem dX4_gather_137 : decode cX4_gather 137 = .ok (.iastore, 1) := by decide +kernel
theorem dX4_gather_138 : decode cX4_gather 138 = .ok (.aload_n 0, 1) := by decide +kernel
theorem dX4_gather_139 : decode cX4_gather 139 = .ok (.dup, 1) := by decide +kernel
theorem dX4_gather_140 : decode cX4_gather 140 = .ok (.getfield 27, 3) := by decide +kernel
theorem dX4_gather_143 : decode cX4_gather 143 = .ok (.iconst 1, 1) := by decide +kernel
theorem dX4_gather_144 : decode cX4_gather 144 = .ok (.iadd, 1) := by decide +kernel
theorem dX4_gather_145 : decode cX4_gather 145 = .ok (.putfield 27, 3) := by decide +kernel
theorem dX4_gather_148 : decode cX4_gather 148 = .ok (.aload_n 0, 1) := by decide +kernel
theorem dX4_gather_149 : decode cX4_gather 149 = .ok (.dup, 1) := by decide +kernel
theorem dX4_gather_150 : decode cX4_gather 150 = .ok (.getfield 31, 3) := by decide +kernel
theorem dX4_gather_153 : decode cX4_gather 153 = .ok (.aload_n 0, 1) := by decide +kernel
theorem dX4_gather_154 : decode cX4_gather 154 = .ok (.getfield 15, 3) := by decide +kernel
theorem dX4_gather_157 : decode cX4_gather 157 = .ok (.getfield 59, 3) := by decide +kernel
theorem dX4_gather_160 : decode cX4_gather 160 = .ok (.iload 5, 2) := by decide +kernel
theorem dX4_gather_162 : decode cX4_gather 162 = .ok (.iaload, 1) := by decide +kernel
theorem dX4_gather_163 : decode cX4_gather 163 = .ok (.iadd, 1) := by decide +kernel
theorem dX4_gather_164 : decode cX4_gather 164 = .ok (.putfield 31, 3) := by decide +kernel
theorem dX4_gather_167 : decode cX4_gather 167 = .ok (.aload_n 0, 1) := by decide +kernel
theorem dX4_gather_168 : decode cX4_gather 168 = .ok (.dup, 1) := by decide +kernel
theorem dX4_gather_169 : decode cX4_gather 169 = .ok (.getfield 34, 3) := by decide +kernel
theorem dX4_gather_172 : decode cX4_gather 172 = .ok (.iconst 1, 1) := by decide +kernel
theorem dX4_gather_173 : decode cX4_gather 173 = .ok (.iload 6, 2) := by decide +kernel
theorem dX4_gather_175 : decode cX4_gather 175 = .ok (.ishl, 1) := by decide +kernel
theorem dX4_gather_176 : decode cX4_gather 176 = .ok (.ior, 1) := by decide +kernel
theorem dX4_gather_177 : decode cX4_gather 177 = .ok (.putfield 34, 3) := by decide +kernel
theorem dX4_gather_180 : decode cX4_gather 180 = .ok (.iinc 5 1, 3) := by decide +kernel
theorem dX4_gather_183 : decode cX4_gather 183 = .ok (.goto (-165), 3) := by decide +kernel
theorem dX4_gather_186 : decode cX4_gather 186 = .ok (.return_, 1) := by decide +kernel
theorem dX4_hasFallen_0 : decode cX4_hasFallen 0 = .ok (.aload_n 1, 1) := by decide +kernel
theorem dX4_hasFallen_1 : decode cX4_hasFallen 1 = .ok (.ifnull 21, 3) := by decide +kernel
theorem dX4_hasFallen_4 : decode cX4_hasFallen 4 = .ok (.aload_n 0, 1) := by decide +kernel
theorem dX4_hasFallen_5 : decode cX4_hasFallen 5 = .ok (.getfield 19, 3) := by decide +kernel
theorem dX4_hasFallen_8 : decode cX4_hasFallen 8 = .ok (.getfield 62, 3) := by decide +kernel
theorem dX4_hasFallen_11 : decode cX4_hasFallen 11 = .ok (.aload_n 1, 1) := by decide +kernel
theorem dX4_hasFallen_12 : decode cX4_hasFallen 12 = .ok (.getfield 67, 3) := by decide +kernel
theorem dX4_hasFallen_15 : decode cX4_hasFallen 15 = .ok (.iushr, 1) := by decide +kernel
theorem dX4_hasFallen_16 : decode cX4_hasFallen 16 = .ok (.iconst 1, 1) := by decide +kernel
theorem dX4_hasFallen_17 : decode cX4_hasFallen 17 = .ok (.iand, 1) := by decide +kernel
theorem dX4_hasFallen_18 : decode cX4_hasFallen 18 = .ok (.iconst 1, 1) := by decide +kernel
theorem dX4_hasFallen_19 : decode cX4_hasFallen 19 = .ok (.if_icmp .ne 7, 3) := by decide +kernel
theorem dX4_hasFallen_22 : decode cX4_hasFallen 22 = .ok (.iconst 1, 1) := by decide +kernel
theorem dX4_hasFallen_23 : decode cX4_hasFallen 23 = .ok (.goto 4, 3) := by decide +kernel
theorem dX4_hasFallen_26 : decode cX4_hasFallen 26 = .ok (.iconst 0, 1) := by decide +kernel
theorem dX4_hasFallen_27 : decode cX4_hasFallen 27 = .ok (.ireturn, 1) := by decide +kernel
theorem dX4_reckonWorst_0 : decode cX4_reckonWorst 0 = .ok (.aload_n 0, 1) := by decide +kernel
theorem dX4_reckonWorst_1 : decode cX4_reckonWorst 1 = .ok (.aload_n 1, 1) := by decide +kernel
theorem dX4_reckonWorst_2 : decode cX4_reckonWorst 2 = .ok (.iload_n 2, 1) := by decide +kernel
theorem dX4_reckonWorst_3 : decode cX4_reckonWorst 3 = .ok (.invokevirtual 72, 3) := by decide +kernel
theorem dX4_reckonWorst_6 : decode cX4_reckonWorst 6 = .ok (.istore_n 3, 1) := by decide +kernel
theorem dX4_reckonWorst_7 : decode cX4_reckonWorst 7 = .ok (.iload_n 3, 1) := by decide +kernel
theorem dX4_reckonWorst_8 : decode cX4_reckonWorst 8 = .ok (.invokestatic 76, 3) := by decide +kernel
theorem dX4_reckonWorst_11 : decode cX4_reckonWorst 11 = .ok (.istore 4, 2) := by decide +kernel
theorem dX4_reckonWorst_13 : decode cX4_reckonWorst 13 = .ok (.iload 4, 2) := by decide +kernel
theorem dX4_reckonWorst_15 : decode cX4_reckonWorst 15 = .ok (.bipush 8, 2) := by decide +kernel
theorem dX4_reckonWorst_17 : decode cX4_reckonWorst 17 = .ok (.if_icmp .le 5, 3) := by decide +kernel
theorem dX4_reckonWorst_20 : decode cX4_reckonWorst 20 = .ok (.iconst 0, 1) := by decide +kernel
theorem dX4_reckonWorst_21 : decode cX4_reckonWorst 21 = .ok (.ireturn, 1) := by decide +kernel
theorem dX4_reckonWorst_22 : decode cX4_reckonWorst 22 = .ok (.aload_n 0, 1) := by decide +kernel
theorem dX4_reckonWorst_23 : decode cX4_reckonWorst 23 = .ok (.iconst 0, 1) := by decide +kernel
theorem dX4_reckonWorst_24 : decode cX4_reckonWorst 24 = .ok (.putfield 82, 3) := by decide +kernel
theorem dX4_reckonWorst_27 : decode cX4_reckonWorst 27 = .ok (.aload_n 0, 1) := by decide +kernel
theorem dX4_reckonWorst_28 : decode cX4_reckonWorst 28 = .ok (.iconst 0, 1) := by decide +kernel
theorem dX4_reckonWorst_29 : decode cX4_reckonWorst 29 = .ok (.putfield 85, 3) := by decide +kernel
theorem dX4_reckonWorst_32 : decode cX4_reckonWorst 32 = .ok (.iconst 0, 1) := by decide +kernel
theorem dX4_reckonWorst_33 : decode cX4_reckonWorst 33 = .ok (.istore 5, 2) := by decide +kernel
theorem dX4_reckonWorst_35 : decode cX4_reckonWorst 35 = .ok (.iconst 0, 1) := by decide +kernel
theorem dX4_reckonWorst_36 : decode cX4_reckonWorst 36 = .ok (.istore 6, 2) := by decide +kernel
theorem dX4_reckonWorst_38 : decode cX4_reckonWorst 38 = .ok (.iload 6, 2) := by decide +kernel
theorem dX4_reckonWorst_40 : decode cX4_reckonWorst 40 = .ok (.iconst 1, 1) := by decide +kernel
theorem dX4_reckonWorst_41 : decode cX4_reckonWorst 41 = .ok (.iload 4, 2) := by decide +kernel
theorem dX4_reckonWorst_43 : decode cX4_reckonWorst 43 = .ok (.ishl, 1) := by decide +kernel
theorem dX4_reckonWorst_44 : decode cX4_reckonWorst 44 = .ok (.if_icmp .ge 29, 3) := by decide +kernel
theorem dX4_reckonWorst_47 : decode cX4_reckonWorst 47 = .ok (.aload_n 0, 1) := by decide +kernel
theorem dX4_reckonWorst_48 : decode cX4_reckonWorst 48 = .ok (.aload_n 0, 1) := by decide +kernel
theorem dX4_reckonWorst_49 : decode cX4_reckonWorst 49 = .ok (.iload 5, 2) := by decide +kernel
theorem dX4_reckonWorst_51 : decode cX4_reckonWorst 51 = .ok (.aload_n 1, 1) := by decide +kernel
theorem dX4_reckonWorst_52 : decode cX4_reckonWorst 52 = .ok (.iload_n 2, 1) := by decide +kernel
theorem dX4_reckonWorst_53 : decode cX4_reckonWorst 53 = .ok (.invokevirtual 88, 3) := by decide +kernel
theorem dX4_reckonWorst_56 : decode cX4_reckonWorst 56 = .ok (.invokevirtual 92, 3) := by decide +kernel
theorem dX4_reckonWorst_59 : decode cX4_reckonWorst 59 = .ok (.iload 5, 2) := by decide +kernel
theorem dX4_reckonWorst_61 : decode cX4_reckonWorst 61 = .ok (.iload_n 3, 1) := by decide +kernel
theorem dX4_reckonWorst_62 : decode cX4_reckonWorst 62 = .ok (.isub, 1) := by decide +kernel
theorem dX4_reckonWorst_63 : decode cX4_reckonWorst 63 = .ok (.iload_n 3, 1) := by decide +kernel
theorem dX4_reckonWorst_64 : decode cX4_reckonWorst 64 = .ok (.iand, 1) := by decide +kernel
theorem dX4_reckonWorst_65 : decode cX4_reckonWorst 65 = .ok (.istore 5, 2) := by decide +kernel
theorem dX4_reckonWorst_67 : decode cX4_reckonWorst 67 = .ok (.iinc 6 1, 3) := by decide +kernel
theorem dX4_reckonWorst_70 : decode cX4_reckonWorst 70 = .ok (.goto (-32), 3) := by decide +kernel
theorem dX4_reckonWorst_73 : decode cX4_reckonWorst 73 = .ok (.iconst 1, 1) := by decide +kernel
theorem dX4_reckonWorst_74 : decode cX4_reckonWorst 74 = .ok (.ireturn, 1) := by decide +kernel
theorem dX4_tally_0 : decode cX4_tally 0 = .ok (.aload_n 0, 1) := by decide +kernel
theorem dX4_tally_1 : decode cX4_tally 1 = .ok (.getfield 85, 3) := by decide +kernel
theorem dX4_tally_4 : decode cX4_tally 4 = .ok (.ifCond .eq 11, 3) := by decide +kernel
theorem dX4_tally_7 : decode cX4_tally 7 = .ok (.iload_n 1, 1) := by decide +kernel
theorem dX4_tally_8 : decode cX4_tally 8 = .ok (.aload_n 0, 1) := by decide +kernel
theorem dX4_tally_9 : decode cX4_tally 9 = .ok (.getfield 82, 3) := by decide +kernel
theorem dX4_tally_12 : decode cX4_tally 12 = .ok (.if_icmp .ge 16, 3) := by decide +kernel
theorem dX4_tally_15 : decode cX4_tally 15 = .ok (.aload_n 0, 1) := by decide +kernel
theorem dX4_tally_16 : decode cX4_tally 16 = .ok (.iload_n 1, 1) := by decide +kernel
theorem dX4_tally_17 : decode cX4_tally 17 = .ok (.putfield 82, 3) := by decide +kernel
theorem dX4_tally_20 : decode cX4_tally 20 = .ok (.aload_n 0, 1) := by decide +kernel
theorem dX4_tally_21 : decode cX4_tally 21 = .ok (.iconst 1, 1) := by decide +kernel
theorem dX4_tally_22 : decode cX4_tally 22 = .ok (.putfield 85, 3) := by decide +kernel
theorem dX4_tally_25 : decode cX4_tally 25 = .ok (.goto 21, 3) := by decide +kernel
theorem dX4_tally_28 : decode cX4_tally 28 = .ok (.iload_n 1, 1) := by decide +kernel
theorem dX4_tally_29 : decode cX4_tally 29 = .ok (.aload_n 0, 1) := by decide +kernel
theorem dX4_tally_30 : decode cX4_tally 30 = .ok (.getfield 82, 3) := by decide +kernel
theorem dX4_tally_33 : decode cX4_tally 33 = .ok (.if_icmp .ne 13, 3) := by decide +kernel
theorem dX4_tally_36 : decode cX4_tally 36 = .ok (.aload_n 0, 1) := by decide +kernel
theorem dX4_tally_37 : decode cX4_tally 37 = .ok (.dup, 1) := by decide +kernel
theorem dX4_tally_38 : decode cX4_tally 38 = .ok (.getfield 85, 3) := by decide +kernel
theorem dX4_tally_41 : decode cX4_tally 41 = .ok (.iconst 1, 1) := by decide +kernel
theorem dX4_tally_42 : decode cX4_tally 42 = .ok (.iadd, 1) := by decide +kernel
theorem dX4_tally_43 : decode cX4_tally 43 = .ok (.putfield 85, 3) := by decide +kernel
theorem dX4_tally_46 : decode cX4_tally 46 = .ok (.return_, 1) := by decide +kernel
theorem dX4_doubtfulOnes_0 : decode cX4_doubtfulOnes 0 = .ok (.iconst 0, 1) := by decide +kernel
theorem dX4_doubtfulOnes_1 : decode cX4_doubtfulOnes 1 = .ok (.istore_n 3, 1) := by decide +kernel
theorem dX4_doubtfulOnes_2 : decode cX4_doubtfulOnes 2 = .ok (.iconst 0, 1) := by decide +kernel
theorem dX4_doubtfulOnes_3 : decode cX4_doubtfulOnes 3 = .ok (.istore 4, 2) := by decide +kernel
theorem dX4_doubtfulOnes_5 : decode cX4_doubtfulOnes 5 = .ok (.iconst 0, 1) := by decide +kernel
theorem dX4_doubtfulOnes_6 : decode cX4_doubtfulOnes 6 = .ok (.istore 5, 2) := by decide +kernel
theorem dX4_doubtfulOnes_8 : decode cX4_doubtfulOnes 8 = .ok (.iload 5, 2) := by decide +kernel
theorem dX4_doubtfulOnes_10 : decode cX4_doubtfulOnes 10 = .ok (.iload_n 2, 1) := by decide +kernel
theorem dX4_doubtfulOnes_11 : decode cX4_doubtfulOnes 11 = .ok (.if_icmp .ge 64, 3) := by decide +kernel
theorem dX4_doubtfulOnes_14 : decode cX4_doubtfulOnes 14 = .ok (.iload 5, 2) := by decide +kernel
theorem dX4_doubtfulOnes_16 : decode cX4_doubtfulOnes 16 = .ok (.aload_n 1, 1) := by decide +kernel
theorem dX4_doubtfulOnes_17 : decode cX4_doubtfulOnes 17 = .ok (.arraylength, 1) := by decide +kernel
theorem dX4_doubtfulOnes_18 : decode cX4_doubtfulOnes 18 = .ok (.if_icmp .ge 57, 3) := by decide +kernel
theorem dX4_doubtfulOnes_21 : decode cX4_doubtfulOnes 21 = .ok (.aload_n 1, 1) := by decide +kernel
theorem dX4_doubtfulOnes_22 : decode cX4_doubtfulOnes 22 = .ok (.iload 5, 2) := by decide +kernel
theorem dX4_doubtfulOnes_24 : decode cX4_doubtfulOnes 24 = .ok (.aaload, 1) := by decide +kernel
theorem dX4_doubtfulOnes_25 : decode cX4_doubtfulOnes 25 = .ok (.astore 6, 2) := by decide +kernel
theorem dX4_doubtfulOnes_27 : decode cX4_doubtfulOnes 27 = .ok (.aload 6, 2) := by decide +kernel
theorem dX4_doubtfulOnes_29 : decode cX4_doubtfulOnes 29 = .ok (.ifnull 40, 3) := by decide +kernel
theorem dX4_doubtfulOnes_32 : decode cX4_doubtfulOnes 32 = .ok (.aload_n 0, 1) := by decide +kernel
theorem dX4_doubtfulOnes_33 : decode cX4_doubtfulOnes 33 = .ok (.getfield 34, 3) := by decide +kernel
theorem dX4_doubtfulOnes_36 : decode cX4_doubtfulOnes 36 = .ok (.iload 5, 2) := by decide +kernel
theorem dX4_doubtfulOnes_38 : decode cX4_doubtfulOnes 38 = .ok (.iushr, 1) := by decide +kernel
theorem dX4_doubtfulOnes_39 : decode cX4_doubtfulOnes 39 = .ok (.iconst 1, 1) := by decide +kernel
theorem dX4_doubtfulOnes_40 : decode cX4_doubtfulOnes 40 = .ok (.iand, 1) := by decide +kernel
theorem dX4_doubtfulOnes_41 : decode cX4_doubtfulOnes 41 = .ok (.iconst 1, 1) := by decide +kernel
theorem dX4_doubtfulOnes_42 : decode cX4_doubtfulOnes 42 = .ok (.if_icmp .ne 27, 3) := by decide +kernel
theorem dX4_doubtfulOnes_45 : decode cX4_doubtfulOnes 45 = .ok (.iload_n 3, 1) := by decide +kernel
theorem dX4_doubtfulOnes_46 : decode cX4_doubtfulOnes 46 = .ok (.aload_n 0, 1) := by decide +kernel
theorem dX4_doubtfulOnes_47 : decode cX4_doubtfulOnes 47 = .ok (.getfield 19, 3) := by decide +kernel
theorem dX4_doubtfulOnes_50 : decode cX4_doubtfulOnes 50 = .ok (.aload 6, 2) := by decide +kernel
theorem dX4_doubtfulOnes_52 : decode cX4_doubtfulOnes 52 = .ok (.invokevirtual 96, 3) := by decide +kernel
theorem dX4_doubtfulOnes_55 : decode cX4_doubtfulOnes 55 = .ok (.ior, 1) := by decide +kernel
theorem dX4_doubtfulOnes_56 : decode cX4_doubtfulOnes 56 = .ok (.istore_n 3, 1) := by decide +kernel
theorem dX4_doubtfulOnes_57 : decode cX4_doubtfulOnes 57 = .ok (.iload 4, 2) := by decide +kernel
theorem dX4_doubtfulOnes_59 : decode cX4_doubtfulOnes 59 = .ok (.iconst 1, 1) := by decide +kernel
theorem dX4_doubtfulOnes_60 : decode cX4_doubtfulOnes 60 = .ok (.aload 6, 2) := by decide +kernel
theorem dX4_doubtfulOnes_62 : decode cX4_doubtfulOnes 62 = .ok (.getfield 67, 3) := by decide +kernel
theorem dX4_doubtfulOnes_65 : decode cX4_doubtfulOnes 65 = .ok (.ishl, 1) := by decide +kernel
theorem dX4_doubtfulOnes_66 : decode cX4_doubtfulOnes 66 = .ok (.ior, 1) := by decide +kernel
theorem dX4_doubtfulOnes_67 : decode cX4_doubtfulOnes 67 = .ok (.istore 4, 2) := by decide +kernel
theorem dX4_doubtfulOnes_69 : decode cX4_doubtfulOnes 69 = .ok (.iinc 5 1, 3) := by decide +kernel
theorem dX4_doubtfulOnes_72 : decode cX4_doubtfulOnes 72 = .ok (.goto (-64), 3) := by decide +kernel
theorem dX4_doubtfulOnes_75 : decode cX4_doubtfulOnes 75 = .ok (.iload_n 3, 1) := by decide +kernel
theorem dX4_doubtfulOnes_76 : decode cX4_doubtfulOnes 76 = .ok (.aload_n 0, 1) := by decide +kernel
theorem dX4_doubtfulOnes_77 : decode cX4_doubtfulOnes 77 = .ok (.getfield 19, 3) := by decide +kernel
theorem dX4_doubtfulOnes_80 : decode cX4_doubtfulOnes 80 = .ok (.getfield 62, 3) := by decide +kernel
theorem dX4_doubtfulOnes_83 : decode cX4_doubtfulOnes 83 = .ok (.iconst (-1), 1) := by decide +kernel
theorem dX4_doubtfulOnes_84 : decode cX4_doubtfulOnes 84 = .ok (.ixor, 1) := by decide +kernel
theorem dX4_doubtfulOnes_85 : decode cX4_doubtfulOnes 85 = .ok (.iand, 1) := by decide +kernel
theorem dX4_doubtfulOnes_86 : decode cX4_doubtfulOnes 86 = .ok (.iload 4, 2) := by decide +kernel
theorem dX4_doubtfulOnes_88 : decode cX4_doubtfulOnes 88 = .ok (.iconst (-1), 1) := by decide +kernel
theorem dX4_doubtfulOnes_89 : decode cX4_doubtfulOnes 89 = .ok (.ixor, 1) := by decide +kernel
theorem dX4_doubtfulOnes_90 : decode cX4_doubtfulOnes 90 = .ok (.iand, 1) := by decide +kernel
theorem dX4_doubtfulOnes_91 : decode cX4_doubtfulOnes 91 = .ok (.ireturn, 1) := by decide +kernel
theorem dX4_broughtBy_0 : decode cX4_broughtBy 0 = .ok (.iconst 0, 1) := by decide +kernel
theorem dX4_broughtBy_1 : decode cX4_broughtBy 1 = .ok (.istore 4, 2) := by decide +kernel
theorem dX4_broughtBy_3 : decode cX4_broughtBy 3 = .ok (.iconst 0, 1) := by decide +kernel
theorem dX4_broughtBy_4 : decode cX4_broughtBy 4 = .ok (.istore 5, 2) := by decide +kernel
theorem dX4_broughtBy_6 : decode cX4_broughtBy 6 = .ok (.iload 5, 2) := by decide +kernel
theorem dX4_broughtBy_8 : decode cX4_broughtBy 8 = .ok (.iload_n 3, 1) := by decide +kernel
theorem dX4_broughtBy_9 : decode cX4_broughtBy 9 = .ok (.if_icmp .ge 154, 3) := by decide +kernel
theorem dX4_broughtBy_12 : decode cX4_broughtBy 12 = .ok (.iload 5, 2) := by decide +kernel
theorem dX4_broughtBy_14 : decode cX4_broughtBy 14 = .ok (.aload_n 2, 1) := by decide +kernel
theorem dX4_broughtBy_15 : decode cX4_broughtBy 15 = .ok (.arraylength, 1) := by decide +kernel
theorem dX4_broughtBy_16 : decode cX4_broughtBy 16 = .ok (.if_icmp .ge 147, 3) := by decide +kernel
theorem dX4_broughtBy_19 : decode cX4_broughtBy 19 = .ok (.aload_n 2, 1) := by decide +kernel
theorem dX4_broughtBy_20 : decode cX4_broughtBy 20 = .ok (.iload 5, 2) := by decide +kernel
theorem dX4_broughtBy_22 : decode cX4_broughtBy 22 = .ok (.aaload, 1) := by decide +kernel
theorem dX4_broughtBy_23 : decode cX4_broughtBy 23 = .ok (.astore 6, 2) := by decide +kernel
theorem dX4_broughtBy_25 : decode cX4_broughtBy 25 = .ok (.aload 6, 2) := by decide +kernel
theorem dX4_broughtBy_27 : decode cX4_broughtBy 27 = .ok (.ifnull 130, 3) := by decide +kernel
theorem dX4_broughtBy_30 : decode cX4_broughtBy 30 = .ok (.aload_n 0, 1) := by decide +kernel
theorem dX4_broughtBy_31 : decode cX4_broughtBy 31 = .ok (.getfield 34, 3) := by decide +kernel
theorem dX4_broughtBy_34 : decode cX4_broughtBy 34 = .ok (.iload 5, 2) := by decide +kernel
theorem dX4_broughtBy_36 : decode cX4_broughtBy 36 = .ok (.iushr, 1) := by decide +kernel
theorem dX4_broughtBy_37 : decode cX4_broughtBy 37 = .ok (.iconst 1, 1) := by decide +kernel
theorem dX4_broughtBy_38 : decode cX4_broughtBy 38 = .ok (.iand, 1) := by decide +kernel
theorem dX4_broughtBy_39 : decode cX4_broughtBy 39 = .ok (.ifCond .ne 6, 3) := by decide +kernel
theorem dX4_broughtBy_42 : decode cX4_broughtBy 42 = .ok (.goto 115, 3) := by decide +kernel
theorem dX4_broughtBy_45 : decode cX4_broughtBy 45 = .ok (.aload_n 0, 1) := by decide +kernel
theorem dX4_broughtBy_46 : decode cX4_broughtBy 46 = .ok (.getfield 23, 3) := by decide +kernel
theorem dX4_broughtBy_49 : decode cX4_broughtBy 49 = .ok (.aload 6, 2) := by decide +kernel
theorem dX4_broughtBy_51 : decode cX4_broughtBy 51 = .ok (.aload_n 0, 1) := by decide +kernel
theorem dX4_broughtBy_52 : decode cX4_broughtBy 52 = .ok (.getfield 19, 3) := by decide +kernel
theorem dX4_broughtBy_55 : decode cX4_broughtBy 55 = .ok (.iload_n 1, 1) := by decide +kernel
theorem dX4_broughtBy_56 : decode cX4_broughtBy 56 = .ok (.aload_n 0, 1) := by decide +kernel
theorem dX4_broughtBy_57 : decode cX4_broughtBy 57 = .ok (.getfield 19, 3) := by decide +kernel
theorem dX4_broughtBy_60 : decode cX4_broughtBy 60 = .ok (.aload 6, 2) := by decide +kernel
theorem dX4_broughtBy_62 : decode cX4_broughtBy 62 = .ok (.invokevirtual 96, 3) := by decide +kernel
theorem dX4_broughtBy_65 : decode cX4_broughtBy 65 = .ok (.iand, 1) := by decide +kernel
theorem dX4_broughtBy_66 : decode cX4_broughtBy 66 = .ok (.invokevirtual 100, 3) := by decide +kernel
theorem dX4_broughtBy_69 : decode cX4_broughtBy 69 = .ok (.iconst 0, 1) := by decide +kernel
theorem dX4_broughtBy_70 : decode cX4_broughtBy 70 = .ok (.istore 7, 2) := by decide +kernel
theorem dX4_broughtBy_72 : decode cX4_broughtBy 72 = .ok (.iload 7, 2) := by decide +kernel
theorem dX4_broughtBy_74 : decode cX4_broughtBy 74 = .ok (.aload_n 0, 1) := by decide +kernel
theorem dX4_broughtBy_75 : decode cX4_broughtBy 75 = .ok (.getfield 15, 3) := by decide +kernel
theorem dX4_broughtBy_78 : decode cX4_broughtBy 78 = .ok (.getfield 37, 3) := by decide +kernel
theorem dX4_broughtBy_81 : decode cX4_broughtBy 81 = .ok (.if_icmp .ge 76, 3) := by decide +kernel
theorem dX4_broughtBy_84 : decode cX4_broughtBy 84 = .ok (.iload 7, 2) := by decide +kernel
theorem dX4_broughtBy_86 : decode cX4_broughtBy 86 = .ok (.bipush 40, 2) := by decide +kernel
theorem dX4_broughtBy_88 : decode cX4_broughtBy 88 = .ok (.if_icmp .ge 69, 3) := by decide +kernel
theorem dX4_broughtBy_91 : decode cX4_broughtBy 91 = .ok (.aload_n 0, 1) := by decide +kernel
theorem dX4_broughtBy_92 : decode cX4_broughtBy 92 = .ok (.getfield 15, 3) := by decide +kernel
theorem dX4_broughtBy_95 : decode cX4_broughtBy 95 = .ok (.getfield 42, 3) := by decide +kernel
theorem dX4_broughtBy_98 : decode cX4_broughtBy 98 = .ok (.iload 7, 2) := by decide +kernel
theorem dX4_broughtBy_100 : decode cX4_broughtBy 100 = .ok (.iaload, 1) := by decide +kernel
theorem dX4_broughtBy_101 : decode cX4_broughtBy 101 = .ok (.iload 5, 2) := by decide +kernel
theorem dX4_broughtBy_103 : decode cX4_broughtBy 103 = .ok (.if_icmp .ne 48, 3) := by decide +kernel
theorem dX4_broughtBy_106 : decode cX4_broughtBy 106 = .ok (.aload_n 0, 1) := by decide +kernel
theorem dX4_broughtBy_107 : decode cX4_broughtBy 107 = .ok (.getfield 9, 3) := by decide +kernel
theorem dX4_broughtBy_110 : decode cX4_broughtBy 110 = .ok (.iload 7, 2) := by decide +kernel
theorem dX4_broughtBy_112 : decode cX4_broughtBy 112 = .ok (.iaload, 1) := by decide +kernel
theorem dX4_broughtBy_113 : decode cX4_broughtBy 113 = .ok (.iconst (-1), 1) := by decide +kernel
theorem dX4_broughtBy_114 : decode cX4_broughtBy 114 = .ok (.if_icmp .eq 37, 3) := by decide +kernel
theorem dX4_broughtBy_117 : decode cX4_broughtBy 117 = .ok (.iload 4, 2) := by decide +kernel
theorem dX4_broughtBy_119 : decode cX4_broughtBy 119 = .ok (.aload_n 0, 1) := by decide +kernel
theorem dX4_broughtBy_120 : decode cX4_broughtBy 120 = .ok (.getfield 23, 3) := by decide +kernel
theorem dX4_broughtBy_123 : decode cX4_broughtBy 123 = .ok (.aload_n 0, 1) := by decide +kernel
theorem dX4_broughtBy_124 : decode cX4_broughtBy 124 = .ok (.getfield 15, 3) := by decide +kernel
theorem dX4_broughtBy_127 : decode cX4_broughtBy 127 = .ok (.getfield 106, 3) := by decide +kernel
theorem dX4_broughtBy_130 : decode cX4_broughtBy 130 = .ok (.iload 7, 2) := by decide +kernel
theorem dX4_broughtBy_132 : decode cX4_broughtBy 132 = .ok (.iaload, 1) := by decide +kernel
theorem dX4_broughtBy_133 : decode cX4_broughtBy 133 = .ok (.invokevirtual 109, 3) := by decide +kernel
theorem dX4_broughtBy_136 : decode cX4_broughtBy 136 = .ok (.aload_n 0, 1) := by decide +kernel
theorem dX4_broughtBy_137 : decode cX4_broughtBy 137 = .ok (.getfield 9, 3) := by decide +kernel
theorem dX4_broughtBy_140 : decode cX4_broughtBy 140 = .ok (.iload 7, 2) := by decide +kernel
theorem dX4_broughtBy_142 : decode cX4_broughtBy 142 = .ok (.iaload, 1) := by decide +kernel
theorem dX4_broughtBy_143 : decode cX4_broughtBy 143 = .ok (.imul, 1) := by decide +kernel
theorem dX4_broughtBy_144 : decode cX4_broughtBy 144 = .ok (.sipush 1000, 3) := by decide +kernel
theorem dX4_broughtBy_147 : decode cX4_broughtBy 147 = .ok (.idiv, 1) := by decide +kernel
theorem dX4_broughtBy_148 : decode cX4_broughtBy 148 = .ok (.iadd, 1) := by decide +kernel
theorem dX4_broughtBy_149 : decode cX4_broughtBy 149 = .ok (.istore 4, 2) := by decide +kernel
theorem dX4_broughtBy_151 : decode cX4_broughtBy 151 = .ok (.iinc 7 1, 3) := by decide +kernel
theorem dX4_broughtBy_154 : decode cX4_broughtBy 154 = .ok (.goto (-82), 3) := by decide +kernel
theorem dX4_broughtBy_157 : decode cX4_broughtBy 157 = .ok (.iinc 5 1, 3) := by decide +kernel
theorem dX4_broughtBy_160 : decode cX4_broughtBy 160 = .ok (.goto (-154), 3) := by decide +kernel
theorem dX4_broughtBy_163 : decode cX4_broughtBy 163 = .ok (.iload 4, 2) := by decide +kernel
theorem dX4_broughtBy_165 : decode cX4_broughtBy 165 = .ok (.ireturn, 1) := by decide +kernel
theorem dX5_init_0 : decode cX5_init 0 = .ok (.aload_n 0, 1) := by decide +kernel
theorem dX5_init_1 : decode cX5_init 1 = .ok (.invokespecial 3, 3) := by decide +kernel
theorem dX5_init_4 : decode cX5_init 4 = .ok (.aload_n 0, 1) := by decide +kernel
theorem dX5_init_5 : decode cX5_init 5 = .ok (.bipush 16, 2) := by decide +kernel
theorem dX5_init_7 : decode cX5_init 7 = .ok (.newarray .int, 2) := by decide +kernel
theorem dX5_init_9 : decode cX5_init 9 = .ok (.putfield 9, 3) := by decide +kernel
theorem dX5_init_12 : decode cX5_init 12 = .ok (.return_, 1) := by decide +kernel
theorem dX5_learn_0 : decode cX5_learn 0 = .ok (.aload_n 0, 1) := by decide +kernel
theorem dX5_learn_1 : decode cX5_learn 1 = .ok (.iconst 0, 1) := by decide +kernel
theorem dX5_learn_2 : decode cX5_learn 2 = .ok (.putfield 15, 3) := by decide +kernel
theorem dX5_learn_5 : decode cX5_learn 5 = .ok (.aload_n 0, 1) := by decide +kernel
theorem dX5_learn_6 : decode cX5_learn 6 = .ok (.iconst 0, 1) := by decide +kernel
theorem dX5_learn_7 : decode cX5_learn 7 = .ok (.putfield 19, 3) := by decide +kernel
theorem dX5_learn_10 : decode cX5_learn 10 = .ok (.iconst 0, 1) := by decide +kernel
theorem dX5_learn_11 : decode cX5_learn 11 = .ok (.istore_n 3, 1) := by decide +kernel
theorem dX5_learn_12 : decode cX5_learn 12 = .ok (.iload_n 3, 1) := by decide +kernel
theorem dX5_learn_13 : decode cX5_learn 13 = .ok (.bipush 16, 2) := by decide +kernel
theorem dX5_learn_15 : decode cX5_learn 15 = .ok (.if_icmp .ge 16, 3) := by decide +kernel
theorem dX5_learn_18 : decode cX5_learn 18 = .ok (.aload_n 0, 1) := by decide +kernel
theorem dX5_learn_19 : decode cX5_learn 19 = .ok (.getfield 9, 3) := by decide +kernel
theorem dX5_learn_22 : decode cX5_learn 22 = .ok (.iload_n 3, 1) := by decide +kernel
theorem dX5_learn_23 : decode cX5_learn 23 = .ok (.iconst 0, 1) := by decide +kernel
theorem dX5_learn_24 : decode cX5_learn 24 = .ok (.iastore, 1) := by decide +kernel
theorem dX5_learn_25 : decode cX5_learn 25 = .ok (.iinc 3 1, 3) := by decide +kernel
theorem dX5_learn_28 : decode cX5_learn 28 = .ok (.goto (-16), 3) := by decide +kernel
theorem dX5_learn_31 : decode cX5_learn 31 = .ok (.iconst 0, 1) := by decide +kernel
theorem dX5_learn_32 : decode cX5_learn 32 = .ok (.istore_n 3, 1) := by decide +kernel
theorem dX5_learn_33 : decode cX5_learn 33 = .ok (.iload_n 3, 1) := by decide +kernel
theorem dX5_learn_34 : decode cX5_learn 34 = .ok (.aload_n 1, 1) := by decide +kernel
theorem dX5_learn_35 : decode cX5_learn 35 = .ok (.getfield 22, 3) := by decide +kernel
theorem dX5_learn_38 : decode cX5_learn 38 = .ok (.if_icmp .ge 98, 3) := by decide +kernel
theorem dX5_learn_41 : decode cX5_learn 41 = .ok (.iload_n 3, 1) := by decide +kernel
theorem dX5_learn_42 : decode cX5_learn 42 = .ok (.bipush 16, 2) := by decide +kernel
theorem dX5_learn_44 : decode cX5_learn 44 = .ok (.if_icmp .ge 92, 3) := by decide +kernel
theorem dX5_learn_47 : decode cX5_learn 47 = .ok (.aload_n 1, 1) := by decide +kernel
theorem dX5_learn_48 : decode cX5_learn 48 = .ok (.getfield 27, 3) := by decide +kernel
theorem dX5_learn_51 : decode cX5_learn 51 = .ok (.iload_n 3, 1) := by decide +kernel
theorem dX5_learn_52 : decode cX5_learn 52 = .ok (.iaload, 1) := by decide +kernel
theorem dX5_learn_53 : decode cX5_learn 53 = .ok (.iload_n 2, 1) := by decide +kernel
theorem dX5_learn_54 : decode cX5_learn 54 = .ok (.if_icmp .le 6, 3) := by decide +kernel
theorem dX5_learn_57 : decode cX5_learn 57 = .ok (.goto 73, 3) := by decide +kernel
theorem dX5_learn_60 : decode cX5_learn 60 = .ok (.aload_n 0, 1) := by decide +kernel
theorem dX5_learn_61 : decode cX5_learn 61 = .ok (.dup, 1) := by decide +kernel
theorem dX5_learn_62 : decode cX5_learn 62 = .ok (.getfield 15, 3) := by decide +kernel
theorem dX5_learn_65 : decode cX5_learn 65 = .ok (.iconst 1, 1) := by decide +kernel
theorem dX5_learn_66 : decode cX5_learn 66 = .ok (.iload_n 3, 1) := by decide +kernel
theorem dX5_learn_67 : decode cX5_learn 67 = .ok (.ishl, 1) := by decide +kernel
theorem dX5_learn_68 : decode cX5_learn 68 = .ok (.ior, 1) := by decide +kernel
theorem dX5_learn_69 : decode cX5_learn 69 = .ok (.putfield 15, 3) := by decide +kernel
theorem dX5_learn_72 : decode cX5_learn 72 = .ok (.aload_n 0, 1) := by decide +kernel
theorem dX5_learn_73 : decode cX5_learn 73 = .ok (.dup, 1) := by decide +kernel
theorem dX5_learn_74 : decode cX5_learn 74 = .ok (.getfield 19, 3) := by decide +kernel
theorem dX5_learn_77 : decode cX5_learn 77 = .ok (.aload_n 1, 1) := by decide +kernel
theorem dX5_learn_78 : decode cX5_learn 78 = .ok (.iload_n 3, 1) := by decide +kernel
theorem dX5_learn_79 : decode cX5_learn 79 = .ok (.iload_n 2, 1) := by decide +kernel
theorem dX5_learn_80 : decode cX5_learn 80 = .ok (.invokevirtual 30, 3) := by decide +kernel
theorem dX5_learn_83 : decode cX5_learn 83 = .ok (.ifCond .eq 9, 3) := by decide +kernel
theorem dX5_learn_86 : decode cX5_learn 86 = .ok (.iconst 1, 1) := by decide +kernel
theorem dX5_learn_87 : decode cX5_learn 87 = .ok (.iload_n 3, 1) := by decide +kernel
theorem dX5_learn_88 : decode cX5_learn 88 = .ok (.ishl, 1) := by decide +kernel
theorem dX5_learn_89 : decode cX5_learn 89 = .ok (.goto 4, 3) := by decide +kernel
theorem dX5_learn_92 : decode cX5_learn 92 = .ok (.iconst 0, 1) := by decide +kernel
theorem dX5_learn_93 : decode cX5_learn 93 = .ok (.ior, 1) := by decide +kernel
theorem dX5_learn_94 : decode cX5_learn 94 = .ok (.putfield 19, 3) := by decide +kernel
theorem dX5_learn_97 : decode cX5_learn 97 = .ok (.aload_n 1, 1) := by decide +kernel
theorem dX5_learn_98 : decode cX5_learn 98 = .ok (.getfield 34, 3) := by decide +kernel
theorem dX5_learn_101 : decode cX5_learn 101 = .ok (.iload_n 3, 1) := by decide +kernel
theorem dX5_learn_102 : decode cX5_learn 102 = .ok (.iaload, 1) := by decide +kernel
theorem dX5_learn_103 : decode cX5_learn 103 = .ok (.istore 4, 2) := by decide +kernel
theorem dX5_learn_105 : decode cX5_learn 105 = .ok (.iload 4, 2) := by decide +kernel
theorem dX5_learn_107 : decode cX5_learn 107 = .ok (.ifCond .lt 23, 3) := by decide +kernel
theorem dX5_learn_110 : decode cX5_learn 110 = .ok (.iload 4, 2) := by decide +kernel
theorem dX5_learn_112 : decode cX5_learn 112 = .ok (.bipush 16, 2) := by decide +kernel
theorem dX5_learn_114 : decode cX5_learn 114 = .ok (.if_icmp .ge 16, 3) := by decide +kernel
theorem dX5_learn_117 : decode cX5_learn 117 = .ok (.aload_n 0, 1) := by decide +kernel
theorem dX5_learn_118 : decode cX5_learn 118 = .ok (.getfield 9, 3) := by decide +kernel
theorem dX5_learn_121 : decode cX5_learn 121 = .ok (.iload 4, 2) := by decide +kernel
theorem dX5_learn_123 : decode cX5_learn 123 = .ok (.dup2, 1) := by decide +kernel
theorem dX5_learn_124 : decode cX5_learn 124 = .ok (.iaload, 1) := by decide +kernel
theorem dX5_learn_125 : decode cX5_learn 125 = .ok (.iconst 1, 1) := by decide +kernel
theorem dX5_learn_126 : decode cX5_learn 126 = .ok (.iload_n 3, 1) := by decide +kernel
theorem dX5_learn_127 : decode cX5_learn 127 = .ok (.ishl, 1) := by decide +kernel
theorem dX5_learn_128 : decode cX5_learn 128 = .ok (.ior, 1) := by decide +kernel
theorem dX5_learn_129 : decode cX5_learn 129 = .ok (.iastore, 1) := by decide +kernel
theorem dX5_learn_130 : decode cX5_learn 130 = .ok (.iinc 3 1, 3) := by decide +kernel
theorem dX5_learn_133 : decode cX5_learn 133 = .ok (.goto (-100), 3) := by decide +kernel
theorem dX5_learn_136 : decode cX5_learn 136 = .ok (.return_, 1) := by decide +kernel
theorem dX5_factsOf_0 : decode cX5_factsOf 0 = .ok (.iload_n 1, 1) := by decide +kernel
theorem dX5_factsOf_1 : decode cX5_factsOf 1 = .ok (.istore_n 2, 1) := by decide +kernel
theorem dX5_factsOf_2 : decode cX5_factsOf 2 = .ok (.iconst 0, 1) := by decide +kernel
theorem dX5_factsOf_3 : decode cX5_factsOf 3 = .ok (.istore_n 3, 1) := by decide +kernel
theorem dX5_factsOf_4 : decode cX5_factsOf 4 = .ok (.iload_n 3, 1) := by decide +kernel
theorem dX5_factsOf_5 : decode cX5_factsOf 5 = .ok (.bipush 16, 2) := by decide +kernel
theorem dX5_factsOf_7 : decode cX5_factsOf 7 = .ok (.if_icmp .ge 29, 3) := by decide +kernel
theorem dX5_factsOf_10 : decode cX5_factsOf 10 = .ok (.aload_n 0, 1) := by decide +kernel
theorem dX5_factsOf_11 : decode cX5_factsOf 11 = .ok (.getfield 9, 3) := by decide +kernel
theorem dX5_factsOf_14 : decode cX5_factsOf 14 = .ok (.iload_n 3, 1) := by decide +kernel
theorem dX5_factsOf_15 : decode cX5_factsOf 15 = .ok (.iaload, 1) := by decide +kernel
theorem dX5_factsOf_16 : decode cX5_factsOf 16 = .ok (.iload_n 1, 1) := by decide +kernel
theorem dX5_factsOf_17 : decode cX5_factsOf 17 = .ok (.iand, 1) := by decide +kernel
theorem dX5_factsOf_18 : decode cX5_factsOf 18 = .ok (.ifCond .eq 12, 3) := by decide +kernel
theorem dX5_factsOf_21 : decode cX5_factsOf 21 = .ok (.iload_n 2, 1) := by decide +kernel
theorem dX5_factsOf_22 : decode cX5_factsOf 22 = .ok (.iconst 1, 1) := by decide +kernel
theorem dX5_factsOf_23 : decode cX5_factsOf 23 = .ok (.bipush 16, 2) := by decide +kernel
theorem dX5_factsOf_25 : decode cX5_factsOf 25 = .ok (.iload_n 3, 1) := by decide +kernel
theorem dX5_factsOf_26 : decode cX5_factsOf 26 = .ok (.iadd, 1) := by decide +kernel
theorem dX5_factsOf_27 : decode cX5_factsOf 27 = .ok (.ishl, 1) := by decide +kernel
theorem dX5_factsOf_28 : decode cX5_factsOf 28 = .ok (.ior, 1) := by decide +kernel
theorem dX5_factsOf_29 : decode cX5_factsOf 29 = .ok (.istore_n 2, 1) := by decide +kernel
theorem dX5_factsOf_30 : decode cX5_factsOf 30 = .ok (.iinc 3 1, 3) := by decide +kernel
theorem dX5_factsOf_33 : decode cX5_factsOf 33 = .ok (.goto (-29), 3) := by decide +kernel
theorem dX5_factsOf_36 : decode cX5_factsOf 36 = .ok (.iload_n 2, 1) := by decide +kernel
theorem dX5_factsOf_37 : decode cX5_factsOf 37 = .ok (.ireturn, 1) := by decide +kernel
theorem dX5_childrenOf_0 : decode cX5_childrenOf 0 = .ok (.iload_n 1, 1) := by decide +kernel
theorem dX5_childrenOf_1 : decode cX5_childrenOf 1 = .ok (.ifCond .lt 18, 3) := by decide +kernel
theorem dX5_childrenOf_4 : decode cX5_childrenOf 4 = .ok (.iload_n 1, 1) := by decide +kernel
theorem dX5_childrenOf_5 : decode cX5_childrenOf 5 = .ok (.bipush 16, 2) := by decide +kernel
theorem dX5_childrenOf_7 : decode cX5_childrenOf 7 = .ok (.if_icmp .ge 12, 3) := by decide +kernel
theorem dX5_childrenOf_10 : decode cX5_childrenOf 10 = .ok (.aload_n 0, 1) := by decide +kernel
theorem dX5_childrenOf_11 : decode cX5_childrenOf 11 = .ok (.getfield 9, 3) := by decide +kernel
theorem dX5_childrenOf_14 : decode cX5_childrenOf 14 = .ok (.iload_n 1, 1) := by decide +kernel
theorem dX5_childrenOf_15 : decode cX5_childrenOf 15 = .ok (.iaload, 1) := by decide +kernel
theorem dX5_childrenOf_16 : decode cX5_childrenOf 16 = .ok (.goto 4, 3) := by decide +kernel
theorem dX5_childrenOf_19 : decode cX5_childrenOf 19 = .ok (.iconst 0, 1) := by decide +kernel
theorem dX5_childrenOf_20 : decode cX5_childrenOf 20 = .ok (.ireturn, 1) := by decide +kernel
theorem dX5_namedIn_0 : decode cX5_namedIn 0 = .ok (.aload_n 1, 1) := by decide +kernel
theorem dX5_namedIn_1 : decode cX5_namedIn 1 = .ok (.getfield 39, 3) := by decide +kernel
theorem dX5_namedIn_4 : decode cX5_namedIn 4 = .ok (.aload_n 0, 1) := by decide +kernel
theorem dX5_namedIn_5 : decode cX5_namedIn 5 = .ok (.getfield 15, 3) := by decide +kernel
theorem dX5_namedIn_8 : decode cX5_namedIn 8 = .ok (.iand, 1) := by decide +kernel
theorem dX5_namedIn_9 : decode cX5_namedIn 9 = .ok (.istore_n 2, 1) := by decide +kernel
theorem dX5_namedIn_10 : decode cX5_namedIn 10 = .ok (.iconst 0, 1) := by decide +kernel
theorem dX5_namedIn_11 : decode cX5_namedIn 11 = .ok (.istore_n 3, 1) := by decide +kernel
theorem dX5_namedIn_12 : decode cX5_namedIn 12 = .ok (.iload_n 3, 1) := by decide +kernel
theorem dX5_namedIn_13 : decode cX5_namedIn 13 = .ok (.bipush 16, 2) := by decide +kernel
theorem dX5_namedIn_15 : decode cX5_namedIn 15 = .ok (.if_icmp .ge 30, 3) := by decide +kernel
theorem dX5_namedIn_18 : decode cX5_namedIn 18 = .ok (.aload_n 1, 1) := by decide +kernel
theorem dX5_namedIn_19 : decode cX5_namedIn 19 = .ok (.getfield 42, 3) := by decide +kernel
theorem dX5_namedIn_22 : decode cX5_namedIn 22 = .ok (.iload_n 3, 1) := by decide +kernel
theorem dX5_namedIn_23 : decode cX5_namedIn 23 = .ok (.iushr, 1) := by decide +kernel
theorem dX5_namedIn_24 : decode cX5_namedIn 24 = .ok (.iconst 1, 1) := by decide +kernel
theorem dX5_namedIn_25 : decode cX5_namedIn 25 = .ok (.iand, 1) := by decide +kernel
theorem dX5_namedIn_26 : decode cX5_namedIn 26 = .ok (.iconst 1, 1) := by decide +kernel
theorem dX5_namedIn_27 : decode cX5_namedIn 27 = .ok (.if_icmp .ne 12, 3) := by decide +kernel
theorem dX5_namedIn_30 : decode cX5_namedIn 30 = .ok (.iload_n 2, 1) := by decide +kernel
theorem dX5_namedIn_31 : decode cX5_namedIn 31 = .ok (.aload_n 0, 1) := by decide +kernel
theorem dX5_namedIn_32 : decode cX5_namedIn 32 = .ok (.getfield 9, 3) := by decide +kernel
theorem dX5_namedIn_35 : decode cX5_namedIn 35 = .ok (.iload_n 3, 1) := by decide +kernel
theorem dX5_namedIn_36 : decode cX5_namedIn 36 = .ok (.iaload, 1) := by decide +kernel
theorem dX5_namedIn_37 : decode cX5_namedIn 37 = .ok (.ior, 1) := by decide +kernel
theorem dX5_namedIn_38 : decode cX5_namedIn 38 = .ok (.istore_n 2, 1) := by decide +kernel
theorem dX5_namedIn_39 : decode cX5_namedIn 39 = .ok (.iinc 3 1, 3) := by decide +kernel
theorem dX5_namedIn_42 : decode cX5_namedIn 42 = .ok (.goto (-30), 3) := by decide +kernel
theorem dX5_namedIn_45 : decode cX5_namedIn 45 = .ok (.iload_n 2, 1) := by decide +kernel
theorem dX5_namedIn_46 : decode cX5_namedIn 46 = .ok (.iconst 1, 1) := by decide +kernel
theorem dX5_namedIn_47 : decode cX5_namedIn 47 = .ok (.aload_n 1, 1) := by decide +kernel
theorem dX5_namedIn_48 : decode cX5_namedIn 48 = .ok (.getfield 45, 3) := by decide +kernel
theorem dX5_namedIn_51 : decode cX5_namedIn 51 = .ok (.ishl, 1) := by decide +kernel
theorem dX5_namedIn_52 : decode cX5_namedIn 52 = .ok (.iconst (-1), 1) := by decide +kernel
theorem dX5_namedIn_53 : decode cX5_namedIn 53 = .ok (.ixor, 1) := by decide +kernel
theorem dX5_namedIn_54 : decode cX5_namedIn 54 = .ok (.iand, 1) := by decide +kernel
theorem dX5_namedIn_55 : decode cX5_namedIn 55 = .ok (.ireturn, 1) := by decide +kernel
theorem dX6_init_0 : decode cX6_init 0 = .ok (.aload_n 0, 1) := by decide +kernel
theorem dX6_init_1 : decode cX6_init 1 = .ok (.invokespecial 3, 3) := by decide +kernel
theorem dX6_init_4 : decode cX6_init 4 = .ok (.aload_n 0, 1) := by decide +kernel
theorem dX6_init_5 : decode cX6_init 5 = .ok (.bipush 48, 2) := by decide +kernel
theorem dX6_init_7 : decode cX6_init 7 = .ok (.newarray .int, 2) := by decide +kernel
theorem dX6_init_9 : decode cX6_init 9 = .ok (.putfield 9, 3) := by decide +kernel
theorem dX6_init_12 : decode cX6_init 12 = .ok (.aload_n 0, 1) := by decide +kernel
theorem dX6_init_13 : decode cX6_init 13 = .ok (.iconst 5, 1) := by decide +kernel
theorem dX6_init_14 : decode cX6_init 14 = .ok (.putfield 15, 3) := by decide +kernel
theorem dX6_init_17 : decode cX6_init 17 = .ok (.return_, 1) := by decide +kernel
theorem dX6_put_0 : decode cX6_put 0 = .ok (.iload_n 1, 1) := by decide +kernel
theorem dX6_put_1 : decode cX6_put 1 = .ok (.ifCond .lt 29, 3) := by decide +kernel
theorem dX6_put_4 : decode cX6_put 4 = .ok (.iload_n 1, 1) := by decide +kernel
theorem dX6_put_5 : decode cX6_put 5 = .ok (.iconst 4, 1) := by decide +kernel
theorem dX6_put_6 : decode cX6_put 6 = .ok (.if_icmp .ge 24, 3) := by decide +kernel
theorem dX6_put_9 : decode cX6_put 9 = .ok (.iload_n 2, 1) := by decide +kernel
theorem dX6_put_10 : decode cX6_put 10 = .ok (.ifCond .lt 20, 3) := by decide +kernel
theorem dX6_put_13 : decode cX6_put 13 = .ok (.iload_n 2, 1) := by decide +kernel
theorem dX6_put_14 : decode cX6_put 14 = .ok (.bipush 10, 2) := by decide +kernel
theorem dX6_put_16 : decode cX6_put 16 = .ok (.if_icmp .gt 14, 3) := by decide +kernel
theorem dX6_put_19 : decode cX6_put 19 = .ok (.iload_n 3, 1) := by decide +kernel
theorem dX6_put_20 : decode cX6_put 20 = .ok (.ifCond .lt 10, 3) := by decide +kernel
theorem dX6_put_23 : decode cX6_put 23 = .ok (.iload_n 3, 1) := by decide +kernel
theorem dX6_put_24 : decode cX6_put 24 = .ok (.sipush 200, 3) := by decide +kernel
theorem dX6_put_27 : decode cX6_put 27 = .ok (.if_icmp .le 5, 3) := by decide +kernel
theorem dX6_put_30 : decode cX6_put 30 = .ok (.iconst 0, 1) := by decide +kernel
theorem dX6_put_31 : decode cX6_put 31 = .ok (.ireturn, 1) := by decide +kernel
theorem dX6_put_32 : decode cX6_put 32 = .ok (.iload_n 1, 1) := by decide +kernel
theorem dX6_put_33 : decode cX6_put 33 = .ok (.bipush 12, 2) := by decide +kernel
theorem dX6_put_35 : decode cX6_put 35 = .ok (.imul, 1) := by decide +kernel
theorem dX6_put_36 : decode cX6_put 36 = .ok (.iload_n 2, 1) := by decide +kernel
theorem dX6_put_37 : decode cX6_put 37 = .ok (.iadd, 1) := by decide +kernel
theorem dX6_put_38 : decode cX6_put 38 = .ok (.istore 4, 2) := by decide +kernel
theorem dX6_put_40 : decode cX6_put 40 = .ok (.iload_n 2, 1) := by decide +kernel
theorem dX6_put_41 : decode cX6_put 41 = .ok (.ifCond .le 16, 3) := by decide +kernel
theorem dX6_put_44 : decode cX6_put 44 = .ok (.iload_n 3, 1) := by decide +kernel
theorem dX6_put_45 : decode cX6_put 45 = .ok (.aload_n 0, 1) := by decide +kernel
theorem dX6_put_46 : decode cX6_put 46 = .ok (.getfield 9, 3) := by decide +kernel
theorem dX6_put_49 : decode cX6_put 49 = .ok (.iload 4, 2) := by decide +kernel
theorem dX6_put_51 : decode cX6_put 51 = .ok (.iconst 1, 1) := by decide +kernel
theorem dX6_put_52 : decode cX6_put 52 = .ok (.isub, 1) := by decide +kernel
theorem dX6_put_53 : decode cX6_put 53 = .ok (.iaload, 1) := by decide +kernel
theorem dX6_put_54 : decode cX6_put 54 = .ok (.if_icmp .gt 16, 3) := by decide +kernel
theorem dX6_put_57 : decode cX6_put 57 = .ok (.iload_n 3, 1) := by decide +kernel
theorem dX6_put_58 : decode cX6_put 58 = .ok (.aload_n 0, 1) := by decide +kernel
theorem dX6_put_59 : decode cX6_put 59 = .ok (.getfield 9, 3) := by decide +kernel
theorem dX6_put_62 : decode cX6_put 62 = .ok (.iload 4, 2) := by decide +kernel
theorem dX6_put_64 : decode cX6_put 64 = .ok (.iconst 1, 1) := by decide +kernel
theorem dX6_put_65 : decode cX6_put 65 = .ok (.iadd, 1) := by decide +kernel
theorem dX6_put_66 : decode cX6_put 66 = .ok (.iaload, 1) := by decide +kernel
theorem dX6_put_67 : decode cX6_put 67 = .ok (.if_icmp .ge 5, 3) := by decide +kernel
theorem dX6_put_70 : decode cX6_put 70 = .ok (.iconst 0, 1) := by decide +kernel
theorem dX6_put_71 : decode cX6_put 71 = .ok (.ireturn, 1) := by decide +kernel
theorem dX6_put_72 : decode cX6_put 72 = .ok (.aload_n 0, 1) := by decide +kernel
theorem dX6_put_73 : decode cX6_put 73 = .ok (.getfield 9, 3) := by decide +kernel
theorem dX6_put_76 : decode cX6_put 76 = .ok (.iload 4, 2) := by decide +kernel
theorem dX6_put_78 : decode cX6_put 78 = .ok (.iload_n 3, 1) := by decide +kernel
theorem dX6_put_79 : decode cX6_put 79 = .ok (.iastore, 1) := by decide +kernel
theorem dX6_put_80 : decode cX6_put 80 = .ok (.iconst 1, 1) := by decide +kernel
theorem dX6_put_81 : decode cX6_put 81 = .ok (.ireturn, 1) := by decide +kernel
theorem dX6_livesAt_0 : decode cX6_livesAt 0 = .ok (.iload_n 1, 1) := by decide +kernel
theorem dX6_livesAt_1 : decode cX6_livesAt 1 = .ok (.ifCond .lt 18, 3) := by decide +kernel
theorem dX6_livesAt_4 : decode cX6_livesAt 4 = .ok (.iload_n 1, 1) := by decide +kernel
theorem dX6_livesAt_5 : decode cX6_livesAt 5 = .ok (.iconst 4, 1) := by decide +kernel
theorem dX6_livesAt_6 : decode cX6_livesAt 6 = .ok (.if_icmp .ge 13, 3) := by decide +kernel
theorem dX6_livesAt_9 : decode cX6_livesAt 9 = .ok (.iload_n 2, 1) := by decide +kernel
theorem dX6_livesAt_10 : decode cX6_livesAt 10 = .ok (.ifCond .lt 9, 3) := by decide +kernel
theorem dX6_livesAt_13 : decode cX6_livesAt 13 = .ok (.iload_n 2, 1) := by decide +kernel
theorem dX6_livesAt_14 : decode cX6_livesAt 14 = .ok (.bipush 110, 2) := by decide +kernel
theorem dX6_livesAt_16 : decode cX6_livesAt 16 = .ok (.if_icmp .lt 5, 3) := by decide +kernel
theorem dX6_livesAt_19 : decode cX6_livesAt 19 = .ok (.iconst 0, 1) := by decide +kernel
theorem dX6_livesAt_20 : decode cX6_livesAt 20 = .ok (.ireturn, 1) := by decide +kernel
theorem dX6_livesAt_21 : decode cX6_livesAt 21 = .ok (.iload_n 1, 1) := by decide +kernel
theorem dX6_livesAt_22 : decode cX6_livesAt 22 = .ok (.bipush 12, 2) := by decide +kernel
theorem dX6_livesAt_24 : decode cX6_livesAt 24 = .ok (.imul, 1) := by decide +kernel
theorem dX6_livesAt_25 : decode cX6_livesAt 25 = .ok (.iload_n 2, 1) := by decide +kernel
theorem dX6_livesAt_26 : decode cX6_livesAt 26 = .ok (.bipush 10, 2) := by decide +kernel
theorem dX6_livesAt_28 : decode cX6_livesAt 28 = .ok (.idiv, 1) := by decide +kernel
theorem dX6_livesAt_29 : decode cX6_livesAt 29 = .ok (.iadd, 1) := by decide +kernel
theorem dX6_livesAt_30 : decode cX6_livesAt 30 = .ok (.istore_n 3, 1) := by decide +kernel
theorem dX6_livesAt_31 : decode cX6_livesAt 31 = .ok (.aload_n 0, 1) := by decide +kernel
theorem dX6_livesAt_32 : decode cX6_livesAt 32 = .ok (.getfield 9, 3) := by decide +kernel
theorem dX6_livesAt_35 : decode cX6_livesAt 35 = .ok (.iload_n 3, 1) := by decide +kernel
theorem dX6_livesAt_36 : decode cX6_livesAt 36 = .ok (.iaload, 1) := by decide +kernel
theorem dX6_livesAt_37 : decode cX6_livesAt 37 = .ok (.aload_n 0, 1) := by decide +kernel
theorem dX6_livesAt_38 : decode cX6_livesAt 38 = .ok (.getfield 9, 3) := by decide +kernel
theorem dX6_livesAt_41 : decode cX6_livesAt 41 = .ok (.iload_n 3, 1) := by decide +kernel
theorem dX6_livesAt_42 : decode cX6_livesAt 42 = .ok (.iaload, 1) := by decide +kernel
theorem dX6_livesAt_43 : decode cX6_livesAt 43 = .ok (.aload_n 0, 1) := by decide +kernel
theorem dX6_livesAt_44 : decode cX6_livesAt 44 = .ok (.getfield 9, 3) := by decide +kernel
theorem dX6_livesAt_47 : decode cX6_livesAt 47 = .ok (.iload_n 3, 1) := by decide +kernel
theorem dX6_livesAt_48 : decode cX6_livesAt 48 = .ok (.iconst 1, 1) := by decide +kernel
theorem dX6_livesAt_49 : decode cX6_livesAt 49 = .ok (.iadd, 1) := by decide +kernel
theorem dX6_livesAt_50 : decode cX6_livesAt 50 = .ok (.iaload, 1) := by decide +kernel
theorem dX6_livesAt_51 : decode cX6_livesAt 51 = .ok (.isub, 1) := by decide +kernel
theorem dX6_livesAt_52 : decode cX6_livesAt 52 = .ok (.iload_n 2, 1) := by decide +kernel
theorem dX6_livesAt_53 : decode cX6_livesAt 53 = .ok (.bipush 10, 2) := by decide +kernel
theorem dX6_livesAt_55 : decode cX6_livesAt 55 = .ok (.irem, 1) := by decide +kernel
theorem dX6_livesAt_56 : decode cX6_livesAt 56 = .ok (.imul, 1) := by decide +kernel
theorem dX6_livesAt_57 : decode cX6_livesAt 57 = .ok (.bipush 10, 2) := by decide +kernel
theorem dX6_livesAt_59 : decode cX6_livesAt 59 = .ok (.idiv, 1) := by decide +kernel
theorem dX6_livesAt_60 : decode cX6_livesAt 60 = .ok (.isub, 1) := by decide +kernel
theorem dX6_livesAt_61 : decode cX6_livesAt 61 = .ok (.ireturn, 1) := by decide +kernel
theorem dX6_discounted_0 : decode cX6_discounted 0 = .ok (.bipush 100, 2) := by decide +kernel
theorem dX6_discounted_2 : decode cX6_discounted 2 = .ok (.aload_n 0, 1) := by decide +kernel
theorem dX6_discounted_3 : decode cX6_discounted 3 = .ok (.getfield 15, 3) := by decide +kernel
theorem dX6_discounted_6 : decode cX6_discounted 6 = .ok (.iadd, 1) := by decide +kernel
theorem dX6_discounted_7 : decode cX6_discounted 7 = .ok (.istore_n 3, 1) := by decide +kernel
theorem dX6_discounted_8 : decode cX6_discounted 8 = .ok (.iload_n 3, 1) := by decide +kernel
theorem dX6_discounted_9 : decode cX6_discounted 9 = .ok (.ifCond .le 14, 3) := by decide +kernel
theorem dX6_discounted_12 : decode cX6_discounted 12 = .ok (.lload_n 1, 1) := by decide +kernel
theorem dX6_discounted_13 : decode cX6_discounted 13 = .ok (.ldc2_w 19, 3) := by decide +kernel
theorem dX6_discounted_16 : decode cX6_discounted 16 = .ok (.lmul, 1) := by decide +kernel
theorem dX6_discounted_17 : decode cX6_discounted 17 = .ok (.iload_n 3, 1) := by decide +kernel
theorem dX6_discounted_18 : decode cX6_discounted 18 = .ok (.i2l, 1) := by decide +kernel
theorem dX6_discounted_19 : decode cX6_discounted 19 = .ok (.ldiv, 1) := by decide +kernel
theorem dX6_discounted_20 : decode cX6_discounted 20 = .ok (.goto 4, 3) := by decide +kernel
theorem dX6_discounted_23 : decode cX6_discounted 23 = .ok (.lconst 0, 1) := by decide +kernel
theorem dX6_discounted_24 : decode cX6_discounted 24 = .ok (.lreturn, 1) := by decide +kernel
theorem dX6_discountOf_0 : decode cX6_discountOf 0 = .ok (.ldc2_w 21, 3) := by decide +kernel
theorem dX6_discountOf_3 : decode cX6_discountOf 3 = .ok (.lstore_n 2, 1) := by decide +kernel
theorem dX6_discountOf_4 : decode cX6_discountOf 4 = .ok (.iconst 0, 1) := by decide +kernel
theorem dX6_discountOf_5 : decode cX6_discountOf 5 = .ok (.istore 4, 2) := by decide +kernel
theorem dX6_discountOf_7 : decode cX6_discountOf 7 = .ok (.iload 4, 2) := by decide +kernel
theorem dX6_discountOf_9 : decode cX6_discountOf 9 = .ok (.iload_n 1, 1) := by decide +kernel
theorem dX6_discountOf_10 : decode cX6_discountOf 10 = .ok (.if_icmp .ge 15, 3) := by decide +kernel
theorem dX6_discountOf_13 : decode cX6_discountOf 13 = .ok (.aload_n 0, 1) := by decide +kernel
theorem dX6_discountOf_14 : decode cX6_discountOf 14 = .ok (.lload_n 2, 1) := by decide +kernel
theorem dX6_discountOf_15 : decode cX6_discountOf 15 = .ok (.invokevirtual 23, 3) := by decide +kernel
theorem dX6_discountOf_18 : decode cX6_discountOf 18 = .ok (.lstore_n 2, 1) := by decide +kernel
theorem dX6_discountOf_19 : decode cX6_discountOf 19 = .ok (.iinc 4 1, 3) := by decide +kernel
theorem dX6_discountOf_22 : decode cX6_discountOf 22 = .ok (.goto (-15), 3) := by decide +kernel
theorem dX6_discountOf_25 : decode cX6_discountOf 25 = .ok (.lload_n 2, 1) := by decide +kernel
theorem dX6_discountOf_26 : decode cX6_discountOf 26 = .ok (.l2i, 1) := by decide +kernel
theorem dX6_discountOf_27 : decode cX6_discountOf 27 = .ok (.ireturn, 1) := by decide +kernel
theorem dX6_grown_0 : decode cX6_grown 0 = .ok (.lload_n 1, 1) := by decide +kernel
theorem dX6_grown_1 : decode cX6_grown 1 = .ok (.lstore 4, 2) := by decide +kernel
theorem dX6_grown_3 : decode cX6_grown 3 = .ok (.iconst 0, 1) := by decide +kernel
theorem dX6_grown_4 : decode cX6_grown 4 = .ok (.istore 6, 2) := by decide +kernel
theorem dX6_grown_6 : decode cX6_grown 6 = .ok (.iload 6, 2) := by decide +kernel
theorem dX6_grown_8 : decode cX6_grown 8 = .ok (.iload_n 3, 1) := by decide +kernel
theorem dX6_grown_9 : decode cX6_grown 9 = .ok (.if_icmp .ge 32, 3) := by decide +kernel
theorem dX6_grown_12 : decode cX6_grown 12 = .ok (.lload 4, 2) := by decide +kernel
theorem dX6_grown_14 : decode cX6_grown 14 = .ok (.bipush 100, 2) := by decide +kernel
theorem dX6_grown_16 : decode cX6_grown 16 = .ok (.aload_n 0, 1) := by decide +kernel
theorem dX6_grown_17 : decode cX6_grown 17 = .ok (.getfield 15, 3) := by decide +kernel
theorem dX6_grown_20 : decode cX6_grown 20 = .ok (.iadd, 1) := by decide +kernel
theorem dX6_grown_21 : decode cX6_grown 21 = .ok (.i2l, 1) := by decide +kernel
theorem dX6_grown_22 : decode cX6_grown 22 = .ok (.lmul, 1) := by decide +kernel
theorem dX6_grown_23 : decode cX6_grown 23 = .ok (.ldc2_w 19, 3) := by decide +kernel
theorem dX6_grown_26 : decode cX6_grown 26 = .ok (.ldiv, 1) := by decide +kernel
theorem dX6_grown_27 : decode cX6_grown 27 = .ok (.ldc2_w 27, 3) := by decide +kernel
theorem dX6_grown_30 : decode cX6_grown 30 = .ok (.invokestatic 29, 3) := by decide +kernel
theorem dX6_grown_33 : decode cX6_grown 33 = .ok (.lstore 4, 2) := by decide +kernel
theorem dX6_grown_35 : decode cX6_grown 35 = .ok (.iinc 6 1, 3) := by decide +kernel
theorem dX6_grown_38 : decode cX6_grown 38 = .ok (.goto (-32), 3) := by decide +kernel
theorem dX6_grown_41 : decode cX6_grown 41 = .ok (.lload 4, 2) := by decide +kernel
theorem dX6_grown_43 : decode cX6_grown 43 = .ok (.lreturn, 1) := by decide +kernel
theorem dX6_coverOf_0 : decode cX6_coverOf 0 = .ok (.aload_n 0, 1) := by decide +kernel
theorem dX6_coverOf_1 : decode cX6_coverOf 1 = .ok (.iload_n 1, 1) := by decide +kernel
theorem dX6_coverOf_2 : decode cX6_coverOf 2 = .ok (.iload_n 2, 1) := by decide +kernel
theorem dX6_coverOf_3 : decode cX6_coverOf 3 = .ok (.invokevirtual 35, 3) := by decide +kernel
theorem dX6_coverOf_6 : decode cX6_coverOf 6 = .ok (.i2l, 1) := by decide +kernel
theorem dX6_coverOf_7 : decode cX6_coverOf 7 = .ok (.aload_n 0, 1) := by decide +kernel
theorem dX6_coverOf_8 : decode cX6_coverOf 8 = .ok (.iload_n 1, 1) := by decide +kernel
theorem dX6_coverOf_9 : decode cX6_coverOf 9 = .ok (.iload_n 3, 1) := by decide +kernel
theorem dX6_coverOf_10 : decode cX6_coverOf 10 = .ok (.invokevirtual 35, 3) := by decide +kernel
theorem dX6_coverOf_13 : decode cX6_coverOf 13 = .ok (.i2l, 1) := by decide +kernel
theorem dX6_coverOf_14 : decode cX6_coverOf 14 = .ok (.lmul, 1) := by decide +kernel
theorem dX6_coverOf_15 : decode cX6_coverOf 15 = .ok (.lstore 6, 2) := by decide +kernel
theorem dX6_coverOf_17 : decode cX6_coverOf 17 = .ok (.lload 6, 2) := by decide +kernel
theorem dX6_coverOf_19 : decode cX6_coverOf 19 = .ok (.lconst 0, 1) := by decide +kernel
theorem dX6_coverOf_20 : decode cX6_coverOf 20 = .ok (.lcmp, 1) := by decide +kernel
theorem dX6_coverOf_21 : decode cX6_coverOf 21 = .ok (.ifCond .gt 7, 3) := by decide +kernel
theorem dX6_coverOf_24 : decode cX6_coverOf 24 = .ok (.ldc2_w 39, 3) := by decide +kernel
theorem dX6_coverOf_27 : decode cX6_coverOf 27 = .ok (.lreturn, 1) := by decide +kernel
theorem dX6_coverOf_28 : decode cX6_coverOf 28 = .ok (.lconst 0, 1) := by decide +kernel
theorem dX6_coverOf_29 : decode cX6_coverOf 29 = .ok (.lstore 8, 2) := by decide +kernel
theorem dX6_coverOf_31 : decode cX6_coverOf 31 = .ok (.ldc2_w 21, 3) := by decide +kernel
theorem dX6_coverOf_34 : decode cX6_coverOf 34 = .ok (.lstore 10, 2) := by decide +kernel
theorem dX6_coverOf_36 : decode cX6_coverOf 36 = .ok (.iconst 0, 1) := by decide +kernel
theorem dX6_coverOf_37 : decode cX6_coverOf 37 = .ok (.istore 12, 2) := by decide +kernel
theorem dX6_coverOf_39 : decode cX6_coverOf 39 = .ok (.iload 12, 2) := by decide +kernel
theorem dX6_coverOf_41 : decode cX6_coverOf 41 = .ok (.bipush 110, 2) := by decide +kernel
theorem dX6_coverOf_43 : decode cX6_coverOf 43 = .ok (.if_icmp .ge 76, 3) := by decide +kernel
theorem dX6_coverOf_46 : decode cX6_coverOf 46 = .ok (.aload_n 0, 1) := by decide +kernel
theorem dX6_coverOf_47 : decode cX6_coverOf 47 = .ok (.lload 10, 2) := by decide +kernel
theorem dX6_coverOf_49 : decode cX6_coverOf 49 = .ok (.invokevirtual 23, 3) := by decide +kernel
theorem dX6_coverOf_52 : decode cX6_coverOf 52 = .ok (.lstore 10, 2) := by decide +kernel
theorem dX6_coverOf_54 : decode cX6_coverOf 54 = .ok (.aload_n 0, 1) := by decide +kernel
theorem dX6_coverOf_55 : decode cX6_coverOf 55 = .ok (.iload_n 1, 1) := by decide +kernel
theorem dX6_coverOf_56 : decode cX6_coverOf 56 = .ok (.iload_n 2, 1) := by decide +kernel
theorem dX6_coverOf_57 : decode cX6_coverOf 57 = .ok (.iload 12, 2) := by decide +kernel
theorem dX6_coverOf_59 : decode cX6_coverOf 59 = .ok (.iadd, 1) := by decide +kernel
theorem dX6_coverOf_60 : decode cX6_coverOf 60 = .ok (.invokevirtual 35, 3) := by decide +kernel
theorem dX6_coverOf_63 : decode cX6_coverOf 63 = .ok (.aload_n 0, 1) := by decide +kernel
theorem dX6_coverOf_64 : decode cX6_coverOf 64 = .ok (.iload_n 1, 1) := by decide +kernel
theorem dX6_coverOf_65 : decode cX6_coverOf 65 = .ok (.iload_n 2, 1) := by decide +kernel
theorem dX6_coverOf_66 : decode cX6_coverOf 66 = .ok (.iload 12, 2) := by decide +kernel
theorem dX6_coverOf_68 : decode cX6_coverOf 68 = .ok (.iadd, 1) := by decide +kernel
theorem dX6_coverOf_69 : decode cX6_coverOf 69 = .ok (.iconst 1, 1) := by decide +kernel
theorem dX6_coverOf_70 : decode cX6_coverOf 70 = .ok (.iadd, 1) := by decide +kernel
theorem dX6_coverOf_71 : decode cX6_coverOf 71 = .ok (.invokevirtual 35, 3) := by decide +kernel
theorem dX6_coverOf_74 : decode cX6_coverOf 74 = .ok (.isub, 1) := by decide +kernel
theorem dX6_coverOf_75 : decode cX6_coverOf 75 = .ok (.i2l, 1) := by decide +kernel
theorem dX6_coverOf_76 : decode cX6_coverOf 76 = .ok (.lstore 13, 2) := by decide +kernel
theorem dX6_coverOf_78 : decode cX6_coverOf 78 = .ok (.lload 4, 2) := by decide +kernel
theorem dX6_coverOf_80 : decode cX6_coverOf 80 = .ok (.lload 13, 2) := by decide +kernel
theorem dX6_coverOf_82 : decode cX6_coverOf 82 = .ok (.lmul, 1) := by decide +kernel
theorem dX6_coverOf_83 : decode cX6_coverOf 83 = .ok (.aload_n 0, 1) := by decide +kernel
theorem dX6_coverOf_84 : decode cX6_coverOf 84 = .ok (.iload_n 1, 1) := by decide +kernel
theorem dX6_coverOf_85 : decode cX6_coverOf 85 = .ok (.iload_n 3, 1) := by decide +kernel
theorem dX6_coverOf_86 : decode cX6_coverOf 86 = .ok (.iload 12, 2) := by decide +kernel
theorem dX6_coverOf_88 : decode cX6_coverOf 88 = .ok (.iadd, 1) := by decide +kernel
theorem dX6_coverOf_89 : decode cX6_coverOf 89 = .ok (.invokevirtual 35, 3) := by decide +kernel
theorem dX6_coverOf_92 : decode cX6_coverOf 92 = .ok (.i2l, 1) := by decide +kernel
theorem dX6_coverOf_93 : decode cX6_coverOf 93 = .ok (.lmul, 1) := by decide +kernel
theorem dX6_coverOf_94 : decode cX6_coverOf 94 = .ok (.lload 6, 2) := by decide +kernel
theorem dX6_coverOf_96 : decode cX6_coverOf 96 = .ok (.ldiv, 1) := by decide +kernel
theorem dX6_coverOf_97 : decode cX6_coverOf 97 = .ok (.lstore 15, 2) := by decide +kernel
theorem dX6_coverOf_99 : decode cX6_coverOf 99 = .ok (.lload 8, 2) := by decide +kernel
theorem dX6_coverOf_101 : decode cX6_coverOf 101 = .ok (.lload 15, 2) := by decide +kernel
theorem dX6_coverOf_103 : decode cX6_coverOf 103 = .ok (.lload 10, 2) := by decide +kernel
theorem dX6_coverOf_105 : decode cX6_coverOf 105 = .ok (.lmul, 1) := by decide +kernel
theorem dX6_coverOf_106 : decode cX6_coverOf 106 = .ok (.ldc2_w 21, 3) := by decide +kernel
theorem dX6_coverOf_109 : decode cX6_coverOf 109 = .ok (.ldiv, 1) := by decide +kernel
theorem dX6_coverOf_110 : decode cX6_coverOf 110 = .ok (.ladd, 1) := by decide +kernel
theorem dX6_coverOf_111 : decode cX6_coverOf 111 = .ok (.lstore 8, 2) := by decide +kernel
theorem dX6_coverOf_113 : decode cX6_coverOf 113 = .ok (.iinc 12 1, 3) := by decide +kernel
theorem dX6_coverOf_116 : decode cX6_coverOf 116 = .ok (.goto (-77), 3) := by decide +kernel
theorem dX6_coverOf_119 : decode cX6_coverOf 119 = .ok (.lload 8, 2) := by decide +kernel
theorem dX6_coverOf_121 : decode cX6_coverOf 121 = .ok (.lreturn, 1) := by decide +kernel
theorem dX7_init_0 : decode cX7_init 0 = .ok (.aload_n 0, 1) := by decide +kernel
theorem dX7_init_1 : decode cX7_init 1 = .ok (.invokespecial 3, 3) := by decide +kernel
theorem dX7_init_4 : decode cX7_init 4 = .ok (.aload_n 0, 1) := by decide +kernel
theorem dX7_init_5 : decode cX7_init 5 = .ok (.bipush 16, 2) := by decide +kernel
theorem dX7_init_7 : decode cX7_init 7 = .ok (.newarray .int, 2) := by decide +kernel
theorem dX7_init_9 : decode cX7_init 9 = .ok (.putfield 9, 3) := by decide +kernel
theorem dX7_init_12 : decode cX7_init 12 = .ok (.aload_n 0, 1) := by decide +kernel
theorem dX7_init_13 : decode cX7_init 13 = .ok (.bipush 16, 2) := by decide +kernel
theorem dX7_init_15 : decode cX7_init 15 = .ok (.newarray .int, 2) := by decide +kernel
theorem dX7_init_17 : decode cX7_init 17 = .ok (.putfield 15, 3) := by decide +kernel
theorem dX7_init_20 : decode cX7_init 20 = .ok (.aload_n 0, 1) := by decide +kernel
theorem dX7_init_21 : decode cX7_init 21 = .ok (.bipush 16, 2) := by decide +kernel
theorem dX7_init_23 : decode cX7_init 23 = .ok (.newarray .int, 2) := by decide +kernel
theorem dX7_init_25 : decode cX7_init 25 = .ok (.putfield 18, 3) := by decide +kernel
theorem dX7_init_28 : decode cX7_init 28 = .ok (.aload_n 0, 1) := by decide +kernel
theorem dX7_init_29 : decode cX7_init 29 = .ok (.bipush 16, 2) := by decide +kernel
theorem dX7_init_31 : decode cX7_init 31 = .ok (.newarray .int, 2) := by decide +kernel
theorem dX7_init_33 : decode cX7_init 33 = .ok (.putfield 21, 3) := by decide +kernel
theorem dX7_init_36 : decode cX7_init 36 = .ok (.aload_n 0, 1) := by decide +kernel
theorem dX7_init_37 : decode cX7_init 37 = .ok (.bipush 16, 2) := by decide +kernel
theorem dX7_init_39 : decode cX7_init 39 = .ok (.newarray .int, 2) := by decide +kernel
theorem dX7_init_41 : decode cX7_init 41 = .ok (.putfield 24, 3) := by decide +kernel
theorem dX7_init_44 : decode cX7_init 44 = .ok (.aload_n 0, 1) := by decide +kernel
theorem dX7_init_45 : decode cX7_init 45 = .ok (.bipush 16, 2) := by decide +kernel
theorem dX7_init_47 : decode cX7_init 47 = .ok (.newarray .int, 2) := by decide +kernel
theorem dX7_init_49 : decode cX7_init 49 = .ok (.putfield 27, 3) := by decide +kernel
theorem dX7_init_52 : decode cX7_init 52 = .ok (.aload_n 0, 1) := by decide +kernel
theorem dX7_init_53 : decode cX7_init 53 = .ok (.bipush 16, 2) := by decide +kernel
theorem dX7_init_55 : decode cX7_init 55 = .ok (.newarray .int, 2) := by decide +kernel
theorem dX7_init_57 : decode cX7_init 57 = .ok (.putfield 30, 3) := by decide +kernel
theorem dX7_init_60 : decode cX7_init 60 = .ok (.return_, 1) := by decide +kernel
theorem dX7_has_0 : decode cX7_has 0 = .ok (.iload_n 1, 1) := by decide +kernel
theorem dX7_has_1 : decode cX7_has 1 = .ok (.ifCond .lt 21, 3) := by decide +kernel
theorem dX7_has_4 : decode cX7_has 4 = .ok (.iload_n 1, 1) := by decide +kernel
theorem dX7_has_5 : decode cX7_has 5 = .ok (.aload_n 0, 1) := by decide +kernel
theorem dX7_has_6 : decode cX7_has 6 = .ok (.getfield 33, 3) := by decide +kernel
theorem dX7_has_9 : decode cX7_has 9 = .ok (.if_icmp .ge 13, 3) := by decide +kernel
theorem dX7_has_12 : decode cX7_has 12 = .ok (.iload_n 1, 1) := by decide +kernel
theorem dX7_has_13 : decode cX7_has 13 = .ok (.bipush 16, 2) := by decide +kernel
theorem dX7_has_15 : decode cX7_has 15 = .ok (.if_icmp .ge 7, 3) := by decide +kernel
theorem dX7_has_18 : decode cX7_has 18 = .ok (.iconst 1, 1) := by decide +kernel
theorem dX7_has_19 : decode cX7_has 19 = .ok (.goto 4, 3) := by decide +kernel
theorem dX7_has_22 : decode cX7_has 22 = .ok (.iconst 0, 1) := by decide +kernel
theorem dX7_has_23 : decode cX7_has 23 = .ok (.ireturn, 1) := by decide +kernel
theorem dX7_add_0 : decode cX7_add 0 = .ok (.aload_n 0, 1) := by decide +kernel
theorem dX7_add_1 : decode cX7_add 1 = .ok (.getfield 33, 3) := by decide +kernel
theorem dX7_add_4 : decode cX7_add 4 = .ok (.ifCond .lt 12, 3) := by decide +kernel
theorem dX7_add_7 : decode cX7_add 7 = .ok (.aload_n 0, 1) := by decide +kernel
theorem dX7_add_8 : decode cX7_add 8 = .ok (.getfield 33, 3) := by decide +kernel
theorem dX7_add_11 : decode cX7_add 11 = .ok (.bipush 16, 2) := by decide +kernel
theorem dX7_add_13 : decode cX7_add 13 = .ok (.if_icmp .lt 5, 3) := by decide +kernel
theorem dX7_add_16 : decode cX7_add 16 = .ok (.iconst (-1), 1) := by decide +kernel
theorem dX7_add_17 : decode cX7_add 17 = .ok (.ireturn, 1) := by decide +kernel
theorem dX7_add_18 : decode cX7_add 18 = .ok (.aload_n 0, 1) := by decide +kernel
theorem dX7_add_19 : decode cX7_add 19 = .ok (.getfield 33, 3) := by decide +kernel
theorem dX7_add_22 : decode cX7_add 22 = .ok (.istore 4, 2) := by decide +kernel
theorem dX7_add_24 : decode cX7_add 24 = .ok (.aload_n 0, 1) := by decide +kernel
theorem dX7_add_25 : decode cX7_add 25 = .ok (.getfield 9, 3) := by decide +kernel
theorem dX7_add_28 : decode cX7_add 28 = .ok (.iload 4, 2) := by decide +kernel
theorem dX7_add_30 : decode cX7_add 30 = .ok (.iload_n 1, 1) := by decide +kernel
theorem dX7_add_31 : decode cX7_add 31 = .ok (.iastore, 1) := by decide +kernel
theorem dX7_add_32 : decode cX7_add 32 = .ok (.aload_n 0, 1) := by decide +kernel
theorem dX7_add_33 : decode cX7_add 33 = .ok (.getfield 15, 3) := by decide +kernel
theorem dX7_add_36 : decode cX7_add 36 = .ok (.iload 4, 2) := by decide +kernel
theorem dX7_add_38 : decode cX7_add 38 = .ok (.iload_n 2, 1) := by decide +kernel
theorem dX7_add_39 : decode cX7_add 39 = .ok (.iastore, 1) := by decide +kernel
theorem dX7_add_40 : decode cX7_add 40 = .ok (.aload_n 0, 1) := by decide +kernel
theorem dX7_add_41 : decode cX7_add 41 = .ok (.getfield 18, 3) := by decide +kernel
theorem dX7_add_44 : decode cX7_add 44 = .ok (.iload 4, 2) := by decide +kernel
theorem dX7_add_46 : decode cX7_add 46 = .ok (.iload_n 3, 1) := by decide +kernel
theorem dX7_add_47 : decode cX7_add 47 = .ok (.iastore, 1) := by decide +kernel
theorem dX7_add_48 : decode cX7_add 48 = .ok (.aload_n 0, 1) := by decide +kernel
theorem dX7_add_49 : decode cX7_add 49 = .ok (.getfield 21, 3) := by decide +kernel
theorem dX7_add_52 : decode cX7_add 52 = .ok (.iload 4, 2) := by decide +kernel
theorem dX7_add_54 : decode cX7_add 54 = .ok (.iconst (-1), 1) := by decide +kernel
theorem dX7_add_55 : decode cX7_add 55 = .ok (.iastore, 1) := by decide +kernel
theorem dX7_add_56 : decode cX7_add 56 = .ok (.aload_n 0, 1) := by decide +kernel
theorem dX7_add_57 : decode cX7_add 57 = .ok (.getfield 24, 3) := by decide +kernel
theorem dX7_add_60 : decode cX7_add 60 = .ok (.iload 4, 2) := by decide +kernel
theorem dX7_add_62 : decode cX7_add 62 = .ok (.iconst (-1), 1) := by decide +kernel
theorem dX7_add_63 : decode cX7_add 63 = .ok (.iastore, 1) := by decide +kernel
theorem dX7_add_64 : decode cX7_add 64 = .ok (.aload_n 0, 1) := by decide +kernel
theorem dX7_add_65 : decode cX7_add 65 = .ok (.getfield 27, 3) := by decide +kernel
theorem dX7_add_68 : decode cX7_add 68 = .ok (.iload 4, 2) := by decide +kernel
theorem dX7_add_70 : decode cX7_add 70 = .ok (.iconst (-1), 1) := by decide +kernel
theorem dX7_add_71 : decode cX7_add 71 = .ok (.iastore, 1) := by decide +kernel
theorem dX7_add_72 : decode cX7_add 72 = .ok (.aload_n 0, 1) := by decide +kernel
theorem dX7_add_73 : decode cX7_add 73 = .ok (.getfield 30, 3) := by decide +kernel
theorem dX7_add_76 : decode cX7_add 76 = .ok (.iload 4, 2) := by decide +kernel
theorem dX7_add_78 : decode cX7_add 78 = .ok (.iconst (-1), 1) := by decide +kernel
theorem dX7_add_79 : decode cX7_add 79 = .ok (.iastore, 1) := by decide +kernel
theorem dX7_add_80 : decode cX7_add 80 = .ok (.aload_n 0, 1) := by decide +kernel
theorem dX7_add_81 : decode cX7_add 81 = .ok (.dup, 1) := by decide +kernel
theorem dX7_add_82 : decode cX7_add 82 = .ok (.getfield 33, 3) := by decide +kernel
theorem dX7_add_85 : decode cX7_add 85 = .ok (.iconst 1, 1) := by decide +kernel
theorem dX7_add_86 : decode cX7_add 86 = .ok (.iadd, 1) := by decide +kernel
theorem dX7_add_87 : decode cX7_add 87 = .ok (.putfield 33, 3) := by decide +kernel
theorem dX7_add_90 : decode cX7_add 90 = .ok (.iload 4, 2) := by decide +kernel
theorem dX7_add_92 : decode cX7_add 92 = .ok (.ireturn, 1) := by decide +kernel
theorem dX7_knownDead_0 : decode cX7_knownDead 0 = .ok (.aload_n 0, 1) := by decide +kernel
theorem dX7_knownDead_1 : decode cX7_knownDead 1 = .ok (.iload_n 1, 1) := by decide +kernel
theorem dX7_knownDead_2 : decode cX7_knownDead 2 = .ok (.invokevirtual 37, 3) := by decide +kernel
theorem dX7_knownDead_5 : decode cX7_knownDead 5 = .ok (.ifCond .eq 27, 3) := by decide +kernel
theorem dX7_knownDead_8 : decode cX7_knownDead 8 = .ok (.aload_n 0, 1) := by decide +kernel
theorem dX7_knownDead_9 : decode cX7_knownDead 9 = .ok (.getfield 21, 3) := by decide +kernel
theorem dX7_knownDead_12 : decode cX7_knownDead 12 = .ok (.iload_n 1, 1) := by decide +kernel
theorem dX7_knownDead_13 : decode cX7_knownDead 13 = .ok (.iaload, 1) := by decide +kernel
theorem dX7_knownDead_14 : decode cX7_knownDead 14 = .ok (.iconst (-1), 1) := by decide +kernel
theorem dX7_knownDead_15 : decode cX7_knownDead 15 = .ok (.if_icmp .eq 17, 3) := by decide +kernel
theorem dX7_knownDead_18 : decode cX7_knownDead 18 = .ok (.aload_n 0, 1) := by decide +kernel
theorem dX7_knownDead_19 : decode cX7_knownDead 19 = .ok (.getfield 24, 3) := by decide +kernel
theorem dX7_knownDead_22 : decode cX7_knownDead 22 = .ok (.iload_n 1, 1) := by decide +kernel
theorem dX7_knownDead_23 : decode cX7_knownDead 23 = .ok (.iaload, 1) := by decide +kernel
theorem dX7_knownDead_24 : decode cX7_knownDead 24 = .ok (.iload_n 2, 1) := by decide +kernel
theorem dX7_knownDead_25 : decode cX7_knownDead 25 = .ok (.if_icmp .gt 7, 3) := by decide +kernel
theorem dX7_knownDead_28 : decode cX7_knownDead 28 = .ok (.iconst 1, 1) := by decide +kernel
theorem dX7_knownDead_29 : decode cX7_knownDead 29 = .ok (.goto 4, 3) := by decide +kernel
theorem dX7_knownDead_32 : decode cX7_knownDead 32 = .ok (.iconst 0, 1) := by decide +kernel
theorem dX7_knownDead_33 : decode cX7_knownDead 33 = .ok (.ireturn, 1) := by decide +kernel
theorem dX7_survivorsOf_0 : decode cX7_survivorsOf 0 = .ok (.iconst 0, 1) := by decide +kernel
theorem dX7_survivorsOf_1 : decode cX7_survivorsOf 1 = .ok (.istore_n 3, 1) := by decide +kernel
theorem dX7_survivorsOf_2 : decode cX7_survivorsOf 2 = .ok (.iconst 0, 1) := by decide +kernel
theorem dX7_survivorsOf_3 : decode cX7_survivorsOf 3 = .ok (.istore 4, 2) := by decide +kernel
theorem dX7_survivorsOf_5 : decode cX7_survivorsOf 5 = .ok (.iload 4, 2) := by decide +kernel
theorem dX7_survivorsOf_7 : decode cX7_survivorsOf 7 = .ok (.aload_n 0, 1) := by decide +kernel
theorem dX7_survivorsOf_8 : decode cX7_survivorsOf 8 = .ok (.getfield 33, 3) := by decide +kernel
theorem dX7_survivorsOf_11 : decode cX7_survivorsOf 11 = .ok (.if_icmp .ge 67, 3) := by decide +kernel
theorem dX7_survivorsOf_14 : decode cX7_survivorsOf 14 = .ok (.iload 4, 2) := by decide +kernel
theorem dX7_survivorsOf_16 : decode cX7_survivorsOf 16 = .ok (.bipush 16, 2) := by decide +kernel
theorem dX7_survivorsOf_18 : decode cX7_survivorsOf 18 = .ok (.if_icmp .ge 60, 3) := by decide +kernel
theorem dX7_survivorsOf_21 : decode cX7_survivorsOf 21 = .ok (.aload_n 0, 1) := by decide +kernel
theorem dX7_survivorsOf_22 : decode cX7_survivorsOf 22 = .ok (.iload 4, 2) := by decide +kernel
theorem dX7_survivorsOf_24 : decode cX7_survivorsOf 24 = .ok (.iload_n 2, 1) := by decide +kernel
theorem dX7_survivorsOf_25 : decode cX7_survivorsOf 25 = .ok (.invokevirtual 41, 3) := by decide +kernel
theorem dX7_survivorsOf_28 : decode cX7_survivorsOf 28 = .ok (.ifCond .eq 14, 3) := by decide +kernel
theorem dX7_survivorsOf_31 : decode cX7_survivorsOf 31 = .ok (.aload_n 0, 1) := by decide +kernel
theorem dX7_survivorsOf_32 : decode cX7_survivorsOf 32 = .ok (.getfield 21, 3) := by decide +kernel
theorem dX7_survivorsOf_35 : decode cX7_survivorsOf 35 = .ok (.iload 4, 2) := by decide +kernel
theorem dX7_survivorsOf_37 : decode cX7_survivorsOf 37 = .ok (.iaload, 1) := by decide +kernel
theorem dX7_survivorsOf_38 : decode cX7_survivorsOf 38 = .ok (.iload_n 1, 1) := by decide +kernel
theorem dX7_survivorsOf_39 : decode cX7_survivorsOf 39 = .ok (.if_icmp .le 7, 3) := by decide +kernel
theorem dX7_survivorsOf_42 : decode cX7_survivorsOf 42 = .ok (.iconst 1, 1) := by decide +kernel
theorem dX7_survivorsOf_43 : decode cX7_survivorsOf 43 = .ok (.goto 4, 3) := by decide +kernel
theorem dX7_survivorsOf_46 : decode cX7_survivorsOf 46 = .ok (.iconst 0, 1) := by decide +kernel
theorem dX7_survivorsOf_47 : decode cX7_survivorsOf 47 = .ok (.istore 5, 2) := by decide +kernel
theorem dX7_survivorsOf_49 : decode cX7_survivorsOf 49 = .ok (.aload_n 0, 1) := by decide +kernel
theorem dX7_survivorsOf_50 : decode cX7_survivorsOf 50 = .ok (.getfield 9, 3) := by decide +kernel
theorem dX7_survivorsOf_53 : decode cX7_survivorsOf 53 = .ok (.iload 4, 2) := by decide +kernel
theorem dX7_survivorsOf_55 : decode cX7_survivorsOf 55 = .ok (.iaload, 1) := by decide +kernel
theorem dX7_survivorsOf_56 : decode cX7_survivorsOf 56 = .ok (.iload_n 1, 1) := by decide +kernel
theorem dX7_survivorsOf_57 : decode cX7_survivorsOf 57 = .ok (.if_icmp .gt 15, 3) := by decide +kernel
theorem dX7_survivorsOf_60 : decode cX7_survivorsOf 60 = .ok (.iload 5, 2) := by decide +kernel
theorem dX7_survivorsOf_62 : decode cX7_survivorsOf 62 = .ok (.ifCond .eq 10, 3) := by decide +kernel
theorem dX7_survivorsOf_65 : decode cX7_survivorsOf 65 = .ok (.iload_n 3, 1) := by decide +kernel
theorem dX7_survivorsOf_66 : decode cX7_survivorsOf 66 = .ok (.iconst 1, 1) := by decide +kernel
theorem dX7_survivorsOf_67 : decode cX7_survivorsOf 67 = .ok (.iload 4, 2) := by decide +kernel
theorem dX7_survivorsOf_69 : decode cX7_survivorsOf 69 = .ok (.ishl, 1) := by decide +kernel
theorem dX7_survivorsOf_70 : decode cX7_survivorsOf 70 = .ok (.ior, 1) := by decide +kernel
theorem dX7_survivorsOf_71 : decode cX7_survivorsOf 71 = .ok (.istore_n 3, 1) := by decide +kernel
theorem dX7_survivorsOf_72 : decode cX7_survivorsOf 72 = .ok (.iinc 4 1, 3) := by decide +kernel
theorem dX7_survivorsOf_75 : decode cX7_survivorsOf 75 = .ok (.goto (-70), 3) := by decide +kernel
theorem dX7_survivorsOf_78 : decode cX7_survivorsOf 78 = .ok (.iload_n 3, 1) := by decide +kernel
theorem dX7_survivorsOf_79 : decode cX7_survivorsOf 79 = .ok (.ireturn, 1) := by decide +kernel
theorem dX7_addPaper_0 : decode cX7_addPaper 0 = .ok (.aload_n 0, 1) := by decide +kernel
theorem dX7_addPaper_1 : decode cX7_addPaper 1 = .ok (.iload_n 1, 1) := by decide +kernel
theorem dX7_addPaper_2 : decode cX7_addPaper 2 = .ok (.invokevirtual 37, 3) := by decide +kernel
theorem dX7_addPaper_5 : decode cX7_addPaper 5 = .ok (.ifCond .ne 4, 3) := by decide +kernel
theorem dX7_addPaper_8 : decode cX7_addPaper 8 = .ok (.return_, 1) := by decide +kernel
theorem dX7_addPaper_9 : decode cX7_addPaper 9 = .ok (.aload_n 0, 1) := by decide +kernel
theorem dX7_addPaper_10 : decode cX7_addPaper 10 = .ok (.getfield 27, 3) := by decide +kernel
theorem dX7_addPaper_13 : decode cX7_addPaper 13 = .ok (.iload_n 1, 1) := by decide +kernel
theorem dX7_addPaper_14 : decode cX7_addPaper 14 = .ok (.iaload, 1) := by decide +kernel
theorem dX7_addPaper_15 : decode cX7_addPaper 15 = .ok (.iconst (-1), 1) := by decide +kernel
theorem dX7_addPaper_16 : decode cX7_addPaper 16 = .ok (.if_icmp .eq 13, 3) := by decide +kernel
theorem dX7_addPaper_19 : decode cX7_addPaper 19 = .ok (.iload_n 2, 1) := by decide +kernel
theorem dX7_addPaper_20 : decode cX7_addPaper 20 = .ok (.aload_n 0, 1) := by decide +kernel
theorem dX7_addPaper_21 : decode cX7_addPaper 21 = .ok (.getfield 27, 3) := by decide +kernel
theorem dX7_addPaper_24 : decode cX7_addPaper 24 = .ok (.iload_n 1, 1) := by decide +kernel
theorem dX7_addPaper_25 : decode cX7_addPaper 25 = .ok (.iaload, 1) := by decide +kernel
theorem dX7_addPaper_26 : decode cX7_addPaper 26 = .ok (.if_icmp .ge 10, 3) := by decide +kernel
theorem dX7_addPaper_29 : decode cX7_addPaper 29 = .ok (.aload_n 0, 1) := by decide +kernel
theorem dX7_addPaper_30 : decode cX7_addPaper 30 = .ok (.getfield 27, 3) := by decide +kernel
theorem dX7_addPaper_33 : decode cX7_addPaper 33 = .ok (.iload_n 1, 1) := by decide +kernel
theorem dX7_addPaper_34 : decode cX7_addPaper 34 = .ok (.iload_n 2, 1) := by decide +kernel
theorem dX7_addPaper_35 : decode cX7_addPaper 35 = .ok (.iastore, 1) := by decide +kernel
theorem dX7_addPaper_36 : decode cX7_addPaper 36 = .ok (.aload_n 0, 1) := by decide +kernel
theorem dX7_addPaper_37 : decode cX7_addPaper 37 = .ok (.getfield 30, 3) := by decide +kernel
theorem dX7_addPaper_40 : decode cX7_addPaper 40 = .ok (.iload_n 1, 1) := by decide +kernel
theorem dX7_addPaper_41 : decode cX7_addPaper 41 = .ok (.aload_n 0, 1) := by decide +kernel
theorem dX7_addPaper_42 : decode cX7_addPaper 42 = .ok (.getfield 30, 3) := by decide +kernel
theorem dX7_addPaper_45 : decode cX7_addPaper 45 = .ok (.iload_n 1, 1) := by decide +kernel
theorem dX7_addPaper_46 : decode cX7_addPaper 46 = .ok (.iaload, 1) := by decide +kernel
theorem dX7_addPaper_47 : decode cX7_addPaper 47 = .ok (.iload_n 2, 1) := by decide +kernel
theorem dX7_addPaper_48 : decode cX7_addPaper 48 = .ok (.invokestatic 45, 3) := by decide +kernel
theorem dX7_addPaper_51 : decode cX7_addPaper 51 = .ok (.iastore, 1) := by decide +kernel
theorem dX7_addPaper_52 : decode cX7_addPaper 52 = .ok (.aload_n 0, 1) := by decide +kernel
theorem dX7_addPaper_53 : decode cX7_addPaper 53 = .ok (.dup, 1) := by decide +kernel
theorem dX7_addPaper_54 : decode cX7_addPaper 54 = .ok (.getfield 51, 3) := by decide +kernel
theorem dX7_addPaper_57 : decode cX7_addPaper 57 = .ok (.iconst 1, 1) := by decide +kernel
theorem dX7_addPaper_58 : decode cX7_addPaper 58 = .ok (.iadd, 1) := by decide +kernel
theorem dX7_addPaper_59 : decode cX7_addPaper 59 = .ok (.putfield 51, 3) := by decide +kernel
theorem dX7_addPaper_62 : decode cX7_addPaper 62 = .ok (.return_, 1) := by decide +kernel
theorem dX7_isFalse_0 : decode cX7_isFalse 0 = .ok (.aload_n 0, 1) := by decide +kernel
theorem dX7_isFalse_1 : decode cX7_isFalse 1 = .ok (.iload_n 1, 1) := by decide +kernel
theorem dX7_isFalse_2 : decode cX7_isFalse 2 = .ok (.invokevirtual 37, 3) := by decide +kernel
theorem dX7_isFalse_5 : decode cX7_isFalse 5 = .ok (.ifCond .eq 13, 3) := by decide +kernel
theorem dX7_isFalse_8 : decode cX7_isFalse 8 = .ok (.aload_n 0, 1) := by decide +kernel
theorem dX7_isFalse_9 : decode cX7_isFalse 9 = .ok (.getfield 27, 3) := by decide +kernel
theorem dX7_isFalse_12 : decode cX7_isFalse 12 = .ok (.iload_n 1, 1) := by decide +kernel
theorem dX7_isFalse_13 : decode cX7_isFalse 13 = .ok (.iaload, 1) := by decide +kernel
theorem dX7_isFalse_14 : decode cX7_isFalse 14 = .ok (.iconst (-1), 1) := by decide +kernel
theorem dX7_isFalse_15 : decode cX7_isFalse 15 = .ok (.if_icmp .ne 5, 3) := by decide +kernel
theorem dX7_isFalse_18 : decode cX7_isFalse 18 = .ok (.iconst 0, 1) := by decide +kernel
theorem dX7_isFalse_19 : decode cX7_isFalse 19 = .ok (.ireturn, 1) := by decide +kernel
theorem dX7_isFalse_20 : decode cX7_isFalse 20 = .ok (.aload_n 0, 1) := by decide +kernel
theorem dX7_isFalse_21 : decode cX7_isFalse 21 = .ok (.getfield 27, 3) := by decide +kernel
theorem dX7_isFalse_24 : decode cX7_isFalse 24 = .ok (.iload_n 1, 1) := by decide +kernel
theorem dX7_isFalse_25 : decode cX7_isFalse 25 = .ok (.iaload, 1) := by decide +kernel
theorem dX7_isFalse_26 : decode cX7_isFalse 26 = .ok (.aload_n 0, 1) := by decide +kernel
theorem dX7_isFalse_27 : decode cX7_isFalse 27 = .ok (.getfield 9, 3) := by decide +kernel
theorem dX7_isFalse_30 : decode cX7_isFalse 30 = .ok (.iload_n 1, 1) := by decide +kernel
theorem dX7_isFalse_31 : decode cX7_isFalse 31 = .ok (.iaload, 1) := by decide +kernel
theorem dX7_isFalse_32 : decode cX7_isFalse 32 = .ok (.if_icmp .lt 28, 3) := by decide +kernel
theorem dX7_isFalse_35 : decode cX7_isFalse 35 = .ok (.aload_n 0, 1) := by decide +kernel
theorem dX7_isFalse_36 : decode cX7_isFalse 36 = .ok (.getfield 21, 3) := by decide +kernel
theorem dX7_isFalse_39 : decode cX7_isFalse 39 = .ok (.iload_n 1, 1) := by decide +kernel
theorem dX7_isFalse_40 : decode cX7_isFalse 40 = .ok (.iaload, 1) := by decide +kernel
theorem dX7_isFalse_41 : decode cX7_isFalse 41 = .ok (.iconst (-1), 1) := by decide +kernel
theorem dX7_isFalse_42 : decode cX7_isFalse 42 = .ok (.if_icmp .eq 22, 3) := by decide +kernel
theorem dX7_isFalse_45 : decode cX7_isFalse 45 = .ok (.aload_n 0, 1) := by decide +kernel
theorem dX7_isFalse_46 : decode cX7_isFalse 46 = .ok (.getfield 30, 3) := by decide +kernel
theorem dX7_isFalse_49 : decode cX7_isFalse 49 = .ok (.iload_n 1, 1) := by decide +kernel
theorem dX7_isFalse_50 : decode cX7_isFalse 50 = .ok (.iaload, 1) := by decide +kernel
theorem dX7_isFalse_51 : decode cX7_isFalse 51 = .ok (.aload_n 0, 1) := by decide +kernel
theorem dX7_isFalse_52 : decode cX7_isFalse 52 = .ok (.getfield 21, 3) := by decide +kernel
theorem dX7_isFalse_55 : decode cX7_isFalse 55 = .ok (.iload_n 1, 1) := by decide +kernel
theorem dX7_isFalse_56 : decode cX7_isFalse 56 = .ok (.iaload, 1) := by decide +kernel
theorem dX7_isFalse_57 : decode cX7_isFalse 57 = .ok (.if_icmp .le 7, 3) := by decide +kernel
theorem dX7_isFalse_60 : decode cX7_isFalse 60 = .ok (.iconst 1, 1) := by decide +kernel
theorem dX7_isFalse_61 : decode cX7_isFalse 61 = .ok (.goto 4, 3) := by decide +kernel
theorem dX7_isFalse_64 : decode cX7_isFalse 64 = .ok (.iconst 0, 1) := by decide +kernel
theorem dX7_isFalse_65 : decode cX7_isFalse 65 = .ok (.ireturn, 1) := by decide +kernel
theorem dX8_init_0 : decode cX8_init 0 = .ok (.aload_n 0, 1) := by decide +kernel
theorem dX8_init_1 : decode cX8_init 1 = .ok (.invokespecial 3, 3) := by decide +kernel
theorem dX8_init_4 : decode cX8_init 4 = .ok (.aload_n 0, 1) := by decide +kernel
theorem dX8_init_5 : decode cX8_init 5 = .ok (.bipush 40, 2) := by decide +kernel
theorem dX8_init_7 : decode cX8_init 7 = .ok (.newarray .int, 2) := by decide +kernel
theorem dX8_init_9 : decode cX8_init 9 = .ok (.putfield 9, 3) := by decide +kernel
theorem dX8_init_12 : decode cX8_init 12 = .ok (.aload_n 0, 1) := by decide +kernel
theorem dX8_init_13 : decode cX8_init 13 = .ok (.bipush 40, 2) := by decide +kernel
theorem dX8_init_15 : decode cX8_init 15 = .ok (.newarray .int, 2) := by decide +kernel
theorem dX8_init_17 : decode cX8_init 17 = .ok (.putfield 15, 3) := by decide +kernel
theorem dX8_init_20 : decode cX8_init 20 = .ok (.aload_n 0, 1) := by decide +kernel
theorem dX8_init_21 : decode cX8_init 21 = .ok (.bipush 40, 2) := by decide +kernel
theorem dX8_init_23 : decode cX8_init 23 = .ok (.newarray .int, 2) := by decide +kernel
theorem dX8_init_25 : decode cX8_init 25 = .ok (.putfield 18, 3) := by decide +kernel
theorem dX8_init_28 : decode cX8_init 28 = .ok (.aload_n 0, 1) := by decide +kernel
theorem dX8_init_29 : decode cX8_init 29 = .ok (.bipush 40, 2) := by decide +kernel
theorem dX8_init_31 : decode cX8_init 31 = .ok (.newarray .int, 2) := by decide +kernel
theorem dX8_init_33 : decode cX8_init 33 = .ok (.putfield 21, 3) := by decide +kernel
theorem dX8_init_36 : decode cX8_init 36 = .ok (.aload_n 0, 1) := by decide +kernel
theorem dX8_init_37 : decode cX8_init 37 = .ok (.bipush 40, 2) := by decide +kernel
theorem dX8_init_39 : decode cX8_init 39 = .ok (.newarray .int, 2) := by decide +kernel
theorem dX8_init_41 : decode cX8_init 41 = .ok (.putfield 24, 3) := by decide +kernel
theorem dX8_init_44 : decode cX8_init 44 = .ok (.aload_n 0, 1) := by decide +kernel
theorem dX8_init_45 : decode cX8_init 45 = .ok (.bipush 40, 2) := by decide +kernel
theorem dX8_init_47 : decode cX8_init 47 = .ok (.newarray .boolean, 2) := by decide +kernel
theorem dX8_init_49 : decode cX8_init 49 = .ok (.putfield 27, 3) := by decide +kernel
theorem dX8_init_52 : decode cX8_init 52 = .ok (.aload_n 0, 1) := by decide +kernel
theorem dX8_init_53 : decode cX8_init 53 = .ok (.bipush 40, 2) := by decide +kernel
theorem dX8_init_55 : decode cX8_init 55 = .ok (.newarray .int, 2) := by decide +kernel
theorem dX8_init_57 : decode cX8_init 57 = .ok (.putfield 31, 3) := by decide +kernel
theorem dX8_init_60 : decode cX8_init 60 = .ok (.aload_n 0, 1) := by decide +kernel
theorem dX8_init_61 : decode cX8_init 61 = .ok (.bipush 40, 2) := by decide +kernel
theorem dX8_init_63 : decode cX8_init 63 = .ok (.newarray .int, 2) := by decide +kernel
theorem dX8_init_65 : decode cX8_init 65 = .ok (.putfield 34, 3) := by decide +kernel
theorem dX8_init_68 : decode cX8_init 68 = .ok (.aload_n 0, 1) := by decide +kernel
theorem dX8_init_69 : decode cX8_init 69 = .ok (.bipush 40, 2) := by decide +kernel
theorem dX8_init_71 : decode cX8_init 71 = .ok (.newarray .int, 2) := by decide +kernel
theorem dX8_init_73 : decode cX8_init 73 = .ok (.putfield 37, 3) := by decide +kernel
theorem dX8_init_76 : decode cX8_init 76 = .ok (.aload_n 0, 1) := by decide +kernel
theorem dX8_init_77 : decode cX8_init 77 = .ok (.bipush 40, 2) := by decide +kernel
theorem dX8_init_79 : decode cX8_init 79 = .ok (.newarray .int, 2) := by decide +kernel
theorem dX8_init_81 : decode cX8_init 81 = .ok (.putfield 40, 3) := by decide +kernel
theorem dX8_init_84 : decode cX8_init 84 = .ok (.return_, 1) := by decide +kernel
theorem dX8_has_0 : decode cX8_has 0 = .ok (.iload_n 1, 1) := by decide +kernel
theorem dX8_has_1 : decode cX8_has 1 = .ok (.ifCond .lt 21, 3) := by decide +kernel
theorem dX8_has_4 : decode cX8_has 4 = .ok (.iload_n 1, 1) := by decide +kernel
theorem dX8_has_5 : decode cX8_has 5 = .ok (.aload_n 0, 1) := by decide +kernel
theorem dX8_has_6 : decode cX8_has 6 = .ok (.getfield 43, 3) := by decide +kernel
theorem dX8_has_9 : decode cX8_has 9 = .ok (.if_icmp .ge 13, 3) := by decide +kernel
theorem dX8_has_12 : decode cX8_has 12 = .ok (.iload_n 1, 1) := by decide +kernel
theorem dX8_has_13 : decode cX8_has 13 = .ok (.bipush 40, 2) := by decide +kernel
theorem dX8_has_15 : decode cX8_has 15 = .ok (.if_icmp .ge 7, 3) := by decide +kernel
theorem dX8_has_18 : decode cX8_has 18 = .ok (.iconst 1, 1) := by decide +kernel
theorem dX8_has_19 : decode cX8_has 19 = .ok (.goto 4, 3) := by decide +kernel
theorem dX8_has_22 : decode cX8_has 22 = .ok (.iconst 0, 1) := by decide +kernel
theorem dX8_has_23 : decode cX8_has 23 = .ok (.ireturn, 1) := by decide +kernel
theorem dX8_add_0 : decode cX8_add 0 = .ok (.aload_n 0, 1) := by decide +kernel
theorem dX8_add_1 : decode cX8_add 1 = .ok (.getfield 43, 3) := by decide +kernel
theorem dX8_add_4 : decode cX8_add 4 = .ok (.ifCond .lt 12, 3) := by decide +kernel
theorem dX8_add_7 : decode cX8_add 7 = .ok (.aload_n 0, 1) := by decide +kernel
theorem dX8_add_8 : decode cX8_add 8 = .ok (.getfield 43, 3) := by decide +kernel
theorem dX8_add_11 : decode cX8_add 11 = .ok (.bipush 40, 2) := by decide +kernel
theorem dX8_add_13 : decode cX8_add 13 = .ok (.if_icmp .lt 5, 3) := by decide +kernel
theorem dX8_add_16 : decode cX8_add 16 = .ok (.iconst (-1), 1) := by decide +kernel
theorem dX8_add_17 : decode cX8_add 17 = .ok (.ireturn, 1) := by decide +kernel
theorem dX8_add_18 : decode cX8_add 18 = .ok (.aload_n 0, 1) := by decide +kernel
theorem dX8_add_19 : decode cX8_add 19 = .ok (.getfield 43, 3) := by decide +kernel
theorem dX8_add_22 : decode cX8_add 22 = .ok (.istore 5, 2) := by decide +kernel
theorem dX8_add_24 : decode cX8_add 24 = .ok (.aload_n 0, 1) := by decide +kernel
theorem dX8_add_25 : decode cX8_add 25 = .ok (.getfield 9, 3) := by decide +kernel
theorem dX8_add_28 : decode cX8_add 28 = .ok (.iload 5, 2) := by decide +kernel
theorem dX8_add_30 : decode cX8_add 30 = .ok (.iload_n 1, 1) := by decide +kernel
theorem dX8_add_31 : decode cX8_add 31 = .ok (.iastore, 1) := by decide +kernel
theorem dX8_add_32 : decode cX8_add 32 = .ok (.aload_n 0, 1) := by decide +kernel
theorem dX8_add_33 : decode cX8_add 33 = .ok (.getfield 15, 3) := by decide +kernel
theorem dX8_add_36 : decode cX8_add 36 = .ok (.iload 5, 2) := by decide +kernel
theorem dX8_add_38 : decode cX8_add 38 = .ok (.iload_n 2, 1) := by decide +kernel
theorem dX8_add_39 : decode cX8_add 39 = .ok (.iastore, 1) := by decide +kernel
theorem dX8_add_40 : decode cX8_add 40 = .ok (.aload_n 0, 1) := by decide +kernel
theorem dX8_add_41 : decode cX8_add 41 = .ok (.getfield 21, 3) := by decide +kernel
theorem dX8_add_44 : decode cX8_add 44 = .ok (.iload 5, 2) := by decide +kernel
theorem dX8_add_46 : decode cX8_add 46 = .ok (.iload_n 3, 1) := by decide +kernel
theorem dX8_add_47 : decode cX8_add 47 = .ok (.iastore, 1) := by decide +kernel
theorem dX8_add_48 : decode cX8_add 48 = .ok (.aload_n 0, 1) := by decide +kernel
theorem dX8_add_49 : decode cX8_add 49 = .ok (.getfield 31, 3) := by decide +kernel
theorem dX8_add_52 : decode cX8_add 52 = .ok (.iload 5, 2) := by decide +kernel
theorem dX8_add_54 : decode cX8_add 54 = .ok (.iload 4, 2) := by decide +kernel
theorem dX8_add_56 : decode cX8_add 56 = .ok (.iastore, 1) := by decide +kernel
theorem dX8_add_57 : decode cX8_add 57 = .ok (.aload_n 0, 1) := by decide +kernel
theorem dX8_add_58 : decode cX8_add 58 = .ok (.getfield 34, 3) := by decide +kernel
theorem dX8_add_61 : decode cX8_add 61 = .ok (.iload 5, 2) := by decide +kernel
theorem dX8_add_63 : decode cX8_add 63 = .ok (.iconst (-1), 1) := by decide +kernel
theorem dX8_add_64 : decode cX8_add 64 = .ok (.iastore, 1) := by decide +kernel
theorem dX8_add_65 : decode cX8_add 65 = .ok (.aload_n 0, 1) := by decide +kernel
theorem dX8_add_66 : decode cX8_add 66 = .ok (.getfield 37, 3) := by decide +kernel
theorem dX8_add_69 : decode cX8_add 69 = .ok (.iload 5, 2) := by decide +kernel
theorem dX8_add_71 : decode cX8_add 71 = .ok (.iconst (-1), 1) := by decide +kernel
theorem dX8_add_72 : decode cX8_add 72 = .ok (.iastore, 1) := by decide +kernel
theorem dX8_add_73 : decode cX8_add 73 = .ok (.aload_n 0, 1) := by decide +kernel
theorem dX8_add_74 : decode cX8_add 74 = .ok (.getfield 40, 3) := by decide +kernel
theorem dX8_add_77 : decode cX8_add 77 = .ok (.iload 5, 2) := by decide +kernel
theorem dX8_add_79 : decode cX8_add 79 = .ok (.iconst (-1), 1) := by decide +kernel
theorem dX8_add_80 : decode cX8_add 80 = .ok (.iastore, 1) := by decide +kernel
theorem dX8_add_81 : decode cX8_add 81 = .ok (.aload_n 0, 1) := by decide +kernel
theorem dX8_add_82 : decode cX8_add 82 = .ok (.dup, 1) := by decide +kernel
theorem dX8_add_83 : decode cX8_add 83 = .ok (.getfield 43, 3) := by decide +kernel
theorem dX8_add_86 : decode cX8_add 86 = .ok (.iconst 1, 1) := by decide +kernel
theorem dX8_add_87 : decode cX8_add 87 = .ok (.iadd, 1) := by decide +kernel
theorem dX8_add_88 : decode cX8_add 88 = .ok (.putfield 43, 3) := by decide +kernel
theorem dX8_add_91 : decode cX8_add 91 = .ok (.iload 5, 2) := by decide +kernel
theorem dX8_add_93 : decode cX8_add 93 = .ok (.ireturn, 1) := by decide +kernel
theorem dX8_noticed_0 : decode cX8_noticed 0 = .ok (.aload_n 0, 1) := by decide +kernel
theorem dX8_noticed_1 : decode cX8_noticed 1 = .ok (.getfield 34, 3) := by decide +kernel
theorem dX8_noticed_4 : decode cX8_noticed 4 = .ok (.iload_n 1, 1) := by decide +kernel
theorem dX8_noticed_5 : decode cX8_noticed 5 = .ok (.iaload, 1) := by decide +kernel
theorem dX8_noticed_6 : decode cX8_noticed 6 = .ok (.iconst (-1), 1) := by decide +kernel
theorem dX8_noticed_7 : decode cX8_noticed 7 = .ok (.if_icmp .eq 17, 3) := by decide +kernel
theorem dX8_noticed_10 : decode cX8_noticed 10 = .ok (.aload_n 0, 1) := by decide +kernel
theorem dX8_noticed_11 : decode cX8_noticed 11 = .ok (.getfield 34, 3) := by decide +kernel
theorem dX8_noticed_14 : decode cX8_noticed 14 = .ok (.iload_n 1, 1) := by decide +kernel
theorem dX8_noticed_15 : decode cX8_noticed 15 = .ok (.iaload, 1) := by decide +kernel
theorem dX8_noticed_16 : decode cX8_noticed 16 = .ok (.iload_n 2, 1) := by decide +kernel
theorem dX8_noticed_17 : decode cX8_noticed 17 = .ok (.if_icmp .gt 7, 3) := by decide +kernel
theorem dX8_noticed_20 : decode cX8_noticed 20 = .ok (.iconst 1, 1) := by decide +kernel
theorem dX8_noticed_21 : decode cX8_noticed 21 = .ok (.goto 4, 3) := by decide +kernel
theorem dX8_noticed_24 : decode cX8_noticed 24 = .ok (.iconst 0, 1) := by decide +kernel
theorem dX8_noticed_25 : decode cX8_noticed 25 = .ok (.ireturn, 1) := by decide +kernel
theorem dX8_goesAhead_0 : decode cX8_goesAhead 0 = .ok (.aload_n 0, 1) := by decide +kernel
theorem dX8_goesAhead_1 : decode cX8_goesAhead 1 = .ok (.iload_n 1, 1) := by decide +kernel
theorem dX8_goesAhead_2 : decode cX8_goesAhead 2 = .ok (.iload_n 3, 1) := by decide +kernel
theorem dX8_goesAhead_3 : decode cX8_goesAhead 3 = .ok (.invokevirtual 47, 3) := by decide +kernel
theorem dX8_goesAhead_6 : decode cX8_goesAhead 6 = .ok (.aload_n 0, 1) := by decide +kernel
theorem dX8_goesAhead_7 : decode cX8_goesAhead 7 = .ok (.iload_n 2, 1) := by decide +kernel
theorem dX8_goesAhead_8 : decode cX8_goesAhead 8 = .ok (.iload_n 3, 1) := by decide +kernel
theorem dX8_goesAhead_9 : decode cX8_goesAhead 9 = .ok (.invokevirtual 47, 3) := by decide +kernel
theorem dX8_goesAhead_12 : decode cX8_goesAhead 12 = .ok (.if_icmp .eq 10, 3) := by decide +kernel
theorem dX8_goesAhead_15 : decode cX8_goesAhead 15 = .ok (.aload_n 0, 1) := by decide +kernel
theorem dX8_goesAhead_16 : decode cX8_goesAhead 16 = .ok (.iload_n 1, 1) := by decide +kernel
theorem dX8_goesAhead_17 : decode cX8_goesAhead 17 = .ok (.iload_n 3, 1) := by decide +kernel
theorem dX8_goesAhead_18 : decode cX8_goesAhead 18 = .ok (.invokevirtual 47, 3) := by decide +kernel
theorem dX8_goesAhead_21 : decode cX8_goesAhead 21 = .ok (.ireturn, 1) := by decide +kernel
theorem dX8_goesAhead_22 : decode cX8_goesAhead 22 = .ok (.aload_n 0, 1) := by decide +kernel
theorem dX8_goesAhead_23 : decode cX8_goesAhead 23 = .ok (.iload_n 1, 1) := by decide +kernel
theorem dX8_goesAhead_24 : decode cX8_goesAhead 24 = .ok (.iload_n 3, 1) := by decide +kernel
theorem dX8_goesAhead_25 : decode cX8_goesAhead 25 = .ok (.invokevirtual 47, 3) := by decide +kernel
theorem dX8_goesAhead_28 : decode cX8_goesAhead 28 = .ok (.ifCond .eq 39, 3) := by decide +kernel
theorem dX8_goesAhead_31 : decode cX8_goesAhead 31 = .ok (.aload_n 0, 1) := by decide +kernel
theorem dX8_goesAhead_32 : decode cX8_goesAhead 32 = .ok (.getfield 34, 3) := by decide +kernel
theorem dX8_goesAhead_35 : decode cX8_goesAhead 35 = .ok (.iload_n 1, 1) := by decide +kernel
theorem dX8_goesAhead_36 : decode cX8_goesAhead 36 = .ok (.iaload, 1) := by decide +kernel
theorem dX8_goesAhead_37 : decode cX8_goesAhead 37 = .ok (.aload_n 0, 1) := by decide +kernel
theorem dX8_goesAhead_38 : decode cX8_goesAhead 38 = .ok (.getfield 34, 3) := by decide +kernel
theorem dX8_goesAhead_41 : decode cX8_goesAhead 41 = .ok (.iload_n 2, 1) := by decide +kernel
theorem dX8_goesAhead_42 : decode cX8_goesAhead 42 = .ok (.iaload, 1) := by decide +kernel
theorem dX8_goesAhead_43 : decode cX8_goesAhead 43 = .ok (.if_icmp .eq 24, 3) := by decide +kernel
theorem dX8_goesAhead_46 : decode cX8_goesAhead 46 = .ok (.aload_n 0, 1) := by decide +kernel
theorem dX8_goesAhead_47 : decode cX8_goesAhead 47 = .ok (.getfield 34, 3) := by decide +kernel
theorem dX8_goesAhead_50 : decode cX8_goesAhead 50 = .ok (.iload_n 1, 1) := by decide +kernel
theorem dX8_goesAhead_51 : decode cX8_goesAhead 51 = .ok (.iaload, 1) := by decide +kernel
theorem dX8_goesAhead_52 : decode cX8_goesAhead 52 = .ok (.aload_n 0, 1) := by decide +kernel
theorem dX8_goesAhead_53 : decode cX8_goesAhead 53 = .ok (.getfield 34, 3) := by decide +kernel
theorem dX8_goesAhead_56 : decode cX8_goesAhead 56 = .ok (.iload_n 2, 1) := by decide +kernel
theorem dX8_goesAhead_57 : decode cX8_goesAhead 57 = .ok (.iaload, 1) := by decide +kernel
theorem dX8_goesAhead_58 : decode cX8_goesAhead 58 = .ok (.if_icmp .ge 7, 3) := by decide +kernel
theorem dX8_goesAhead_61 : decode cX8_goesAhead 61 = .ok (.iconst 1, 1) := by decide +kernel
theorem dX8_goesAhead_62 : decode cX8_goesAhead 62 = .ok (.goto 4, 3) := by decide +kernel
theorem dX8_goesAhead_65 : decode cX8_goesAhead 65 = .ok (.iconst 0, 1) := by decide +kernel
theorem dX8_goesAhead_66 : decode cX8_goesAhead 66 = .ok (.ireturn, 1) := by decide +kernel
theorem dX8_goesAhead_67 : decode cX8_goesAhead 67 = .ok (.aload_n 0, 1) := by decide +kernel
theorem dX8_goesAhead_68 : decode cX8_goesAhead 68 = .ok (.iload_n 1, 1) := by decide +kernel
theorem dX8_goesAhead_69 : decode cX8_goesAhead 69 = .ok (.iload_n 3, 1) := by decide +kernel
theorem dX8_goesAhead_70 : decode cX8_goesAhead 70 = .ok (.invokevirtual 47, 3) := by decide +kernel
theorem dX8_goesAhead_73 : decode cX8_goesAhead 73 = .ok (.ifCond .eq 39, 3) := by decide +kernel
theorem dX8_goesAhead_76 : decode cX8_goesAhead 76 = .ok (.aload_n 0, 1) := by decide +kernel
theorem dX8_goesAhead_77 : decode cX8_goesAhead 77 = .ok (.getfield 37, 3) := by decide +kernel
theorem dX8_goesAhead_80 : decode cX8_goesAhead 80 = .ok (.iload_n 1, 1) := by decide +kernel
theorem dX8_goesAhead_81 : decode cX8_goesAhead 81 = .ok (.iaload, 1) := by decide +kernel
theorem dX8_goesAhead_82 : decode cX8_goesAhead 82 = .ok (.aload_n 0, 1) := by decide +kernel
theorem dX8_goesAhead_83 : decode cX8_goesAhead 83 = .ok (.getfield 37, 3) := by decide +kernel
theorem dX8_goesAhead_86 : decode cX8_goesAhead 86 = .ok (.iload_n 2, 1) := by decide +kernel
theorem dX8_goesAhead_87 : decode cX8_goesAhead 87 = .ok (.iaload, 1) := by decide +kernel
theorem dX8_goesAhead_88 : decode cX8_goesAhead 88 = .ok (.if_icmp .eq 24, 3) := by decide +kernel
theorem dX8_goesAhead_91 : decode cX8_goesAhead 91 = .ok (.aload_n 0, 1) := by decide +kernel
theorem dX8_goesAhead_92 : decode cX8_goesAhead 92 = .ok (.getfield 37, 3) := by decide +kernel
theorem dX8_goesAhead_95 : decode cX8_goesAhead 95 = .ok (.iload_n 1, 1) := by decide +kernel
theorem dX8_goesAhead_96 : decode cX8_goesAhead 96 = .ok (.iaload, 1) := by decide +kernel
theorem dX8_goesAhead_97 : decode cX8_goesAhead 97 = .ok (.aload_n 0, 1) := by decide +kernel
theorem dX8_goesAhead_98 : decode cX8_goesAhead 98 = .ok (.getfield 37, 3) := by decide +kernel
theorem dX8_goesAhead_101 : decode cX8_goesAhead 101 = .ok (.iload_n 2, 1) := by decide +kernel
theorem dX8_goesAhead_102 : decode cX8_goesAhead 102 = .ok (.iaload, 1) := by decide +kernel
theorem dX8_goesAhead_103 : decode cX8_goesAhead 103 = .ok (.if_icmp .ge 7, 3) := by decide +kernel
theorem dX8_goesAhead_106 : decode cX8_goesAhead 106 = .ok (.iconst 1, 1) := by decide +kernel
theorem dX8_goesAhead_107 : decode cX8_goesAhead 107 = .ok (.goto 4, 3) := by decide +kernel
theorem dX8_goesAhead_110 : decode cX8_goesAhead 110 = .ok (.iconst 0, 1) := by decide +kernel
theorem dX8_goesAhead_111 : decode cX8_goesAhead 111 = .ok (.ireturn, 1) := by decide +kernel
theorem dX8_goesAhead_112 : decode cX8_goesAhead 112 = .ok (.iload_n 1, 1) := by decide +kernel
theorem dX8_goesAhead_113 : decode cX8_goesAhead 113 = .ok (.iload_n 2, 1) := by decide +kernel
theorem dX8_goesAhead_114 : decode cX8_goesAhead 114 = .ok (.if_icmp .ge 7, 3) := by decide +kernel
theorem dX8_goesAhead_117 : decode cX8_goesAhead 117 = .ok (.iconst 1, 1) := by decide +kernel
theorem dX8_goesAhead_118 : decode cX8_goesAhead 118 = .ok (.goto 4, 3) := by decide +kernel
theorem dX8_goesAhead_121 : decode cX8_goesAhead 121 = .ok (.iconst 0, 1) := by decide +kernel
theorem dX8_goesAhead_122 : decode cX8_goesAhead 122 = .ok (.ireturn, 1) := by decide +kernel
theorem dX8_binds_0 : decode cX8_binds 0 = .ok (.aload_n 0, 1) := by decide +kernel
theorem dX8_binds_1 : decode cX8_binds 1 = .ok (.iload_n 1, 1) := by decide +kernel
theorem dX8_binds_2 : decode cX8_binds 2 = .ok (.invokevirtual 51, 3) := by decide +kernel
theorem dX8_binds_5 : decode cX8_binds 5 = .ok (.ifCond .eq 37, 3) := by decide +kernel
theorem dX8_binds_8 : decode cX8_binds 8 = .ok (.aload_n 0, 1) := by decide +kernel
theorem dX8_binds_9 : decode cX8_binds 9 = .ok (.getfield 9, 3) := by decide +kernel
theorem dX8_binds_12 : decode cX8_binds 12 = .ok (.iload_n 1, 1) := by decide +kernel
theorem dX8_binds_13 : decode cX8_binds 13 = .ok (.iaload, 1) := by decide +kernel
theorem dX8_binds_14 : decode cX8_binds 14 = .ok (.iload_n 2, 1) := by decide +kernel
theorem dX8_binds_15 : decode cX8_binds 15 = .ok (.if_icmp .ne 27, 3) := by decide +kernel
theorem dX8_binds_18 : decode cX8_binds 18 = .ok (.aload_n 0, 1) := by decide +kernel
theorem dX8_binds_19 : decode cX8_binds 19 = .ok (.getfield 15, 3) := by decide +kernel
theorem dX8_binds_22 : decode cX8_binds 22 = .ok (.iload_n 1, 1) := by decide +kernel
theorem dX8_binds_23 : decode cX8_binds 23 = .ok (.iaload, 1) := by decide +kernel
theorem dX8_binds_24 : decode cX8_binds 24 = .ok (.iload_n 3, 1) := by decide +kernel
theorem dX8_binds_25 : decode cX8_binds 25 = .ok (.if_icmp .ne 17, 3) := by decide +kernel
theorem dX8_binds_28 : decode cX8_binds 28 = .ok (.aload_n 0, 1) := by decide +kernel
theorem dX8_binds_29 : decode cX8_binds 29 = .ok (.getfield 40, 3) := by decide +kernel
theorem dX8_binds_32 : decode cX8_binds 32 = .ok (.iload_n 1, 1) := by decide +kernel
theorem dX8_binds_33 : decode cX8_binds 33 = .ok (.iaload, 1) := by decide +kernel
theorem dX8_binds_34 : decode cX8_binds 34 = .ok (.iconst (-1), 1) := by decide +kernel
theorem dX8_binds_35 : decode cX8_binds 35 = .ok (.if_icmp .ne 7, 3) := by decide +kernel
theorem dX8_binds_38 : decode cX8_binds 38 = .ok (.iconst 1, 1) := by decide +kernel
theorem dX8_binds_39 : decode cX8_binds 39 = .ok (.goto 4, 3) := by decide +kernel
theorem dX8_binds_42 : decode cX8_binds 42 = .ok (.iconst 0, 1) := by decide +kernel
theorem dX8_binds_43 : decode cX8_binds 43 = .ok (.ireturn, 1) := by decide +kernel
theorem dX8_partsReached_0 : decode cX8_partsReached 0 = .ok (.aload_n 0, 1) := by decide +kernel
theorem dX8_partsReached_1 : decode cX8_partsReached 1 = .ok (.iload_n 1, 1) := by decide +kernel
theorem dX8_partsReached_2 : decode cX8_partsReached 2 = .ok (.invokevirtual 51, 3) := by decide +kernel
theorem dX8_partsReached_5 : decode cX8_partsReached 5 = .ok (.ifCond .ne 5, 3) := by decide +kernel
theorem dX8_partsReached_8 : decode cX8_partsReached 8 = .ok (.iconst 0, 1) := by decide +kernel
theorem dX8_partsReached_9 : decode cX8_partsReached 9 = .ok (.ireturn, 1) := by decide +kernel
theorem dX8_partsReached_10 : decode cX8_partsReached 10 = .ok (.iconst 0, 1) := by decide +kernel
theorem dX8_partsReached_11 : decode cX8_partsReached 11 = .ok (.istore_n 3, 1) := by decide +kernel
theorem dX8_partsReached_12 : decode cX8_partsReached 12 = .ok (.iconst 0, 1) := by decide +kernel
theorem dX8_partsReached_13 : decode cX8_partsReached 13 = .ok (.istore 4, 2) := by decide +kernel
theorem dX8_partsReached_15 : decode cX8_partsReached 15 = .ok (.iload 4, 2) := by decide +kernel
theorem dX8_partsReached_17 : decode cX8_partsReached 17 = .ok (.aload_n 0, 1) := by decide +kernel
theorem dX8_partsReached_18 : decode cX8_partsReached 18 = .ok (.getfield 43, 3) := by decide +kernel
theorem dX8_partsReached_21 : decode cX8_partsReached 21 = .ok (.if_icmp .ge 64, 3) := by decide +kernel
theorem dX8_partsReached_24 : decode cX8_partsReached 24 = .ok (.iload 4, 2) := by decide +kernel
theorem dX8_partsReached_26 : decode cX8_partsReached 26 = .ok (.bipush 40, 2) := by decide +kernel
theorem dX8_partsReached_28 : decode cX8_partsReached 28 = .ok (.if_icmp .ge 57, 3) := by decide +kernel
theorem dX8_partsReached_31 : decode cX8_partsReached 31 = .ok (.iload 4, 2) := by decide +kernel
theorem dX8_partsReached_33 : decode cX8_partsReached 33 = .ok (.iload_n 1, 1) := by decide +kernel
theorem dX8_partsReached_34 : decode cX8_partsReached 34 = .ok (.if_icmp .eq 45, 3) := by decide +kernel
theorem dX8_partsReached_37 : decode cX8_partsReached 37 = .ok (.aload_n 0, 1) := by decide +kernel
theorem dX8_partsReached_38 : decode cX8_partsReached 38 = .ok (.iload 4, 2) := by decide +kernel
theorem dX8_partsReached_40 : decode cX8_partsReached 40 = .ok (.aload_n 0, 1) := by decide +kernel
theorem dX8_partsReached_41 : decode cX8_partsReached 41 = .ok (.getfield 9, 3) := by decide +kernel
theorem dX8_partsReached_44 : decode cX8_partsReached 44 = .ok (.iload_n 1, 1) := by decide +kernel
theorem dX8_partsReached_45 : decode cX8_partsReached 45 = .ok (.iaload, 1) := by decide +kernel
theorem dX8_partsReached_46 : decode cX8_partsReached 46 = .ok (.aload_n 0, 1) := by decide +kernel
theorem dX8_partsReached_47 : decode cX8_partsReached 47 = .ok (.getfield 15, 3) := by decide +kernel
theorem dX8_partsReached_50 : decode cX8_partsReached 50 = .ok (.iload_n 1, 1) := by decide +kernel
theorem dX8_partsReached_51 : decode cX8_partsReached 51 = .ok (.iaload, 1) := by decide +kernel
theorem dX8_partsReached_52 : decode cX8_partsReached 52 = .ok (.invokevirtual 55, 3) := by decide +kernel
theorem dX8_partsReached_55 : decode cX8_partsReached 55 = .ok (.ifCond .eq 24, 3) := by decide +kernel
theorem dX8_partsReached_58 : decode cX8_partsReached 58 = .ok (.aload_n 0, 1) := by decide +kernel
theorem dX8_partsReached_59 : decode cX8_partsReached 59 = .ok (.iload 4, 2) := by decide +kernel
theorem dX8_partsReached_61 : decode cX8_partsReached 61 = .ok (.iload_n 1, 1) := by decide +kernel
theorem dX8_partsReached_62 : decode cX8_partsReached 62 = .ok (.iload_n 2, 1) := by decide +kernel
theorem dX8_partsReached_63 : decode cX8_partsReached 63 = .ok (.invokevirtual 59, 3) := by decide +kernel
theorem dX8_partsReached_66 : decode cX8_partsReached 66 = .ok (.ifCond .eq 13, 3) := by decide +kernel
theorem dX8_partsReached_69 : decode cX8_partsReached 69 = .ok (.iload_n 3, 1) := by decide +kernel
theorem dX8_partsReached_70 : decode cX8_partsReached 70 = .ok (.aload_n 0, 1) := by decide +kernel
theorem dX8_partsReached_71 : decode cX8_partsReached 71 = .ok (.getfield 18, 3) := by decide +kernel
theorem dX8_partsReached_74 : decode cX8_partsReached 74 = .ok (.iload 4, 2) := by decide +kernel
theorem dX8_partsReached_76 : decode cX8_partsReached 76 = .ok (.iaload, 1) := by decide +kernel
theorem dX8_partsReached_77 : decode cX8_partsReached 77 = .ok (.iadd, 1) := by decide +kernel
theorem dX8_partsReached_78 : decode cX8_partsReached 78 = .ok (.istore_n 3, 1) := by decide +kernel
theorem dX8_partsReached_79 : decode cX8_partsReached 79 = .ok (.iinc 4 1, 3) := by decide +kernel
theorem dX8_partsReached_82 : decode cX8_partsReached 82 = .ok (.goto (-67), 3) := by decide +kernel
theorem dX8_partsReached_85 : decode cX8_partsReached 85 = .ok (.iconst 0, 1) := by decide +kernel
theorem dX8_partsReached_86 : decode cX8_partsReached 86 = .ok (.aload_n 0, 1) := by decide +kernel
theorem dX8_partsReached_87 : decode cX8_partsReached 87 = .ok (.getfield 18, 3) := by decide +kernel
theorem dX8_partsReached_90 : decode cX8_partsReached 90 = .ok (.iload_n 1, 1) := by decide +kernel
theorem dX8_partsReached_91 : decode cX8_partsReached 91 = .ok (.iaload, 1) := by decide +kernel
theorem dX8_partsReached_92 : decode cX8_partsReached 92 = .ok (.sipush 1000, 3) := by decide +kernel
theorem dX8_partsReached_95 : decode cX8_partsReached 95 = .ok (.iload_n 3, 1) := by decide +kernel
theorem dX8_partsReached_96 : decode cX8_partsReached 96 = .ok (.isub, 1) := by decide +kernel
theorem dX8_partsReached_97 : decode cX8_partsReached 97 = .ok (.invokestatic 62, 3) := by decide +kernel
theorem dX8_partsReached_100 : decode cX8_partsReached 100 = .ok (.invokestatic 68, 3) := by decide +kernel
theorem dX8_partsReached_103 : decode cX8_partsReached 103 = .ok (.ireturn, 1) := by decide +kernel
theorem dX9_init_0 : decode cX9_init 0 = .ok (.aload_n 0, 1) := by decide +kernel
theorem dX9_init_1 : decode cX9_init 1 = .ok (.invokespecial 3, 3) := by decide +kernel
theorem dX9_init_4 : decode cX9_init 4 = .ok (.aload_n 0, 1) := by decide +kernel
theorem dX9_init_5 : decode cX9_init 5 = .ok (.bipush 8, 2) := by decide +kernel
theorem dX9_init_7 : decode cX9_init 7 = .ok (.newarray .int, 2) := by decide +kernel
theorem dX9_init_9 : decode cX9_init 9 = .ok (.putfield 9, 3) := by decide +kernel
theorem dX9_init_12 : decode cX9_init 12 = .ok (.aload_n 0, 1) := by decide +kernel
theorem dX9_init_13 : decode cX9_init 13 = .ok (.bipush 8, 2) := by decide +kernel
theorem dX9_init_15 : decode cX9_init 15 = .ok (.newarray .int, 2) := by decide +kernel
theorem dX9_init_17 : decode cX9_init 17 = .ok (.putfield 15, 3) := by decide +kernel
theorem dX9_init_20 : decode cX9_init 20 = .ok (.aload_n 0, 1) := by decide +kernel
theorem dX9_init_21 : decode cX9_init 21 = .ok (.bipush 32, 2) := by decide +kernel
theorem dX9_init_23 : decode cX9_init 23 = .ok (.newarray .int, 2) := by decide +kernel
theorem dX9_init_25 : decode cX9_init 25 = .ok (.putfield 18, 3) := by decide +kernel
theorem dX9_init_28 : decode cX9_init 28 = .ok (.aload_n 0, 1) := by decide +kernel
theorem dX9_init_29 : decode cX9_init 29 = .ok (.bipush 32, 2) := by decide +kernel
theorem dX9_init_31 : decode cX9_init 31 = .ok (.newarray .int, 2) := by decide +kernel
theorem dX9_init_33 : decode cX9_init 33 = .ok (.putfield 21, 3) := by decide +kernel
theorem dX9_init_36 : decode cX9_init 36 = .ok (.aload_n 0, 1) := by decide +kernel
theorem dX9_init_37 : decode cX9_init 37 = .ok (.bipush 100, 2) := by decide +kernel
theorem dX9_init_39 : decode cX9_init 39 = .ok (.newarray .int, 2) := by decide +kernel
theorem dX9_init_41 : decode cX9_init 41 = .ok (.putfield 24, 3) := by decide +kernel
theorem dX9_init_44 : decode cX9_init 44 = .ok (.return_, 1) := by decide +kernel
theorem dX9_begin_0 : decode cX9_begin 0 = .ok (.aload_n 0, 1) := by decide +kernel
theorem dX9_begin_1 : decode cX9_begin 1 = .ok (.iload_n 1, 1) := by decide +kernel
theorem dX9_begin_2 : decode cX9_begin 2 = .ok (.putfield 27, 3) := by decide +kernel
theorem dX9_begin_5 : decode cX9_begin 5 = .ok (.aload_n 0, 1) := by decide +kernel
theorem dX9_begin_6 : decode cX9_begin 6 = .ok (.iload_n 2, 1) := by decide +kernel
theorem dX9_begin_7 : decode cX9_begin 7 = .ok (.putfield 31, 3) := by decide +kernel
theorem dX9_begin_10 : decode cX9_begin 10 = .ok (.aload_n 0, 1) := by decide +kernel
theorem dX9_begin_11 : decode cX9_begin 11 = .ok (.iload_n 3, 1) := by decide +kernel
theorem dX9_begin_12 : decode cX9_begin 12 = .ok (.putfield 34, 3) := by decide +kernel
theorem dX9_begin_15 : decode cX9_begin 15 = .ok (.aload_n 0, 1) := by decide +kernel
theorem dX9_begin_16 : decode cX9_begin 16 = .ok (.iconst 0, 1) := by decide +kernel
theorem dX9_begin_17 : decode cX9_begin 17 = .ok (.putfield 37, 3) := by decide +kernel
theorem dX9_begin_20 : decode cX9_begin 20 = .ok (.aload_n 0, 1) := by decide +kernel
theorem dX9_begin_21 : decode cX9_begin 21 = .ok (.iconst 0, 1) := by decide +kernel
theorem dX9_begin_22 : decode cX9_begin 22 = .ok (.putfield 40, 3) := by decide +kernel
theorem dX9_begin_25 : decode cX9_begin 25 = .ok (.aload_n 0, 1) := by decide +kernel
theorem dX9_begin_26 : decode cX9_begin 26 = .ok (.iconst 0, 1) := by decide +kernel
theorem dX9_begin_27 : decode cX9_begin 27 = .ok (.putfield 43, 3) := by decide +kernel
theorem dX9_begin_30 : decode cX9_begin 30 = .ok (.aload_n 0, 1) := by decide +kernel
theorem dX9_begin_31 : decode cX9_begin 31 = .ok (.iconst 0, 1) := by decide +kernel
theorem dX9_begin_32 : decode cX9_begin 32 = .ok (.putfield 46, 3) := by decide +kernel
theorem dX9_begin_35 : decode cX9_begin 35 = .ok (.aload_n 0, 1) := by decide +kernel
theorem dX9_begin_36 : decode cX9_begin 36 = .ok (.iconst 0, 1) := by decide +kernel
theorem dX9_begin_37 : decode cX9_begin 37 = .ok (.putfield 49, 3) := by decide +kernel
theorem dX9_begin_40 : decode cX9_begin 40 = .ok (.return_, 1) := by decide +kernel
theorem dX9_readText_0 : decode cX9_readText 0 = .ok (.iconst 0, 1) := by decide +kernel
theorem dX9_readText_1 : decode cX9_readText 1 = .ok (.istore_n 2, 1) := by decide +kernel
theorem dX9_readText_2 : decode cX9_readText 2 = .ok (.iload_n 2, 1) := by decide +kernel
theorem dX9_readText_3 : decode cX9_readText 3 = .ok (.bipush 8, 2) := by decide +kernel
theorem dX9_readText_5 : decode cX9_readText 5 = .ok (.if_icmp .gt 123, 3) := by decide +kernel
theorem dX9_readText_8 : decode cX9_readText 8 = .ok (.aload_n 1, 1) := by decide +kernel
theorem dX9_readText_9 : decode cX9_readText 9 = .ok (.invokestatic 52, 3) := by decide +kernel
theorem dX9_readText_12 : decode cX9_readText 12 = .ok (.ifCond .ne 9, 3) := by decide +kernel
theorem dX9_readText_15 : decode cX9_readText 15 = .ok (.aload_n 1, 1) := by decide +kernel
theorem dX9_readText_16 : decode cX9_readText 16 = .ok (.iconst 1, 1) := by decide +kernel
theorem dX9_readText_17 : decode cX9_readText 17 = .ok (.invokevirtual 56, 3) := by decide +kernel
theorem dX9_readText_20 : decode cX9_readText 20 = .ok (.ireturn, 1) := by decide +kernel
theorem dX9_readText_21 : decode cX9_readText 21 = .ok (.iload_n 2, 1) := by decide +kernel
theorem dX9_readText_22 : decode cX9_readText 22 = .ok (.bipush 8, 2) := by decide +kernel
theorem dX9_readText_24 : decode cX9_readText 24 = .ok (.if_icmp .ne 9, 3) := by decide +kernel
theorem dX9_readText_27 : decode cX9_readText 27 = .ok (.aload_n 1, 1) := by decide +kernel
theorem dX9_readText_28 : decode cX9_readText 28 = .ok (.iconst 3, 1) := by decide +kernel
theorem dX9_readText_29 : decode cX9_readText 29 = .ok (.invokevirtual 56, 3) := by decide +kernel
theorem dX9_readText_32 : decode cX9_readText 32 = .ok (.ireturn, 1) := by decide +kernel
theorem dX9_readText_33 : decode cX9_readText 33 = .ok (.aload_n 0, 1) := by decide +kernel
theorem dX9_readText_34 : decode cX9_readText 34 = .ok (.aload_n 1, 1) := by decide +kernel
theorem dX9_readText_35 : decode cX9_readText 35 = .ok (.invokevirtual 62, 3) := by decide +kernel
theorem dX9_readText_38 : decode cX9_readText 38 = .ok (.ifCond .ne 5, 3) := by decide +kernel
theorem dX9_readText_41 : decode cX9_readText 41 = .ok (.iconst 0, 1) := by decide +kernel
theorem dX9_readText_42 : decode cX9_readText 42 = .ok (.ireturn, 1) := by decide +kernel
theorem dX9_readText_43 : decode cX9_readText 43 = .ok (.aload_n 1, 1) := by decide +kernel
theorem dX9_readText_44 : decode cX9_readText 44 = .ok (.bipush 40, 2) := by decide +kernel
theorem dX9_readText_46 : decode cX9_readText 46 = .ok (.invokevirtual 65, 3) := by decide +kernel
theorem dX9_readText_49 : decode cX9_readText 49 = .ok (.ifCond .eq 21, 3) := by decide +kernel
theorem dX9_readText_52 : decode cX9_readText 52 = .ok (.aload_n 0, 1) := by decide +kernel
theorem dX9_readText_53 : decode cX9_readText 53 = .ok (.aload_n 1, 1) := by decide +kernel
theorem dX9_readText_54 : decode cX9_readText 54 = .ok (.iconst 1, 1) := by decide +kernel
theorem dX9_readText_55 : decode cX9_readText 55 = .ok (.invokevirtual 68, 3) := by decide +kernel
theorem dX9_readText_58 : decode cX9_readText 58 = .ok (.ifCond .eq 10, 3) := by decide +kernel
theorem dX9_readText_61 : decode cX9_readText 61 = .ok (.aload_n 1, 1) := by decide +kernel
theorem dX9_readText_62 : decode cX9_readText 62 = .ok (.invokestatic 72, 3) := by decide +kernel
theorem dX9_readText_65 : decode cX9_readText 65 = .ok (.ifCond .ne 5, 3) := by decide +kernel
theorem dX9_readText_68 : decode cX9_readText 68 = .ok (.iconst 0, 1) := by decide +kernel
theorem dX9_readText_69 : decode cX9_readText 69 = .ok (.ireturn, 1) := by decide +kernel
theorem dX9_readText_70 : decode cX9_readText 70 = .ok (.aload_n 0, 1) := by decide +kernel
theorem dX9_readText_71 : decode cX9_readText 71 = .ok (.getfield 9, 3) := by decide +kernel
theorem dX9_readText_74 : decode cX9_readText 74 = .ok (.iload_n 2, 1) := by decide +kernel
theorem dX9_readText_75 : decode cX9_readText 75 = .ok (.aload_n 0, 1) := by decide +kernel
theorem dX9_readText_76 : decode cX9_readText 76 = .ok (.getfield 40, 3) := by decide +kernel
theorem dX9_readText_79 : decode cX9_readText 79 = .ok (.iastore, 1) := by decide +kernel
theorem dX9_readText_80 : decode cX9_readText 80 = .ok (.aload_n 0, 1) := by decide +kernel
theorem dX9_readText_81 : decode cX9_readText 81 = .ok (.getfield 15, 3) := by decide +kernel
theorem dX9_readText_84 : decode cX9_readText 84 = .ok (.iload_n 2, 1) := by decide +kernel
theorem dX9_readText_85 : decode cX9_readText 85 = .ok (.aload_n 0, 1) := by decide +kernel
theorem dX9_readText_86 : decode cX9_readText 86 = .ok (.getfield 43, 3) := by decide +kernel
theorem dX9_readText_89 : decode cX9_readText 89 = .ok (.iastore, 1) := by decide +kernel
theorem dX9_readText_90 : decode cX9_readText 90 = .ok (.aload_n 0, 1) := by decide +kernel
theorem dX9_readText_91 : decode cX9_readText 91 = .ok (.iload_n 2, 1) := by decide +kernel
theorem dX9_readText_92 : decode cX9_readText 92 = .ok (.iconst 1, 1) := by decide +kernel
theorem dX9_readText_93 : decode cX9_readText 93 = .ok (.iadd, 1) := by decide +kernel
theorem dX9_readText_94 : decode cX9_readText 94 = .ok (.putfield 37, 3) := by decide +kernel
theorem dX9_readText_97 : decode cX9_readText 97 = .ok (.aload_n 1, 1) := by decide +kernel
theorem dX9_readText_98 : decode cX9_readText 98 = .ok (.invokevirtual 75, 3) := by decide +kernel
theorem dX9_readText_101 : decode cX9_readText 101 = .ok (.iconst (-1), 1) := by decide +kernel
theorem dX9_readText_102 : decode cX9_readText 102 = .ok (.if_icmp .ne 5, 3) := by decide +kernel
theorem dX9_readText_105 : decode cX9_readText 105 = .ok (.iconst 1, 1) := by decide +kernel
theorem dX9_readText_106 : decode cX9_readText 106 = .ok (.ireturn, 1) := by decide +kernel
theorem dX9_readText_107 : decode cX9_readText 107 = .ok (.aload_n 1, 1) := by decide +kernel
theorem dX9_readText_108 : decode cX9_readText 108 = .ok (.bipush 59, 2) := by decide +kernel
theorem dX9_readText_110 : decode cX9_readText 110 = .ok (.invokevirtual 65, 3) := by decide +kernel
theorem dX9_readText_113 : decode cX9_readText 113 = .ok (.ifCond .ne 9, 3) := by decide +kernel
theorem dX9_readText_116 : decode cX9_readText 116 = .ok (.aload_n 1, 1) := by decide +kernel
theorem dX9_readText_117 : decode cX9_readText 117 = .ok (.iconst 1, 1) := by decide +kernel
theorem dX9_readText_118 : decode cX9_readText 118 = .ok (.invokevirtual 56, 3) := by decide +kernel
theorem dX9_readText_121 : decode cX9_readText 121 = .ok (.ireturn, 1) := by decide +kernel
theorem dX9_readText_122 : decode cX9_readText 122 = .ok (.iinc 2 1, 3) := by decide +kernel
theorem dX9_readText_125 : decode cX9_readText 125 = .ok (.goto (-123), 3) := by decide +kernel
theorem dX9_readText_128 : decode cX9_readText 128 = .ok (.iconst 0, 1) := by decide +kernel
theorem dX9_readText_129 : decode cX9_readText 129 = .ok (.ireturn, 1) := by decide +kernel
theorem dX9_opensTaker_0 : decode cX9_opensTaker 0 = .ok (.aload_n 0, 1) := by decide +kernel
theorem dX9_opensTaker_1 : decode cX9_opensTaker 1 = .ok (.invokevirtual 75, 3) := by decide +kernel
theorem dX9_opensTaker_4 : decode cX9_opensTaker 4 = .ok (.bipush 42, 2) := by decide +kernel
theorem dX9_opensTaker_6 : decode cX9_opensTaker 6 = .ok (.if_icmp .eq 11, 3) := by decide +kernel
theorem dX9_opensTaker_9 : decode cX9_opensTaker 9 = .ok (.aload_n 0, 1) := by decide +kernel
theorem dX9_opensTaker_10 : decode cX9_opensTaker 10 = .ok (.invokevirtual 79, 3) := by decide +kernel
theorem dX9_opensTaker_13 : decode cX9_opensTaker 13 = .ok (.iconst (-1), 1) := by decide +kernel
theorem dX9_opensTaker_14 : decode cX9_opensTaker 14 = .ok (.if_icmp .eq 7, 3) := by decide +kernel
theorem dX9_opensTaker_17 : decode cX9_opensTaker 17 = .ok (.iconst 1, 1) := by decide +kernel
theorem dX9_opensTaker_18 : decode cX9_opensTaker 18 = .ok (.goto 4, 3) := by decide +kernel
theorem dX9_opensTaker_21 : decode cX9_opensTaker 21 = .ok (.iconst 0, 1) := by decide +kernel
theorem dX9_opensTaker_22 : decode cX9_opensTaker 22 = .ok (.ireturn, 1) := by decide +kernel
theorem dX9_readShares_0 : decode cX9_readShares 0 = .ok (.iconst 0, 1) := by decide +kernel
theorem dX9_readShares_1 : decode cX9_readShares 1 = .ok (.istore_n 2, 1) := by decide +kernel
theorem dX9_readShares_2 : decode cX9_readShares 2 = .ok (.iload_n 2, 1) := by decide +kernel
theorem dX9_readShares_3 : decode cX9_readShares 3 = .ok (.iconst 4, 1) := by decide +kernel
theorem dX9_readShares_4 : decode cX9_readShares 4 = .ok (.if_icmp .gt 54, 3) := by decide +kernel
theorem dX9_readShares_7 : decode cX9_readShares 7 = .ok (.aload_n 1, 1) := by decide +kernel
theorem dX9_readShares_8 : decode cX9_readShares 8 = .ok (.invokestatic 52, 3) := by decide +kernel
theorem dX9_readShares_11 : decode cX9_readShares 11 = .ok (.ifCond .ne 9, 3) := by decide +kernel
theorem dX9_readShares_14 : decode cX9_readShares 14 = .ok (.aload_n 1, 1) := by decide +kernel
theorem dX9_readShares_15 : decode cX9_readShares 15 = .ok (.iconst 1, 1) := by decide +kernel
theorem dX9_readShares_16 : decode cX9_readShares 16 = .ok (.invokevirtual 56, 3) := by decide +kernel
theorem dX9_readShares_19 : decode cX9_readShares 19 = .ok (.ireturn, 1) := by decide +kernel
theorem dX9_readShares_20 : decode cX9_readShares 20 = .ok (.iload_n 2, 1) := by decide +kernel
theorem dX9_readShares_21 : decode cX9_readShares 21 = .ok (.iconst 4, 1) := by decide +kernel
theorem dX9_readShares_22 : decode cX9_readShares 22 = .ok (.if_icmp .ne 9, 3) := by decide +kernel
theorem dX9_readShares_25 : decode cX9_readShares 25 = .ok (.aload_n 1, 1) := by decide +kernel
theorem dX9_readShares_26 : decode cX9_readShares 26 = .ok (.iconst 4, 1) := by decide +kernel
theorem dX9_readShares_27 : decode cX9_readShares 27 = .ok (.invokevirtual 56, 3) := by decide +kernel
theorem dX9_readShares_30 : decode cX9_readShares 30 = .ok (.ireturn, 1) := by decide +kernel
theorem dX9_readShares_31 : decode cX9_readShares 31 = .ok (.aload_n 0, 1) := by decide +kernel
theorem dX9_readShares_32 : decode cX9_readShares 32 = .ok (.aload_n 1, 1) := by decide +kernel
theorem dX9_readShares_33 : decode cX9_readShares 33 = .ok (.invokevirtual 82, 3) := by decide +kernel
theorem dX9_readShares_36 : decode cX9_readShares 36 = .ok (.ifCond .ne 5, 3) := by decide +kernel
theorem dX9_readShares_39 : decode cX9_readShares 39 = .ok (.iconst 0, 1) := by decide +kernel
theorem dX9_readShares_40 : decode cX9_readShares 40 = .ok (.ireturn, 1) := by decide +kernel
theorem dX9_readShares_41 : decode cX9_readShares 41 = .ok (.aload_n 1, 1) := by decide +kernel
theorem dX9_readShares_42 : decode cX9_readShares 42 = .ok (.bipush 44, 2) := by decide +kernel
theorem dX9_readShares_44 : decode cX9_readShares 44 = .ok (.invokevirtual 65, 3) := by decide +kernel
theorem dX9_readShares_47 : decode cX9_readShares 47 = .ok (.ifCond .ne 5, 3) := by decide +kernel
theorem dX9_readShares_50 : decode cX9_readShares 50 = .ok (.iconst 1, 1) := by decide +kernel
theorem dX9_readShares_51 : decode cX9_readShares 51 = .ok (.ireturn, 1) := by decide +kernel
theorem dX9_readShares_52 : decode cX9_readShares 52 = .ok (.iinc 2 1, 3) := by decide +kernel
theorem dX9_readShares_55 : decode cX9_readShares 55 = .ok (.goto (-53), 3) := by decide +kernel
theorem dX9_readShares_58 : decode cX9_readShares 58 = .ok (.iconst 0, 1) := by decide +kernel
theorem dX9_readShares_59 : decode cX9_readShares 59 = .ok (.ireturn, 1) := by decide +kernel
theorem dX9_readShare_0 : decode cX9_readShare 0 = .ok (.aload_n 0, 1) := by decide +kernel
theorem dX9_readShare_1 : decode cX9_readShare 1 = .ok (.aload_n 1, 1) := by decide +kernel
theorem dX9_readShare_2 : decode cX9_readShare 2 = .ok (.invokevirtual 85, 3) := by decide +kernel
theorem dX9_readShare_5 : decode cX9_readShare 5 = .ok (.istore_n 2, 1) := by decide +kernel
theorem dX9_readShare_6 : decode cX9_readShare 6 = .ok (.iload_n 2, 1) := by decide +kernel
theorem dX9_readShare_7 : decode cX9_readShare 7 = .ok (.iconst (-1), 1) := by decide +kernel
theorem dX9_readShare_8 : decode cX9_readShare 8 = .ok (.if_icmp .eq 15, 3) := by decide +kernel
theorem dX9_readShare_11 : decode cX9_readShare 11 = .ok (.aload_n 0, 1) := by decide +kernel
theorem dX9_readShare_12 : decode cX9_readShare 12 = .ok (.getfield 40, 3) := by decide +kernel
theorem dX9_readShare_15 : decode cX9_readShare 15 = .ok (.aload_n 0, 1) := by decide +kernel
theorem dX9_readShare_16 : decode cX9_readShare 16 = .ok (.getfield 18, 3) := by decide +kernel
theorem dX9_readShare_19 : decode cX9_readShare 19 = .ok (.arraylength, 1) := by decide +kernel
theorem dX9_readShare_20 : decode cX9_readShare 20 = .ok (.if_icmp .lt 5, 3) := by decide +kernel
theorem dX9_readShare_23 : decode cX9_readShare 23 = .ok (.iconst 0, 1) := by decide +kernel
theorem dX9_readShare_24 : decode cX9_readShare 24 = .ok (.ireturn, 1) := by decide +kernel
theorem dX9_readShare_25 : decode cX9_readShare 25 = .ok (.iconst 1, 1) := by decide +kernel
theorem dX9_readShare_26 : decode cX9_readShare 26 = .ok (.istore_n 3, 1) := by decide +kernel
theorem dX9_readShare_27 : decode cX9_readShare 27 = .ok (.aload_n 1, 1) := by decide +kernel
theorem dX9_readShare_28 : decode cX9_readShare 28 = .ok (.bipush 47, 2) := by decide +kernel
theorem dX9_readShare_30 : decode cX9_readShare 30 = .ok (.invokevirtual 65, 3) := by decide +kernel
theorem dX9_readShare_33 : decode cX9_readShare 33 = .ok (.ifCond .eq 20, 3) := by decide +kernel
theorem dX9_readShare_36 : decode cX9_readShare 36 = .ok (.aload_n 1, 1) := by decide +kernel
theorem dX9_readShare_37 : decode cX9_readShare 37 = .ok (.iconst 2, 1) := by decide +kernel
theorem dX9_readShare_38 : decode cX9_readShare 38 = .ok (.invokevirtual 89, 3) := by decide +kernel
theorem dX9_readShare_41 : decode cX9_readShare 41 = .ok (.istore_n 3, 1) := by decide +kernel
theorem dX9_readShare_42 : decode cX9_readShare 42 = .ok (.iload_n 3, 1) := by decide +kernel
theorem dX9_readShare_43 : decode cX9_readShare 43 = .ok (.iconst (-1), 1) := by decide +kernel
theorem dX9_readShare_44 : decode cX9_readShare 44 = .ok (.if_icmp .ne 9, 3) := by decide +kernel
theorem dX9_readShare_47 : decode cX9_readShare 47 = .ok (.aload_n 1, 1) := by decide +kernel
theorem dX9_readShare_48 : decode cX9_readShare 48 = .ok (.iconst 1, 1) := by decide +kernel
theorem dX9_readShare_49 : decode cX9_readShare 49 = .ok (.invokevirtual 56, 3) := by decide +kernel
theorem dX9_readShare_52 : decode cX9_readShare 52 = .ok (.ireturn, 1) := by decide +kernel
theorem dX9_readShare_53 : decode cX9_readShare 53 = .ok (.aload_n 0, 1) := by decide +kernel
theorem dX9_readShare_54 : decode cX9_readShare 54 = .ok (.getfield 18, 3) := by decide +kernel
theorem dX9_readShare_57 : decode cX9_readShare 57 = .ok (.aload_n 0, 1) := by decide +kernel
theorem dX9_readShare_58 : decode cX9_readShare 58 = .ok (.getfield 40, 3) := by decide +kernel
theorem dX9_readShare_61 : decode cX9_readShare 61 = .ok (.iload_n 2, 1) := by decide +kernel
theorem dX9_readShare_62 : decode cX9_readShare 62 = .ok (.iastore, 1) := by decide +kernel
theorem dX9_readShare_63 : decode cX9_readShare 63 = .ok (.aload_n 0, 1) := by decide +kernel
theorem dX9_readShare_64 : decode cX9_readShare 64 = .ok (.getfield 21, 3) := by decide +kernel
theorem dX9_readShare_67 : decode cX9_readShare 67 = .ok (.aload_n 0, 1) := by decide +kernel
theorem dX9_readShare_68 : decode cX9_readShare 68 = .ok (.getfield 40, 3) := by decide +kernel
theorem dX9_readShare_71 : decode cX9_readShare 71 = .ok (.iload_n 3, 1) := by decide +kernel
theorem dX9_readShare_72 : decode cX9_readShare 72 = .ok (.iastore, 1) := by decide +kernel
theorem dX9_readShare_73 : decode cX9_readShare 73 = .ok (.aload_n 0, 1) := by decide +kernel
theorem dX9_readShare_74 : decode cX9_readShare 74 = .ok (.dup, 1) := by decide +kernel
theorem dX9_readShare_75 : decode cX9_readShare 75 = .ok (.getfield 40, 3) := by decide +kernel
theorem dX9_readShare_78 : decode cX9_readShare 78 = .ok (.iconst 1, 1) := by decide +kernel
theorem dX9_readShare_79 : decode cX9_readShare 79 = .ok (.iadd, 1) := by decide +kernel
theorem dX9_readShare_80 : decode cX9_readShare 80 = .ok (.putfield 40, 3) := by decide +kernel
theorem dX9_readShare_83 : decode cX9_readShare 83 = .ok (.iconst 1, 1) := by decide +kernel
theorem dX9_readShare_84 : decode cX9_readShare 84 = .ok (.ireturn, 1) := by decide +kernel
theorem dX9_readWho_0 : decode cX9_readWho 0 = .ok (.aload_n 1, 1) := by decide +kernel
theorem dX9_readWho_1 : decode cX9_readWho 1 = .ok (.bipush 42, 2) := by decide +kernel
theorem dX9_readWho_3 : decode cX9_readWho 3 = .ok (.invokevirtual 65, 3) := by decide +kernel
theorem dX9_readWho_6 : decode cX9_readWho 6 = .ok (.istore_n 2, 1) := by decide +kernel
theorem dX9_readWho_7 : decode cX9_readWho 7 = .ok (.aload_n 1, 1) := by decide +kernel
theorem dX9_readWho_8 : decode cX9_readWho 8 = .ok (.invokevirtual 79, 3) := by decide +kernel
theorem dX9_readWho_11 : decode cX9_readWho 11 = .ok (.istore_n 3, 1) := by decide +kernel
theorem dX9_readWho_12 : decode cX9_readWho 12 = .ok (.iload_n 3, 1) := by decide +kernel
theorem dX9_readWho_13 : decode cX9_readWho 13 = .ok (.iconst (-1), 1) := by decide +kernel
theorem dX9_readWho_14 : decode cX9_readWho 14 = .ok (.if_icmp .ne 11, 3) := by decide +kernel
theorem dX9_readWho_17 : decode cX9_readWho 17 = .ok (.aload_n 1, 1) := by decide +kernel
theorem dX9_readWho_18 : decode cX9_readWho 18 = .ok (.iconst 1, 1) := by decide +kernel
theorem dX9_readWho_19 : decode cX9_readWho 19 = .ok (.invokevirtual 56, 3) := by decide +kernel
theorem dX9_readWho_22 : decode cX9_readWho 22 = .ok (.pop, 1) := by decide +kernel
theorem dX9_readWho_23 : decode cX9_readWho 23 = .ok (.iconst (-1), 1) := by decide +kernel
theorem dX9_readWho_24 : decode cX9_readWho 24 = .ok (.ireturn, 1) := by decide +kernel
theorem dX9_readWho_25 : decode cX9_readWho 25 = .ok (.iload_n 2, 1) := by decide +kernel
theorem dX9_readWho_26 : decode cX9_readWho 26 = .ok (.ifCond .ne 19, 3) := by decide +kernel
theorem dX9_readWho_29 : decode cX9_readWho 29 = .ok (.iload_n 3, 1) := by decide +kernel
theorem dX9_readWho_30 : decode cX9_readWho 30 = .ok (.aload_n 0, 1) := by decide +kernel
theorem dX9_readWho_31 : decode cX9_readWho 31 = .ok (.getfield 31, 3) := by decide +kernel
theorem dX9_readWho_34 : decode cX9_readWho 34 = .ok (.if_icmp .ne 11, 3) := by decide +kernel
theorem dX9_readWho_37 : decode cX9_readWho 37 = .ok (.aload_n 1, 1) := by decide +kernel
theorem dX9_readWho_38 : decode cX9_readWho 38 = .ok (.iconst 2, 1) := by decide +kernel
theorem dX9_readWho_39 : decode cX9_readWho 39 = .ok (.invokevirtual 56, 3) := by decide +kernel
theorem dX9_readWho_42 : decode cX9_readWho 42 = .ok (.pop, 1) := by decide +kernel
theorem dX9_readWho_43 : decode cX9_readWho 43 = .ok (.iconst (-1), 1) := by decide +kernel
theorem dX9_readWho_44 : decode cX9_readWho 44 = .ok (.ireturn, 1) := by decide +kernel
theorem dX9_readWho_45 : decode cX9_readWho 45 = .ok (.aload_n 1, 1) := by decide +kernel
theorem dX9_readWho_46 : decode cX9_readWho 46 = .ok (.dup, 1) := by decide +kernel
theorem dX9_readWho_47 : decode cX9_readWho 47 = .ok (.getfield 93, 3) := by decide +kernel
theorem dX9_readWho_50 : decode cX9_readWho 50 = .ok (.iconst 1, 1) := by decide +kernel
theorem dX9_readWho_51 : decode cX9_readWho 51 = .ok (.iadd, 1) := by decide +kernel
theorem dX9_readWho_52 : decode cX9_readWho 52 = .ok (.putfield 93, 3) := by decide +kernel
theorem dX9_readWho_55 : decode cX9_readWho 55 = .ok (.iload_n 2, 1) := by decide +kernel
theorem dX9_readWho_56 : decode cX9_readWho 56 = .ok (.ifCond .eq 20, 3) := by decide +kernel
theorem dX9_readWho_59 : decode cX9_readWho 59 = .ok (.aload_n 0, 1) := by decide +kernel
theorem dX9_readWho_60 : decode cX9_readWho 60 = .ok (.dup, 1) := by decide +kernel
theorem dX9_readWho_61 : decode cX9_readWho 61 = .ok (.getfield 49, 3) := by decide +kernel
theorem dX9_readWho_64 : decode cX9_readWho 64 = .ok (.iconst 1, 1) := by decide +kernel
theorem dX9_readWho_65 : decode cX9_readWho 65 = .ok (.iload_n 3, 1) := by decide +kernel
theorem dX9_readWho_66 : decode cX9_readWho 66 = .ok (.ishl, 1) := by decide +kernel
theorem dX9_readWho_67 : decode cX9_readWho 67 = .ok (.ior, 1) := by decide +kernel
theorem dX9_readWho_68 : decode cX9_readWho 68 = .ok (.putfield 49, 3) := by decide +kernel
theorem dX9_readWho_71 : decode cX9_readWho 71 = .ok (.bipush 16, 2) := by decide +kernel
theorem dX9_readWho_73 : decode cX9_readWho 73 = .ok (.iload_n 3, 1) := by decide +kernel
theorem dX9_readWho_74 : decode cX9_readWho 74 = .ok (.iadd, 1) := by decide +kernel
theorem dX9_readWho_75 : decode cX9_readWho 75 = .ok (.ireturn, 1) := by decide +kernel
theorem dX9_readWho_76 : decode cX9_readWho 76 = .ok (.aload_n 0, 1) := by decide +kernel
theorem dX9_readWho_77 : decode cX9_readWho 77 = .ok (.dup, 1) := by decide +kernel
theorem dX9_readWho_78 : decode cX9_readWho 78 = .ok (.getfield 46, 3) := by decide +kernel
theorem dX9_readWho_81 : decode cX9_readWho 81 = .ok (.iconst 1, 1) := by decide +kernel
theorem dX9_readWho_82 : decode cX9_readWho 82 = .ok (.iload_n 3, 1) := by decide +kernel
theorem dX9_readWho_83 : decode cX9_readWho 83 = .ok (.ishl, 1) := by decide +kernel
theorem dX9_readWho_84 : decode cX9_readWho 84 = .ok (.ior, 1) := by decide +kernel
theorem dX9_readWho_85 : decode cX9_readWho 85 = .ok (.putfield 46, 3) := by decide +kernel
theorem dX9_readWho_88 : decode cX9_readWho 88 = .ok (.iload_n 3, 1) := by decide +kernel
theorem dX9_readWho_89 : decode cX9_readWho 89 = .ok (.ireturn, 1) := by decide +kernel
theorem dX9_closes_0 : decode cX9_closes 0 = .ok (.aload_n 0, 1) := by decide +kernel
theorem dX9_closes_1 : decode cX9_closes 1 = .ok (.bipush 41, 2) := by decide +kernel
theorem dX9_closes_3 : decode cX9_closes 3 = .ok (.invokevirtual 65, 3) := by decide +kernel
theorem dX9_closes_6 : decode cX9_closes 6 = .ok (.ifCond .ne 11, 3) := by decide +kernel
theorem dX9_closes_9 : decode cX9_closes 9 = .ok (.aload_n 0, 1) := by decide +kernel
theorem dX9_closes_10 : decode cX9_closes 10 = .ok (.iconst 1, 1) := by decide +kernel
theorem dX9_closes_11 : decode cX9_closes 11 = .ok (.invokevirtual 56, 3) := by decide +kernel
theorem dX9_closes_14 : decode cX9_closes 14 = .ok (.ifCond .eq 7, 3) := by decide +kernel
theorem dX9_closes_17 : decode cX9_closes 17 = .ok (.iconst 1, 1) := by decide +kernel
theorem dX9_closes_18 : decode cX9_closes 18 = .ok (.goto 4, 3) := by decide +kernel
theorem dX9_closes_21 : decode cX9_closes 21 = .ok (.iconst 0, 1) := by decide +kernel
theorem dX9_closes_22 : decode cX9_closes 22 = .ok (.ireturn, 1) := by decide +kernel
theorem dX9_readEither_0 : decode cX9_readEither 0 = .ok (.aload_n 0, 1) := by decide +kernel
theorem dX9_readEither_1 : decode cX9_readEither 1 = .ok (.aload_n 1, 1) := by decide +kernel
theorem dX9_readEither_2 : decode cX9_readEither 2 = .ok (.iload_n 2, 1) := by decide +kernel
theorem dX9_readEither_3 : decode cX9_readEither 3 = .ok (.invokevirtual 96, 3) := by decide +kernel
theorem dX9_readEither_6 : decode cX9_readEither 6 = .ok (.ifCond .ne 5, 3) := by decide +kernel
theorem dX9_readEither_9 : decode cX9_readEither 9 = .ok (.iconst 0, 1) := by decide +kernel
theorem dX9_readEither_10 : decode cX9_readEither 10 = .ok (.ireturn, 1) := by decide +kernel
theorem dX9_readEither_11 : decode cX9_readEither 11 = .ok (.iconst 0, 1) := by decide +kernel
theorem dX9_readEither_12 : decode cX9_readEither 12 = .ok (.istore_n 3, 1) := by decide +kernel
theorem dX9_readEither_13 : decode cX9_readEither 13 = .ok (.iload_n 3, 1) := by decide +kernel
theorem dX9_readEither_14 : decode cX9_readEither 14 = .ok (.bipush 100, 2) := by decide +kernel
theorem dX9_readEither_16 : decode cX9_readEither 16 = .ok (.if_icmp .ge 35, 3) := by decide +kernel
theorem dX9_readEither_19 : decode cX9_readEither 19 = .ok (.aload_n 1, 1) := by decide +kernel
theorem dX9_readEither_20 : decode cX9_readEither 20 = .ok (.bipush 124, 2) := by decide +kernel
theorem dX9_readEither_22 : decode cX9_readEither 22 = .ok (.invokevirtual 65, 3) := by decide +kernel
theorem dX9_readEither_25 : decode cX9_readEither 25 = .ok (.ifCond .eq 26, 3) := by decide +kernel
theorem dX9_readEither_28 : decode cX9_readEither 28 = .ok (.aload_n 0, 1) := by decide +kernel
theorem dX9_readEither_29 : decode cX9_readEither 29 = .ok (.aload_n 1, 1) := by decide +kernel
theorem dX9_readEither_30 : decode cX9_readEither 30 = .ok (.iload_n 2, 1) := by decide +kernel
theorem dX9_readEither_31 : decode cX9_readEither 31 = .ok (.invokevirtual 96, 3) := by decide +kernel
theorem dX9_readEither_34 : decode cX9_readEither 34 = .ok (.ifCond .ne 5, 3) := by decide +kernel
theorem dX9_readEither_37 : decode cX9_readEither 37 = .ok (.iconst 0, 1) := by decide +kernel
theorem dX9_readEither_38 : decode cX9_readEither 38 = .ok (.ireturn, 1) := by decide +kernel
theorem dX9_readEither_39 : decode cX9_readEither 39 = .ok (.aload_n 0, 1) := by decide +kernel
theorem dX9_readEither_40 : decode cX9_readEither 40 = .ok (.bipush (-3), 2) := by decide +kernel
theorem dX9_readEither_42 : decode cX9_readEither 42 = .ok (.invokevirtual 99, 3) := by decide +kernel
theorem dX9_readEither_45 : decode cX9_readEither 45 = .ok (.iinc 3 1, 3) := by decide +kernel
theorem dX9_readEither_48 : decode cX9_readEither 48 = .ok (.goto (-35), 3) := by decide +kernel
theorem dX9_readEither_51 : decode cX9_readEither 51 = .ok (.iconst 1, 1) := by decide +kernel
theorem dX9_readEither_52 : decode cX9_readEither 52 = .ok (.ireturn, 1) := by decide +kernel
theorem dX9_readAll_0 : decode cX9_readAll 0 = .ok (.aload_n 0, 1) := by decide +kernel
theorem dX9_readAll_1 : decode cX9_readAll 1 = .ok (.aload_n 1, 1) := by decide +kernel
theorem dX9_readAll_2 : decode cX9_readAll 2 = .ok (.iload_n 2, 1) := by decide +kernel
theorem dX9_readAll_3 : decode cX9_readAll 3 = .ok (.invokevirtual 103, 3) := by decide +kernel
theorem dX9_readAll_6 : decode cX9_readAll 6 = .ok (.ifCond .ne 5, 3) := by decide +kernel
theorem dX9_readAll_9 : decode cX9_readAll 9 = .ok (.iconst 0, 1) := by decide +kernel
theorem dX9_readAll_10 : decode cX9_readAll 10 = .ok (.ireturn, 1) := by decide +kernel
theorem dX9_readAll_11 : decode cX9_readAll 11 = .ok (.iconst 0, 1) := by decide +kernel
theorem dX9_readAll_12 : decode cX9_readAll 12 = .ok (.istore_n 3, 1) := by decide +kernel
theorem dX9_readAll_13 : decode cX9_readAll 13 = .ok (.iload_n 3, 1) := by decide +kernel
theorem dX9_readAll_14 : decode cX9_readAll 14 = .ok (.bipush 100, 2) := by decide +kernel
theorem dX9_readAll_16 : decode cX9_readAll 16 = .ok (.if_icmp .ge 35, 3) := by decide +kernel
theorem dX9_readAll_19 : decode cX9_readAll 19 = .ok (.aload_n 1, 1) := by decide +kernel
theorem dX9_readAll_20 : decode cX9_readAll 20 = .ok (.bipush 38, 2) := by decide +kernel
theorem dX9_readAll_22 : decode cX9_readAll 22 = .ok (.invokevirtual 65, 3) := by decide +kernel
theorem dX9_readAll_25 : decode cX9_readAll 25 = .ok (.ifCond .eq 26, 3) := by decide +kernel
theorem dX9_readAll_28 : decode cX9_readAll 28 = .ok (.aload_n 0, 1) := by decide +kernel
theorem dX9_readAll_29 : decode cX9_readAll 29 = .ok (.aload_n 1, 1) := by decide +kernel
theorem dX9_readAll_30 : decode cX9_readAll 30 = .ok (.iload_n 2, 1) := by decide +kernel
theorem dX9_readAll_31 : decode cX9_readAll 31 = .ok (.invokevirtual 103, 3) := by decide +kernel
theorem dX9_readAll_34 : decode cX9_readAll 34 = .ok (.ifCond .ne 5, 3) := by decide +kernel
theorem dX9_readAll_37 : decode cX9_readAll 37 = .ok (.iconst 0, 1) := by decide +kernel
theorem dX9_readAll_38 : decode cX9_readAll 38 = .ok (.ireturn, 1) := by decide +kernel
theorem dX9_readAll_39 : decode cX9_readAll 39 = .ok (.aload_n 0, 1) := by decide +kernel
theorem dX9_readAll_40 : decode cX9_readAll 40 = .ok (.bipush (-2), 2) := by decide +kernel
theorem dX9_readAll_42 : decode cX9_readAll 42 = .ok (.invokevirtual 99, 3) := by decide +kernel
theorem dX9_readAll_45 : decode cX9_readAll 45 = .ok (.iinc 3 1, 3) := by decide +kernel
theorem dX9_readAll_48 : decode cX9_readAll 48 = .ok (.goto (-35), 3) := by decide +kernel
theorem dX9_readAll_51 : decode cX9_readAll 51 = .ok (.iconst 1, 1) := by decide +kernel
theorem dX9_readAll_52 : decode cX9_readAll 52 = .ok (.ireturn, 1) := by decide +kernel
theorem dX9_readPiece_0 : decode cX9_readPiece 0 = .ok (.aload_n 1, 1) := by decide +kernel
theorem dX9_readPiece_1 : decode cX9_readPiece 1 = .ok (.invokevirtual 75, 3) := by decide +kernel
theorem dX9_readPiece_4 : decode cX9_readPiece 4 = .ok (.istore_n 3, 1) := by decide +kernel
theorem dX9_readPiece_5 : decode cX9_readPiece 5 = .ok (.iload_n 3, 1) := by decide +kernel
theorem dX9_readPiece_6 : decode cX9_readPiece 6 = .ok (.bipush 33, 2) := by decide +kernel
theorem dX9_readPiece_8 : decode cX9_readPiece 8 = .ok (.if_icmp .eq 9, 3) := by decide +kernel
theorem dX9_readPiece_11 : decode cX9_readPiece 11 = .ok (.iload_n 3, 1) := by decide +kernel
theorem dX9_readPiece_12 : decode cX9_readPiece 12 = .ok (.bipush 40, 2) := by decide +kernel
theorem dX9_readPiece_14 : decode cX9_readPiece 14 = .ok (.if_icmp .ne 66, 3) := by decide +kernel
theorem dX9_readPiece_17 : decode cX9_readPiece 17 = .ok (.iload_n 2, 1) := by decide +kernel
theorem dX9_readPiece_18 : decode cX9_readPiece 18 = .ok (.bipush 6, 2) := by decide +kernel
theorem dX9_readPiece_20 : decode cX9_readPiece 20 = .ok (.if_icmp .lt 9, 3) := by decide +kernel
theorem dX9_readPiece_23 : decode cX9_readPiece 23 = .ok (.aload_n 1, 1) := by decide +kernel
theorem dX9_readPiece_24 : decode cX9_readPiece 24 = .ok (.iconst 5, 1) := by decide +kernel
theorem dX9_readPiece_25 : decode cX9_readPiece 25 = .ok (.invokevirtual 56, 3) := by decide +kernel
theorem dX9_readPiece_28 : decode cX9_readPiece 28 = .ok (.ireturn, 1) := by decide +kernel
theorem dX9_readPiece_29 : decode cX9_readPiece 29 = .ok (.aload_n 1, 1) := by decide +kernel
theorem dX9_readPiece_30 : decode cX9_readPiece 30 = .ok (.dup, 1) := by decide +kernel
theorem dX9_readPiece_31 : decode cX9_readPiece 31 = .ok (.getfield 93, 3) := by decide +kernel
theorem dX9_readPiece_34 : decode cX9_readPiece 34 = .ok (.iconst 1, 1) := by decide +kernel
theorem dX9_readPiece_35 : decode cX9_readPiece 35 = .ok (.iadd, 1) := by decide +kernel
theorem dX9_readPiece_36 : decode cX9_readPiece 36 = .ok (.putfield 93, 3) := by decide +kernel
theorem dX9_readPiece_39 : decode cX9_readPiece 39 = .ok (.iload_n 3, 1) := by decide +kernel
theorem dX9_readPiece_40 : decode cX9_readPiece 40 = .ok (.bipush 33, 2) := by decide +kernel
theorem dX9_readPiece_42 : decode cX9_readPiece 42 = .ok (.if_icmp .ne 14, 3) := by decide +kernel
theorem dX9_readPiece_45 : decode cX9_readPiece 45 = .ok (.aload_n 0, 1) := by decide +kernel
theorem dX9_readPiece_46 : decode cX9_readPiece 46 = .ok (.aload_n 1, 1) := by decide +kernel
theorem dX9_readPiece_47 : decode cX9_readPiece 47 = .ok (.iload_n 2, 1) := by decide +kernel
theorem dX9_readPiece_48 : decode cX9_readPiece 48 = .ok (.iconst 1, 1) := by decide +kernel
theorem dX9_readPiece_49 : decode cX9_readPiece 49 = .ok (.iadd, 1) := by decide +kernel
theorem dX9_readPiece_50 : decode cX9_readPiece 50 = .ok (.invokevirtual 106, 3) := by decide +kernel
theorem dX9_readPiece_53 : decode cX9_readPiece 53 = .ok (.goto 26, 3) := by decide +kernel
theorem dX9_readPiece_56 : decode cX9_readPiece 56 = .ok (.aload_n 0, 1) := by decide +kernel
theorem dX9_readPiece_57 : decode cX9_readPiece 57 = .ok (.aload_n 1, 1) := by decide +kernel
theorem dX9_readPiece_58 : decode cX9_readPiece 58 = .ok (.iload_n 2, 1) := by decide +kernel
theorem dX9_readPiece_59 : decode cX9_readPiece 59 = .ok (.iconst 1, 1) := by decide +kernel
theorem dX9_readPiece_60 : decode cX9_readPiece 60 = .ok (.iadd, 1) := by decide +kernel
theorem dX9_readPiece_61 : decode cX9_readPiece 61 = .ok (.invokevirtual 68, 3) := by decide +kernel
theorem dX9_readPiece_64 : decode cX9_readPiece 64 = .ok (.ifCond .eq 14, 3) := by decide +kernel
theorem dX9_readPiece_67 : decode cX9_readPiece 67 = .ok (.aload_n 1, 1) := by decide +kernel
theorem dX9_readPiece_68 : decode cX9_readPiece 68 = .ok (.invokestatic 72, 3) := by decide +kernel
theorem dX9_readPiece_71 : decode cX9_readPiece 71 = .ok (.ifCond .eq 7, 3) := by decide +kernel
theorem dX9_readPiece_74 : decode cX9_readPiece 74 = .ok (.iconst 1, 1) := by decide +kernel
theorem dX9_readPiece_75 : decode cX9_readPiece 75 = .ok (.goto 4, 3) := by decide +kernel
theorem dX9_readPiece_78 : decode cX9_readPiece 78 = .ok (.iconst 0, 1) := by decide +kernel
theorem dX9_readPiece_79 : decode cX9_readPiece 79 = .ok (.ireturn, 1) := by decide +kernel
theorem dX9_readPiece_80 : decode cX9_readPiece 80 = .ok (.iload_n 3, 1) := by decide +kernel
theorem dX9_readPiece_81 : decode cX9_readPiece 81 = .ok (.bipush 35, 2) := by decide +kernel
theorem dX9_readPiece_83 : decode cX9_readPiece 83 = .ok (.if_icmp .ne 19, 3) := by decide +kernel
theorem dX9_readPiece_86 : decode cX9_readPiece 86 = .ok (.aload_n 1, 1) := by decide +kernel
theorem dX9_readPiece_87 : decode cX9_readPiece 87 = .ok (.dup, 1) := by decide +kernel
theorem dX9_readPiece_88 : decode cX9_readPiece 88 = .ok (.getfield 93, 3) := by decide +kernel
theorem dX9_readPiece_91 : decode cX9_readPiece 91 = .ok (.iconst 1, 1) := by decide +kernel
theorem dX9_readPiece_92 : decode cX9_readPiece 92 = .ok (.iadd, 1) := by decide +kernel
theorem dX9_readPiece_93 : decode cX9_readPiece 93 = .ok (.putfield 93, 3) := by decide +kernel
theorem dX9_readPiece_96 : decode cX9_readPiece 96 = .ok (.aload_n 0, 1) := by decide +kernel
theorem dX9_readPiece_97 : decode cX9_readPiece 97 = .ok (.aload_n 1, 1) := by decide +kernel
theorem dX9_readPiece_98 : decode cX9_readPiece 98 = .ok (.invokevirtual 109, 3) := by decide +kernel
theorem dX9_readPiece_101 : decode cX9_readPiece 101 = .ok (.ireturn, 1) := by decide +kernel
theorem dX9_readPiece_102 : decode cX9_readPiece 102 = .ok (.aload_n 0, 1) := by decide +kernel
theorem dX9_readPiece_103 : decode cX9_readPiece 103 = .ok (.aload_n 1, 1) := by decide +kernel
theorem dX9_readPiece_104 : decode cX9_readPiece 104 = .ok (.invokevirtual 85, 3) := by decide +kernel
theorem dX9_readPiece_107 : decode cX9_readPiece 107 = .ok (.istore 4, 2) := by decide +kernel
theorem dX9_readPiece_109 : decode cX9_readPiece 109 = .ok (.iload 4, 2) := by decide +kernel
theorem dX9_readPiece_111 : decode cX9_readPiece 111 = .ok (.iconst (-1), 1) := by decide +kernel
theorem dX9_readPiece_112 : decode cX9_readPiece 112 = .ok (.if_icmp .ne 5, 3) := by decide +kernel
theorem dX9_readPiece_115 : decode cX9_readPiece 115 = .ok (.iconst 0, 1) := by decide +kernel
theorem dX9_readPiece_116 : decode cX9_readPiece 116 = .ok (.ireturn, 1) := by decide +kernel
theorem dX9_readPiece_117 : decode cX9_readPiece 117 = .ok (.aload_n 0, 1) := by decide +kernel
theorem dX9_readPiece_118 : decode cX9_readPiece 118 = .ok (.iload 4, 2) := by decide +kernel
theorem dX9_readPiece_120 : decode cX9_readPiece 120 = .ok (.invokevirtual 99, 3) := by decide +kernel
theorem dX9_readPiece_123 : decode cX9_readPiece 123 = .ok (.iconst 1, 1) := by decide +kernel
theorem dX9_readPiece_124 : decode cX9_readPiece 124 = .ok (.ireturn, 1) := by decide +kernel
theorem dX9_readNot_0 : decode cX9_readNot 0 = .ok (.aload_n 0, 1) := by decide +kernel
theorem dX9_readNot_1 : decode cX9_readNot 1 = .ok (.aload_n 1, 1) := by decide +kernel
theorem dX9_readNot_2 : decode cX9_readNot 2 = .ok (.iload_n 2, 1) := by decide +kernel
theorem dX9_readNot_3 : decode cX9_readNot 3 = .ok (.invokevirtual 103, 3) := by decide +kernel
theorem dX9_readNot_6 : decode cX9_readNot 6 = .ok (.ifCond .ne 5, 3) := by decide +kernel
theorem dX9_readNot_9 : decode cX9_readNot 9 = .ok (.iconst 0, 1) := by decide +kernel
theorem dX9_readNot_10 : decode cX9_readNot 10 = .ok (.ireturn, 1) := by decide +kernel
theorem dX9_readNot_11 : decode cX9_readNot 11 = .ok (.aload_n 0, 1) := by decide +kernel
theorem dX9_readNot_12 : decode cX9_readNot 12 = .ok (.iconst (-1), 1) := by decide +kernel
theorem dX9_readNot_13 : decode cX9_readNot 13 = .ok (.invokevirtual 99, 3) := by decide +kernel
theorem dX9_readNot_16 : decode cX9_readNot 16 = .ok (.iconst 1, 1) := by decide +kernel
theorem dX9_readNot_17 : decode cX9_readNot 17 = .ok (.ireturn, 1) := by decide +kernel
theorem dX9_readHowMany_0 : decode cX9_readHowMany 0 = .ok (.aload_n 1, 1) := by decide +kernel
theorem dX9_readHowMany_1 : decode cX9_readHowMany 1 = .ok (.bipush 60, 2) := by decide +kernel
theorem dX9_readHowMany_3 : decode cX9_readHowMany 3 = .ok (.invokevirtual 65, 3) := by decide +kernel
theorem dX9_readHowMany_6 : decode cX9_readHowMany 6 = .ok (.ifCond .eq 8, 3) := by decide +kernel
theorem dX9_readHowMany_9 : decode cX9_readHowMany 9 = .ok (.bipush 100, 2) := by decide +kernel
theorem dX9_readHowMany_11 : decode cX9_readHowMany 11 = .ok (.goto 34, 3) := by decide +kernel
theorem dX9_readHowMany_14 : decode cX9_readHowMany 14 = .ok (.aload_n 1, 1) := by decide +kernel
theorem dX9_readHowMany_15 : decode cX9_readHowMany 15 = .ok (.bipush 62, 2) := by decide +kernel
theorem dX9_readHowMany_17 : decode cX9_readHowMany 17 = .ok (.invokevirtual 65, 3) := by decide +kernel
theorem dX9_readHowMany_20 : decode cX9_readHowMany 20 = .ok (.ifCond .eq 9, 3) := by decide +kernel
theorem dX9_readHowMany_23 : decode cX9_readHowMany 23 = .ok (.sipush 200, 3) := by decide +kernel
theorem dX9_readHowMany_26 : decode cX9_readHowMany 26 = .ok (.goto 19, 3) := by decide +kernel
theorem dX9_readHowMany_29 : decode cX9_readHowMany 29 = .ok (.aload_n 1, 1) := by decide +kernel
theorem dX9_readHowMany_30 : decode cX9_readHowMany 30 = .ok (.bipush 61, 2) := by decide +kernel
theorem dX9_readHowMany_32 : decode cX9_readHowMany 32 = .ok (.invokevirtual 65, 3) := by decide +kernel
theorem dX9_readHowMany_35 : decode cX9_readHowMany 35 = .ok (.ifCond .eq 9, 3) := by decide +kernel
theorem dX9_readHowMany_38 : decode cX9_readHowMany 38 = .ok (.sipush 300, 3) := by decide +kernel
theorem dX9_readHowMany_41 : decode cX9_readHowMany 41 = .ok (.goto 4, 3) := by decide +kernel
theorem dX9_readHowMany_44 : decode cX9_readHowMany 44 = .ok (.iconst (-1), 1) := by decide +kernel
theorem dX9_readHowMany_45 : decode cX9_readHowMany 45 = .ok (.istore_n 2, 1) := by decide +kernel
theorem dX9_readHowMany_46 : decode cX9_readHowMany 46 = .ok (.iload_n 2, 1) := by decide +kernel
theorem dX9_readHowMany_47 : decode cX9_readHowMany 47 = .ok (.iconst (-1), 1) := by decide +kernel
theorem dX9_readHowMany_48 : decode cX9_readHowMany 48 = .ok (.if_icmp .ne 9, 3) := by decide +kernel
theorem dX9_readHowMany_51 : decode cX9_readHowMany 51 = .ok (.aload_n 1, 1) := by decide +kernel
theorem dX9_readHowMany_52 : decode cX9_readHowMany 52 = .ok (.iconst 1, 1) := by decide +kernel
theorem dX9_readHowMany_53 : decode cX9_readHowMany 53 = .ok (.invokevirtual 56, 3) := by decide +kernel
theorem dX9_readHowMany_56 : decode cX9_readHowMany 56 = .ok (.ireturn, 1) := by decide +kernel
theorem dX9_readHowMany_57 : decode cX9_readHowMany 57 = .ok (.aload_n 1, 1) := by decide +kernel
theorem dX9_readHowMany_58 : decode cX9_readHowMany 58 = .ok (.iconst 0, 1) := by decide +kernel
theorem dX9_readHowMany_59 : decode cX9_readHowMany 59 = .ok (.invokevirtual 89, 3) := by decide +kernel
theorem dX9_readHowMany_62 : decode cX9_readHowMany 62 = .ok (.istore_n 3, 1) := by decide +kernel
theorem dX9_readHowMany_63 : decode cX9_readHowMany 63 = .ok (.iload_n 3, 1) := by decide +kernel
theorem dX9_readHowMany_64 : decode cX9_readHowMany 64 = .ok (.iconst (-1), 1) := by decide +kernel
theorem dX9_readHowMany_65 : decode cX9_readHowMany 65 = .ok (.if_icmp .ne 9, 3) := by decide +kernel
theorem dX9_readHowMany_68 : decode cX9_readHowMany 68 = .ok (.aload_n 1, 1) := by decide +kernel
theorem dX9_readHowMany_69 : decode cX9_readHowMany 69 = .ok (.iconst 1, 1) := by decide +kernel
theorem dX9_readHowMany_70 : decode cX9_readHowMany 70 = .ok (.invokevirtual 56, 3) := by decide +kernel
theorem dX9_readHowMany_73 : decode cX9_readHowMany 73 = .ok (.ireturn, 1) := by decide +kernel
theorem dX9_readHowMany_74 : decode cX9_readHowMany 74 = .ok (.aload_n 1, 1) := by decide +kernel
theorem dX9_readHowMany_75 : decode cX9_readHowMany 75 = .ok (.iconst 0, 1) := by decide +kernel
theorem dX9_readHowMany_76 : decode cX9_readHowMany 76 = .ok (.invokevirtual 89, 3) := by decide +kernel
theorem dX9_readHowMany_79 : decode cX9_readHowMany 79 = .ok (.istore 4, 2) := by decide +kernel
theorem dX9_readHowMany_81 : decode cX9_readHowMany 81 = .ok (.aload_n 0, 1) := by decide +kernel
theorem dX9_readHowMany_82 : decode cX9_readHowMany 82 = .ok (.iload_n 2, 1) := by decide +kernel
theorem dX9_readHowMany_83 : decode cX9_readHowMany 83 = .ok (.iload 4, 2) := by decide +kernel
theorem dX9_readHowMany_85 : decode cX9_readHowMany 85 = .ok (.iconst (-1), 1) := by decide +kernel
theorem dX9_readHowMany_86 : decode cX9_readHowMany 86 = .ok (.if_icmp .ne 7, 3) := by decide +kernel
theorem dX9_readHowMany_89 : decode cX9_readHowMany 89 = .ok (.iload_n 3, 1) := by decide +kernel
theorem dX9_readHowMany_90 : decode cX9_readHowMany 90 = .ok (.goto 10, 3) := by decide +kernel
theorem dX9_readHowMany_93 : decode cX9_readHowMany 93 = .ok (.iload_n 3, 1) := by decide +kernel
theorem dX9_readHowMany_94 : decode cX9_readHowMany 94 = .ok (.bipush 10, 2) := by decide +kernel
theorem dX9_readHowMany_96 : decode cX9_readHowMany 96 = .ok (.imul, 1) := by decide +kernel
theorem dX9_readHowMany_97 : decode cX9_readHowMany 97 = .ok (.iload 4, 2) := by decide +kernel
theorem dX9_readHowMany_99 : decode cX9_readHowMany 99 = .ok (.iadd, 1) := by decide +kernel
theorem dX9_readHowMany_100 : decode cX9_readHowMany 100 = .ok (.iadd, 1) := by decide +kernel
theorem dX9_readHowMany_101 : decode cX9_readHowMany 101 = .ok (.invokevirtual 99, 3) := by decide +kernel
theorem dX9_readHowMany_104 : decode cX9_readHowMany 104 = .ok (.iconst 1, 1) := by decide +kernel
theorem dX9_readHowMany_105 : decode cX9_readHowMany 105 = .ok (.ireturn, 1) := by decide +kernel
theorem dX9_emit_0 : decode cX9_emit 0 = .ok (.aload_n 0, 1) := by decide +kernel
theorem dX9_emit_1 : decode cX9_emit 1 = .ok (.getfield 43, 3) := by decide +kernel
theorem dX9_emit_4 : decode cX9_emit 4 = .ok (.ifCond .lt 35, 3) := by decide +kernel
theorem dX9_emit_7 : decode cX9_emit 7 = .ok (.aload_n 0, 1) := by decide +kernel
theorem dX9_emit_8 : decode cX9_emit 8 = .ok (.getfield 43, 3) := by decide +kernel
theorem dX9_emit_11 : decode cX9_emit 11 = .ok (.aload_n 0, 1) := by decide +kernel
theorem dX9_emit_12 : decode cX9_emit 12 = .ok (.getfield 24, 3) := by decide +kernel
theorem dX9_emit_15 : decode cX9_emit 15 = .ok (.arraylength, 1) := by decide +kernel
theorem dX9_emit_16 : decode cX9_emit 16 = .ok (.if_icmp .ge 23, 3) := by decide +kernel
theorem dX9_emit_19 : decode cX9_emit 19 = .ok (.aload_n 0, 1) := by decide +kernel
theorem dX9_emit_20 : decode cX9_emit 20 = .ok (.getfield 24, 3) := by decide +kernel
theorem dX9_emit_23 : decode cX9_emit 23 = .ok (.aload_n 0, 1) := by decide +kernel
theorem dX9_emit_24 : decode cX9_emit 24 = .ok (.getfield 43, 3) := by decide +kernel
theorem dX9_emit_27 : decode cX9_emit 27 = .ok (.iload_n 1, 1) := by decide +kernel
theorem dX9_emit_28 : decode cX9_emit 28 = .ok (.iastore, 1) := by decide +kernel
theorem dX9_emit_29 : decode cX9_emit 29 = .ok (.aload_n 0, 1) := by decide +kernel
theorem dX9_emit_30 : decode cX9_emit 30 = .ok (.dup, 1) := by decide +kernel
theorem dX9_emit_31 : decode cX9_emit 31 = .ok (.getfield 43, 3) := by decide +kernel
theorem dX9_emit_34 : decode cX9_emit 34 = .ok (.iconst 1, 1) := by decide +kernel
theorem dX9_emit_35 : decode cX9_emit 35 = .ok (.iadd, 1) := by decide +kernel
theorem dX9_emit_36 : decode cX9_emit 36 = .ok (.putfield 43, 3) := by decide +kernel
theorem dX9_emit_39 : decode cX9_emit 39 = .ok (.return_, 1) := by decide +kernel
theorem dX9_shareFrom_0 : decode cX9_shareFrom 0 = .ok (.iload_n 1, 1) := by decide +kernel
theorem dX9_shareFrom_1 : decode cX9_shareFrom 1 = .ok (.ifCond .le 20, 3) := by decide +kernel
theorem dX9_shareFrom_4 : decode cX9_shareFrom 4 = .ok (.iload_n 1, 1) := by decide +kernel
theorem dX9_shareFrom_5 : decode cX9_shareFrom 5 = .ok (.bipush 8, 2) := by decide +kernel
theorem dX9_shareFrom_7 : decode cX9_shareFrom 7 = .ok (.if_icmp .gt 14, 3) := by decide +kernel
theorem dX9_shareFrom_10 : decode cX9_shareFrom 10 = .ok (.aload_n 0, 1) := by decide +kernel
theorem dX9_shareFrom_11 : decode cX9_shareFrom 11 = .ok (.getfield 9, 3) := by decide +kernel
theorem dX9_shareFrom_14 : decode cX9_shareFrom 14 = .ok (.iload_n 1, 1) := by decide +kernel
theorem dX9_shareFrom_15 : decode cX9_shareFrom 15 = .ok (.iconst 1, 1) := by decide +kernel
theorem dX9_shareFrom_16 : decode cX9_shareFrom 16 = .ok (.isub, 1) := by decide +kernel
theorem dX9_shareFrom_17 : decode cX9_shareFrom 17 = .ok (.iaload, 1) := by decide +kernel
theorem dX9_shareFrom_18 : decode cX9_shareFrom 18 = .ok (.goto 4, 3) := by decide +kernel
theorem dX9_shareFrom_21 : decode cX9_shareFrom 21 = .ok (.iconst 0, 1) := by decide +kernel
theorem dX9_shareFrom_22 : decode cX9_shareFrom 22 = .ok (.ireturn, 1) := by decide +kernel
theorem dX9_codeFrom_0 : decode cX9_codeFrom 0 = .ok (.iload_n 1, 1) := by decide +kernel
theorem dX9_codeFrom_1 : decode cX9_codeFrom 1 = .ok (.ifCond .le 20, 3) := by decide +kernel
theorem dX9_codeFrom_4 : decode cX9_codeFrom 4 = .ok (.iload_n 1, 1) := by decide +kernel
theorem dX9_codeFrom_5 : decode cX9_codeFrom 5 = .ok (.bipush 8, 2) := by decide +kernel
theorem dX9_codeFrom_7 : decode cX9_codeFrom 7 = .ok (.if_icmp .gt 14, 3) := by decide +kernel
theorem dX9_codeFrom_10 : decode cX9_codeFrom 10 = .ok (.aload_n 0, 1) := by decide +kernel
theorem dX9_codeFrom_11 : decode cX9_codeFrom 11 = .ok (.getfield 15, 3) := by decide +kernel
theorem dX9_codeFrom_14 : decode cX9_codeFrom 14 = .ok (.iload_n 1, 1) := by decide +kernel
theorem dX9_codeFrom_15 : decode cX9_codeFrom 15 = .ok (.iconst 1, 1) := by decide +kernel
theorem dX9_codeFrom_16 : decode cX9_codeFrom 16 = .ok (.isub, 1) := by decide +kernel
theorem dX9_codeFrom_17 : decode cX9_codeFrom 17 = .ok (.iaload, 1) := by decide +kernel
theorem dX9_codeFrom_18 : decode cX9_codeFrom 18 = .ok (.goto 4, 3) := by decide +kernel
theorem dX9_codeFrom_21 : decode cX9_codeFrom 21 = .ok (.iconst 0, 1) := by decide +kernel
theorem dX9_codeFrom_22 : decode cX9_codeFrom 22 = .ok (.ireturn, 1) := by decide +kernel
theorem dX9_firstHolding_0 : decode cX9_firstHolding 0 = .ok (.iconst 0, 1) := by decide +kernel
theorem dX9_firstHolding_1 : decode cX9_firstHolding 1 = .ok (.istore_n 2, 1) := by decide +kernel
theorem dX9_firstHolding_2 : decode cX9_firstHolding 2 = .ok (.iload_n 2, 1) := by decide +kernel
theorem dX9_firstHolding_3 : decode cX9_firstHolding 3 = .ok (.aload_n 0, 1) := by decide +kernel
theorem dX9_firstHolding_4 : decode cX9_firstHolding 4 = .ok (.getfield 37, 3) := by decide +kernel
theorem dX9_firstHolding_7 : decode cX9_firstHolding 7 = .ok (.if_icmp .ge 93, 3) := by decide +kernel
theorem dX9_firstHolding_10 : decode cX9_firstHolding 10 = .ok (.iload_n 2, 1) := by decide +kernel
theorem dX9_firstHolding_11 : decode cX9_firstHolding 11 = .ok (.bipush 8, 2) := by decide +kernel
theorem dX9_firstHolding_13 : decode cX9_firstHolding 13 = .ok (.if_icmp .ge 87, 3) := by decide +kernel
theorem dX9_firstHolding_16 : decode cX9_firstHolding 16 = .ok (.aload_n 0, 1) := by decide +kernel
theorem dX9_firstHolding_17 : decode cX9_firstHolding 17 = .ok (.iload_n 2, 1) := by decide +kernel
theorem dX9_firstHolding_18 : decode cX9_firstHolding 18 = .ok (.invokevirtual 112, 3) := by decide +kernel
theorem dX9_firstHolding_21 : decode cX9_firstHolding 21 = .ok (.istore_n 3, 1) := by decide +kernel
theorem dX9_firstHolding_22 : decode cX9_firstHolding 22 = .ok (.iload_n 3, 1) := by decide +kernel
theorem dX9_firstHolding_23 : decode cX9_firstHolding 23 = .ok (.aload_n 0, 1) := by decide +kernel
theorem dX9_firstHolding_24 : decode cX9_firstHolding 24 = .ok (.getfield 15, 3) := by decide +kernel
theorem dX9_firstHolding_27 : decode cX9_firstHolding 27 = .ok (.iload_n 2, 1) := by decide +kernel
theorem dX9_firstHolding_28 : decode cX9_firstHolding 28 = .ok (.iaload, 1) := by decide +kernel
theorem dX9_firstHolding_29 : decode cX9_firstHolding 29 = .ok (.if_icmp .ne 7, 3) := by decide +kernel
theorem dX9_firstHolding_32 : decode cX9_firstHolding 32 = .ok (.iconst 1, 1) := by decide +kernel
theorem dX9_firstHolding_33 : decode cX9_firstHolding 33 = .ok (.goto 4, 3) := by decide +kernel
theorem dX9_firstHolding_36 : decode cX9_firstHolding 36 = .ok (.iconst 0, 1) := by decide +kernel
theorem dX9_firstHolding_37 : decode cX9_firstHolding 37 = .ok (.istore 4, 2) := by decide +kernel
theorem dX9_firstHolding_39 : decode cX9_firstHolding 39 = .ok (.iload_n 3, 1) := by decide +kernel
theorem dX9_firstHolding_40 : decode cX9_firstHolding 40 = .ok (.istore 5, 2) := by decide +kernel
theorem dX9_firstHolding_42 : decode cX9_firstHolding 42 = .ok (.iload 5, 2) := by decide +kernel
theorem dX9_firstHolding_44 : decode cX9_firstHolding 44 = .ok (.aload_n 0, 1) := by decide +kernel
theorem dX9_firstHolding_45 : decode cX9_firstHolding 45 = .ok (.getfield 15, 3) := by decide +kernel
theorem dX9_firstHolding_48 : decode cX9_firstHolding 48 = .ok (.iload_n 2, 1) := by decide +kernel
theorem dX9_firstHolding_49 : decode cX9_firstHolding 49 = .ok (.iaload, 1) := by decide +kernel
theorem dX9_firstHolding_50 : decode cX9_firstHolding 50 = .ok (.if_icmp .ge 34, 3) := by decide +kernel
theorem dX9_firstHolding_53 : decode cX9_firstHolding 53 = .ok (.iload 5, 2) := by decide +kernel
theorem dX9_firstHolding_55 : decode cX9_firstHolding 55 = .ok (.aload_n 0, 1) := by decide +kernel
theorem dX9_firstHolding_56 : decode cX9_firstHolding 56 = .ok (.getfield 24, 3) := by decide +kernel
theorem dX9_firstHolding_59 : decode cX9_firstHolding 59 = .ok (.arraylength, 1) := by decide +kernel
theorem dX9_firstHolding_60 : decode cX9_firstHolding 60 = .ok (.if_icmp .ge 24, 3) := by decide +kernel
theorem dX9_firstHolding_63 : decode cX9_firstHolding 63 = .ok (.iload 4, 2) := by decide +kernel
theorem dX9_firstHolding_65 : decode cX9_firstHolding 65 = .ok (.aload_n 0, 1) := by decide +kernel
theorem dX9_firstHolding_66 : decode cX9_firstHolding 66 = .ok (.getfield 24, 3) := by decide +kernel
theorem dX9_firstHolding_69 : decode cX9_firstHolding 69 = .ok (.iload 5, 2) := by decide +kernel
theorem dX9_firstHolding_71 : decode cX9_firstHolding 71 = .ok (.iaload, 1) := by decide +kernel
theorem dX9_firstHolding_72 : decode cX9_firstHolding 72 = .ok (.iload_n 1, 1) := by decide +kernel
theorem dX9_firstHolding_73 : decode cX9_firstHolding 73 = .ok (.invokestatic 115, 3) := by decide +kernel
theorem dX9_firstHolding_76 : decode cX9_firstHolding 76 = .ok (.istore 4, 2) := by decide +kernel
theorem dX9_firstHolding_78 : decode cX9_firstHolding 78 = .ok (.iinc 5 1, 3) := by decide +kernel
theorem dX9_firstHolding_81 : decode cX9_firstHolding 81 = .ok (.goto (-39), 3) := by decide +kernel
theorem dX9_firstHolding_84 : decode cX9_firstHolding 84 = .ok (.iload 4, 2) := by decide +kernel
theorem dX9_firstHolding_86 : decode cX9_firstHolding 86 = .ok (.iconst 1, 1) := by decide +kernel
theorem dX9_firstHolding_87 : decode cX9_firstHolding 87 = .ok (.iand, 1) := by decide +kernel
theorem dX9_firstHolding_88 : decode cX9_firstHolding 88 = .ok (.iconst 1, 1) := by decide +kernel
theorem dX9_firstHolding_89 : decode cX9_firstHolding 89 = .ok (.if_icmp .ne 5, 3) := by decide +kernel
theorem dX9_firstHolding_92 : decode cX9_firstHolding 92 = .ok (.iload_n 2, 1) := by decide +kernel
theorem dX9_firstHolding_93 : decode cX9_firstHolding 93 = .ok (.ireturn, 1) := by decide +kernel
theorem dX9_firstHolding_94 : decode cX9_firstHolding 94 = .ok (.iinc 2 1, 3) := by decide +kernel
theorem dX9_firstHolding_97 : decode cX9_firstHolding 97 = .ok (.goto (-95), 3) := by decide +kernel
theorem dX9_firstHolding_100 : decode cX9_firstHolding 100 = .ok (.iconst (-1), 1) := by decide +kernel
theorem dX9_firstHolding_101 : decode cX9_firstHolding 101 = .ok (.ireturn, 1) := by decide +kernel
theorem dX9_joined_0 : decode cX9_joined 0 = .ok (.iload_n 1, 1) := by decide +kernel
theorem dX9_joined_1 : decode cX9_joined 1 = .ok (.iconst (-1), 1) := by decide +kernel
theorem dX9_joined_2 : decode cX9_joined 2 = .ok (.if_icmp .ne 7, 3) := by decide +kernel
theorem dX9_joined_5 : decode cX9_joined 5 = .ok (.iload_n 0, 1) := by decide +kernel
theorem dX9_joined_6 : decode cX9_joined 6 = .ok (.iconst 1, 1) := by decide +kernel
theorem dX9_joined_7 : decode cX9_joined 7 = .ok (.ixor, 1) := by decide +kernel
theorem dX9_joined_8 : decode cX9_joined 8 = .ok (.ireturn, 1) := by decide +kernel
theorem dX9_joined_9 : decode cX9_joined 9 = .ok (.iload_n 1, 1) := by decide +kernel
theorem dX9_joined_10 : decode cX9_joined 10 = .ok (.bipush (-2), 2) := by decide +kernel
theorem dX9_joined_12 : decode cX9_joined 12 = .ok (.if_icmp .ne 12, 3) := by decide +kernel
theorem dX9_joined_15 : decode cX9_joined 15 = .ok (.iload_n 0, 1) := by decide +kernel
theorem dX9_joined_16 : decode cX9_joined 16 = .ok (.iconst 1, 1) := by decide +kernel
theorem dX9_joined_17 : decode cX9_joined 17 = .ok (.iushr, 1) := by decide +kernel
theorem dX9_joined_18 : decode cX9_joined 18 = .ok (.iload_n 0, 1) := by decide +kernel
theorem dX9_joined_19 : decode cX9_joined 19 = .ok (.bipush (-2), 2) := by decide +kernel
theorem dX9_joined_21 : decode cX9_joined 21 = .ok (.ior, 1) := by decide +kernel
theorem dX9_joined_22 : decode cX9_joined 22 = .ok (.iand, 1) := by decide +kernel
theorem dX9_joined_23 : decode cX9_joined 23 = .ok (.ireturn, 1) := by decide +kernel
theorem dX9_joined_24 : decode cX9_joined 24 = .ok (.iload_n 1, 1) := by decide +kernel
theorem dX9_joined_25 : decode cX9_joined 25 = .ok (.bipush (-3), 2) := by decide +kernel
theorem dX9_joined_27 : decode cX9_joined 27 = .ok (.if_icmp .ne 11, 3) := by decide +kernel
theorem dX9_joined_30 : decode cX9_joined 30 = .ok (.iload_n 0, 1) := by decide +kernel
theorem dX9_joined_31 : decode cX9_joined 31 = .ok (.iconst 1, 1) := by decide +kernel
theorem dX9_joined_32 : decode cX9_joined 32 = .ok (.iushr, 1) := by decide +kernel
theorem dX9_joined_33 : decode cX9_joined 33 = .ok (.iload_n 0, 1) := by decide +kernel
theorem dX9_joined_34 : decode cX9_joined 34 = .ok (.iconst 1, 1) := by decide +kernel
theorem dX9_joined_35 : decode cX9_joined 35 = .ok (.iand, 1) := by decide +kernel
theorem dX9_joined_36 : decode cX9_joined 36 = .ok (.ior, 1) := by decide +kernel
theorem dX9_joined_37 : decode cX9_joined 37 = .ok (.ireturn, 1) := by decide +kernel
theorem dX9_joined_38 : decode cX9_joined 38 = .ok (.iload_n 2, 1) := by decide +kernel
theorem dX9_joined_39 : decode cX9_joined 39 = .ok (.ldc 119, 2) := by decide +kernel
theorem dX9_joined_41 : decode cX9_joined 41 = .ok (.iand, 1) := by decide +kernel
theorem dX9_joined_42 : decode cX9_joined 42 = .ok (.invokestatic 120, 3) := by decide +kernel
theorem dX9_joined_45 : decode cX9_joined 45 = .ok (.istore_n 3, 1) := by decide +kernel
theorem dX9_joined_46 : decode cX9_joined 46 = .ok (.iload_n 1, 1) := by decide +kernel
theorem dX9_joined_47 : decode cX9_joined 47 = .ok (.bipush 100, 2) := by decide +kernel
theorem dX9_joined_49 : decode cX9_joined 49 = .ok (.if_icmp .ge 20, 3) := by decide +kernel
theorem dX9_joined_52 : decode cX9_joined 52 = .ok (.iload_n 2, 1) := by decide +kernel
theorem dX9_joined_53 : decode cX9_joined 53 = .ok (.iload_n 1, 1) := by decide +kernel
theorem dX9_joined_54 : decode cX9_joined 54 = .ok (.iushr, 1) := by decide +kernel
theorem dX9_joined_55 : decode cX9_joined 55 = .ok (.iconst 1, 1) := by decide +kernel
theorem dX9_joined_56 : decode cX9_joined 56 = .ok (.iand, 1) := by decide +kernel
theorem dX9_joined_57 : decode cX9_joined 57 = .ok (.iconst 1, 1) := by decide +kernel
theorem dX9_joined_58 : decode cX9_joined 58 = .ok (.if_icmp .ne 7, 3) := by decide +kernel
theorem dX9_joined_61 : decode cX9_joined 61 = .ok (.iconst 1, 1) := by decide +kernel
theorem dX9_joined_62 : decode cX9_joined 62 = .ok (.goto 68, 3) := by decide +kernel
theorem dX9_joined_65 : decode cX9_joined 65 = .ok (.iconst 0, 1) := by decide +kernel
theorem dX9_joined_66 : decode cX9_joined 66 = .ok (.goto 64, 3) := by decide +kernel
theorem dX9_joined_69 : decode cX9_joined 69 = .ok (.iload_n 1, 1) := by decide +kernel
theorem dX9_joined_70 : decode cX9_joined 70 = .ok (.sipush 200, 3) := by decide +kernel
theorem dX9_joined_73 : decode cX9_joined 73 = .ok (.if_icmp .ge 19, 3) := by decide +kernel
theorem dX9_joined_76 : decode cX9_joined 76 = .ok (.iload_n 3, 1) := by decide +kernel
theorem dX9_joined_77 : decode cX9_joined 77 = .ok (.iload_n 1, 1) := by decide +kernel
theorem dX9_joined_78 : decode cX9_joined 78 = .ok (.bipush 100, 2) := by decide +kernel
theorem dX9_joined_80 : decode cX9_joined 80 = .ok (.isub, 1) := by decide +kernel
theorem dX9_joined_81 : decode cX9_joined 81 = .ok (.if_icmp .ge 7, 3) := by decide +kernel
theorem dX9_joined_84 : decode cX9_joined 84 = .ok (.iconst 1, 1) := by decide +kernel
theorem dX9_joined_85 : decode cX9_joined 85 = .ok (.goto 45, 3) := by decide +kernel
theorem dX9_joined_88 : decode cX9_joined 88 = .ok (.iconst 0, 1) := by decide +kernel
theorem dX9_joined_89 : decode cX9_joined 89 = .ok (.goto 41, 3) := by decide +kernel
theorem dX9_joined_92 : decode cX9_joined 92 = .ok (.iload_n 1, 1) := by decide +kernel
theorem dX9_joined_93 : decode cX9_joined 93 = .ok (.sipush 300, 3) := by decide +kernel
theorem dX9_joined_96 : decode cX9_joined 96 = .ok (.if_icmp .ge 20, 3) := by decide +kernel
theorem dX9_joined_99 : decode cX9_joined 99 = .ok (.iload_n 3, 1) := by decide +kernel
theorem dX9_joined_100 : decode cX9_joined 100 = .ok (.iload_n 1, 1) := by decide +kernel
theorem dX9_joined_101 : decode cX9_joined 101 = .ok (.sipush 200, 3) := by decide +kernel
theorem dX9_joined_104 : decode cX9_joined 104 = .ok (.isub, 1) := by decide +kernel
theorem dX9_joined_105 : decode cX9_joined 105 = .ok (.if_icmp .le 7, 3) := by decide +kernel
theorem dX9_joined_108 : decode cX9_joined 108 = .ok (.iconst 1, 1) := by decide +kernel
theorem dX9_joined_109 : decode cX9_joined 109 = .ok (.goto 21, 3) := by decide +kernel
theorem dX9_joined_112 : decode cX9_joined 112 = .ok (.iconst 0, 1) := by decide +kernel
theorem dX9_joined_113 : decode cX9_joined 113 = .ok (.goto 17, 3) := by decide +kernel
theorem dX9_joined_116 : decode cX9_joined 116 = .ok (.iload_n 3, 1) := by decide +kernel
theorem dX9_joined_117 : decode cX9_joined 117 = .ok (.iload_n 1, 1) := by decide +kernel
theorem dX9_joined_118 : decode cX9_joined 118 = .ok (.sipush 300, 3) := by decide +kernel
theorem dX9_joined_121 : decode cX9_joined 121 = .ok (.isub, 1) := by decide +kernel
theorem dX9_joined_122 : decode cX9_joined 122 = .ok (.if_icmp .ne 7, 3) := by decide +kernel
theorem dX9_joined_125 : decode cX9_joined 125 = .ok (.iconst 1, 1) := by decide +kernel
theorem dX9_joined_126 : decode cX9_joined 126 = .ok (.goto 4, 3) := by decide +kernel
theorem dX9_joined_129 : decode cX9_joined 129 = .ok (.iconst 0, 1) := by decide +kernel
theorem dX9_joined_130 : decode cX9_joined 130 = .ok (.istore 4, 2) := by decide +kernel
theorem dX9_joined_132 : decode cX9_joined 132 = .ok (.iload_n 0, 1) := by decide +kernel
theorem dX9_joined_133 : decode cX9_joined 133 = .ok (.iconst 1, 1) := by decide +kernel
theorem dX9_joined_134 : decode cX9_joined 134 = .ok (.ishl, 1) := by decide +kernel
theorem dX9_joined_135 : decode cX9_joined 135 = .ok (.iload 4, 2) := by decide +kernel
theorem dX9_joined_137 : decode cX9_joined 137 = .ok (.ifCond .eq 7, 3) := by decide +kernel
theorem dX9_joined_140 : decode cX9_joined 140 = .ok (.iconst 1, 1) := by decide +kernel
theorem dX9_joined_141 : decode cX9_joined 141 = .ok (.goto 4, 3) := by decide +kernel
theorem dX9_joined_144 : decode cX9_joined 144 = .ok (.iconst 0, 1) := by decide +kernel
theorem dX9_joined_145 : decode cX9_joined 145 = .ok (.ior, 1) := by decide +kernel
theorem dX9_joined_146 : decode cX9_joined 146 = .ok (.ireturn, 1) := by decide +kernel
theorem dX10_init_0 : decode cX10_init 0 = .ok (.aload_n 0, 1) := by decide +kernel
theorem dX10_init_1 : decode cX10_init 1 = .ok (.invokespecial 3, 3) := by decide +kernel
theorem dX10_init_4 : decode cX10_init 4 = .ok (.aload_n 0, 1) := by decide +kernel
theorem dX10_init_5 : decode cX10_init 5 = .ok (.bipush 100, 2) := by decide +kernel
theorem dX10_init_7 : decode cX10_init 7 = .ok (.newarray .int, 2) := by decide +kernel
theorem dX10_init_9 : decode cX10_init 9 = .ok (.putfield 9, 3) := by decide +kernel
theorem dX10_init_12 : decode cX10_init 12 = .ok (.return_, 1) := by decide +kernel
theorem dX10_append_0 : decode cX10_append 0 = .ok (.bipush 24, 2) := by decide +kernel
theorem dX10_append_2 : decode cX10_append 2 = .ok (.istore_n 2, 1) := by decide +kernel
theorem dX10_append_3 : decode cX10_append 3 = .ok (.iload_n 2, 1) := by decide +kernel
theorem dX10_append_4 : decode cX10_append 4 = .ok (.ifCond .lt 44, 3) := by decide +kernel
theorem dX10_append_7 : decode cX10_append 7 = .ok (.aload_n 0, 1) := by decide +kernel
theorem dX10_append_8 : decode cX10_append 8 = .ok (.getfield 15, 3) := by decide +kernel
theorem dX10_append_11 : decode cX10_append 11 = .ok (.bipush 100, 2) := by decide +kernel
theorem dX10_append_13 : decode cX10_append 13 = .ok (.if_icmp .ge 35, 3) := by decide +kernel
theorem dX10_append_16 : decode cX10_append 16 = .ok (.aload_n 0, 1) := by decide +kernel
theorem dX10_append_17 : decode cX10_append 17 = .ok (.getfield 9, 3) := by decide +kernel
theorem dX10_append_20 : decode cX10_append 20 = .ok (.aload_n 0, 1) := by decide +kernel
theorem dX10_append_21 : decode cX10_append 21 = .ok (.getfield 15, 3) := by decide +kernel
theorem dX10_append_24 : decode cX10_append 24 = .ok (.iload_n 1, 1) := by decide +kernel
theorem dX10_append_25 : decode cX10_append 25 = .ok (.iload_n 2, 1) := by decide +kernel
theorem dX10_append_26 : decode cX10_append 26 = .ok (.iushr, 1) := by decide +kernel
theorem dX10_append_27 : decode cX10_append 27 = .ok (.sipush 255, 3) := by decide +kernel
theorem dX10_append_30 : decode cX10_append 30 = .ok (.iand, 1) := by decide +kernel
theorem dX10_append_31 : decode cX10_append 31 = .ok (.iastore, 1) := by decide +kernel
theorem dX10_append_32 : decode cX10_append 32 = .ok (.aload_n 0, 1) := by decide +kernel
theorem dX10_append_33 : decode cX10_append 33 = .ok (.dup, 1) := by decide +kernel
theorem dX10_append_34 : decode cX10_append 34 = .ok (.getfield 15, 3) := by decide +kernel
theorem dX10_append_37 : decode cX10_append 37 = .ok (.iconst 1, 1) := by decide +kernel
theorem dX10_append_38 : decode cX10_append 38 = .ok (.iadd, 1) := by decide +kernel
theorem dX10_append_39 : decode cX10_append 39 = .ok (.putfield 15, 3) := by decide +kernel
theorem dX10_append_42 : decode cX10_append 42 = .ok (.iinc 2 (-8), 3) := by decide +kernel
theorem dX10_append_45 : decode cX10_append 45 = .ok (.goto (-42), 3) := by decide +kernel
theorem dX10_append_48 : decode cX10_append 48 = .ok (.return_, 1) := by decide +kernel
theorem dX10_open_0 : decode cX10_open 0 = .ok (.aload_n 0, 1) := by decide +kernel
theorem dX10_open_1 : decode cX10_open 1 = .ok (.iload_n 1, 1) := by decide +kernel
theorem dX10_open_2 : decode cX10_open 2 = .ok (.putfield 19, 3) := by decide +kernel
theorem dX10_open_5 : decode cX10_open 5 = .ok (.aload_n 0, 1) := by decide +kernel
theorem dX10_open_6 : decode cX10_open 6 = .ok (.iconst 0, 1) := by decide +kernel
theorem dX10_open_7 : decode cX10_open 7 = .ok (.putfield 22, 3) := by decide +kernel
theorem dX10_open_10 : decode cX10_open 10 = .ok (.aload_n 0, 1) := by decide +kernel
theorem dX10_open_11 : decode cX10_open 11 = .ok (.iconst 0, 1) := by decide +kernel
theorem dX10_open_12 : decode cX10_open 12 = .ok (.putfield 25, 3) := by decide +kernel
theorem dX10_open_15 : decode cX10_open 15 = .ok (.return_, 1) := by decide +kernel
theorem dX10_peek_0 : decode cX10_peek 0 = .ok (.aload_n 0, 1) := by decide +kernel
theorem dX10_peek_1 : decode cX10_peek 1 = .ok (.getfield 22, 3) := by decide +kernel
theorem dX10_peek_4 : decode cX10_peek 4 = .ok (.ifCond .lt 35, 3) := by decide +kernel
theorem dX10_peek_7 : decode cX10_peek 7 = .ok (.aload_n 0, 1) := by decide +kernel
theorem dX10_peek_8 : decode cX10_peek 8 = .ok (.getfield 22, 3) := by decide +kernel
theorem dX10_peek_11 : decode cX10_peek 11 = .ok (.aload_n 0, 1) := by decide +kernel
theorem dX10_peek_12 : decode cX10_peek 12 = .ok (.getfield 19, 3) := by decide +kernel
theorem dX10_peek_15 : decode cX10_peek 15 = .ok (.if_icmp .ge 24, 3) := by decide +kernel
theorem dX10_peek_18 : decode cX10_peek 18 = .ok (.aload_n 0, 1) := by decide +kernel
theorem dX10_peek_19 : decode cX10_peek 19 = .ok (.getfield 22, 3) := by decide +kernel
theorem dX10_peek_22 : decode cX10_peek 22 = .ok (.bipush 100, 2) := by decide +kernel
theorem dX10_peek_24 : decode cX10_peek 24 = .ok (.if_icmp .ge 15, 3) := by decide +kernel
theorem dX10_peek_27 : decode cX10_peek 27 = .ok (.aload_n 0, 1) := by decide +kernel
theorem dX10_peek_28 : decode cX10_peek 28 = .ok (.getfield 9, 3) := by decide +kernel
theorem dX10_peek_31 : decode cX10_peek 31 = .ok (.aload_n 0, 1) := by decide +kernel
theorem dX10_peek_32 : decode cX10_peek 32 = .ok (.getfield 22, 3) := by decide +kernel
theorem dX10_peek_35 : decode cX10_peek 35 = .ok (.iaload, 1) := by decide +kernel
theorem dX10_peek_36 : decode cX10_peek 36 = .ok (.goto 4, 3) := by decide +kernel
theorem dX10_peek_39 : decode cX10_peek 39 = .ok (.iconst (-1), 1) := by decide +kernel
theorem dX10_peek_40 : decode cX10_peek 40 = .ok (.ireturn, 1) := by decide +kernel
theorem dX10_take_0 : decode cX10_take 0 = .ok (.aload_n 0, 1) := by decide +kernel
theorem dX10_take_1 : decode cX10_take 1 = .ok (.invokevirtual 28, 3) := by decide +kernel
theorem dX10_take_4 : decode cX10_take 4 = .ok (.iload_n 1, 1) := by decide +kernel
theorem dX10_take_5 : decode cX10_take 5 = .ok (.if_icmp .eq 5, 3) := by decide +kernel
theorem dX10_take_8 : decode cX10_take 8 = .ok (.iconst 0, 1) := by decide +kernel
theorem dX10_take_9 : decode cX10_take 9 = .ok (.ireturn, 1) := by decide +kernel
theorem dX10_take_10 : decode cX10_take 10 = .ok (.aload_n 0, 1) := by decide +kernel
theorem dX10_take_11 : decode cX10_take 11 = .ok (.dup, 1) := by decide +kernel
theorem dX10_take_12 : decode cX10_take 12 = .ok (.getfield 22, 3) := by decide +kernel
theorem dX10_take_15 : decode cX10_take 15 = .ok (.iconst 1, 1) := by decide +kernel
theorem dX10_take_16 : decode cX10_take 16 = .ok (.iadd, 1) := by decide +kernel
theorem dX10_take_17 : decode cX10_take 17 = .ok (.putfield 22, 3) := by decide +kernel
theorem dX10_take_20 : decode cX10_take 20 = .ok (.iconst 1, 1) := by decide +kernel
theorem dX10_take_21 : decode cX10_take 21 = .ok (.ireturn, 1) := by decide +kernel
theorem dX10_takeDigit_0 : decode cX10_takeDigit 0 = .ok (.aload_n 0, 1) := by decide +kernel
theorem dX10_takeDigit_1 : decode cX10_takeDigit 1 = .ok (.invokevirtual 28, 3) := by decide +kernel
theorem dX10_takeDigit_4 : decode cX10_takeDigit 4 = .ok (.bipush 48, 2) := by decide +kernel
theorem dX10_takeDigit_6 : decode cX10_takeDigit 6 = .ok (.isub, 1) := by decide +kernel
theorem dX10_takeDigit_7 : decode cX10_takeDigit 7 = .ok (.istore_n 2, 1) := by decide +kernel
theorem dX10_takeDigit_8 : decode cX10_takeDigit 8 = .ok (.iload_n 2, 1) := by decide +kernel
theorem dX10_takeDigit_9 : decode cX10_takeDigit 9 = .ok (.iload_n 1, 1) := by decide +kernel
theorem dX10_takeDigit_10 : decode cX10_takeDigit 10 = .ok (.if_icmp .lt 9, 3) := by decide +kernel
theorem dX10_takeDigit_13 : decode cX10_takeDigit 13 = .ok (.iload_n 2, 1) := by decide +kernel
theorem dX10_takeDigit_14 : decode cX10_takeDigit 14 = .ok (.bipush 9, 2) := by decide +kernel
theorem dX10_takeDigit_16 : decode cX10_takeDigit 16 = .ok (.if_icmp .le 5, 3) := by decide +kernel
theorem dX10_takeDigit_19 : decode cX10_takeDigit 19 = .ok (.iconst (-1), 1) := by decide +kernel
theorem dX10_takeDigit_20 : decode cX10_takeDigit 20 = .ok (.ireturn, 1) := by decide +kernel
theorem dX10_takeDigit_21 : decode cX10_takeDigit 21 = .ok (.aload_n 0, 1) := by decide +kernel
theorem dX10_takeDigit_22 : decode cX10_takeDigit 22 = .ok (.dup, 1) := by decide +kernel
theorem dX10_takeDigit_23 : decode cX10_takeDigit 23 = .ok (.getfield 22, 3) := by decide +kernel
theorem dX10_takeDigit_26 : decode cX10_takeDigit 26 = .ok (.iconst 1, 1) := by decide +kernel
theorem dX10_takeDigit_27 : decode cX10_takeDigit 27 = .ok (.iadd, 1) := by decide +kernel
theorem dX10_takeDigit_28 : decode cX10_takeDigit 28 = .ok (.putfield 22, 3) := by decide +kernel
theorem dX10_takeDigit_31 : decode cX10_takeDigit 31 = .ok (.iload_n 2, 1) := by decide +kernel
theorem dX10_takeDigit_32 : decode cX10_takeDigit 32 = .ok (.ireturn, 1) := by decide +kernel
theorem dX10_atDigit_0 : decode cX10_atDigit 0 = .ok (.aload_n 0, 1) := by decide +kernel
theorem dX10_atDigit_1 : decode cX10_atDigit 1 = .ok (.invokevirtual 28, 3) := by decide +kernel
theorem dX10_atDigit_4 : decode cX10_atDigit 4 = .ok (.bipush 48, 2) := by decide +kernel
theorem dX10_atDigit_6 : decode cX10_atDigit 6 = .ok (.if_icmp .lt 16, 3) := by decide +kernel
theorem dX10_atDigit_9 : decode cX10_atDigit 9 = .ok (.aload_n 0, 1) := by decide +kernel
theorem dX10_atDigit_10 : decode cX10_atDigit 10 = .ok (.invokevirtual 28, 3) := by decide +kernel
theorem dX10_atDigit_13 : decode cX10_atDigit 13 = .ok (.bipush 57, 2) := by decide +kernel
theorem dX10_atDigit_15 : decode cX10_atDigit 15 = .ok (.if_icmp .gt 7, 3) := by decide +kernel
theorem dX10_atDigit_18 : decode cX10_atDigit 18 = .ok (.iconst 1, 1) := by decide +kernel
theorem dX10_atDigit_19 : decode cX10_atDigit 19 = .ok (.goto 4, 3) := by decide +kernel
theorem dX10_atDigit_22 : decode cX10_atDigit 22 = .ok (.iconst 0, 1) := by decide +kernel
theorem dX10_atDigit_23 : decode cX10_atDigit 23 = .ok (.ireturn, 1) := by decide +kernel
theorem dX10_letter_0 : decode cX10_letter 0 = .ok (.aload_n 0, 1) := by decide +kernel
theorem dX10_letter_1 : decode cX10_letter 1 = .ok (.invokevirtual 28, 3) := by decide +kernel
theorem dX10_letter_4 : decode cX10_letter 4 = .ok (.bipush 97, 2) := by decide +kernel
theorem dX10_letter_6 : decode cX10_letter 6 = .ok (.isub, 1) := by decide +kernel
theorem dX10_letter_7 : decode cX10_letter 7 = .ok (.istore_n 1, 1) := by decide +kernel
theorem dX10_letter_8 : decode cX10_letter 8 = .ok (.iload_n 1, 1) := by decide +kernel
theorem dX10_letter_9 : decode cX10_letter 9 = .ok (.ifCond .lt 13, 3) := by decide +kernel
theorem dX10_letter_12 : decode cX10_letter 12 = .ok (.iload_n 1, 1) := by decide +kernel
theorem dX10_letter_13 : decode cX10_letter 13 = .ok (.bipush 16, 2) := by decide +kernel
theorem dX10_letter_15 : decode cX10_letter 15 = .ok (.if_icmp .ge 7, 3) := by decide +kernel
theorem dX10_letter_18 : decode cX10_letter 18 = .ok (.iload_n 1, 1) := by decide +kernel
theorem dX10_letter_19 : decode cX10_letter 19 = .ok (.goto 4, 3) := by decide +kernel
theorem dX10_letter_22 : decode cX10_letter 22 = .ok (.iconst (-1), 1) := by decide +kernel
theorem dX10_letter_23 : decode cX10_letter 23 = .ok (.ireturn, 1) := by decide +kernel
theorem dX10_refuse_0 : decode cX10_refuse 0 = .ok (.aload_n 0, 1) := by decide +kernel
theorem dX10_refuse_1 : decode cX10_refuse 1 = .ok (.sipush (-1000), 3) := by decide +kernel
theorem dX10_refuse_4 : decode cX10_refuse 4 = .ok (.iload_n 1, 1) := by decide +kernel
theorem dX10_refuse_5 : decode cX10_refuse 5 = .ok (.imul, 1) := by decide +kernel
theorem dX10_refuse_6 : decode cX10_refuse 6 = .ok (.aload_n 0, 1) := by decide +kernel
theorem dX10_refuse_7 : decode cX10_refuse 7 = .ok (.getfield 22, 3) := by decide +kernel
theorem dX10_refuse_10 : decode cX10_refuse 10 = .ok (.isub, 1) := by decide +kernel
theorem dX10_refuse_11 : decode cX10_refuse 11 = .ok (.putfield 25, 3) := by decide +kernel
theorem dX10_refuse_14 : decode cX10_refuse 14 = .ok (.iconst 0, 1) := by decide +kernel
theorem dX10_refuse_15 : decode cX10_refuse 15 = .ok (.ireturn, 1) := by decide +kernel
theorem dJ6_bitCount_0f7a4_0 : decode cJ6_bitCount_0f7a4 0 = .ok (.iload_n 0, 1) := by decide +kernel
theorem dJ6_bitCount_0f7a4_1 : decode cJ6_bitCount_0f7a4 1 = .ok (.iload_n 0, 1) := by decide +kernel
theorem dJ6_bitCount_0f7a4_2 : decode cJ6_bitCount_0f7a4 2 = .ok (.iconst 1, 1) := by decide +kernel
theorem dJ6_bitCount_0f7a4_3 : decode cJ6_bitCount_0f7a4 3 = .ok (.iushr, 1) := by decide +kernel
theorem dJ6_bitCount_0f7a4_4 : decode cJ6_bitCount_0f7a4 4 = .ok (.ldc_w 265, 3) := by decide +kernel
theorem dJ6_bitCount_0f7a4_7 : decode cJ6_bitCount_0f7a4 7 = .ok (.iand, 1) := by decide +kernel
theorem dJ6_bitCount_0f7a4_8 : decode cJ6_bitCount_0f7a4 8 = .ok (.isub, 1) := by decide +kernel
theorem dJ6_bitCount_0f7a4_9 : decode cJ6_bitCount_0f7a4 9 = .ok (.istore_n 0, 1) := by decide +kernel
theorem dJ6_bitCount_0f7a4_10 : decode cJ6_bitCount_0f7a4 10 = .ok (.iload_n 0, 1) := by decide +kernel
theorem dJ6_bitCount_0f7a4_11 : decode cJ6_bitCount_0f7a4 11 = .ok (.ldc_w 266, 3) := by decide +kernel
theorem dJ6_bitCount_0f7a4_14 : decode cJ6_bitCount_0f7a4 14 = .ok (.iand, 1) := by decide +kernel
theorem dJ6_bitCount_0f7a4_15 : decode cJ6_bitCount_0f7a4 15 = .ok (.iload_n 0, 1) := by decide +kernel
theorem dJ6_bitCount_0f7a4_16 : decode cJ6_bitCount_0f7a4 16 = .ok (.iconst 2, 1) := by decide +kernel
theorem dJ6_bitCount_0f7a4_17 : decode cJ6_bitCount_0f7a4 17 = .ok (.iushr, 1) := by decide +kernel
theorem dJ6_bitCount_0f7a4_18 : decode cJ6_bitCount_0f7a4 18 = .ok (.ldc_w 266, 3) := by decide +kernel
theorem dJ6_bitCount_0f7a4_21 : decode cJ6_bitCount_0f7a4 21 = .ok (.iand, 1) := by decide +kernel
theorem dJ6_bitCount_0f7a4_22 : decode cJ6_bitCount_0f7a4 22 = .ok (.iadd, 1) := by decide +kernel
theorem dJ6_bitCount_0f7a4_23 : decode cJ6_bitCount_0f7a4 23 = .ok (.istore_n 0, 1) := by decide +kernel
theorem dJ6_bitCount_0f7a4_24 : decode cJ6_bitCount_0f7a4 24 = .ok (.iload_n 0, 1) := by decide +kernel
theorem dJ6_bitCount_0f7a4_25 : decode cJ6_bitCount_0f7a4 25 = .ok (.iload_n 0, 1) := by decide +kernel
theorem dJ6_bitCount_0f7a4_26 : decode cJ6_bitCount_0f7a4 26 = .ok (.iconst 4, 1) := by decide +kernel
theorem dJ6_bitCount_0f7a4_27 : decode cJ6_bitCount_0f7a4 27 = .ok (.iushr, 1) := by decide +kernel
theorem dJ6_bitCount_0f7a4_28 : decode cJ6_bitCount_0f7a4 28 = .ok (.iadd, 1) := by decide +kernel
theorem dJ6_bitCount_0f7a4_29 : decode cJ6_bitCount_0f7a4 29 = .ok (.ldc_w 267, 3) := by decide +kernel
theorem dJ6_bitCount_0f7a4_32 : decode cJ6_bitCount_0f7a4 32 = .ok (.iand, 1) := by decide +kernel
theorem dJ6_bitCount_0f7a4_33 : decode cJ6_bitCount_0f7a4 33 = .ok (.istore_n 0, 1) := by decide +kernel
theorem dJ6_bitCount_0f7a4_34 : decode cJ6_bitCount_0f7a4 34 = .ok (.iload_n 0, 1) := by decide +kernel
theorem dJ6_bitCount_0f7a4_35 : decode cJ6_bitCount_0f7a4 35 = .ok (.iload_n 0, 1) := by decide +kernel
theorem dJ6_bitCount_0f7a4_36 : decode cJ6_bitCount_0f7a4 36 = .ok (.bipush 8, 2) := by decide +kernel
theorem dJ6_bitCount_0f7a4_38 : decode cJ6_bitCount_0f7a4 38 = .ok (.iushr, 1) := by decide +kernel
theorem dJ6_bitCount_0f7a4_39 : decode cJ6_bitCount_0f7a4 39 = .ok (.iadd, 1) := by decide +kernel
theorem dJ6_bitCount_0f7a4_40 : decode cJ6_bitCount_0f7a4 40 = .ok (.istore_n 0, 1) := by decide +kernel
theorem dJ6_bitCount_0f7a4_41 : decode cJ6_bitCount_0f7a4 41 = .ok (.iload_n 0, 1) := by decide +kernel
theorem dJ6_bitCount_0f7a4_42 : decode cJ6_bitCount_0f7a4 42 = .ok (.iload_n 0, 1) := by decide +kernel
theorem dJ6_bitCount_0f7a4_43 : decode cJ6_bitCount_0f7a4 43 = .ok (.bipush 16, 2) := by decide +kernel
theorem dJ6_bitCount_0f7a4_45 : decode cJ6_bitCount_0f7a4 45 = .ok (.iushr, 1) := by decide +kernel
theorem dJ6_bitCount_0f7a4_46 : decode cJ6_bitCount_0f7a4 46 = .ok (.iadd, 1) := by decide +kernel
theorem dJ6_bitCount_0f7a4_47 : decode cJ6_bitCount_0f7a4 47 = .ok (.istore_n 0, 1) := by decide +kernel
theorem dJ6_bitCount_0f7a4_48 : decode cJ6_bitCount_0f7a4 48 = .ok (.iload_n 0, 1) := by decide +kernel
theorem dJ6_bitCount_0f7a4_49 : decode cJ6_bitCount_0f7a4 49 = .ok (.bipush 63, 2) := by decide +kernel
theorem dJ6_bitCount_0f7a4_51 : decode cJ6_bitCount_0f7a4 51 = .ok (.iand, 1) := by decide +kernel
theorem dJ6_bitCount_0f7a4_52 : decode cJ6_bitCount_0f7a4 52 = .ok (.ireturn, 1) := by decide +kernel
theorem dJ9_max_7cf53_0 : decode cJ9_max_7cf53 0 = .ok (.iload_n 0, 1) := by decide +kernel
theorem dJ9_max_7cf53_1 : decode cJ9_max_7cf53 1 = .ok (.iload_n 1, 1) := by decide +kernel
theorem dJ9_max_7cf53_2 : decode cJ9_max_7cf53 2 = .ok (.if_icmp .lt 7, 3) := by decide +kernel
theorem dJ9_max_7cf53_5 : decode cJ9_max_7cf53 5 = .ok (.iload_n 0, 1) := by decide +kernel
theorem dJ9_max_7cf53_6 : decode cJ9_max_7cf53 6 = .ok (.goto 4, 3) := by decide +kernel
theorem dJ9_max_7cf53_9 : decode cJ9_max_7cf53 9 = .ok (.iload_n 1, 1) := by decide +kernel
theorem dJ9_max_7cf53_10 : decode cJ9_max_7cf53 10 = .ok (.ireturn, 1) := by decide +kernel
theorem dJ9_min_7cf53_0 : decode cJ9_min_7cf53 0 = .ok (.iload_n 0, 1) := by decide +kernel
theorem dJ9_min_7cf53_1 : decode cJ9_min_7cf53 1 = .ok (.iload_n 1, 1) := by decide +kernel
theorem dJ9_min_7cf53_2 : decode cJ9_min_7cf53 2 = .ok (.if_icmp .gt 7, 3) := by decide +kernel
theorem dJ9_min_7cf53_5 : decode cJ9_min_7cf53 5 = .ok (.iload_n 0, 1) := by decide +kernel
theorem dJ9_min_7cf53_6 : decode cJ9_min_7cf53 6 = .ok (.goto 4, 3) := by decide +kernel
theorem dJ9_min_7cf53_9 : decode cJ9_min_7cf53 9 = .ok (.iload_n 1, 1) := by decide +kernel
theorem dJ9_min_7cf53_10 : decode cJ9_min_7cf53 10 = .ok (.ireturn, 1) := by decide +kernel
theorem dJ9_min_f86c9_0 : decode cJ9_min_f86c9 0 = .ok (.lload_n 0, 1) := by decide +kernel
theorem dJ9_min_f86c9_1 : decode cJ9_min_f86c9 1 = .ok (.lload_n 2, 1) := by decide +kernel
theorem dJ9_min_f86c9_2 : decode cJ9_min_f86c9 2 = .ok (.lcmp, 1) := by decide +kernel
theorem dJ9_min_f86c9_3 : decode cJ9_min_f86c9 3 = .ok (.ifCond .gt 7, 3) := by decide +kernel
theorem dJ9_min_f86c9_6 : decode cJ9_min_f86c9 6 = .ok (.lload_n 0, 1) := by decide +kernel
theorem dJ9_min_f86c9_7 : decode cJ9_min_f86c9 7 = .ok (.goto 4, 3) := by decide +kernel
theorem dJ9_min_f86c9_10 : decode cJ9_min_f86c9 10 = .ok (.lload_n 2, 1) := by decide +kernel
theorem dJ9_min_f86c9_11 : decode cJ9_min_f86c9 11 = .ok (.lreturn, 1) := by decide +kernel
