/-! ===== decode rows ===== -/
theorem dX11_init_0 : decode cX11_init 0 = .ok (.aload_n 0, 1) := by decide +kernel
theorem dX11_init_1 : decode cX11_init 1 = .ok (.invokespecial 1, 3) := by decide +kernel
theorem dX11_init_4 : decode cX11_init 4 = .ok (.aload_n 0, 1) := by decide +kernel
theorem dX11_init_5 : decode cX11_init 5 = .ok (.new 7, 3) := by decide +kernel
theorem dX11_init_8 : decode cX11_init 8 = .ok (.dup, 1) := by decide +kernel
theorem dX11_init_9 : decode cX11_init 9 = .ok (.invokespecial 9, 3) := by decide +kernel
theorem dX11_init_12 : decode cX11_init 12 = .ok (.putfield 10, 3) := by decide +kernel
theorem dX11_init_15 : decode cX11_init 15 = .ok (.aload_n 0, 1) := by decide +kernel
theorem dX11_init_16 : decode cX11_init 16 = .ok (.new 16, 3) := by decide +kernel
theorem dX11_init_19 : decode cX11_init 19 = .ok (.dup, 1) := by decide +kernel
theorem dX11_init_20 : decode cX11_init 20 = .ok (.invokespecial 18, 3) := by decide +kernel
theorem dX11_init_23 : decode cX11_init 23 = .ok (.putfield 19, 3) := by decide +kernel
theorem dX11_init_26 : decode cX11_init 26 = .ok (.aload_n 0, 1) := by decide +kernel
theorem dX11_init_27 : decode cX11_init 27 = .ok (.new 23, 3) := by decide +kernel
theorem dX11_init_30 : decode cX11_init 30 = .ok (.dup, 1) := by decide +kernel
theorem dX11_init_31 : decode cX11_init 31 = .ok (.invokespecial 25, 3) := by decide +kernel
theorem dX11_init_34 : decode cX11_init 34 = .ok (.putfield 26, 3) := by decide +kernel
theorem dX11_init_37 : decode cX11_init 37 = .ok (.aload_n 0, 1) := by decide +kernel
theorem dX11_init_38 : decode cX11_init 38 = .ok (.bipush 10, 2) := by decide +kernel
theorem dX11_init_40 : decode cX11_init 40 = .ok (.anewarray 30, 3) := by decide +kernel
theorem dX11_init_43 : decode cX11_init 43 = .ok (.putfield 32, 3) := by decide +kernel
theorem dX11_init_46 : decode cX11_init 46 = .ok (.iconst 0, 1) := by decide +kernel
theorem dX11_init_47 : decode cX11_init 47 = .ok (.istore_n 1, 1) := by decide +kernel
theorem dX11_init_48 : decode cX11_init 48 = .ok (.iload_n 1, 1) := by decide +kernel
theorem dX11_init_49 : decode cX11_init 49 = .ok (.bipush 10, 2) := by decide +kernel
theorem dX11_init_51 : decode cX11_init 51 = .ok (.if_icmp .ge 22, 3) := by decide +kernel
theorem dX11_init_54 : decode cX11_init 54 = .ok (.aload_n 0, 1) := by decide +kernel
theorem dX11_init_55 : decode cX11_init 55 = .ok (.getfield 32, 3) := by decide +kernel
theorem dX11_init_58 : decode cX11_init 58 = .ok (.iload_n 1, 1) := by decide +kernel
theorem dX11_init_59 : decode cX11_init 59 = .ok (.new 30, 3) := by decide +kernel
theorem dX11_init_62 : decode cX11_init 62 = .ok (.dup, 1) := by decide +kernel
theorem dX11_init_63 : decode cX11_init 63 = .ok (.invokespecial 36, 3) := by decide +kernel
theorem dX11_init_66 : decode cX11_init 66 = .ok (.aastore, 1) := by decide +kernel
theorem dX11_init_67 : decode cX11_init 67 = .ok (.iinc 1 1, 3) := by decide +kernel
theorem dX11_init_70 : decode cX11_init 70 = .ok (.goto (-22), 3) := by decide +kernel
theorem dX11_init_73 : decode cX11_init 73 = .ok (.aload_n 0, 1) := by decide +kernel
theorem dX11_init_74 : decode cX11_init 74 = .ok (.new 37, 3) := by decide +kernel
theorem dX11_init_77 : decode cX11_init 77 = .ok (.dup, 1) := by decide +kernel
theorem dX11_init_78 : decode cX11_init 78 = .ok (.invokespecial 39, 3) := by decide +kernel
theorem dX11_init_81 : decode cX11_init 81 = .ok (.putfield 40, 3) := by decide +kernel
theorem dX11_init_84 : decode cX11_init 84 = .ok (.aload_n 0, 1) := by decide +kernel
theorem dX11_init_85 : decode cX11_init 85 = .ok (.new 44, 3) := by decide +kernel
theorem dX11_init_88 : decode cX11_init 88 = .ok (.dup, 1) := by decide +kernel
theorem dX11_init_89 : decode cX11_init 89 = .ok (.invokespecial 46, 3) := by decide +kernel
theorem dX11_init_92 : decode cX11_init 92 = .ok (.putfield 47, 3) := by decide +kernel
theorem dX11_init_95 : decode cX11_init 95 = .ok (.aload_n 0, 1) := by decide +kernel
theorem dX11_init_96 : decode cX11_init 96 = .ok (.new 51, 3) := by decide +kernel
theorem dX11_init_99 : decode cX11_init 99 = .ok (.dup, 1) := by decide +kernel
theorem dX11_init_100 : decode cX11_init 100 = .ok (.aload_n 0, 1) := by decide +kernel
theorem dX11_init_101 : decode cX11_init 101 = .ok (.getfield 10, 3) := by decide +kernel
theorem dX11_init_104 : decode cX11_init 104 = .ok (.aload_n 0, 1) := by decide +kernel
theorem dX11_init_105 : decode cX11_init 105 = .ok (.getfield 19, 3) := by decide +kernel
theorem dX11_init_108 : decode cX11_init 108 = .ok (.aload_n 0, 1) := by decide +kernel
theorem dX11_init_109 : decode cX11_init 109 = .ok (.getfield 40, 3) := by decide +kernel
theorem dX11_init_112 : decode cX11_init 112 = .ok (.aload_n 0, 1) := by decide +kernel
theorem dX11_init_113 : decode cX11_init 113 = .ok (.getfield 47, 3) := by decide +kernel
theorem dX11_init_116 : decode cX11_init 116 = .ok (.invokespecial 53, 3) := by decide +kernel
theorem dX11_init_119 : decode cX11_init 119 = .ok (.putfield 56, 3) := by decide +kernel
theorem dX11_init_122 : decode cX11_init 122 = .ok (.aload_n 0, 1) := by decide +kernel
theorem dX11_init_123 : decode cX11_init 123 = .ok (.new 60, 3) := by decide +kernel
theorem dX11_init_126 : decode cX11_init 126 = .ok (.dup, 1) := by decide +kernel
theorem dX11_init_127 : decode cX11_init 127 = .ok (.invokespecial 62, 3) := by decide +kernel
theorem dX11_init_130 : decode cX11_init 130 = .ok (.putfield 63, 3) := by decide +kernel
theorem dX11_init_133 : decode cX11_init 133 = .ok (.aload_n 0, 1) := by decide +kernel
theorem dX11_init_134 : decode cX11_init 134 = .ok (.new 67, 3) := by decide +kernel
theorem dX11_init_137 : decode cX11_init 137 = .ok (.dup, 1) := by decide +kernel
theorem dX11_init_138 : decode cX11_init 138 = .ok (.invokespecial 69, 3) := by decide +kernel
theorem dX11_init_141 : decode cX11_init 141 = .ok (.putfield 70, 3) := by decide +kernel
theorem dX11_init_144 : decode cX11_init 144 = .ok (.aload_n 0, 1) := by decide +kernel
theorem dX11_init_145 : decode cX11_init 145 = .ok (.new 74, 3) := by decide +kernel
theorem dX11_init_148 : decode cX11_init 148 = .ok (.dup, 1) := by decide +kernel
theorem dX11_init_149 : decode cX11_init 149 = .ok (.aload_n 0, 1) := by decide +kernel
theorem dX11_init_150 : decode cX11_init 150 = .ok (.getfield 63, 3) := by decide +kernel
theorem dX11_init_153 : decode cX11_init 153 = .ok (.aload_n 0, 1) := by decide +kernel
theorem dX11_init_154 : decode cX11_init 154 = .ok (.getfield 40, 3) := by decide +kernel
theorem dX11_init_157 : decode cX11_init 157 = .ok (.aload_n 0, 1) := by decide +kernel
theorem dX11_init_158 : decode cX11_init 158 = .ok (.getfield 47, 3) := by decide +kernel
theorem dX11_init_161 : decode cX11_init 161 = .ok (.invokespecial 76, 3) := by decide +kernel
theorem dX11_init_164 : decode cX11_init 164 = .ok (.putfield 79, 3) := by decide +kernel
theorem dX11_init_167 : decode cX11_init 167 = .ok (.aload_n 0, 1) := by decide +kernel
theorem dX11_init_168 : decode cX11_init 168 = .ok (.new 83, 3) := by decide +kernel
theorem dX11_init_171 : decode cX11_init 171 = .ok (.dup, 1) := by decide +kernel
theorem dX11_init_172 : decode cX11_init 172 = .ok (.invokespecial 85, 3) := by decide +kernel
theorem dX11_init_175 : decode cX11_init 175 = .ok (.putfield 86, 3) := by decide +kernel
theorem dX11_init_178 : decode cX11_init 178 = .ok (.aload_n 0, 1) := by decide +kernel
theorem dX11_init_179 : decode cX11_init 179 = .ok (.new 83, 3) := by decide +kernel
theorem dX11_init_182 : decode cX11_init 182 = .ok (.dup, 1) := by decide +kernel
theorem dX11_init_183 : decode cX11_init 183 = .ok (.invokespecial 85, 3) := by decide +kernel
theorem dX11_init_186 : decode cX11_init 186 = .ok (.putfield 90, 3) := by decide +kernel
theorem dX11_init_189 : decode cX11_init 189 = .ok (.aload_n 0, 1) := by decide +kernel
theorem dX11_init_190 : decode cX11_init 190 = .ok (.sipush 1700, 3) := by decide +kernel
theorem dX11_init_193 : decode cX11_init 193 = .ok (.putfield 93, 3) := by decide +kernel
theorem dX11_init_196 : decode cX11_init 196 = .ok (.return_, 1) := by decide +kernel
theorem dX11_now_0 : decode cX11_now 0 = .ok (.iload_n 1, 1) := by decide +kernel
theorem dX11_now_1 : decode cX11_now 1 = .ok (.aload_n 0, 1) := by decide +kernel
theorem dX11_now_2 : decode cX11_now 2 = .ok (.getfield 93, 3) := by decide +kernel
theorem dX11_now_5 : decode cX11_now 5 = .ok (.if_icmp .lt 10, 3) := by decide +kernel
theorem dX11_now_8 : decode cX11_now 8 = .ok (.iload_n 1, 1) := by decide +kernel
theorem dX11_now_9 : decode cX11_now 9 = .ok (.sipush 1999, 3) := by decide +kernel
theorem dX11_now_12 : decode cX11_now 12 = .ok (.if_icmp .le 5, 3) := by decide +kernel
theorem dX11_now_15 : decode cX11_now 15 = .ok (.iconst 0, 1) := by decide +kernel
theorem dX11_now_16 : decode cX11_now 16 = .ok (.ireturn, 1) := by decide +kernel
theorem dX11_now_17 : decode cX11_now 17 = .ok (.aload_n 0, 1) := by decide +kernel
theorem dX11_now_18 : decode cX11_now 18 = .ok (.iload_n 1, 1) := by decide +kernel
theorem dX11_now_19 : decode cX11_now 19 = .ok (.putfield 93, 3) := by decide +kernel
theorem dX11_now_22 : decode cX11_now 22 = .ok (.iconst 1, 1) := by decide +kernel
theorem dX11_now_23 : decode cX11_now 23 = .ok (.ireturn, 1) := by decide +kernel
theorem dX11_person_0 : decode cX11_person 0 = .ok (.iload_n 1, 1) := by decide +kernel
theorem dX11_person_1 : decode cX11_person 1 = .ok (.sipush 1600, 3) := by decide +kernel
theorem dX11_person_4 : decode cX11_person 4 = .ok (.if_icmp .lt 23, 3) := by decide +kernel
theorem dX11_person_7 : decode cX11_person 7 = .ok (.iload_n 1, 1) := by decide +kernel
theorem dX11_person_8 : decode cX11_person 8 = .ok (.aload_n 0, 1) := by decide +kernel
theorem dX11_person_9 : decode cX11_person 9 = .ok (.getfield 93, 3) := by decide +kernel
theorem dX11_person_12 : decode cX11_person 12 = .ok (.if_icmp .gt 15, 3) := by decide +kernel
theorem dX11_person_15 : decode cX11_person 15 = .ok (.aload_n 0, 1) := by decide +kernel
theorem dX11_person_16 : decode cX11_person 16 = .ok (.getfield 10, 3) := by decide +kernel
theorem dX11_person_19 : decode cX11_person 19 = .ok (.getfield 97, 3) := by decide +kernel
theorem dX11_person_22 : decode cX11_person 22 = .ok (.bipush 16, 2) := by decide +kernel
theorem dX11_person_24 : decode cX11_person 24 = .ok (.if_icmp .lt 5, 3) := by decide +kernel
theorem dX11_person_27 : decode cX11_person 27 = .ok (.iconst (-1), 1) := by decide +kernel
theorem dX11_person_28 : decode cX11_person 28 = .ok (.ireturn, 1) := by decide +kernel
theorem dX11_person_29 : decode cX11_person 29 = .ok (.iload_n 2, 1) := by decide +kernel
theorem dX11_person_30 : decode cX11_person 30 = .ok (.iconst (-1), 1) := by decide +kernel
theorem dX11_person_31 : decode cX11_person 31 = .ok (.if_icmp .eq 29, 3) := by decide +kernel
theorem dX11_person_34 : decode cX11_person 34 = .ok (.aload_n 0, 1) := by decide +kernel
theorem dX11_person_35 : decode cX11_person 35 = .ok (.getfield 10, 3) := by decide +kernel
theorem dX11_person_38 : decode cX11_person 38 = .ok (.iload_n 2, 1) := by decide +kernel
theorem dX11_person_39 : decode cX11_person 39 = .ok (.invokevirtual 100, 3) := by decide +kernel
theorem dX11_person_42 : decode cX11_person 42 = .ok (.ifCond .eq 16, 3) := by decide +kernel
theorem dX11_person_45 : decode cX11_person 45 = .ok (.iload_n 1, 1) := by decide +kernel
theorem dX11_person_46 : decode cX11_person 46 = .ok (.aload_n 0, 1) := by decide +kernel
theorem dX11_person_47 : decode cX11_person 47 = .ok (.getfield 10, 3) := by decide +kernel
theorem dX11_person_50 : decode cX11_person 50 = .ok (.getfield 104, 3) := by decide +kernel
theorem dX11_person_53 : decode cX11_person 53 = .ok (.iload_n 2, 1) := by decide +kernel
theorem dX11_person_54 : decode cX11_person 54 = .ok (.iaload, 1) := by decide +kernel
theorem dX11_person_55 : decode cX11_person 55 = .ok (.if_icmp .ge 5, 3) := by decide +kernel
theorem dX11_person_58 : decode cX11_person 58 = .ok (.iconst (-1), 1) := by decide +kernel
theorem dX11_person_59 : decode cX11_person 59 = .ok (.ireturn, 1) := by decide +kernel
theorem dX11_person_60 : decode cX11_person 60 = .ok (.aload_n 0, 1) := by decide +kernel
theorem dX11_person_61 : decode cX11_person 61 = .ok (.getfield 10, 3) := by decide +kernel
theorem dX11_person_64 : decode cX11_person 64 = .ok (.iload_n 1, 1) := by decide +kernel
theorem dX11_person_65 : decode cX11_person 65 = .ok (.iload_n 2, 1) := by decide +kernel
theorem dX11_person_66 : decode cX11_person 66 = .ok (.aload_n 0, 1) := by decide +kernel
theorem dX11_person_67 : decode cX11_person 67 = .ok (.getfield 93, 3) := by decide +kernel
theorem dX11_person_70 : decode cX11_person 70 = .ok (.invokevirtual 108, 3) := by decide +kernel
theorem dX11_person_73 : decode cX11_person 73 = .ok (.ireturn, 1) := by decide +kernel
theorem dX11_dies_0 : decode cX11_dies 0 = .ok (.aload_n 0, 1) := by decide +kernel
theorem dX11_dies_1 : decode cX11_dies 1 = .ok (.getfield 10, 3) := by decide +kernel
theorem dX11_dies_4 : decode cX11_dies 4 = .ok (.iload_n 1, 1) := by decide +kernel
theorem dX11_dies_5 : decode cX11_dies 5 = .ok (.invokevirtual 100, 3) := by decide +kernel
theorem dX11_dies_8 : decode cX11_dies 8 = .ok (.ifCond .eq 16, 3) := by decide +kernel
theorem dX11_dies_11 : decode cX11_dies 11 = .ok (.aload_n 0, 1) := by decide +kernel
theorem dX11_dies_12 : decode cX11_dies 12 = .ok (.getfield 10, 3) := by decide +kernel
theorem dX11_dies_15 : decode cX11_dies 15 = .ok (.getfield 112, 3) := by decide +kernel
theorem dX11_dies_18 : decode cX11_dies 18 = .ok (.iload_n 1, 1) := by decide +kernel
theorem dX11_dies_19 : decode cX11_dies 19 = .ok (.iaload, 1) := by decide +kernel
theorem dX11_dies_20 : decode cX11_dies 20 = .ok (.iconst (-1), 1) := by decide +kernel
theorem dX11_dies_21 : decode cX11_dies 21 = .ok (.if_icmp .eq 5, 3) := by decide +kernel
theorem dX11_dies_24 : decode cX11_dies 24 = .ok (.iconst 0, 1) := by decide +kernel
theorem dX11_dies_25 : decode cX11_dies 25 = .ok (.ireturn, 1) := by decide +kernel
theorem dX11_dies_26 : decode cX11_dies 26 = .ok (.iload_n 2, 1) := by decide +kernel
theorem dX11_dies_27 : decode cX11_dies 27 = .ok (.aload_n 0, 1) := by decide +kernel
theorem dX11_dies_28 : decode cX11_dies 28 = .ok (.getfield 10, 3) := by decide +kernel
theorem dX11_dies_31 : decode cX11_dies 31 = .ok (.getfield 104, 3) := by decide +kernel
theorem dX11_dies_34 : decode cX11_dies 34 = .ok (.iload_n 1, 1) := by decide +kernel
theorem dX11_dies_35 : decode cX11_dies 35 = .ok (.iaload, 1) := by decide +kernel
theorem dX11_dies_36 : decode cX11_dies 36 = .ok (.if_icmp .lt 11, 3) := by decide +kernel
theorem dX11_dies_39 : decode cX11_dies 39 = .ok (.iload_n 2, 1) := by decide +kernel
theorem dX11_dies_40 : decode cX11_dies 40 = .ok (.aload_n 0, 1) := by decide +kernel
theorem dX11_dies_41 : decode cX11_dies 41 = .ok (.getfield 93, 3) := by decide +kernel
theorem dX11_dies_44 : decode cX11_dies 44 = .ok (.if_icmp .le 5, 3) := by decide +kernel
theorem dX11_dies_47 : decode cX11_dies 47 = .ok (.iconst 0, 1) := by decide +kernel
theorem dX11_dies_48 : decode cX11_dies 48 = .ok (.ireturn, 1) := by decide +kernel
theorem dX11_dies_49 : decode cX11_dies 49 = .ok (.aload_n 0, 1) := by decide +kernel
theorem dX11_dies_50 : decode cX11_dies 50 = .ok (.getfield 10, 3) := by decide +kernel
theorem dX11_dies_53 : decode cX11_dies 53 = .ok (.getfield 112, 3) := by decide +kernel
theorem dX11_dies_56 : decode cX11_dies 56 = .ok (.iload_n 1, 1) := by decide +kernel
theorem dX11_dies_57 : decode cX11_dies 57 = .ok (.iload_n 2, 1) := by decide +kernel
theorem dX11_dies_58 : decode cX11_dies 58 = .ok (.iastore, 1) := by decide +kernel
theorem dX11_dies_59 : decode cX11_dies 59 = .ok (.aload_n 0, 1) := by decide +kernel
theorem dX11_dies_60 : decode cX11_dies 60 = .ok (.getfield 10, 3) := by decide +kernel
theorem dX11_dies_63 : decode cX11_dies 63 = .ok (.getfield 115, 3) := by decide +kernel
theorem dX11_dies_66 : decode cX11_dies 66 = .ok (.iload_n 1, 1) := by decide +kernel
theorem dX11_dies_67 : decode cX11_dies 67 = .ok (.aload_n 0, 1) := by decide +kernel
theorem dX11_dies_68 : decode cX11_dies 68 = .ok (.getfield 93, 3) := by decide +kernel
theorem dX11_dies_71 : decode cX11_dies 71 = .ok (.iastore, 1) := by decide +kernel
theorem dX11_dies_72 : decode cX11_dies 72 = .ok (.iconst 1, 1) := by decide +kernel
theorem dX11_dies_73 : decode cX11_dies 73 = .ok (.ireturn, 1) := by decide +kernel
theorem dX11_table_0 : decode cX11_table 0 = .ok (.aload_n 0, 1) := by decide +kernel
theorem dX11_table_1 : decode cX11_table 1 = .ok (.getfield 19, 3) := by decide +kernel
theorem dX11_table_4 : decode cX11_table 4 = .ok (.iload_n 1, 1) := by decide +kernel
theorem dX11_table_5 : decode cX11_table 5 = .ok (.iload_n 2, 1) := by decide +kernel
theorem dX11_table_6 : decode cX11_table 6 = .ok (.iload_n 3, 1) := by decide +kernel
theorem dX11_table_7 : decode cX11_table 7 = .ok (.invokevirtual 118, 3) := by decide +kernel
theorem dX11_table_10 : decode cX11_table 10 = .ok (.ireturn, 1) := by decide +kernel
theorem dX11_lives_0 : decode cX11_lives 0 = .ok (.iload_n 1, 1) := by decide +kernel
theorem dX11_lives_1 : decode cX11_lives 1 = .ok (.ifCond .lt 19, 3) := by decide +kernel
theorem dX11_lives_4 : decode cX11_lives 4 = .ok (.iload_n 1, 1) := by decide +kernel
theorem dX11_lives_5 : decode cX11_lives 5 = .ok (.iconst 4, 1) := by decide +kernel
theorem dX11_lives_6 : decode cX11_lives 6 = .ok (.if_icmp .ge 14, 3) := by decide +kernel
theorem dX11_lives_9 : decode cX11_lives 9 = .ok (.iload_n 2, 1) := by decide +kernel
theorem dX11_lives_10 : decode cX11_lives 10 = .ok (.ifCond .lt 10, 3) := by decide +kernel
theorem dX11_lives_13 : decode cX11_lives 13 = .ok (.iload_n 2, 1) := by decide +kernel
theorem dX11_lives_14 : decode cX11_lives 14 = .ok (.sipush 400, 3) := by decide +kernel
theorem dX11_lives_17 : decode cX11_lives 17 = .ok (.if_icmp .le 5, 3) := by decide +kernel
theorem dX11_lives_20 : decode cX11_lives 20 = .ok (.iconst (-1), 1) := by decide +kernel
theorem dX11_lives_21 : decode cX11_lives 21 = .ok (.ireturn, 1) := by decide +kernel
theorem dX11_lives_22 : decode cX11_lives 22 = .ok (.aload_n 0, 1) := by decide +kernel
theorem dX11_lives_23 : decode cX11_lives 23 = .ok (.getfield 19, 3) := by decide +kernel
theorem dX11_lives_26 : decode cX11_lives 26 = .ok (.iload_n 1, 1) := by decide +kernel
theorem dX11_lives_27 : decode cX11_lives 27 = .ok (.iload_n 2, 1) := by decide +kernel
theorem dX11_lives_28 : decode cX11_lives 28 = .ok (.invokevirtual 122, 3) := by decide +kernel
theorem dX11_lives_31 : decode cX11_lives 31 = .ok (.ireturn, 1) := by decide +kernel
theorem dX11_number_0 : decode cX11_number 0 = .ok (.iload_n 1, 1) := by decide +kernel
theorem dX11_number_1 : decode cX11_number 1 = .ok (.ifCond .ne 23, 3) := by decide +kernel
theorem dX11_number_4 : decode cX11_number 4 = .ok (.iload_n 2, 1) := by decide +kernel
theorem dX11_number_5 : decode cX11_number 5 = .ok (.ifCond .lt 19, 3) := by decide +kernel
theorem dX11_number_8 : decode cX11_number 8 = .ok (.iload_n 2, 1) := by decide +kernel
theorem dX11_number_9 : decode cX11_number 9 = .ok (.bipush 20, 2) := by decide +kernel
theorem dX11_number_11 : decode cX11_number 11 = .ok (.if_icmp .gt 13, 3) := by decide +kernel
theorem dX11_number_14 : decode cX11_number 14 = .ok (.aload_n 0, 1) := by decide +kernel
theorem dX11_number_15 : decode cX11_number 15 = .ok (.getfield 19, 3) := by decide +kernel
theorem dX11_number_18 : decode cX11_number 18 = .ok (.iload_n 2, 1) := by decide +kernel
theorem dX11_number_19 : decode cX11_number 19 = .ok (.putfield 126, 3) := by decide +kernel
theorem dX11_number_22 : decode cX11_number 22 = .ok (.iconst 1, 1) := by decide +kernel
theorem dX11_number_23 : decode cX11_number 23 = .ok (.ireturn, 1) := by decide +kernel
theorem dX11_number_24 : decode cX11_number 24 = .ok (.iload_n 1, 1) := by decide +kernel
theorem dX11_number_25 : decode cX11_number 25 = .ok (.iconst 1, 1) := by decide +kernel
theorem dX11_number_26 : decode cX11_number 26 = .ok (.if_icmp .ne 20, 3) := by decide +kernel
theorem dX11_number_29 : decode cX11_number 29 = .ok (.iload_n 2, 1) := by decide +kernel
theorem dX11_number_30 : decode cX11_number 30 = .ok (.ifCond .lt 16, 3) := by decide +kernel
theorem dX11_number_33 : decode cX11_number 33 = .ok (.iload_n 2, 1) := by decide +kernel
theorem dX11_number_34 : decode cX11_number 34 = .ok (.bipush 50, 2) := by decide +kernel
theorem dX11_number_36 : decode cX11_number 36 = .ok (.if_icmp .gt 10, 3) := by decide +kernel
theorem dX11_number_39 : decode cX11_number 39 = .ok (.aload_n 0, 1) := by decide +kernel
theorem dX11_number_40 : decode cX11_number 40 = .ok (.iload_n 2, 1) := by decide +kernel
theorem dX11_number_41 : decode cX11_number 41 = .ok (.putfield 129, 3) := by decide +kernel
theorem dX11_number_44 : decode cX11_number 44 = .ok (.iconst 1, 1) := by decide +kernel
theorem dX11_number_45 : decode cX11_number 45 = .ok (.ireturn, 1) := by decide +kernel
theorem dX11_number_46 : decode cX11_number 46 = .ok (.iconst 0, 1) := by decide +kernel
theorem dX11_number_47 : decode cX11_number 47 = .ok (.ireturn, 1) := by decide +kernel
theorem dX11_discount_0 : decode cX11_discount 0 = .ok (.iload_n 1, 1) := by decide +kernel
theorem dX11_discount_1 : decode cX11_discount 1 = .ok (.ifCond .lt 10, 3) := by decide +kernel
theorem dX11_discount_4 : decode cX11_discount 4 = .ok (.iload_n 1, 1) := by decide +kernel
theorem dX11_discount_5 : decode cX11_discount 5 = .ok (.sipush 400, 3) := by decide +kernel
theorem dX11_discount_8 : decode cX11_discount 8 = .ok (.if_icmp .le 5, 3) := by decide +kernel
theorem dX11_discount_11 : decode cX11_discount 11 = .ok (.iconst (-1), 1) := by decide +kernel
theorem dX11_discount_12 : decode cX11_discount 12 = .ok (.ireturn, 1) := by decide +kernel
theorem dX11_discount_13 : decode cX11_discount 13 = .ok (.aload_n 0, 1) := by decide +kernel
theorem dX11_discount_14 : decode cX11_discount 14 = .ok (.getfield 19, 3) := by decide +kernel
theorem dX11_discount_17 : decode cX11_discount 17 = .ok (.iload_n 1, 1) := by decide +kernel
theorem dX11_discount_18 : decode cX11_discount 18 = .ok (.invokevirtual 132, 3) := by decide +kernel
theorem dX11_discount_21 : decode cX11_discount 21 = .ok (.ireturn, 1) := by decide +kernel
theorem dX11_feed_0 : decode cX11_feed 0 = .ok (.aload_n 0, 1) := by decide +kernel
theorem dX11_feed_1 : decode cX11_feed 1 = .ok (.getfield 26, 3) := by decide +kernel
theorem dX11_feed_4 : decode cX11_feed 4 = .ok (.getfield 136, 3) := by decide +kernel
theorem dX11_feed_7 : decode cX11_feed 7 = .ok (.bipush 80, 2) := by decide +kernel
theorem dX11_feed_9 : decode cX11_feed 9 = .ok (.if_icmp .le 5, 3) := by decide +kernel
theorem dX11_feed_12 : decode cX11_feed 12 = .ok (.iconst (-1), 1) := by decide +kernel
theorem dX11_feed_13 : decode cX11_feed 13 = .ok (.ireturn, 1) := by decide +kernel
theorem dX11_feed_14 : decode cX11_feed 14 = .ok (.aload_n 0, 1) := by decide +kernel
theorem dX11_feed_15 : decode cX11_feed 15 = .ok (.getfield 26, 3) := by decide +kernel
theorem dX11_feed_18 : decode cX11_feed 18 = .ok (.iload_n 1, 1) := by decide +kernel
theorem dX11_feed_19 : decode cX11_feed 19 = .ok (.invokevirtual 137, 3) := by decide +kernel
theorem dX11_feed_22 : decode cX11_feed 22 = .ok (.aload_n 0, 1) := by decide +kernel
theorem dX11_feed_23 : decode cX11_feed 23 = .ok (.getfield 26, 3) := by decide +kernel
theorem dX11_feed_26 : decode cX11_feed 26 = .ok (.iload_n 2, 1) := by decide +kernel
theorem dX11_feed_27 : decode cX11_feed 27 = .ok (.invokevirtual 137, 3) := by decide +kernel
theorem dX11_feed_30 : decode cX11_feed 30 = .ok (.aload_n 0, 1) := by decide +kernel
theorem dX11_feed_31 : decode cX11_feed 31 = .ok (.getfield 26, 3) := by decide +kernel
theorem dX11_feed_34 : decode cX11_feed 34 = .ok (.iload_n 3, 1) := by decide +kernel
theorem dX11_feed_35 : decode cX11_feed 35 = .ok (.invokevirtual 137, 3) := by decide +kernel
theorem dX11_feed_38 : decode cX11_feed 38 = .ok (.aload_n 0, 1) := by decide +kernel
theorem dX11_feed_39 : decode cX11_feed 39 = .ok (.getfield 26, 3) := by decide +kernel
theorem dX11_feed_42 : decode cX11_feed 42 = .ok (.iload 4, 2) := by decide +kernel
theorem dX11_feed_44 : decode cX11_feed 44 = .ok (.invokevirtual 137, 3) := by decide +kernel
theorem dX11_feed_47 : decode cX11_feed 47 = .ok (.aload_n 0, 1) := by decide +kernel
theorem dX11_feed_48 : decode cX11_feed 48 = .ok (.getfield 26, 3) := by decide +kernel
theorem dX11_feed_51 : decode cX11_feed 51 = .ok (.iload 5, 2) := by decide +kernel
theorem dX11_feed_53 : decode cX11_feed 53 = .ok (.invokevirtual 137, 3) := by decide +kernel
theorem dX11_feed_56 : decode cX11_feed 56 = .ok (.aload_n 0, 1) := by decide +kernel
theorem dX11_feed_57 : decode cX11_feed 57 = .ok (.getfield 26, 3) := by decide +kernel
theorem dX11_feed_60 : decode cX11_feed 60 = .ok (.getfield 136, 3) := by decide +kernel
theorem dX11_feed_63 : decode cX11_feed 63 = .ok (.ireturn, 1) := by decide +kernel
theorem dX11_settle_0 : decode cX11_settle 0 = .ok (.iload_n 1, 1) := by decide +kernel
theorem dX11_settle_1 : decode cX11_settle 1 = .ok (.iconst 1, 1) := by decide +kernel
theorem dX11_settle_2 : decode cX11_settle 2 = .ok (.if_icmp .lt 29, 3) := by decide +kernel
theorem dX11_settle_5 : decode cX11_settle 5 = .ok (.iload_n 1, 1) := by decide +kernel
theorem dX11_settle_6 : decode cX11_settle 6 = .ok (.ldc 141, 2) := by decide +kernel
theorem dX11_settle_8 : decode cX11_settle 8 = .ok (.if_icmp .gt 23, 3) := by decide +kernel
theorem dX11_settle_11 : decode cX11_settle 11 = .ok (.aload_n 0, 1) := by decide +kernel
theorem dX11_settle_12 : decode cX11_settle 12 = .ok (.getfield 10, 3) := by decide +kernel
theorem dX11_settle_15 : decode cX11_settle 15 = .ok (.iload_n 2, 1) := by decide +kernel
theorem dX11_settle_16 : decode cX11_settle 16 = .ok (.invokevirtual 100, 3) := by decide +kernel
theorem dX11_settle_19 : decode cX11_settle 19 = .ok (.ifCond .eq 12, 3) := by decide +kernel
theorem dX11_settle_22 : decode cX11_settle 22 = .ok (.iload_n 3, 1) := by decide +kernel
theorem dX11_settle_23 : decode cX11_settle 23 = .ok (.ifCond .lt 8, 3) := by decide +kernel
theorem dX11_settle_26 : decode cX11_settle 26 = .ok (.iload_n 3, 1) := by decide +kernel
theorem dX11_settle_27 : decode cX11_settle 27 = .ok (.iconst 4, 1) := by decide +kernel
theorem dX11_settle_28 : decode cX11_settle 28 = .ok (.if_icmp .lt 5, 3) := by decide +kernel
theorem dX11_settle_31 : decode cX11_settle 31 = .ok (.iconst (-1), 1) := by decide +kernel
theorem dX11_settle_32 : decode cX11_settle 32 = .ok (.ireturn, 1) := by decide +kernel
theorem dX11_settle_33 : decode cX11_settle 33 = .ok (.iload 4, 2) := by decide +kernel
theorem dX11_settle_35 : decode cX11_settle 35 = .ok (.iconst 1, 1) := by decide +kernel
theorem dX11_settle_36 : decode cX11_settle 36 = .ok (.if_icmp .lt 31, 3) := by decide +kernel
theorem dX11_settle_39 : decode cX11_settle 39 = .ok (.iload 4, 2) := by decide +kernel
theorem dX11_settle_41 : decode cX11_settle 41 = .ok (.bipush 100, 2) := by decide +kernel
theorem dX11_settle_43 : decode cX11_settle 43 = .ok (.if_icmp .gt 24, 3) := by decide +kernel
theorem dX11_settle_46 : decode cX11_settle 46 = .ok (.iload 4, 2) := by decide +kernel
theorem dX11_settle_48 : decode cX11_settle 48 = .ok (.aload_n 0, 1) := by decide +kernel
theorem dX11_settle_49 : decode cX11_settle 49 = .ok (.getfield 26, 3) := by decide +kernel
theorem dX11_settle_52 : decode cX11_settle 52 = .ok (.getfield 136, 3) := by decide +kernel
theorem dX11_settle_55 : decode cX11_settle 55 = .ok (.if_icmp .gt 12, 3) := by decide +kernel
theorem dX11_settle_58 : decode cX11_settle 58 = .ok (.aload_n 0, 1) := by decide +kernel
theorem dX11_settle_59 : decode cX11_settle 59 = .ok (.getfield 142, 3) := by decide +kernel
theorem dX11_settle_62 : decode cX11_settle 62 = .ok (.bipush 10, 2) := by decide +kernel
theorem dX11_settle_64 : decode cX11_settle 64 = .ok (.if_icmp .lt 5, 3) := by decide +kernel
theorem dX11_settle_67 : decode cX11_settle 67 = .ok (.iconst (-1), 1) := by decide +kernel
theorem dX11_settle_68 : decode cX11_settle 68 = .ok (.ireturn, 1) := by decide +kernel
theorem dX11_settle_69 : decode cX11_settle 69 = .ok (.aload_n 0, 1) := by decide +kernel
theorem dX11_settle_70 : decode cX11_settle 70 = .ok (.getfield 32, 3) := by decide +kernel
theorem dX11_settle_73 : decode cX11_settle 73 = .ok (.aload_n 0, 1) := by decide +kernel
theorem dX11_settle_74 : decode cX11_settle 74 = .ok (.getfield 142, 3) := by decide +kernel
theorem dX11_settle_77 : decode cX11_settle 77 = .ok (.aaload, 1) := by decide +kernel
theorem dX11_settle_78 : decode cX11_settle 78 = .ok (.astore 5, 2) := by decide +kernel
theorem dX11_settle_80 : decode cX11_settle 80 = .ok (.aload 5, 2) := by decide +kernel
theorem dX11_settle_82 : decode cX11_settle 82 = .ok (.ifnonnull 5, 3) := by decide +kernel
theorem dX11_settle_85 : decode cX11_settle 85 = .ok (.iconst (-1), 1) := by decide +kernel
theorem dX11_settle_86 : decode cX11_settle 86 = .ok (.ireturn, 1) := by decide +kernel
theorem dX11_settle_87 : decode cX11_settle 87 = .ok (.aload 5, 2) := by decide +kernel
theorem dX11_settle_89 : decode cX11_settle 89 = .ok (.iload_n 1, 1) := by decide +kernel
theorem dX11_settle_90 : decode cX11_settle 90 = .ok (.iload_n 2, 1) := by decide +kernel
theorem dX11_settle_91 : decode cX11_settle 91 = .ok (.iload_n 3, 1) := by decide +kernel
theorem dX11_settle_92 : decode cX11_settle 92 = .ok (.invokevirtual 145, 3) := by decide +kernel
theorem dX11_settle_95 : decode cX11_settle 95 = .ok (.aload_n 0, 1) := by decide +kernel
theorem dX11_settle_96 : decode cX11_settle 96 = .ok (.getfield 26, 3) := by decide +kernel
theorem dX11_settle_99 : decode cX11_settle 99 = .ok (.iload 4, 2) := by decide +kernel
theorem dX11_settle_101 : decode cX11_settle 101 = .ok (.invokevirtual 149, 3) := by decide +kernel
theorem dX11_settle_104 : decode cX11_settle 104 = .ok (.aload 5, 2) := by decide +kernel
theorem dX11_settle_106 : decode cX11_settle 106 = .ok (.aload_n 0, 1) := by decide +kernel
theorem dX11_settle_107 : decode cX11_settle 107 = .ok (.getfield 26, 3) := by decide +kernel
theorem dX11_settle_110 : decode cX11_settle 110 = .ok (.invokevirtual 152, 3) := by decide +kernel
theorem dX11_settle_113 : decode cX11_settle 113 = .ok (.istore 6, 2) := by decide +kernel
theorem dX11_settle_115 : decode cX11_settle 115 = .ok (.aload_n 0, 1) := by decide +kernel
theorem dX11_settle_116 : decode cX11_settle 116 = .ok (.getfield 26, 3) := by decide +kernel
theorem dX11_settle_119 : decode cX11_settle 119 = .ok (.iconst 0, 1) := by decide +kernel
theorem dX11_settle_120 : decode cX11_settle 120 = .ok (.putfield 136, 3) := by decide +kernel
theorem dX11_settle_123 : decode cX11_settle 123 = .ok (.iload 6, 2) := by decide +kernel
theorem dX11_settle_125 : decode cX11_settle 125 = .ok (.ifCond .ne 11, 3) := by decide +kernel
theorem dX11_settle_128 : decode cX11_settle 128 = .ok (.aload_n 0, 1) := by decide +kernel
theorem dX11_settle_129 : decode cX11_settle 129 = .ok (.getfield 26, 3) := by decide +kernel
theorem dX11_settle_132 : decode cX11_settle 132 = .ok (.getfield 156, 3) := by decide +kernel
theorem dX11_settle_135 : decode cX11_settle 135 = .ok (.ireturn, 1) := by decide +kernel
theorem dX11_settle_136 : decode cX11_settle 136 = .ok (.aload_n 0, 1) := by decide +kernel
theorem dX11_settle_137 : decode cX11_settle 137 = .ok (.dup, 1) := by decide +kernel
theorem dX11_settle_138 : decode cX11_settle 138 = .ok (.getfield 142, 3) := by decide +kernel
theorem dX11_settle_141 : decode cX11_settle 141 = .ok (.iconst 1, 1) := by decide +kernel
theorem dX11_settle_142 : decode cX11_settle 142 = .ok (.iadd, 1) := by decide +kernel
theorem dX11_settle_143 : decode cX11_settle 143 = .ok (.putfield 142, 3) := by decide +kernel
theorem dX11_settle_146 : decode cX11_settle 146 = .ok (.aload_n 0, 1) := by decide +kernel
theorem dX11_settle_147 : decode cX11_settle 147 = .ok (.getfield 142, 3) := by decide +kernel
theorem dX11_settle_150 : decode cX11_settle 150 = .ok (.iconst 1, 1) := by decide +kernel
theorem dX11_settle_151 : decode cX11_settle 151 = .ok (.isub, 1) := by decide +kernel
theorem dX11_settle_152 : decode cX11_settle 152 = .ok (.ireturn, 1) := by decide +kernel
theorem dX11_named_0 : decode cX11_named 0 = .ok (.aload_n 0, 1) := by decide +kernel
theorem dX11_named_1 : decode cX11_named 1 = .ok (.iload_n 1, 1) := by decide +kernel
theorem dX11_named_2 : decode cX11_named 2 = .ok (.invokevirtual 159, 3) := by decide +kernel
theorem dX11_named_5 : decode cX11_named 5 = .ok (.astore_n 3, 1) := by decide +kernel
theorem dX11_named_6 : decode cX11_named 6 = .ok (.aload_n 3, 1) := by decide +kernel
theorem dX11_named_7 : decode cX11_named 7 = .ok (.ifnull 10, 3) := by decide +kernel
theorem dX11_named_10 : decode cX11_named 10 = .ok (.iload_n 2, 1) := by decide +kernel
theorem dX11_named_11 : decode cX11_named 11 = .ok (.invokestatic 163, 3) := by decide +kernel
theorem dX11_named_14 : decode cX11_named 14 = .ok (.ifCond .ne 5, 3) := by decide +kernel
theorem dX11_named_17 : decode cX11_named 17 = .ok (.iconst (-1), 1) := by decide +kernel
theorem dX11_named_18 : decode cX11_named 18 = .ok (.ireturn, 1) := by decide +kernel
theorem dX11_named_19 : decode cX11_named 19 = .ok (.aload_n 0, 1) := by decide +kernel
theorem dX11_named_20 : decode cX11_named 20 = .ok (.getfield 40, 3) := by decide +kernel
theorem dX11_named_23 : decode cX11_named 23 = .ok (.aload_n 0, 1) := by decide +kernel
theorem dX11_named_24 : decode cX11_named 24 = .ok (.getfield 10, 3) := by decide +kernel
theorem dX11_named_27 : decode cX11_named 27 = .ok (.iload_n 2, 1) := by decide +kernel
theorem dX11_named_28 : decode cX11_named 28 = .ok (.invokevirtual 166, 3) := by decide +kernel
theorem dX11_named_31 : decode cX11_named 31 = .ok (.aload_n 0, 1) := by decide +kernel
theorem dX11_named_32 : decode cX11_named 32 = .ok (.getfield 40, 3) := by decide +kernel
theorem dX11_named_35 : decode cX11_named 35 = .ok (.aload_n 3, 1) := by decide +kernel
theorem dX11_named_36 : decode cX11_named 36 = .ok (.invokevirtual 170, 3) := by decide +kernel
theorem dX11_named_39 : decode cX11_named 39 = .ok (.invokestatic 174, 3) := by decide +kernel
theorem dX11_named_42 : decode cX11_named 42 = .ok (.ireturn, 1) := by decide +kernel
theorem dX11_falls_0 : decode cX11_falls 0 = .ok (.aload_n 0, 1) := by decide +kernel
theorem dX11_falls_1 : decode cX11_falls 1 = .ok (.iload_n 1, 1) := by decide +kernel
theorem dX11_falls_2 : decode cX11_falls 2 = .ok (.invokevirtual 159, 3) := by decide +kernel
theorem dX11_falls_5 : decode cX11_falls 5 = .ok (.astore 4, 2) := by decide +kernel
theorem dX11_falls_7 : decode cX11_falls 7 = .ok (.aload 4, 2) := by decide +kernel
theorem dX11_falls_9 : decode cX11_falls 9 = .ok (.ifnull 26, 3) := by decide +kernel
theorem dX11_falls_12 : decode cX11_falls 12 = .ok (.aload_n 0, 1) := by decide +kernel
theorem dX11_falls_13 : decode cX11_falls 13 = .ok (.getfield 10, 3) := by decide +kernel
theorem dX11_falls_16 : decode cX11_falls 16 = .ok (.iload_n 3, 1) := by decide +kernel
theorem dX11_falls_17 : decode cX11_falls 17 = .ok (.invokevirtual 100, 3) := by decide +kernel
theorem dX11_falls_20 : decode cX11_falls 20 = .ok (.ifCond .eq 15, 3) := by decide +kernel
theorem dX11_falls_23 : decode cX11_falls 23 = .ok (.iload_n 2, 1) := by decide +kernel
theorem dX11_falls_24 : decode cX11_falls 24 = .ok (.aload_n 0, 1) := by decide +kernel
theorem dX11_falls_25 : decode cX11_falls 25 = .ok (.getfield 10, 3) := by decide +kernel
theorem dX11_falls_28 : decode cX11_falls 28 = .ok (.getfield 97, 3) := by decide +kernel
theorem dX11_falls_31 : decode cX11_falls 31 = .ok (.iushr, 1) := by decide +kernel
theorem dX11_falls_32 : decode cX11_falls 32 = .ok (.ifCond .eq 5, 3) := by decide +kernel
theorem dX11_falls_35 : decode cX11_falls 35 = .ok (.iconst (-1), 1) := by decide +kernel
theorem dX11_falls_36 : decode cX11_falls 36 = .ok (.ireturn, 1) := by decide +kernel
theorem dX11_falls_37 : decode cX11_falls 37 = .ok (.aload_n 0, 1) := by decide +kernel
theorem dX11_falls_38 : decode cX11_falls 38 = .ok (.getfield 40, 3) := by decide +kernel
theorem dX11_falls_41 : decode cX11_falls 41 = .ok (.aload_n 0, 1) := by decide +kernel
theorem dX11_falls_42 : decode cX11_falls 42 = .ok (.getfield 10, 3) := by decide +kernel
theorem dX11_falls_45 : decode cX11_falls 45 = .ok (.aload_n 0, 1) := by decide +kernel
theorem dX11_falls_46 : decode cX11_falls 46 = .ok (.getfield 93, 3) := by decide +kernel
theorem dX11_falls_49 : decode cX11_falls 49 = .ok (.invokevirtual 166, 3) := by decide +kernel
theorem dX11_falls_52 : decode cX11_falls 52 = .ok (.aload_n 0, 1) := by decide +kernel
theorem dX11_falls_53 : decode cX11_falls 53 = .ok (.getfield 47, 3) := by decide +kernel
theorem dX11_falls_56 : decode cX11_falls 56 = .ok (.aload 4, 2) := by decide +kernel
theorem dX11_falls_58 : decode cX11_falls 58 = .ok (.aload_n 0, 1) := by decide +kernel
theorem dX11_falls_59 : decode cX11_falls 59 = .ok (.getfield 40, 3) := by decide +kernel
theorem dX11_falls_62 : decode cX11_falls 62 = .ok (.iload_n 2, 1) := by decide +kernel
theorem dX11_falls_63 : decode cX11_falls 63 = .ok (.aload_n 0, 1) := by decide +kernel
theorem dX11_falls_64 : decode cX11_falls 64 = .ok (.getfield 40, 3) := by decide +kernel
theorem dX11_falls_67 : decode cX11_falls 67 = .ok (.aload 4, 2) := by decide +kernel
theorem dX11_falls_69 : decode cX11_falls 69 = .ok (.invokevirtual 170, 3) := by decide +kernel
theorem dX11_falls_72 : decode cX11_falls 72 = .ok (.iand, 1) := by decide +kernel
theorem dX11_falls_73 : decode cX11_falls 73 = .ok (.invokevirtual 179, 3) := by decide +kernel
theorem dX11_falls_76 : decode cX11_falls 76 = .ok (.aload_n 0, 1) := by decide +kernel
theorem dX11_falls_77 : decode cX11_falls 77 = .ok (.getfield 47, 3) := by decide +kernel
theorem dX11_falls_80 : decode cX11_falls 80 = .ok (.iload_n 3, 1) := by decide +kernel
theorem dX11_falls_81 : decode cX11_falls 81 = .ok (.invokevirtual 183, 3) := by decide +kernel
theorem dX11_falls_84 : decode cX11_falls 84 = .ok (.ireturn, 1) := by decide +kernel
theorem dX11_chance_0 : decode cX11_chance 0 = .ok (.iload 5, 2) := by decide +kernel
theorem dX11_chance_2 : decode cX11_chance 2 = .ok (.ifCond .lt 21, 3) := by decide +kernel
theorem dX11_chance_5 : decode cX11_chance 5 = .ok (.iload 5, 2) := by decide +kernel
theorem dX11_chance_7 : decode cX11_chance 7 = .ok (.iconst 1, 1) := by decide +kernel
theorem dX11_chance_8 : decode cX11_chance 8 = .ok (.if_icmp .gt 15, 3) := by decide +kernel
theorem dX11_chance_11 : decode cX11_chance 11 = .ok (.aload_n 0, 1) := by decide +kernel
theorem dX11_chance_12 : decode cX11_chance 12 = .ok (.iload_n 1, 1) := by decide +kernel
theorem dX11_chance_13 : decode cX11_chance 13 = .ok (.iload_n 2, 1) := by decide +kernel
theorem dX11_chance_14 : decode cX11_chance 14 = .ok (.iload_n 3, 1) := by decide +kernel
theorem dX11_chance_15 : decode cX11_chance 15 = .ok (.iload 4, 2) := by decide +kernel
theorem dX11_chance_17 : decode cX11_chance 17 = .ok (.invokevirtual 186, 3) := by decide +kernel
theorem dX11_chance_20 : decode cX11_chance 20 = .ok (.ifCond .ne 7, 3) := by decide +kernel
theorem dX11_chance_23 : decode cX11_chance 23 = .ok (.ldc2_w 190, 3) := by decide +kernel
theorem dX11_chance_26 : decode cX11_chance 26 = .ok (.lreturn, 1) := by decide +kernel
theorem dX11_chance_27 : decode cX11_chance 27 = .ok (.iload 5, 2) := by decide +kernel
theorem dX11_chance_29 : decode cX11_chance 29 = .ok (.ifCond .ne 13, 3) := by decide +kernel
theorem dX11_chance_32 : decode cX11_chance 32 = .ok (.aload_n 0, 1) := by decide +kernel
theorem dX11_chance_33 : decode cX11_chance 33 = .ok (.getfield 56, 3) := by decide +kernel
theorem dX11_chance_36 : decode cX11_chance 36 = .ok (.invokevirtual 192, 3) := by decide +kernel
theorem dX11_chance_39 : decode cX11_chance 39 = .ok (.goto 10, 3) := by decide +kernel
theorem dX11_chance_42 : decode cX11_chance 42 = .ok (.aload_n 0, 1) := by decide +kernel
theorem dX11_chance_43 : decode cX11_chance 43 = .ok (.getfield 56, 3) := by decide +kernel
theorem dX11_chance_46 : decode cX11_chance 46 = .ok (.getfield 196, 3) := by decide +kernel
theorem dX11_chance_49 : decode cX11_chance 49 = .ok (.lreturn, 1) := by decide +kernel
theorem dX11_worth_0 : decode cX11_worth 0 = .ok (.aload_n 0, 1) := by decide +kernel
theorem dX11_worth_1 : decode cX11_worth 1 = .ok (.iload_n 1, 1) := by decide +kernel
theorem dX11_worth_2 : decode cX11_worth 2 = .ok (.iload_n 2, 1) := by decide +kernel
theorem dX11_worth_3 : decode cX11_worth 3 = .ok (.iload_n 3, 1) := by decide +kernel
theorem dX11_worth_4 : decode cX11_worth 4 = .ok (.iload 4, 2) := by decide +kernel
theorem dX11_worth_6 : decode cX11_worth 6 = .ok (.invokevirtual 186, 3) := by decide +kernel
theorem dX11_worth_9 : decode cX11_worth 9 = .ok (.ifCond .eq 13, 3) := by decide +kernel
theorem dX11_worth_12 : decode cX11_worth 12 = .ok (.aload_n 0, 1) := by decide +kernel
theorem dX11_worth_13 : decode cX11_worth 13 = .ok (.getfield 56, 3) := by decide +kernel
theorem dX11_worth_16 : decode cX11_worth 16 = .ok (.invokevirtual 200, 3) := by decide +kernel
theorem dX11_worth_19 : decode cX11_worth 19 = .ok (.goto 6, 3) := by decide +kernel
theorem dX11_worth_22 : decode cX11_worth 22 = .ok (.ldc2_w 190, 3) := by decide +kernel
theorem dX11_worth_25 : decode cX11_worth 25 = .ok (.lreturn, 1) := by decide +kernel
theorem dX11_sale_0 : decode cX11_sale 0 = .ok (.aload_n 0, 1) := by decide +kernel
theorem dX11_sale_1 : decode cX11_sale 1 = .ok (.iload_n 2, 1) := by decide +kernel
theorem dX11_sale_2 : decode cX11_sale 2 = .ok (.invokevirtual 159, 3) := by decide +kernel
theorem dX11_sale_5 : decode cX11_sale 5 = .ok (.astore 7, 2) := by decide +kernel
theorem dX11_sale_7 : decode cX11_sale 7 = .ok (.aload 7, 2) := by decide +kernel
theorem dX11_sale_9 : decode cX11_sale 9 = .ok (.ifnull 32, 3) := by decide +kernel
theorem dX11_sale_12 : decode cX11_sale 12 = .ok (.aload_n 0, 1) := by decide +kernel
theorem dX11_sale_13 : decode cX11_sale 13 = .ok (.getfield 10, 3) := by decide +kernel
theorem dX11_sale_16 : decode cX11_sale 16 = .ok (.iload_n 1, 1) := by decide +kernel
theorem dX11_sale_17 : decode cX11_sale 17 = .ok (.invokevirtual 100, 3) := by decide +kernel
theorem dX11_sale_20 : decode cX11_sale 20 = .ok (.ifCond .eq 21, 3) := by decide +kernel
theorem dX11_sale_23 : decode cX11_sale 23 = .ok (.aload_n 0, 1) := by decide +kernel
theorem dX11_sale_24 : decode cX11_sale 24 = .ok (.getfield 10, 3) := by decide +kernel
theorem dX11_sale_27 : decode cX11_sale 27 = .ok (.iload 4, 2) := by decide +kernel
theorem dX11_sale_29 : decode cX11_sale 29 = .ok (.invokevirtual 100, 3) := by decide +kernel
theorem dX11_sale_32 : decode cX11_sale 32 = .ok (.ifCond .eq 9, 3) := by decide +kernel
theorem dX11_sale_35 : decode cX11_sale 35 = .ok (.iload_n 1, 1) := by decide +kernel
theorem dX11_sale_36 : decode cX11_sale 36 = .ok (.iload 4, 2) := by decide +kernel
theorem dX11_sale_38 : decode cX11_sale 38 = .ok (.if_icmp .ne 5, 3) := by decide +kernel
theorem dX11_sale_41 : decode cX11_sale 41 = .ok (.iconst (-1), 1) := by decide +kernel
theorem dX11_sale_42 : decode cX11_sale 42 = .ok (.ireturn, 1) := by decide +kernel
theorem dX11_sale_43 : decode cX11_sale 43 = .ok (.iload_n 3, 1) := by decide +kernel
theorem dX11_sale_44 : decode cX11_sale 44 = .ok (.invokestatic 203, 3) := by decide +kernel
theorem dX11_sale_47 : decode cX11_sale 47 = .ok (.ifCond .eq 27, 3) := by decide +kernel
theorem dX11_sale_50 : decode cX11_sale 50 = .ok (.iload 5, 2) := by decide +kernel
theorem dX11_sale_52 : decode cX11_sale 52 = .ok (.ifCond .lt 22, 3) := by decide +kernel
theorem dX11_sale_55 : decode cX11_sale 55 = .ok (.iload 5, 2) := by decide +kernel
theorem dX11_sale_57 : decode cX11_sale 57 = .ok (.ldc 141, 2) := by decide +kernel
theorem dX11_sale_59 : decode cX11_sale 59 = .ok (.if_icmp .gt 15, 3) := by decide +kernel
theorem dX11_sale_62 : decode cX11_sale 62 = .ok (.aload_n 0, 1) := by decide +kernel
theorem dX11_sale_63 : decode cX11_sale 63 = .ok (.getfield 63, 3) := by decide +kernel
theorem dX11_sale_66 : decode cX11_sale 66 = .ok (.getfield 206, 3) := by decide +kernel
theorem dX11_sale_69 : decode cX11_sale 69 = .ok (.bipush 40, 2) := by decide +kernel
theorem dX11_sale_71 : decode cX11_sale 71 = .ok (.if_icmp .lt 5, 3) := by decide +kernel
theorem dX11_sale_74 : decode cX11_sale 74 = .ok (.iconst (-1), 1) := by decide +kernel
theorem dX11_sale_75 : decode cX11_sale 75 = .ok (.ireturn, 1) := by decide +kernel
theorem dX11_sale_76 : decode cX11_sale 76 = .ok (.aload_n 0, 1) := by decide +kernel
theorem dX11_sale_77 : decode cX11_sale 77 = .ok (.getfield 10, 3) := by decide +kernel
theorem dX11_sale_80 : decode cX11_sale 80 = .ok (.aload 7, 2) := by decide +kernel
theorem dX11_sale_82 : decode cX11_sale 82 = .ok (.getfield 207, 3) := by decide +kernel
theorem dX11_sale_85 : decode cX11_sale 85 = .ok (.aload_n 0, 1) := by decide +kernel
theorem dX11_sale_86 : decode cX11_sale 86 = .ok (.getfield 93, 3) := by decide +kernel
theorem dX11_sale_89 : decode cX11_sale 89 = .ok (.invokevirtual 210, 3) := by decide +kernel
theorem dX11_sale_92 : decode cX11_sale 92 = .ok (.ifCond .eq 5, 3) := by decide +kernel
theorem dX11_sale_95 : decode cX11_sale 95 = .ok (.iconst (-1), 1) := by decide +kernel
theorem dX11_sale_96 : decode cX11_sale 96 = .ok (.ireturn, 1) := by decide +kernel
theorem dX11_sale_97 : decode cX11_sale 97 = .ok (.aload_n 0, 1) := by decide +kernel
theorem dX11_sale_98 : decode cX11_sale 98 = .ok (.getfield 63, 3) := by decide +kernel
theorem dX11_sale_101 : decode cX11_sale 101 = .ok (.iload_n 1, 1) := by decide +kernel
theorem dX11_sale_102 : decode cX11_sale 102 = .ok (.iload_n 2, 1) := by decide +kernel
theorem dX11_sale_103 : decode cX11_sale 103 = .ok (.iload 4, 2) := by decide +kernel
theorem dX11_sale_105 : decode cX11_sale 105 = .ok (.aload_n 0, 1) := by decide +kernel
theorem dX11_sale_106 : decode cX11_sale 106 = .ok (.getfield 93, 3) := by decide +kernel
theorem dX11_sale_109 : decode cX11_sale 109 = .ok (.invokevirtual 214, 3) := by decide +kernel
theorem dX11_sale_112 : decode cX11_sale 112 = .ok (.istore 8, 2) := by decide +kernel
theorem dX11_sale_114 : decode cX11_sale 114 = .ok (.aload_n 0, 1) := by decide +kernel
theorem dX11_sale_115 : decode cX11_sale 115 = .ok (.getfield 63, 3) := by decide +kernel
theorem dX11_sale_118 : decode cX11_sale 118 = .ok (.iload 8, 2) := by decide +kernel
theorem dX11_sale_120 : decode cX11_sale 120 = .ok (.invokevirtual 217, 3) := by decide +kernel
theorem dX11_sale_123 : decode cX11_sale 123 = .ok (.ifCond .ne 5, 3) := by decide +kernel
theorem dX11_sale_126 : decode cX11_sale 126 = .ok (.iconst (-1), 1) := by decide +kernel
theorem dX11_sale_127 : decode cX11_sale 127 = .ok (.ireturn, 1) := by decide +kernel
theorem dX11_sale_128 : decode cX11_sale 128 = .ok (.aload_n 0, 1) := by decide +kernel
theorem dX11_sale_129 : decode cX11_sale 129 = .ok (.getfield 63, 3) := by decide +kernel
theorem dX11_sale_132 : decode cX11_sale 132 = .ok (.getfield 218, 3) := by decide +kernel
theorem dX11_sale_135 : decode cX11_sale 135 = .ok (.iload 8, 2) := by decide +kernel
theorem dX11_sale_137 : decode cX11_sale 137 = .ok (.iload_n 3, 1) := by decide +kernel
theorem dX11_sale_138 : decode cX11_sale 138 = .ok (.iastore, 1) := by decide +kernel
theorem dX11_sale_139 : decode cX11_sale 139 = .ok (.aload_n 0, 1) := by decide +kernel
theorem dX11_sale_140 : decode cX11_sale 140 = .ok (.getfield 63, 3) := by decide +kernel
theorem dX11_sale_143 : decode cX11_sale 143 = .ok (.getfield 221, 3) := by decide +kernel
theorem dX11_sale_146 : decode cX11_sale 146 = .ok (.iload 8, 2) := by decide +kernel
theorem dX11_sale_148 : decode cX11_sale 148 = .ok (.iload 5, 2) := by decide +kernel
theorem dX11_sale_150 : decode cX11_sale 150 = .ok (.iastore, 1) := by decide +kernel
theorem dX11_sale_151 : decode cX11_sale 151 = .ok (.aload_n 0, 1) := by decide +kernel
theorem dX11_sale_152 : decode cX11_sale 152 = .ok (.getfield 63, 3) := by decide +kernel
theorem dX11_sale_155 : decode cX11_sale 155 = .ok (.getfield 224, 3) := by decide +kernel
theorem dX11_sale_158 : decode cX11_sale 158 = .ok (.iload 8, 2) := by decide +kernel
theorem dX11_sale_160 : decode cX11_sale 160 = .ok (.iload 6, 2) := by decide +kernel
theorem dX11_sale_162 : decode cX11_sale 162 = .ok (.bastore, 1) := by decide +kernel
theorem dX11_sale_163 : decode cX11_sale 163 = .ok (.iload 8, 2) := by decide +kernel
theorem dX11_sale_165 : decode cX11_sale 165 = .ok (.ireturn, 1) := by decide +kernel
theorem dX11_notice_0 : decode cX11_notice 0 = .ok (.aload_n 0, 1) := by decide +kernel
theorem dX11_notice_1 : decode cX11_notice 1 = .ok (.getfield 63, 3) := by decide +kernel
theorem dX11_notice_4 : decode cX11_notice 4 = .ok (.iload_n 1, 1) := by decide +kernel
theorem dX11_notice_5 : decode cX11_notice 5 = .ok (.invokevirtual 217, 3) := by decide +kernel
theorem dX11_notice_8 : decode cX11_notice 8 = .ok (.ifCond .eq 26, 3) := by decide +kernel
theorem dX11_notice_11 : decode cX11_notice 11 = .ok (.aload_n 0, 1) := by decide +kernel
theorem dX11_notice_12 : decode cX11_notice 12 = .ok (.getfield 63, 3) := by decide +kernel
theorem dX11_notice_15 : decode cX11_notice 15 = .ok (.getfield 228, 3) := by decide +kernel
theorem dX11_notice_18 : decode cX11_notice 18 = .ok (.iload_n 1, 1) := by decide +kernel
theorem dX11_notice_19 : decode cX11_notice 19 = .ok (.iaload, 1) := by decide +kernel
theorem dX11_notice_20 : decode cX11_notice 20 = .ok (.iconst (-1), 1) := by decide +kernel
theorem dX11_notice_21 : decode cX11_notice 21 = .ok (.if_icmp .ne 13, 3) := by decide +kernel
theorem dX11_notice_24 : decode cX11_notice 24 = .ok (.iload_n 2, 1) := by decide +kernel
theorem dX11_notice_25 : decode cX11_notice 25 = .ok (.ifCond .lt 9, 3) := by decide +kernel
theorem dX11_notice_28 : decode cX11_notice 28 = .ok (.iload_n 2, 1) := by decide +kernel
theorem dX11_notice_29 : decode cX11_notice 29 = .ok (.ldc 231, 2) := by decide +kernel
theorem dX11_notice_31 : decode cX11_notice 31 = .ok (.if_icmp .lt 5, 3) := by decide +kernel
theorem dX11_notice_34 : decode cX11_notice 34 = .ok (.iconst 0, 1) := by decide +kernel
theorem dX11_notice_35 : decode cX11_notice 35 = .ok (.ireturn, 1) := by decide +kernel
theorem dX11_notice_36 : decode cX11_notice 36 = .ok (.aload_n 0, 1) := by decide +kernel
theorem dX11_notice_37 : decode cX11_notice 37 = .ok (.getfield 63, 3) := by decide +kernel
theorem dX11_notice_40 : decode cX11_notice 40 = .ok (.getfield 228, 3) := by decide +kernel
theorem dX11_notice_43 : decode cX11_notice 43 = .ok (.iload_n 1, 1) := by decide +kernel
theorem dX11_notice_44 : decode cX11_notice 44 = .ok (.aload_n 0, 1) := by decide +kernel
theorem dX11_notice_45 : decode cX11_notice 45 = .ok (.getfield 93, 3) := by decide +kernel
theorem dX11_notice_48 : decode cX11_notice 48 = .ok (.iastore, 1) := by decide +kernel
theorem dX11_notice_49 : decode cX11_notice 49 = .ok (.aload_n 0, 1) := by decide +kernel
theorem dX11_notice_50 : decode cX11_notice 50 = .ok (.getfield 63, 3) := by decide +kernel
theorem dX11_notice_53 : decode cX11_notice 53 = .ok (.getfield 232, 3) := by decide +kernel
theorem dX11_notice_56 : decode cX11_notice 56 = .ok (.iload_n 1, 1) := by decide +kernel
theorem dX11_notice_57 : decode cX11_notice 57 = .ok (.iload_n 2, 1) := by decide +kernel
theorem dX11_notice_58 : decode cX11_notice 58 = .ok (.iastore, 1) := by decide +kernel
theorem dX11_notice_59 : decode cX11_notice 59 = .ok (.iconst 1, 1) := by decide +kernel
theorem dX11_notice_60 : decode cX11_notice 60 = .ok (.ireturn, 1) := by decide +kernel
theorem dX11_charge_0 : decode cX11_charge 0 = .ok (.aload_n 0, 1) := by decide +kernel
theorem dX11_charge_1 : decode cX11_charge 1 = .ok (.getfield 10, 3) := by decide +kernel
theorem dX11_charge_4 : decode cX11_charge 4 = .ok (.iload_n 1, 1) := by decide +kernel
theorem dX11_charge_5 : decode cX11_charge 5 = .ok (.invokevirtual 100, 3) := by decide +kernel
theorem dX11_charge_8 : decode cX11_charge 8 = .ok (.ifCond .eq 27, 3) := by decide +kernel
theorem dX11_charge_11 : decode cX11_charge 11 = .ok (.aload_n 0, 1) := by decide +kernel
theorem dX11_charge_12 : decode cX11_charge 12 = .ok (.getfield 10, 3) := by decide +kernel
theorem dX11_charge_15 : decode cX11_charge 15 = .ok (.iload_n 3, 1) := by decide +kernel
theorem dX11_charge_16 : decode cX11_charge 16 = .ok (.invokevirtual 100, 3) := by decide +kernel
theorem dX11_charge_19 : decode cX11_charge 19 = .ok (.ifCond .eq 16, 3) := by decide +kernel
theorem dX11_charge_22 : decode cX11_charge 22 = .ok (.iload_n 1, 1) := by decide +kernel
theorem dX11_charge_23 : decode cX11_charge 23 = .ok (.iload_n 3, 1) := by decide +kernel
theorem dX11_charge_24 : decode cX11_charge 24 = .ok (.if_icmp .eq 11, 3) := by decide +kernel
theorem dX11_charge_27 : decode cX11_charge 27 = .ok (.aload_n 0, 1) := by decide +kernel
theorem dX11_charge_28 : decode cX11_charge 28 = .ok (.iload_n 2, 1) := by decide +kernel
theorem dX11_charge_29 : decode cX11_charge 29 = .ok (.invokevirtual 159, 3) := by decide +kernel
theorem dX11_charge_32 : decode cX11_charge 32 = .ok (.ifnonnull 5, 3) := by decide +kernel
theorem dX11_charge_35 : decode cX11_charge 35 = .ok (.iconst (-1), 1) := by decide +kernel
theorem dX11_charge_36 : decode cX11_charge 36 = .ok (.ireturn, 1) := by decide +kernel
theorem dX11_charge_37 : decode cX11_charge 37 = .ok (.iload 4, 2) := by decide +kernel
theorem dX11_charge_39 : decode cX11_charge 39 = .ok (.iconst 1, 1) := by decide +kernel
theorem dX11_charge_40 : decode cX11_charge 40 = .ok (.if_icmp .lt 22, 3) := by decide +kernel
theorem dX11_charge_43 : decode cX11_charge 43 = .ok (.iload 4, 2) := by decide +kernel
theorem dX11_charge_45 : decode cX11_charge 45 = .ok (.ldc 141, 2) := by decide +kernel
theorem dX11_charge_47 : decode cX11_charge 47 = .ok (.if_icmp .gt 15, 3) := by decide +kernel
theorem dX11_charge_50 : decode cX11_charge 50 = .ok (.aload_n 0, 1) := by decide +kernel
theorem dX11_charge_51 : decode cX11_charge 51 = .ok (.getfield 70, 3) := by decide +kernel
theorem dX11_charge_54 : decode cX11_charge 54 = .ok (.getfield 235, 3) := by decide +kernel
theorem dX11_charge_57 : decode cX11_charge 57 = .ok (.bipush 20, 2) := by decide +kernel
theorem dX11_charge_59 : decode cX11_charge 59 = .ok (.if_icmp .lt 5, 3) := by decide +kernel
theorem dX11_charge_62 : decode cX11_charge 62 = .ok (.iconst (-1), 1) := by decide +kernel
theorem dX11_charge_63 : decode cX11_charge 63 = .ok (.ireturn, 1) := by decide +kernel
theorem dX11_charge_64 : decode cX11_charge 64 = .ok (.aload_n 0, 1) := by decide +kernel
theorem dX11_charge_65 : decode cX11_charge 65 = .ok (.getfield 70, 3) := by decide +kernel
theorem dX11_charge_68 : decode cX11_charge 68 = .ok (.iload_n 1, 1) := by decide +kernel
theorem dX11_charge_69 : decode cX11_charge 69 = .ok (.iload_n 2, 1) := by decide +kernel
theorem dX11_charge_70 : decode cX11_charge 70 = .ok (.iload_n 3, 1) := by decide +kernel
theorem dX11_charge_71 : decode cX11_charge 71 = .ok (.iload 4, 2) := by decide +kernel
theorem dX11_charge_73 : decode cX11_charge 73 = .ok (.aload_n 0, 1) := by decide +kernel
theorem dX11_charge_74 : decode cX11_charge 74 = .ok (.getfield 93, 3) := by decide +kernel
theorem dX11_charge_77 : decode cX11_charge 77 = .ok (.invokevirtual 236, 3) := by decide +kernel
theorem dX11_charge_80 : decode cX11_charge 80 = .ok (.ireturn, 1) := by decide +kernel
theorem dX11_act_0 : decode cX11_act 0 = .ok (.iload_n 1, 1) := by decide +kernel
theorem dX11_act_1 : decode cX11_act 1 = .ok (.iconst 1, 1) := by decide +kernel
theorem dX11_act_2 : decode cX11_act 2 = .ok (.if_icmp .lt 20, 3) := by decide +kernel
theorem dX11_act_5 : decode cX11_act 5 = .ok (.iload_n 1, 1) := by decide +kernel
theorem dX11_act_6 : decode cX11_act 6 = .ok (.bipush 60, 2) := by decide +kernel
theorem dX11_act_8 : decode cX11_act 8 = .ok (.if_icmp .gt 14, 3) := by decide +kernel
theorem dX11_act_11 : decode cX11_act 11 = .ok (.iload_n 1, 1) := by decide +kernel
theorem dX11_act_12 : decode cX11_act 12 = .ok (.aload_n 0, 1) := by decide +kernel
theorem dX11_act_13 : decode cX11_act 13 = .ok (.getfield 26, 3) := by decide +kernel
theorem dX11_act_16 : decode cX11_act 16 = .ok (.getfield 136, 3) := by decide +kernel
theorem dX11_act_19 : decode cX11_act 19 = .ok (.if_icmp .le 5, 3) := by decide +kernel
theorem dX11_act_22 : decode cX11_act 22 = .ok (.iconst (-1), 1) := by decide +kernel
theorem dX11_act_23 : decode cX11_act 23 = .ok (.ireturn, 1) := by decide +kernel
theorem dX11_act_24 : decode cX11_act 24 = .ok (.aload_n 0, 1) := by decide +kernel
theorem dX11_act_25 : decode cX11_act 25 = .ok (.getfield 26, 3) := by decide +kernel
theorem dX11_act_28 : decode cX11_act 28 = .ok (.iload_n 1, 1) := by decide +kernel
theorem dX11_act_29 : decode cX11_act 29 = .ok (.invokevirtual 149, 3) := by decide +kernel
theorem dX11_act_32 : decode cX11_act 32 = .ok (.aload_n 0, 1) := by decide +kernel
theorem dX11_act_33 : decode cX11_act 33 = .ok (.getfield 90, 3) := by decide +kernel
theorem dX11_act_36 : decode cX11_act 36 = .ok (.aload_n 0, 1) := by decide +kernel
theorem dX11_act_37 : decode cX11_act 37 = .ok (.getfield 26, 3) := by decide +kernel
theorem dX11_act_40 : decode cX11_act 40 = .ok (.invokevirtual 239, 3) := by decide +kernel
theorem dX11_act_43 : decode cX11_act 43 = .ok (.istore_n 2, 1) := by decide +kernel
theorem dX11_act_44 : decode cX11_act 44 = .ok (.aload_n 0, 1) := by decide +kernel
theorem dX11_act_45 : decode cX11_act 45 = .ok (.getfield 26, 3) := by decide +kernel
theorem dX11_act_48 : decode cX11_act 48 = .ok (.iconst 0, 1) := by decide +kernel
theorem dX11_act_49 : decode cX11_act 49 = .ok (.putfield 136, 3) := by decide +kernel
theorem dX11_act_52 : decode cX11_act 52 = .ok (.iload_n 2, 1) := by decide +kernel
theorem dX11_act_53 : decode cX11_act 53 = .ok (.ifCond .ne 11, 3) := by decide +kernel
theorem dX11_act_56 : decode cX11_act 56 = .ok (.aload_n 0, 1) := by decide +kernel
theorem dX11_act_57 : decode cX11_act 57 = .ok (.getfield 26, 3) := by decide +kernel
theorem dX11_act_60 : decode cX11_act 60 = .ok (.getfield 156, 3) := by decide +kernel
theorem dX11_act_63 : decode cX11_act 63 = .ok (.ireturn, 1) := by decide +kernel
theorem dX11_act_64 : decode cX11_act 64 = .ok (.aload_n 0, 1) := by decide +kernel
theorem dX11_act_65 : decode cX11_act 65 = .ok (.getfield 86, 3) := by decide +kernel
theorem dX11_act_68 : decode cX11_act 68 = .ok (.astore_n 3, 1) := by decide +kernel
theorem dX11_act_69 : decode cX11_act 69 = .ok (.aload_n 0, 1) := by decide +kernel
theorem dX11_act_70 : decode cX11_act 70 = .ok (.aload_n 0, 1) := by decide +kernel
theorem dX11_act_71 : decode cX11_act 71 = .ok (.getfield 90, 3) := by decide +kernel
theorem dX11_act_74 : decode cX11_act 74 = .ok (.putfield 86, 3) := by decide +kernel
theorem dX11_act_77 : decode cX11_act 77 = .ok (.aload_n 0, 1) := by decide +kernel
theorem dX11_act_78 : decode cX11_act 78 = .ok (.aload_n 3, 1) := by decide +kernel
theorem dX11_act_79 : decode cX11_act 79 = .ok (.putfield 90, 3) := by decide +kernel
theorem dX11_act_82 : decode cX11_act 82 = .ok (.aload_n 0, 1) := by decide +kernel
theorem dX11_act_83 : decode cX11_act 83 = .ok (.iconst 1, 1) := by decide +kernel
theorem dX11_act_84 : decode cX11_act 84 = .ok (.putfield 240, 3) := by decide +kernel
theorem dX11_act_87 : decode cX11_act 87 = .ok (.iconst 0, 1) := by decide +kernel
theorem dX11_act_88 : decode cX11_act 88 = .ok (.ireturn, 1) := by decide +kernel
theorem dX11_hard_0 : decode cX11_hard 0 = .ok (.aload_n 0, 1) := by decide +kernel
theorem dX11_hard_1 : decode cX11_hard 1 = .ok (.getfield 63, 3) := by decide +kernel
theorem dX11_hard_4 : decode cX11_hard 4 = .ok (.iload_n 1, 1) := by decide +kernel
theorem dX11_hard_5 : decode cX11_hard 5 = .ok (.invokevirtual 217, 3) := by decide +kernel
theorem dX11_hard_8 : decode cX11_hard 8 = .ok (.ifCond .ne 5, 3) := by decide +kernel
theorem dX11_hard_11 : decode cX11_hard 11 = .ok (.iconst (-1), 1) := by decide +kernel
theorem dX11_hard_12 : decode cX11_hard 12 = .ok (.ireturn, 1) := by decide +kernel
theorem dX11_hard_13 : decode cX11_hard 13 = .ok (.aload_n 0, 1) := by decide +kernel
theorem dX11_hard_14 : decode cX11_hard 14 = .ok (.iload_n 1, 1) := by decide +kernel
theorem dX11_hard_15 : decode cX11_hard 15 = .ok (.invokevirtual 244, 3) := by decide +kernel
theorem dX11_hard_18 : decode cX11_hard 18 = .ok (.ifCond .eq 7, 3) := by decide +kernel
theorem dX11_hard_21 : decode cX11_hard 21 = .ok (.iconst 1, 1) := by decide +kernel
theorem dX11_hard_22 : decode cX11_hard 22 = .ok (.goto 4, 3) := by decide +kernel
theorem dX11_hard_25 : decode cX11_hard 25 = .ok (.iconst 0, 1) := by decide +kernel
theorem dX11_hard_26 : decode cX11_hard 26 = .ok (.ireturn, 1) := by decide +kernel
theorem dX11_undo_0 : decode cX11_undo 0 = .ok (.aload_n 0, 1) := by decide +kernel
theorem dX11_undo_1 : decode cX11_undo 1 = .ok (.getfield 63, 3) := by decide +kernel
theorem dX11_undo_4 : decode cX11_undo 4 = .ok (.iload_n 1, 1) := by decide +kernel
theorem dX11_undo_5 : decode cX11_undo 5 = .ok (.invokevirtual 217, 3) := by decide +kernel
theorem dX11_undo_8 : decode cX11_undo 8 = .ok (.ifCond .eq 16, 3) := by decide +kernel
theorem dX11_undo_11 : decode cX11_undo 11 = .ok (.aload_n 0, 1) := by decide +kernel
theorem dX11_undo_12 : decode cX11_undo 12 = .ok (.getfield 63, 3) := by decide +kernel
theorem dX11_undo_15 : decode cX11_undo 15 = .ok (.getfield 247, 3) := by decide +kernel
theorem dX11_undo_18 : decode cX11_undo 18 = .ok (.iload_n 1, 1) := by decide +kernel
theorem dX11_undo_19 : decode cX11_undo 19 = .ok (.iaload, 1) := by decide +kernel
theorem dX11_undo_20 : decode cX11_undo 20 = .ok (.iconst (-1), 1) := by decide +kernel
theorem dX11_undo_21 : decode cX11_undo 21 = .ok (.if_icmp .eq 7, 3) := by decide +kernel
theorem dX11_undo_24 : decode cX11_undo 24 = .ok (.ldc2_w 190, 3) := by decide +kernel
theorem dX11_undo_27 : decode cX11_undo 27 = .ok (.lreturn, 1) := by decide +kernel
theorem dX11_undo_28 : decode cX11_undo 28 = .ok (.aload_n 0, 1) := by decide +kernel
theorem dX11_undo_29 : decode cX11_undo 29 = .ok (.aload_n 0, 1) := by decide +kernel
theorem dX11_undo_30 : decode cX11_undo 30 = .ok (.getfield 63, 3) := by decide +kernel
theorem dX11_undo_33 : decode cX11_undo 33 = .ok (.getfield 250, 3) := by decide +kernel
theorem dX11_undo_36 : decode cX11_undo 36 = .ok (.iload_n 1, 1) := by decide +kernel
theorem dX11_undo_37 : decode cX11_undo 37 = .ok (.iaload, 1) := by decide +kernel
theorem dX11_undo_38 : decode cX11_undo 38 = .ok (.invokevirtual 159, 3) := by decide +kernel
theorem dX11_undo_41 : decode cX11_undo 41 = .ok (.astore_n 2, 1) := by decide +kernel
theorem dX11_undo_42 : decode cX11_undo 42 = .ok (.aload_n 2, 1) := by decide +kernel
theorem dX11_undo_43 : decode cX11_undo 43 = .ok (.ifnull 29, 3) := by decide +kernel
theorem dX11_undo_46 : decode cX11_undo 46 = .ok (.aload_n 0, 1) := by decide +kernel
theorem dX11_undo_47 : decode cX11_undo 47 = .ok (.getfield 10, 3) := by decide +kernel
theorem dX11_undo_50 : decode cX11_undo 50 = .ok (.aload_n 2, 1) := by decide +kernel
theorem dX11_undo_51 : decode cX11_undo 51 = .ok (.getfield 207, 3) := by decide +kernel
theorem dX11_undo_54 : decode cX11_undo 54 = .ok (.aload_n 0, 1) := by decide +kernel
theorem dX11_undo_55 : decode cX11_undo 55 = .ok (.getfield 93, 3) := by decide +kernel
theorem dX11_undo_58 : decode cX11_undo 58 = .ok (.invokevirtual 210, 3) := by decide +kernel
theorem dX11_undo_61 : decode cX11_undo 61 = .ok (.ifCond .ne 11, 3) := by decide +kernel
theorem dX11_undo_64 : decode cX11_undo 64 = .ok (.aload_n 0, 1) := by decide +kernel
theorem dX11_undo_65 : decode cX11_undo 65 = .ok (.iload_n 1, 1) := by decide +kernel
theorem dX11_undo_66 : decode cX11_undo 66 = .ok (.invokevirtual 244, 3) := by decide +kernel
theorem dX11_undo_69 : decode cX11_undo 69 = .ok (.ifCond .ne 7, 3) := by decide +kernel
theorem dX11_undo_72 : decode cX11_undo 72 = .ok (.ldc2_w 190, 3) := by decide +kernel
theorem dX11_undo_75 : decode cX11_undo 75 = .ok (.lreturn, 1) := by decide +kernel
theorem dX11_undo_76 : decode cX11_undo 76 = .ok (.aload_n 0, 1) := by decide +kernel
theorem dX11_undo_77 : decode cX11_undo 77 = .ok (.getfield 63, 3) := by decide +kernel
theorem dX11_undo_80 : decode cX11_undo 80 = .ok (.getfield 247, 3) := by decide +kernel
theorem dX11_undo_83 : decode cX11_undo 83 = .ok (.iload_n 1, 1) := by decide +kernel
theorem dX11_undo_84 : decode cX11_undo 84 = .ok (.aload_n 0, 1) := by decide +kernel
theorem dX11_undo_85 : decode cX11_undo 85 = .ok (.getfield 93, 3) := by decide +kernel
theorem dX11_undo_88 : decode cX11_undo 88 = .ok (.iastore, 1) := by decide +kernel
theorem dX11_undo_89 : decode cX11_undo 89 = .ok (.aload_n 0, 1) := by decide +kernel
theorem dX11_undo_90 : decode cX11_undo 90 = .ok (.getfield 19, 3) := by decide +kernel
theorem dX11_undo_93 : decode cX11_undo 93 = .ok (.aload_n 0, 1) := by decide +kernel
theorem dX11_undo_94 : decode cX11_undo 94 = .ok (.getfield 63, 3) := by decide +kernel
theorem dX11_undo_97 : decode cX11_undo 97 = .ok (.getfield 221, 3) := by decide +kernel
theorem dX11_undo_100 : decode cX11_undo 100 = .ok (.iload_n 1, 1) := by decide +kernel
theorem dX11_undo_101 : decode cX11_undo 101 = .ok (.iaload, 1) := by decide +kernel
theorem dX11_undo_102 : decode cX11_undo 102 = .ok (.i2l, 1) := by decide +kernel
theorem dX11_undo_103 : decode cX11_undo 103 = .ok (.aload_n 0, 1) := by decide +kernel
theorem dX11_undo_104 : decode cX11_undo 104 = .ok (.getfield 93, 3) := by decide +kernel
theorem dX11_undo_107 : decode cX11_undo 107 = .ok (.aload_n 0, 1) := by decide +kernel
theorem dX11_undo_108 : decode cX11_undo 108 = .ok (.getfield 63, 3) := by decide +kernel
theorem dX11_undo_111 : decode cX11_undo 111 = .ok (.getfield 253, 3) := by decide +kernel
theorem dX11_undo_114 : decode cX11_undo 114 = .ok (.iload_n 1, 1) := by decide +kernel
theorem dX11_undo_115 : decode cX11_undo 115 = .ok (.iaload, 1) := by decide +kernel
theorem dX11_undo_116 : decode cX11_undo 116 = .ok (.isub, 1) := by decide +kernel
theorem dX11_undo_117 : decode cX11_undo 117 = .ok (.invokevirtual 256, 3) := by decide +kernel
theorem dX11_undo_120 : decode cX11_undo 120 = .ok (.lreturn, 1) := by decide +kernel
theorem dX11_least_0 : decode cX11_least 0 = .ok (.aload_n 0, 1) := by decide +kernel
theorem dX11_least_1 : decode cX11_least 1 = .ok (.iload_n 2, 1) := by decide +kernel
theorem dX11_least_2 : decode cX11_least 2 = .ok (.invokevirtual 159, 3) := by decide +kernel
theorem dX11_least_5 : decode cX11_least 5 = .ok (.astore 5, 2) := by decide +kernel
theorem dX11_least_7 : decode cX11_least 7 = .ok (.aload 5, 2) := by decide +kernel
theorem dX11_least_9 : decode cX11_least 9 = .ok (.ifnull 21, 3) := by decide +kernel
theorem dX11_least_12 : decode cX11_least 12 = .ok (.aload_n 0, 1) := by decide +kernel
theorem dX11_least_13 : decode cX11_least 13 = .ok (.getfield 10, 3) := by decide +kernel
theorem dX11_least_16 : decode cX11_least 16 = .ok (.iload_n 1, 1) := by decide +kernel
theorem dX11_least_17 : decode cX11_least 17 = .ok (.invokevirtual 100, 3) := by decide +kernel
theorem dX11_least_20 : decode cX11_least 20 = .ok (.ifCond .eq 10, 3) := by decide +kernel
theorem dX11_least_23 : decode cX11_least 23 = .ok (.iload_n 3, 1) := by decide +kernel
theorem dX11_least_24 : decode cX11_least 24 = .ok (.invokestatic 203, 3) := by decide +kernel
theorem dX11_least_27 : decode cX11_least 27 = .ok (.ifCond .ne 5, 3) := by decide +kernel
theorem dX11_least_30 : decode cX11_least 30 = .ok (.iconst (-1), 1) := by decide +kernel
theorem dX11_least_31 : decode cX11_least 31 = .ok (.ireturn, 1) := by decide +kernel
theorem dX11_least_32 : decode cX11_least 32 = .ok (.aload_n 0, 1) := by decide +kernel
theorem dX11_least_33 : decode cX11_least 33 = .ok (.aload 5, 2) := by decide +kernel
theorem dX11_least_35 : decode cX11_least 35 = .ok (.iload_n 1, 1) := by decide +kernel
theorem dX11_least_36 : decode cX11_least 36 = .ok (.iload_n 3, 1) := by decide +kernel
theorem dX11_least_37 : decode cX11_least 37 = .ok (.iload 4, 2) := by decide +kernel
theorem dX11_least_39 : decode cX11_least 39 = .ok (.aload_n 0, 1) := by decide +kernel
theorem dX11_least_40 : decode cX11_least 40 = .ok (.getfield 93, 3) := by decide +kernel
theorem dX11_least_43 : decode cX11_least 43 = .ok (.invokevirtual 260, 3) := by decide +kernel
theorem dX11_least_46 : decode cX11_least 46 = .ok (.ifCond .ne 5, 3) := by decide +kernel
theorem dX11_least_49 : decode cX11_least 49 = .ok (.iconst 0, 1) := by decide +kernel
theorem dX11_least_50 : decode cX11_least 50 = .ok (.ireturn, 1) := by decide +kernel
theorem dX11_least_51 : decode cX11_least 51 = .ok (.iconst 0, 1) := by decide +kernel
theorem dX11_least_52 : decode cX11_least 52 = .ok (.istore 6, 2) := by decide +kernel
theorem dX11_least_54 : decode cX11_least 54 = .ok (.iload 6, 2) := by decide +kernel
theorem dX11_least_56 : decode cX11_least 56 = .ok (.ldc 141, 2) := by decide +kernel
theorem dX11_least_58 : decode cX11_least 58 = .ok (.if_icmp .gt 25, 3) := by decide +kernel
theorem dX11_least_61 : decode cX11_least 61 = .ok (.aload_n 0, 1) := by decide +kernel
theorem dX11_least_62 : decode cX11_least 62 = .ok (.getfield 86, 3) := by decide +kernel
theorem dX11_least_65 : decode cX11_least 65 = .ok (.iload 6, 2) := by decide +kernel
theorem dX11_least_67 : decode cX11_least 67 = .ok (.i2l, 1) := by decide +kernel
theorem dX11_least_68 : decode cX11_least 68 = .ok (.invokevirtual 264, 3) := by decide +kernel
theorem dX11_least_71 : decode cX11_least 71 = .ok (.ifCond .ne 6, 3) := by decide +kernel
theorem dX11_least_74 : decode cX11_least 74 = .ok (.iload 6, 2) := by decide +kernel
theorem dX11_least_76 : decode cX11_least 76 = .ok (.ireturn, 1) := by decide +kernel
theorem dX11_least_77 : decode cX11_least 77 = .ok (.iinc 6 1, 3) := by decide +kernel
theorem dX11_least_80 : decode cX11_least 80 = .ok (.goto (-26), 3) := by decide +kernel
theorem dX11_least_83 : decode cX11_least 83 = .ok (.iconst (-1), 1) := by decide +kernel
theorem dX11_least_84 : decode cX11_least 84 = .ok (.ireturn, 1) := by decide +kernel
theorem dX11_cover_0 : decode cX11_cover 0 = .ok (.aload_n 0, 1) := by decide +kernel
theorem dX11_cover_1 : decode cX11_cover 1 = .ok (.iload_n 1, 1) := by decide +kernel
theorem dX11_cover_2 : decode cX11_cover 2 = .ok (.invokevirtual 159, 3) := by decide +kernel
theorem dX11_cover_5 : decode cX11_cover 5 = .ok (.astore 4, 2) := by decide +kernel
theorem dX11_cover_7 : decode cX11_cover 7 = .ok (.aload 4, 2) := by decide +kernel
theorem dX11_cover_9 : decode cX11_cover 9 = .ok (.ifnull 25, 3) := by decide +kernel
theorem dX11_cover_12 : decode cX11_cover 12 = .ok (.aload_n 0, 1) := by decide +kernel
theorem dX11_cover_13 : decode cX11_cover 13 = .ok (.getfield 10, 3) := by decide +kernel
theorem dX11_cover_16 : decode cX11_cover 16 = .ok (.iload_n 2, 1) := by decide +kernel
theorem dX11_cover_17 : decode cX11_cover 17 = .ok (.invokevirtual 100, 3) := by decide +kernel
theorem dX11_cover_20 : decode cX11_cover 20 = .ok (.ifCond .eq 14, 3) := by decide +kernel
theorem dX11_cover_23 : decode cX11_cover 23 = .ok (.iload_n 3, 1) := by decide +kernel
theorem dX11_cover_24 : decode cX11_cover 24 = .ok (.iconst 1, 1) := by decide +kernel
theorem dX11_cover_25 : decode cX11_cover 25 = .ok (.if_icmp .lt 9, 3) := by decide +kernel
theorem dX11_cover_28 : decode cX11_cover 28 = .ok (.iload_n 3, 1) := by decide +kernel
theorem dX11_cover_29 : decode cX11_cover 29 = .ok (.ldc 141, 2) := by decide +kernel
theorem dX11_cover_31 : decode cX11_cover 31 = .ok (.if_icmp .le 7, 3) := by decide +kernel
theorem dX11_cover_34 : decode cX11_cover 34 = .ok (.ldc2_w 190, 3) := by decide +kernel
theorem dX11_cover_37 : decode cX11_cover 37 = .ok (.lreturn, 1) := by decide +kernel
theorem dX11_cover_38 : decode cX11_cover 38 = .ok (.aload 4, 2) := by decide +kernel
theorem dX11_cover_40 : decode cX11_cover 40 = .ok (.getfield 207, 3) := by decide +kernel
theorem dX11_cover_43 : decode cX11_cover 43 = .ok (.istore 5, 2) := by decide +kernel
theorem dX11_cover_45 : decode cX11_cover 45 = .ok (.iload_n 2, 1) := by decide +kernel
theorem dX11_cover_46 : decode cX11_cover 46 = .ok (.iload 5, 2) := by decide +kernel
theorem dX11_cover_48 : decode cX11_cover 48 = .ok (.if_icmp .eq 15, 3) := by decide +kernel
theorem dX11_cover_51 : decode cX11_cover 51 = .ok (.aload_n 0, 1) := by decide +kernel
theorem dX11_cover_52 : decode cX11_cover 52 = .ok (.getfield 10, 3) := by decide +kernel
theorem dX11_cover_55 : decode cX11_cover 55 = .ok (.iload 5, 2) := by decide +kernel
theorem dX11_cover_57 : decode cX11_cover 57 = .ok (.invokevirtual 100, 3) := by decide +kernel
theorem dX11_cover_60 : decode cX11_cover 60 = .ok (.ifCond .ne 7, 3) := by decide +kernel
theorem dX11_cover_63 : decode cX11_cover 63 = .ok (.ldc2_w 190, 3) := by decide +kernel
theorem dX11_cover_66 : decode cX11_cover 66 = .ok (.lreturn, 1) := by decide +kernel
theorem dX11_cover_67 : decode cX11_cover 67 = .ok (.aload_n 0, 1) := by decide +kernel
theorem dX11_cover_68 : decode cX11_cover 68 = .ok (.getfield 10, 3) := by decide +kernel
theorem dX11_cover_71 : decode cX11_cover 71 = .ok (.iload_n 2, 1) := by decide +kernel
theorem dX11_cover_72 : decode cX11_cover 72 = .ok (.aload_n 0, 1) := by decide +kernel
theorem dX11_cover_73 : decode cX11_cover 73 = .ok (.getfield 93, 3) := by decide +kernel
theorem dX11_cover_76 : decode cX11_cover 76 = .ok (.invokevirtual 210, 3) := by decide +kernel
theorem dX11_cover_79 : decode cX11_cover 79 = .ok (.ifCond .ne 19, 3) := by decide +kernel
theorem dX11_cover_82 : decode cX11_cover 82 = .ok (.aload_n 0, 1) := by decide +kernel
theorem dX11_cover_83 : decode cX11_cover 83 = .ok (.getfield 10, 3) := by decide +kernel
theorem dX11_cover_86 : decode cX11_cover 86 = .ok (.iload 5, 2) := by decide +kernel
theorem dX11_cover_88 : decode cX11_cover 88 = .ok (.aload_n 0, 1) := by decide +kernel
theorem dX11_cover_89 : decode cX11_cover 89 = .ok (.getfield 93, 3) := by decide +kernel
theorem dX11_cover_92 : decode cX11_cover 92 = .ok (.invokevirtual 210, 3) := by decide +kernel
theorem dX11_cover_95 : decode cX11_cover 95 = .ok (.ifCond .eq 7, 3) := by decide +kernel
theorem dX11_cover_98 : decode cX11_cover 98 = .ok (.ldc2_w 190, 3) := by decide +kernel
theorem dX11_cover_101 : decode cX11_cover 101 = .ok (.lreturn, 1) := by decide +kernel
theorem dX11_cover_102 : decode cX11_cover 102 = .ok (.aload_n 0, 1) := by decide +kernel
theorem dX11_cover_103 : decode cX11_cover 103 = .ok (.getfield 93, 3) := by decide +kernel
theorem dX11_cover_106 : decode cX11_cover 106 = .ok (.aload_n 0, 1) := by decide +kernel
theorem dX11_cover_107 : decode cX11_cover 107 = .ok (.getfield 10, 3) := by decide +kernel
theorem dX11_cover_110 : decode cX11_cover 110 = .ok (.getfield 104, 3) := by decide +kernel
theorem dX11_cover_113 : decode cX11_cover 113 = .ok (.iload_n 2, 1) := by decide +kernel
theorem dX11_cover_114 : decode cX11_cover 114 = .ok (.iaload, 1) := by decide +kernel
theorem dX11_cover_115 : decode cX11_cover 115 = .ok (.isub, 1) := by decide +kernel
theorem dX11_cover_116 : decode cX11_cover 116 = .ok (.istore 6, 2) := by decide +kernel
theorem dX11_cover_118 : decode cX11_cover 118 = .ok (.aload_n 0, 1) := by decide +kernel
theorem dX11_cover_119 : decode cX11_cover 119 = .ok (.getfield 93, 3) := by decide +kernel
theorem dX11_cover_122 : decode cX11_cover 122 = .ok (.aload_n 0, 1) := by decide +kernel
theorem dX11_cover_123 : decode cX11_cover 123 = .ok (.getfield 10, 3) := by decide +kernel
theorem dX11_cover_126 : decode cX11_cover 126 = .ok (.getfield 104, 3) := by decide +kernel
theorem dX11_cover_129 : decode cX11_cover 129 = .ok (.iload 5, 2) := by decide +kernel
theorem dX11_cover_131 : decode cX11_cover 131 = .ok (.iaload, 1) := by decide +kernel
theorem dX11_cover_132 : decode cX11_cover 132 = .ok (.isub, 1) := by decide +kernel
theorem dX11_cover_133 : decode cX11_cover 133 = .ok (.istore 7, 2) := by decide +kernel
theorem dX11_cover_135 : decode cX11_cover 135 = .ok (.aload_n 0, 1) := by decide +kernel
theorem dX11_cover_136 : decode cX11_cover 136 = .ok (.getfield 19, 3) := by decide +kernel
theorem dX11_cover_139 : decode cX11_cover 139 = .ok (.aload 4, 2) := by decide +kernel
theorem dX11_cover_141 : decode cX11_cover 141 = .ok (.getfield 268, 3) := by decide +kernel
theorem dX11_cover_144 : decode cX11_cover 144 = .ok (.iload 6, 2) := by decide +kernel
theorem dX11_cover_146 : decode cX11_cover 146 = .ok (.iload 7, 2) := by decide +kernel
theorem dX11_cover_148 : decode cX11_cover 148 = .ok (.iload_n 3, 1) := by decide +kernel
theorem dX11_cover_149 : decode cX11_cover 149 = .ok (.i2l, 1) := by decide +kernel
theorem dX11_cover_150 : decode cX11_cover 150 = .ok (.invokevirtual 271, 3) := by decide +kernel
theorem dX11_cover_153 : decode cX11_cover 153 = .ok (.lreturn, 1) := by decide +kernel
theorem dX11_gain_0 : decode cX11_gain 0 = .ok (.aload_n 0, 1) := by decide +kernel
theorem dX11_gain_1 : decode cX11_gain 1 = .ok (.iload_n 1, 1) := by decide +kernel
theorem dX11_gain_2 : decode cX11_gain 2 = .ok (.iload_n 2, 1) := by decide +kernel
theorem dX11_gain_3 : decode cX11_gain 3 = .ok (.iload_n 3, 1) := by decide +kernel
theorem dX11_gain_4 : decode cX11_gain 4 = .ok (.invokevirtual 275, 3) := by decide +kernel
theorem dX11_gain_7 : decode cX11_gain 7 = .ok (.ireturn, 1) := by decide +kernel
theorem dX11_paid_0 : decode cX11_paid 0 = .ok (.aload_n 0, 1) := by decide +kernel
theorem dX11_paid_1 : decode cX11_paid 1 = .ok (.getfield 10, 3) := by decide +kernel
theorem dX11_paid_4 : decode cX11_paid 4 = .ok (.iload_n 3, 1) := by decide +kernel
theorem dX11_paid_5 : decode cX11_paid 5 = .ok (.invokevirtual 100, 3) := by decide +kernel
theorem dX11_paid_8 : decode cX11_paid 8 = .ok (.ifCond .ne 5, 3) := by decide +kernel
theorem dX11_paid_11 : decode cX11_paid 11 = .ok (.iconst (-1), 1) := by decide +kernel
theorem dX11_paid_12 : decode cX11_paid 12 = .ok (.ireturn, 1) := by decide +kernel
theorem dX11_paid_13 : decode cX11_paid 13 = .ok (.aload_n 0, 1) := by decide +kernel
theorem dX11_paid_14 : decode cX11_paid 14 = .ok (.iload_n 1, 1) := by decide +kernel
theorem dX11_paid_15 : decode cX11_paid 15 = .ok (.iload_n 2, 1) := by decide +kernel
theorem dX11_paid_16 : decode cX11_paid 16 = .ok (.iload 4, 2) := by decide +kernel
theorem dX11_paid_18 : decode cX11_paid 18 = .ok (.invokevirtual 275, 3) := by decide +kernel
theorem dX11_paid_21 : decode cX11_paid 21 = .ok (.istore 5, 2) := by decide +kernel
theorem dX11_paid_23 : decode cX11_paid 23 = .ok (.iload 5, 2) := by decide +kernel
theorem dX11_paid_25 : decode cX11_paid 25 = .ok (.iconst (-1), 1) := by decide +kernel
theorem dX11_paid_26 : decode cX11_paid 26 = .ok (.if_icmp .ne 5, 3) := by decide +kernel
theorem dX11_paid_29 : decode cX11_paid 29 = .ok (.iconst (-1), 1) := by decide +kernel
theorem dX11_paid_30 : decode cX11_paid 30 = .ok (.ireturn, 1) := by decide +kernel
theorem dX11_paid_31 : decode cX11_paid 31 = .ok (.iload 5, 2) := by decide +kernel
theorem dX11_paid_33 : decode cX11_paid 33 = .ok (.iload 5, 2) := by decide +kernel
theorem dX11_paid_35 : decode cX11_paid 35 = .ok (.aload_n 0, 1) := by decide +kernel
theorem dX11_paid_36 : decode cX11_paid 36 = .ok (.getfield 129, 3) := by decide +kernel
theorem dX11_paid_39 : decode cX11_paid 39 = .ok (.imul, 1) := by decide +kernel
theorem dX11_paid_40 : decode cX11_paid 40 = .ok (.bipush 100, 2) := by decide +kernel
theorem dX11_paid_42 : decode cX11_paid 42 = .ok (.idiv, 1) := by decide +kernel
theorem dX11_paid_43 : decode cX11_paid 43 = .ok (.isub, 1) := by decide +kernel
theorem dX11_paid_44 : decode cX11_paid 44 = .ok (.istore 6, 2) := by decide +kernel
theorem dX11_paid_46 : decode cX11_paid 46 = .ok (.iconst 0, 1) := by decide +kernel
theorem dX11_paid_47 : decode cX11_paid 47 = .ok (.istore 7, 2) := by decide +kernel
theorem dX11_paid_49 : decode cX11_paid 49 = .ok (.iconst 0, 1) := by decide +kernel
theorem dX11_paid_50 : decode cX11_paid 50 = .ok (.istore 8, 2) := by decide +kernel
theorem dX11_paid_52 : decode cX11_paid 52 = .ok (.iload 8, 2) := by decide +kernel
theorem dX11_paid_54 : decode cX11_paid 54 = .ok (.aload_n 0, 1) := by decide +kernel
theorem dX11_paid_55 : decode cX11_paid 55 = .ok (.getfield 70, 3) := by decide +kernel
theorem dX11_paid_58 : decode cX11_paid 58 = .ok (.getfield 235, 3) := by decide +kernel
theorem dX11_paid_61 : decode cX11_paid 61 = .ok (.if_icmp .ge 85, 3) := by decide +kernel
theorem dX11_paid_64 : decode cX11_paid 64 = .ok (.iload 8, 2) := by decide +kernel
theorem dX11_paid_66 : decode cX11_paid 66 = .ok (.bipush 20, 2) := by decide +kernel
theorem dX11_paid_68 : decode cX11_paid 68 = .ok (.if_icmp .ge 78, 3) := by decide +kernel
theorem dX11_paid_71 : decode cX11_paid 71 = .ok (.aload_n 0, 1) := by decide +kernel
theorem dX11_paid_72 : decode cX11_paid 72 = .ok (.getfield 70, 3) := by decide +kernel
theorem dX11_paid_75 : decode cX11_paid 75 = .ok (.iload 8, 2) := by decide +kernel
theorem dX11_paid_77 : decode cX11_paid 77 = .ok (.iload_n 2, 1) := by decide +kernel
theorem dX11_paid_78 : decode cX11_paid 78 = .ok (.iload_n 1, 1) := by decide +kernel
theorem dX11_paid_79 : decode cX11_paid 79 = .ok (.iload 4, 2) := by decide +kernel
theorem dX11_paid_81 : decode cX11_paid 81 = .ok (.invokevirtual 278, 3) := by decide +kernel
theorem dX11_paid_84 : decode cX11_paid 84 = .ok (.ifCond .eq 21, 3) := by decide +kernel
theorem dX11_paid_87 : decode cX11_paid 87 = .ok (.iload 6, 2) := by decide +kernel
theorem dX11_paid_89 : decode cX11_paid 89 = .ok (.aload_n 0, 1) := by decide +kernel
theorem dX11_paid_90 : decode cX11_paid 90 = .ok (.getfield 70, 3) := by decide +kernel
theorem dX11_paid_93 : decode cX11_paid 93 = .ok (.getfield 281, 3) := by decide +kernel
theorem dX11_paid_96 : decode cX11_paid 96 = .ok (.iload 8, 2) := by decide +kernel
theorem dX11_paid_98 : decode cX11_paid 98 = .ok (.iaload, 1) := by decide +kernel
theorem dX11_paid_99 : decode cX11_paid 99 = .ok (.invokestatic 284, 3) := by decide +kernel
theorem dX11_paid_102 : decode cX11_paid 102 = .ok (.goto 4, 3) := by decide +kernel
theorem dX11_paid_105 : decode cX11_paid 105 = .ok (.iconst 0, 1) := by decide +kernel
theorem dX11_paid_106 : decode cX11_paid 106 = .ok (.istore 9, 2) := by decide +kernel
theorem dX11_paid_108 : decode cX11_paid 108 = .ok (.iload 6, 2) := by decide +kernel
theorem dX11_paid_110 : decode cX11_paid 110 = .ok (.iload 9, 2) := by decide +kernel
theorem dX11_paid_112 : decode cX11_paid 112 = .ok (.isub, 1) := by decide +kernel
theorem dX11_paid_113 : decode cX11_paid 113 = .ok (.istore 6, 2) := by decide +kernel
theorem dX11_paid_115 : decode cX11_paid 115 = .ok (.iload 7, 2) := by decide +kernel
theorem dX11_paid_117 : decode cX11_paid 117 = .ok (.aload_n 0, 1) := by decide +kernel
theorem dX11_paid_118 : decode cX11_paid 118 = .ok (.getfield 70, 3) := by decide +kernel
theorem dX11_paid_121 : decode cX11_paid 121 = .ok (.getfield 289, 3) := by decide +kernel
theorem dX11_paid_124 : decode cX11_paid 124 = .ok (.iload 8, 2) := by decide +kernel
theorem dX11_paid_126 : decode cX11_paid 126 = .ok (.iaload, 1) := by decide +kernel
theorem dX11_paid_127 : decode cX11_paid 127 = .ok (.iload_n 3, 1) := by decide +kernel
theorem dX11_paid_128 : decode cX11_paid 128 = .ok (.if_icmp .ne 8, 3) := by decide +kernel
theorem dX11_paid_131 : decode cX11_paid 131 = .ok (.iload 9, 2) := by decide +kernel
theorem dX11_paid_133 : decode cX11_paid 133 = .ok (.goto 4, 3) := by decide +kernel
theorem dX11_paid_136 : decode cX11_paid 136 = .ok (.iconst 0, 1) := by decide +kernel
theorem dX11_paid_137 : decode cX11_paid 137 = .ok (.iadd, 1) := by decide +kernel
theorem dX11_paid_138 : decode cX11_paid 138 = .ok (.istore 7, 2) := by decide +kernel
theorem dX11_paid_140 : decode cX11_paid 140 = .ok (.iinc 8 1, 3) := by decide +kernel
theorem dX11_paid_143 : decode cX11_paid 143 = .ok (.goto (-91), 3) := by decide +kernel
theorem dX11_paid_146 : decode cX11_paid 146 = .ok (.iload 6, 2) := by decide +kernel
theorem dX11_paid_148 : decode cX11_paid 148 = .ok (.istore 8, 2) := by decide +kernel
theorem dX11_paid_150 : decode cX11_paid 150 = .ok (.iconst 0, 1) := by decide +kernel
theorem dX11_paid_151 : decode cX11_paid 151 = .ok (.istore 9, 2) := by decide +kernel
theorem dX11_paid_153 : decode cX11_paid 153 = .ok (.iload 9, 2) := by decide +kernel
theorem dX11_paid_155 : decode cX11_paid 155 = .ok (.aload_n 0, 1) := by decide +kernel
theorem dX11_paid_156 : decode cX11_paid 156 = .ok (.getfield 63, 3) := by decide +kernel
theorem dX11_paid_159 : decode cX11_paid 159 = .ok (.getfield 206, 3) := by decide +kernel
theorem dX11_paid_162 : decode cX11_paid 162 = .ok (.if_icmp .ge 86, 3) := by decide +kernel
theorem dX11_paid_165 : decode cX11_paid 165 = .ok (.iload 9, 2) := by decide +kernel
theorem dX11_paid_167 : decode cX11_paid 167 = .ok (.bipush 40, 2) := by decide +kernel
theorem dX11_paid_169 : decode cX11_paid 169 = .ok (.if_icmp .ge 79, 3) := by decide +kernel
theorem dX11_paid_172 : decode cX11_paid 172 = .ok (.aload_n 0, 1) := by decide +kernel
theorem dX11_paid_173 : decode cX11_paid 173 = .ok (.getfield 63, 3) := by decide +kernel
theorem dX11_paid_176 : decode cX11_paid 176 = .ok (.iload 9, 2) := by decide +kernel
theorem dX11_paid_178 : decode cX11_paid 178 = .ok (.iload_n 2, 1) := by decide +kernel
theorem dX11_paid_179 : decode cX11_paid 179 = .ok (.iload_n 1, 1) := by decide +kernel
theorem dX11_paid_180 : decode cX11_paid 180 = .ok (.invokevirtual 292, 3) := by decide +kernel
theorem dX11_paid_183 : decode cX11_paid 183 = .ok (.ifCond .eq 24, 3) := by decide +kernel
theorem dX11_paid_186 : decode cX11_paid 186 = .ok (.iload 8, 2) := by decide +kernel
theorem dX11_paid_188 : decode cX11_paid 188 = .ok (.aload_n 0, 1) := by decide +kernel
theorem dX11_paid_189 : decode cX11_paid 189 = .ok (.getfield 63, 3) := by decide +kernel
theorem dX11_paid_192 : decode cX11_paid 192 = .ok (.iload 9, 2) := by decide +kernel
theorem dX11_paid_194 : decode cX11_paid 194 = .ok (.iload 4, 2) := by decide +kernel
theorem dX11_paid_196 : decode cX11_paid 196 = .ok (.invokevirtual 294, 3) := by decide +kernel
theorem dX11_paid_199 : decode cX11_paid 199 = .ok (.imul, 1) := by decide +kernel
theorem dX11_paid_200 : decode cX11_paid 200 = .ok (.sipush 1000, 3) := by decide +kernel
theorem dX11_paid_203 : decode cX11_paid 203 = .ok (.idiv, 1) := by decide +kernel
theorem dX11_paid_204 : decode cX11_paid 204 = .ok (.goto 4, 3) := by decide +kernel
theorem dX11_paid_207 : decode cX11_paid 207 = .ok (.iconst 0, 1) := by decide +kernel
theorem dX11_paid_208 : decode cX11_paid 208 = .ok (.istore 10, 2) := by decide +kernel
theorem dX11_paid_210 : decode cX11_paid 210 = .ok (.iload 6, 2) := by decide +kernel
theorem dX11_paid_212 : decode cX11_paid 212 = .ok (.iload 10, 2) := by decide +kernel
theorem dX11_paid_214 : decode cX11_paid 214 = .ok (.isub, 1) := by decide +kernel
theorem dX11_paid_215 : decode cX11_paid 215 = .ok (.istore 6, 2) := by decide +kernel
theorem dX11_paid_217 : decode cX11_paid 217 = .ok (.iload 7, 2) := by decide +kernel
theorem dX11_paid_219 : decode cX11_paid 219 = .ok (.aload_n 0, 1) := by decide +kernel
theorem dX11_paid_220 : decode cX11_paid 220 = .ok (.getfield 63, 3) := by decide +kernel
theorem dX11_paid_223 : decode cX11_paid 223 = .ok (.getfield 297, 3) := by decide +kernel
theorem dX11_paid_226 : decode cX11_paid 226 = .ok (.iload 9, 2) := by decide +kernel
theorem dX11_paid_228 : decode cX11_paid 228 = .ok (.iaload, 1) := by decide +kernel
theorem dX11_paid_229 : decode cX11_paid 229 = .ok (.iload_n 3, 1) := by decide +kernel
theorem dX11_paid_230 : decode cX11_paid 230 = .ok (.if_icmp .ne 8, 3) := by decide +kernel
theorem dX11_paid_233 : decode cX11_paid 233 = .ok (.iload 10, 2) := by decide +kernel
theorem dX11_paid_235 : decode cX11_paid 235 = .ok (.goto 4, 3) := by decide +kernel
theorem dX11_paid_238 : decode cX11_paid 238 = .ok (.iconst 0, 1) := by decide +kernel
theorem dX11_paid_239 : decode cX11_paid 239 = .ok (.iadd, 1) := by decide +kernel
theorem dX11_paid_240 : decode cX11_paid 240 = .ok (.istore 7, 2) := by decide +kernel
theorem dX11_paid_242 : decode cX11_paid 242 = .ok (.iinc 9 1, 3) := by decide +kernel
theorem dX11_paid_245 : decode cX11_paid 245 = .ok (.goto (-92), 3) := by decide +kernel
theorem dX11_paid_248 : decode cX11_paid 248 = .ok (.iload_n 3, 1) := by decide +kernel
theorem dX11_paid_249 : decode cX11_paid 249 = .ok (.iload_n 2, 1) := by decide +kernel
theorem dX11_paid_250 : decode cX11_paid 250 = .ok (.if_icmp .ne 11, 3) := by decide +kernel
theorem dX11_paid_253 : decode cX11_paid 253 = .ok (.iload 7, 2) := by decide +kernel
theorem dX11_paid_255 : decode cX11_paid 255 = .ok (.iload 6, 2) := by decide +kernel
theorem dX11_paid_257 : decode cX11_paid 257 = .ok (.iadd, 1) := by decide +kernel
theorem dX11_paid_258 : decode cX11_paid 258 = .ok (.goto 5, 3) := by decide +kernel
theorem dX11_paid_261 : decode cX11_paid 261 = .ok (.iload 7, 2) := by decide +kernel
theorem dX11_paid_263 : decode cX11_paid 263 = .ok (.ireturn, 1) := by decide +kernel
theorem dX11_holds_0 : decode cX11_holds 0 = .ok (.aload_n 0, 1) := by decide +kernel
theorem dX11_holds_1 : decode cX11_holds 1 = .ok (.getfield 10, 3) := by decide +kernel
theorem dX11_holds_4 : decode cX11_holds 4 = .ok (.iload_n 1, 1) := by decide +kernel
theorem dX11_holds_5 : decode cX11_holds 5 = .ok (.invokevirtual 100, 3) := by decide +kernel
theorem dX11_holds_8 : decode cX11_holds 8 = .ok (.ifCond .eq 12, 3) := by decide +kernel
theorem dX11_holds_11 : decode cX11_holds 11 = .ok (.iload_n 2, 1) := by decide +kernel
theorem dX11_holds_12 : decode cX11_holds 12 = .ok (.ifCond .lt 8, 3) := by decide +kernel
theorem dX11_holds_15 : decode cX11_holds 15 = .ok (.iload_n 2, 1) := by decide +kernel
theorem dX11_holds_16 : decode cX11_holds 16 = .ok (.iconst 3, 1) := by decide +kernel
theorem dX11_holds_17 : decode cX11_holds 17 = .ok (.if_icmp .le 5, 3) := by decide +kernel
theorem dX11_holds_20 : decode cX11_holds 20 = .ok (.iconst (-1), 1) := by decide +kernel
theorem dX11_holds_21 : decode cX11_holds 21 = .ok (.ireturn, 1) := by decide +kernel
theorem dX11_holds_22 : decode cX11_holds 22 = .ok (.aload_n 0, 1) := by decide +kernel
theorem dX11_holds_23 : decode cX11_holds 23 = .ok (.getfield 40, 3) := by decide +kernel
theorem dX11_holds_26 : decode cX11_holds 26 = .ok (.aload_n 0, 1) := by decide +kernel
theorem dX11_holds_27 : decode cX11_holds 27 = .ok (.getfield 10, 3) := by decide +kernel
theorem dX11_holds_30 : decode cX11_holds 30 = .ok (.aload_n 0, 1) := by decide +kernel
theorem dX11_holds_31 : decode cX11_holds 31 = .ok (.getfield 93, 3) := by decide +kernel
theorem dX11_holds_34 : decode cX11_holds 34 = .ok (.invokevirtual 166, 3) := by decide +kernel
theorem dX11_holds_37 : decode cX11_holds 37 = .ok (.aload_n 0, 1) := by decide +kernel
theorem dX11_holds_38 : decode cX11_holds 38 = .ok (.getfield 79, 3) := by decide +kernel
theorem dX11_holds_41 : decode cX11_holds 41 = .ok (.iload_n 1, 1) := by decide +kernel
theorem dX11_holds_42 : decode cX11_holds 42 = .ok (.aload_n 0, 1) := by decide +kernel
theorem dX11_holds_43 : decode cX11_holds 43 = .ok (.getfield 32, 3) := by decide +kernel
theorem dX11_holds_46 : decode cX11_holds 46 = .ok (.aload_n 0, 1) := by decide +kernel
theorem dX11_holds_47 : decode cX11_holds 47 = .ok (.getfield 142, 3) := by decide +kernel
theorem dX11_holds_50 : decode cX11_holds 50 = .ok (.aload_n 0, 1) := by decide +kernel
theorem dX11_holds_51 : decode cX11_holds 51 = .ok (.getfield 93, 3) := by decide +kernel
theorem dX11_holds_54 : decode cX11_holds 54 = .ok (.invokevirtual 300, 3) := by decide +kernel
theorem dX11_holds_57 : decode cX11_holds 57 = .ok (.iload_n 2, 1) := by decide +kernel
theorem dX11_holds_58 : decode cX11_holds 58 = .ok (.ifCond .ne 11, 3) := by decide +kernel
theorem dX11_holds_61 : decode cX11_holds 61 = .ok (.aload_n 0, 1) := by decide +kernel
theorem dX11_holds_62 : decode cX11_holds 62 = .ok (.getfield 79, 3) := by decide +kernel
theorem dX11_holds_65 : decode cX11_holds 65 = .ok (.getfield 304, 3) := by decide +kernel
theorem dX11_holds_68 : decode cX11_holds 68 = .ok (.ireturn, 1) := by decide +kernel
theorem dX11_holds_69 : decode cX11_holds 69 = .ok (.iload_n 2, 1) := by decide +kernel
theorem dX11_holds_70 : decode cX11_holds 70 = .ok (.iconst 1, 1) := by decide +kernel
theorem dX11_holds_71 : decode cX11_holds 71 = .ok (.if_icmp .ne 11, 3) := by decide +kernel
theorem dX11_holds_74 : decode cX11_holds 74 = .ok (.aload_n 0, 1) := by decide +kernel
theorem dX11_holds_75 : decode cX11_holds 75 = .ok (.getfield 79, 3) := by decide +kernel
theorem dX11_holds_78 : decode cX11_holds 78 = .ok (.getfield 307, 3) := by decide +kernel
theorem dX11_holds_81 : decode cX11_holds 81 = .ok (.ireturn, 1) := by decide +kernel
theorem dX11_holds_82 : decode cX11_holds 82 = .ok (.aload_n 0, 1) := by decide +kernel
theorem dX11_holds_83 : decode cX11_holds 83 = .ok (.getfield 79, 3) := by decide +kernel
theorem dX11_holds_86 : decode cX11_holds 86 = .ok (.aload_n 0, 1) := by decide +kernel
theorem dX11_holds_87 : decode cX11_holds 87 = .ok (.getfield 32, 3) := by decide +kernel
theorem dX11_holds_90 : decode cX11_holds 90 = .ok (.aload_n 0, 1) := by decide +kernel
theorem dX11_holds_91 : decode cX11_holds 91 = .ok (.getfield 142, 3) := by decide +kernel
theorem dX11_holds_94 : decode cX11_holds 94 = .ok (.invokevirtual 310, 3) := by decide +kernel
theorem dX11_holds_97 : decode cX11_holds 97 = .ok (.ifCond .ne 5, 3) := by decide +kernel
theorem dX11_holds_100 : decode cX11_holds 100 = .ok (.iconst (-1), 1) := by decide +kernel
theorem dX11_holds_101 : decode cX11_holds 101 = .ok (.ireturn, 1) := by decide +kernel
theorem dX11_holds_102 : decode cX11_holds 102 = .ok (.iload_n 2, 1) := by decide +kernel
theorem dX11_holds_103 : decode cX11_holds 103 = .ok (.iconst 2, 1) := by decide +kernel
theorem dX11_holds_104 : decode cX11_holds 104 = .ok (.if_icmp .ne 13, 3) := by decide +kernel
theorem dX11_holds_107 : decode cX11_holds 107 = .ok (.aload_n 0, 1) := by decide +kernel
theorem dX11_holds_108 : decode cX11_holds 108 = .ok (.getfield 79, 3) := by decide +kernel
theorem dX11_holds_111 : decode cX11_holds 111 = .ok (.getfield 314, 3) := by decide +kernel
theorem dX11_holds_114 : decode cX11_holds 114 = .ok (.goto 10, 3) := by decide +kernel
theorem dX11_holds_117 : decode cX11_holds 117 = .ok (.aload_n 0, 1) := by decide +kernel
theorem dX11_holds_118 : decode cX11_holds 118 = .ok (.getfield 79, 3) := by decide +kernel
theorem dX11_holds_121 : decode cX11_holds 121 = .ok (.getfield 317, 3) := by decide +kernel
theorem dX11_holds_124 : decode cX11_holds 124 = .ok (.ireturn, 1) := by decide +kernel
theorem dX11_papers_0 : decode cX11_papers 0 = .ok (.aload_n 0, 1) := by decide +kernel
theorem dX11_papers_1 : decode cX11_papers 1 = .ok (.getfield 10, 3) := by decide +kernel
theorem dX11_papers_4 : decode cX11_papers 4 = .ok (.iload_n 1, 1) := by decide +kernel
theorem dX11_papers_5 : decode cX11_papers 5 = .ok (.invokevirtual 100, 3) := by decide +kernel
theorem dX11_papers_8 : decode cX11_papers 8 = .ok (.ifCond .eq 27, 3) := by decide +kernel
theorem dX11_papers_11 : decode cX11_papers 11 = .ok (.iload_n 2, 1) := by decide +kernel
theorem dX11_papers_12 : decode cX11_papers 12 = .ok (.ifCond .lt 23, 3) := by decide +kernel
theorem dX11_papers_15 : decode cX11_papers 15 = .ok (.iload_n 2, 1) := by decide +kernel
theorem dX11_papers_16 : decode cX11_papers 16 = .ok (.aload_n 0, 1) := by decide +kernel
theorem dX11_papers_17 : decode cX11_papers 17 = .ok (.getfield 93, 3) := by decide +kernel
theorem dX11_papers_20 : decode cX11_papers 20 = .ok (.if_icmp .gt 15, 3) := by decide +kernel
theorem dX11_papers_23 : decode cX11_papers 23 = .ok (.aload_n 0, 1) := by decide +kernel
theorem dX11_papers_24 : decode cX11_papers 24 = .ok (.getfield 10, 3) := by decide +kernel
theorem dX11_papers_27 : decode cX11_papers 27 = .ok (.getfield 320, 3) := by decide +kernel
theorem dX11_papers_30 : decode cX11_papers 30 = .ok (.bipush 100, 2) := by decide +kernel
theorem dX11_papers_32 : decode cX11_papers 32 = .ok (.if_icmp .lt 5, 3) := by decide +kernel
theorem dX11_papers_35 : decode cX11_papers 35 = .ok (.iconst 0, 1) := by decide +kernel
theorem dX11_papers_36 : decode cX11_papers 36 = .ok (.ireturn, 1) := by decide +kernel
theorem dX11_papers_37 : decode cX11_papers 37 = .ok (.aload_n 0, 1) := by decide +kernel
theorem dX11_papers_38 : decode cX11_papers 38 = .ok (.getfield 10, 3) := by decide +kernel
theorem dX11_papers_41 : decode cX11_papers 41 = .ok (.iload_n 1, 1) := by decide +kernel
theorem dX11_papers_42 : decode cX11_papers 42 = .ok (.iload_n 2, 1) := by decide +kernel
theorem dX11_papers_43 : decode cX11_papers 43 = .ok (.invokevirtual 323, 3) := by decide +kernel
theorem dX11_papers_46 : decode cX11_papers 46 = .ok (.iconst 1, 1) := by decide +kernel
theorem dX11_papers_47 : decode cX11_papers 47 = .ok (.ireturn, 1) := by decide +kernel
theorem dX11_falseOnes_0 : decode cX11_falseOnes 0 = .ok (.iconst 0, 1) := by decide +kernel
theorem dX11_falseOnes_1 : decode cX11_falseOnes 1 = .ok (.istore_n 1, 1) := by decide +kernel
theorem dX11_falseOnes_2 : decode cX11_falseOnes 2 = .ok (.iconst 0, 1) := by decide +kernel
theorem dX11_falseOnes_3 : decode cX11_falseOnes 3 = .ok (.istore_n 2, 1) := by decide +kernel
theorem dX11_falseOnes_4 : decode cX11_falseOnes 4 = .ok (.iload_n 2, 1) := by decide +kernel
theorem dX11_falseOnes_5 : decode cX11_falseOnes 5 = .ok (.aload_n 0, 1) := by decide +kernel
theorem dX11_falseOnes_6 : decode cX11_falseOnes 6 = .ok (.getfield 10, 3) := by decide +kernel
theorem dX11_falseOnes_9 : decode cX11_falseOnes 9 = .ok (.getfield 97, 3) := by decide +kernel
theorem dX11_falseOnes_12 : decode cX11_falseOnes 12 = .ok (.if_icmp .ge 32, 3) := by decide +kernel
theorem dX11_falseOnes_15 : decode cX11_falseOnes 15 = .ok (.iload_n 2, 1) := by decide +kernel
theorem dX11_falseOnes_16 : decode cX11_falseOnes 16 = .ok (.bipush 16, 2) := by decide +kernel
theorem dX11_falseOnes_18 : decode cX11_falseOnes 18 = .ok (.if_icmp .ge 26, 3) := by decide +kernel
theorem dX11_falseOnes_21 : decode cX11_falseOnes 21 = .ok (.aload_n 0, 1) := by decide +kernel
theorem dX11_falseOnes_22 : decode cX11_falseOnes 22 = .ok (.getfield 10, 3) := by decide +kernel
theorem dX11_falseOnes_25 : decode cX11_falseOnes 25 = .ok (.iload_n 2, 1) := by decide +kernel
theorem dX11_falseOnes_26 : decode cX11_falseOnes 26 = .ok (.invokevirtual 327, 3) := by decide +kernel
theorem dX11_falseOnes_29 : decode cX11_falseOnes 29 = .ok (.ifCond .eq 9, 3) := by decide +kernel
theorem dX11_falseOnes_32 : decode cX11_falseOnes 32 = .ok (.iload_n 1, 1) := by decide +kernel
theorem dX11_falseOnes_33 : decode cX11_falseOnes 33 = .ok (.iconst 1, 1) := by decide +kernel
theorem dX11_falseOnes_34 : decode cX11_falseOnes 34 = .ok (.iload_n 2, 1) := by decide +kernel
theorem dX11_falseOnes_35 : decode cX11_falseOnes 35 = .ok (.ishl, 1) := by decide +kernel
theorem dX11_falseOnes_36 : decode cX11_falseOnes 36 = .ok (.ior, 1) := by decide +kernel
theorem dX11_falseOnes_37 : decode cX11_falseOnes 37 = .ok (.istore_n 1, 1) := by decide +kernel
theorem dX11_falseOnes_38 : decode cX11_falseOnes 38 = .ok (.iinc 2 1, 3) := by decide +kernel
theorem dX11_falseOnes_41 : decode cX11_falseOnes 41 = .ok (.goto (-37), 3) := by decide +kernel
theorem dX11_falseOnes_44 : decode cX11_falseOnes 44 = .ok (.iload_n 1, 1) := by decide +kernel
theorem dX11_falseOnes_45 : decode cX11_falseOnes 45 = .ok (.ireturn, 1) := by decide +kernel
theorem dX11_look_0 : decode cX11_look 0 = .ok (.aload_n 0, 1) := by decide +kernel
theorem dX11_look_1 : decode cX11_look 1 = .ok (.getfield 63, 3) := by decide +kernel
theorem dX11_look_4 : decode cX11_look 4 = .ok (.iload_n 1, 1) := by decide +kernel
theorem dX11_look_5 : decode cX11_look 5 = .ok (.invokevirtual 217, 3) := by decide +kernel
theorem dX11_look_8 : decode cX11_look 8 = .ok (.ifCond .ne 5, 3) := by decide +kernel
theorem dX11_look_11 : decode cX11_look 11 = .ok (.iconst (-1), 1) := by decide +kernel
theorem dX11_look_12 : decode cX11_look 12 = .ok (.ireturn, 1) := by decide +kernel
theorem dX11_look_13 : decode cX11_look 13 = .ok (.iload_n 2, 1) := by decide +kernel
theorem dX11_look_14 : decode cX11_look 14 = .ok (.tableswitch 140 0 8 #[50, 60, 70, 80, 90, 100, 110, 120, 130], 50) := by decide +kernel
theorem dX11_look_64 : decode cX11_look 64 = .ok (.aload_n 0, 1) := by decide +kernel
theorem dX11_look_65 : decode cX11_look 65 = .ok (.getfield 63, 3) := by decide +kernel
theorem dX11_look_68 : decode cX11_look 68 = .ok (.getfield 330, 3) := by decide +kernel
theorem dX11_look_71 : decode cX11_look 71 = .ok (.iload_n 1, 1) := by decide +kernel
theorem dX11_look_72 : decode cX11_look 72 = .ok (.iaload, 1) := by decide +kernel
theorem dX11_look_73 : decode cX11_look 73 = .ok (.ireturn, 1) := by decide +kernel
theorem dX11_look_74 : decode cX11_look 74 = .ok (.aload_n 0, 1) := by decide +kernel
theorem dX11_look_75 : decode cX11_look 75 = .ok (.getfield 63, 3) := by decide +kernel
theorem dX11_look_78 : decode cX11_look 78 = .ok (.getfield 250, 3) := by decide +kernel
theorem dX11_look_81 : decode cX11_look 81 = .ok (.iload_n 1, 1) := by decide +kernel
theorem dX11_look_82 : decode cX11_look 82 = .ok (.iaload, 1) := by decide +kernel
theorem dX11_look_83 : decode cX11_look 83 = .ok (.ireturn, 1) := by decide +kernel
theorem dX11_look_84 : decode cX11_look 84 = .ok (.aload_n 0, 1) := by decide +kernel
theorem dX11_look_85 : decode cX11_look 85 = .ok (.getfield 63, 3) := by decide +kernel
theorem dX11_look_88 : decode cX11_look 88 = .ok (.getfield 218, 3) := by decide +kernel
theorem dX11_look_91 : decode cX11_look 91 = .ok (.iload_n 1, 1) := by decide +kernel
theorem dX11_look_92 : decode cX11_look 92 = .ok (.iaload, 1) := by decide +kernel
theorem dX11_look_93 : decode cX11_look 93 = .ok (.ireturn, 1) := by decide +kernel
theorem dX11_look_94 : decode cX11_look 94 = .ok (.aload_n 0, 1) := by decide +kernel
theorem dX11_look_95 : decode cX11_look 95 = .ok (.getfield 63, 3) := by decide +kernel
theorem dX11_look_98 : decode cX11_look 98 = .ok (.getfield 297, 3) := by decide +kernel
theorem dX11_look_101 : decode cX11_look 101 = .ok (.iload_n 1, 1) := by decide +kernel
theorem dX11_look_102 : decode cX11_look 102 = .ok (.iaload, 1) := by decide +kernel
theorem dX11_look_103 : decode cX11_look 103 = .ok (.ireturn, 1) := by decide +kernel
theorem dX11_look_104 : decode cX11_look 104 = .ok (.aload_n 0, 1) := by decide +kernel
theorem dX11_look_105 : decode cX11_look 105 = .ok (.getfield 63, 3) := by decide +kernel
theorem dX11_look_108 : decode cX11_look 108 = .ok (.getfield 221, 3) := by decide +kernel
theorem dX11_look_111 : decode cX11_look 111 = .ok (.iload_n 1, 1) := by decide +kernel
theorem dX11_look_112 : decode cX11_look 112 = .ok (.iaload, 1) := by decide +kernel
theorem dX11_look_113 : decode cX11_look 113 = .ok (.ireturn, 1) := by decide +kernel
theorem dX11_look_114 : decode cX11_look 114 = .ok (.aload_n 0, 1) := by decide +kernel
theorem dX11_look_115 : decode cX11_look 115 = .ok (.getfield 63, 3) := by decide +kernel
theorem dX11_look_118 : decode cX11_look 118 = .ok (.getfield 253, 3) := by decide +kernel
theorem dX11_look_121 : decode cX11_look 121 = .ok (.iload_n 1, 1) := by decide +kernel
theorem dX11_look_122 : decode cX11_look 122 = .ok (.iaload, 1) := by decide +kernel
theorem dX11_look_123 : decode cX11_look 123 = .ok (.ireturn, 1) := by decide +kernel
theorem dX11_look_124 : decode cX11_look 124 = .ok (.aload_n 0, 1) := by decide +kernel
theorem dX11_look_125 : decode cX11_look 125 = .ok (.getfield 63, 3) := by decide +kernel
theorem dX11_look_128 : decode cX11_look 128 = .ok (.getfield 228, 3) := by decide +kernel
theorem dX11_look_131 : decode cX11_look 131 = .ok (.iload_n 1, 1) := by decide +kernel
theorem dX11_look_132 : decode cX11_look 132 = .ok (.iaload, 1) := by decide +kernel
theorem dX11_look_133 : decode cX11_look 133 = .ok (.ireturn, 1) := by decide +kernel
theorem dX11_look_134 : decode cX11_look 134 = .ok (.aload_n 0, 1) := by decide +kernel
theorem dX11_look_135 : decode cX11_look 135 = .ok (.getfield 63, 3) := by decide +kernel
theorem dX11_look_138 : decode cX11_look 138 = .ok (.getfield 232, 3) := by decide +kernel
theorem dX11_look_141 : decode cX11_look 141 = .ok (.iload_n 1, 1) := by decide +kernel
theorem dX11_look_142 : decode cX11_look 142 = .ok (.iaload, 1) := by decide +kernel
theorem dX11_look_143 : decode cX11_look 143 = .ok (.ireturn, 1) := by decide +kernel
theorem dX11_look_144 : decode cX11_look 144 = .ok (.aload_n 0, 1) := by decide +kernel
theorem dX11_look_145 : decode cX11_look 145 = .ok (.getfield 63, 3) := by decide +kernel
theorem dX11_look_148 : decode cX11_look 148 = .ok (.getfield 247, 3) := by decide +kernel
theorem dX11_look_151 : decode cX11_look 151 = .ok (.iload_n 1, 1) := by decide +kernel
theorem dX11_look_152 : decode cX11_look 152 = .ok (.iaload, 1) := by decide +kernel
theorem dX11_look_153 : decode cX11_look 153 = .ok (.ireturn, 1) := by decide +kernel
theorem dX11_look_154 : decode cX11_look 154 = .ok (.iconst (-1), 1) := by decide +kernel
theorem dX11_look_155 : decode cX11_look 155 = .ok (.ireturn, 1) := by decide +kernel
theorem dX11_count_0 : decode cX11_count 0 = .ok (.iload_n 1, 1) := by decide +kernel
theorem dX11_count_1 : decode cX11_count 1 = .ok (.tableswitch 131 0 9 #[55, 60, 68, 73, 81, 89, 97, 105, 118, 126], 55) := by decide +kernel
theorem dX11_count_56 : decode cX11_count 56 = .ok (.aload_n 0, 1) := by decide +kernel
theorem dX11_count_57 : decode cX11_count 57 = .ok (.getfield 93, 3) := by decide +kernel
theorem dX11_count_60 : decode cX11_count 60 = .ok (.ireturn, 1) := by decide +kernel
theorem dX11_count_61 : decode cX11_count 61 = .ok (.aload_n 0, 1) := by decide +kernel
theorem dX11_count_62 : decode cX11_count 62 = .ok (.getfield 10, 3) := by decide +kernel
theorem dX11_count_65 : decode cX11_count 65 = .ok (.getfield 97, 3) := by decide +kernel
theorem dX11_count_68 : decode cX11_count 68 = .ok (.ireturn, 1) := by decide +kernel
theorem dX11_count_69 : decode cX11_count 69 = .ok (.aload_n 0, 1) := by decide +kernel
theorem dX11_count_70 : decode cX11_count 70 = .ok (.getfield 142, 3) := by decide +kernel
theorem dX11_count_73 : decode cX11_count 73 = .ok (.ireturn, 1) := by decide +kernel
theorem dX11_count_74 : decode cX11_count 74 = .ok (.aload_n 0, 1) := by decide +kernel
theorem dX11_count_75 : decode cX11_count 75 = .ok (.getfield 63, 3) := by decide +kernel
theorem dX11_count_78 : decode cX11_count 78 = .ok (.getfield 206, 3) := by decide +kernel
theorem dX11_count_81 : decode cX11_count 81 = .ok (.ireturn, 1) := by decide +kernel
theorem dX11_count_82 : decode cX11_count 82 = .ok (.aload_n 0, 1) := by decide +kernel
theorem dX11_count_83 : decode cX11_count 83 = .ok (.getfield 70, 3) := by decide +kernel
theorem dX11_count_86 : decode cX11_count 86 = .ok (.getfield 235, 3) := by decide +kernel
theorem dX11_count_89 : decode cX11_count 89 = .ok (.ireturn, 1) := by decide +kernel
theorem dX11_count_90 : decode cX11_count 90 = .ok (.aload_n 0, 1) := by decide +kernel
theorem dX11_count_91 : decode cX11_count 91 = .ok (.getfield 10, 3) := by decide +kernel
theorem dX11_count_94 : decode cX11_count 94 = .ok (.getfield 320, 3) := by decide +kernel
theorem dX11_count_97 : decode cX11_count 97 = .ok (.ireturn, 1) := by decide +kernel
theorem dX11_count_98 : decode cX11_count 98 = .ok (.aload_n 0, 1) := by decide +kernel
theorem dX11_count_99 : decode cX11_count 99 = .ok (.getfield 26, 3) := by decide +kernel
theorem dX11_count_102 : decode cX11_count 102 = .ok (.getfield 136, 3) := by decide +kernel
theorem dX11_count_105 : decode cX11_count 105 = .ok (.ireturn, 1) := by decide +kernel
theorem dX11_count_106 : decode cX11_count 106 = .ok (.aload_n 0, 1) := by decide +kernel
theorem dX11_count_107 : decode cX11_count 107 = .ok (.getfield 240, 3) := by decide +kernel
theorem dX11_count_110 : decode cX11_count 110 = .ok (.ifCond .eq 7, 3) := by decide +kernel
theorem dX11_count_113 : decode cX11_count 113 = .ok (.iconst 1, 1) := by decide +kernel
theorem dX11_count_114 : decode cX11_count 114 = .ok (.goto 4, 3) := by decide +kernel
theorem dX11_count_117 : decode cX11_count 117 = .ok (.iconst 0, 1) := by decide +kernel
theorem dX11_count_118 : decode cX11_count 118 = .ok (.ireturn, 1) := by decide +kernel
theorem dX11_count_119 : decode cX11_count 119 = .ok (.aload_n 0, 1) := by decide +kernel
theorem dX11_count_120 : decode cX11_count 120 = .ok (.getfield 19, 3) := by decide +kernel
theorem dX11_count_123 : decode cX11_count 123 = .ok (.getfield 126, 3) := by decide +kernel
theorem dX11_count_126 : decode cX11_count 126 = .ok (.ireturn, 1) := by decide +kernel
theorem dX11_count_127 : decode cX11_count 127 = .ok (.aload_n 0, 1) := by decide +kernel
theorem dX11_count_128 : decode cX11_count 128 = .ok (.getfield 129, 3) := by decide +kernel
theorem dX11_count_131 : decode cX11_count 131 = .ok (.ireturn, 1) := by decide +kernel
theorem dX11_count_132 : decode cX11_count 132 = .ok (.aload_n 0, 1) := by decide +kernel
theorem dX11_count_133 : decode cX11_count 133 = .ok (.iload_n 1, 1) := by decide +kernel
theorem dX11_count_134 : decode cX11_count 134 = .ok (.invokevirtual 333, 3) := by decide +kernel
theorem dX11_count_137 : decode cX11_count 137 = .ok (.ireturn, 1) := by decide +kernel
theorem dX11_countBeyond_0 : decode cX11_countBeyond 0 = .ok (.iload_n 1, 1) := by decide +kernel
theorem dX11_countBeyond_1 : decode cX11_countBeyond 1 = .ok (.bipush 20, 2) := by decide +kernel
theorem dX11_countBeyond_3 : decode cX11_countBeyond 3 = .ok (.if_icmp .lt 31, 3) := by decide +kernel
theorem dX11_countBeyond_6 : decode cX11_countBeyond 6 = .ok (.iload_n 1, 1) := by decide +kernel
theorem dX11_countBeyond_7 : decode cX11_countBeyond 7 = .ok (.bipush 30, 2) := by decide +kernel
theorem dX11_countBeyond_9 : decode cX11_countBeyond 9 = .ok (.if_icmp .ge 25, 3) := by decide +kernel
theorem dX11_countBeyond_12 : decode cX11_countBeyond 12 = .ok (.aload_n 0, 1) := by decide +kernel
theorem dX11_countBeyond_13 : decode cX11_countBeyond 13 = .ok (.iload_n 1, 1) := by decide +kernel
theorem dX11_countBeyond_14 : decode cX11_countBeyond 14 = .ok (.bipush 20, 2) := by decide +kernel
theorem dX11_countBeyond_16 : decode cX11_countBeyond 16 = .ok (.isub, 1) := by decide +kernel
theorem dX11_countBeyond_17 : decode cX11_countBeyond 17 = .ok (.invokevirtual 159, 3) := by decide +kernel
theorem dX11_countBeyond_20 : decode cX11_countBeyond 20 = .ok (.astore_n 2, 1) := by decide +kernel
theorem dX11_countBeyond_21 : decode cX11_countBeyond 21 = .ok (.aload_n 2, 1) := by decide +kernel
theorem dX11_countBeyond_22 : decode cX11_countBeyond 22 = .ok (.ifnonnull 7, 3) := by decide +kernel
theorem dX11_countBeyond_25 : decode cX11_countBeyond 25 = .ok (.iconst (-1), 1) := by decide +kernel
theorem dX11_countBeyond_26 : decode cX11_countBeyond 26 = .ok (.goto 7, 3) := by decide +kernel
theorem dX11_countBeyond_29 : decode cX11_countBeyond 29 = .ok (.aload_n 2, 1) := by decide +kernel
theorem dX11_countBeyond_30 : decode cX11_countBeyond 30 = .ok (.getfield 336, 3) := by decide +kernel
theorem dX11_countBeyond_33 : decode cX11_countBeyond 33 = .ok (.ireturn, 1) := by decide +kernel
theorem dX11_countBeyond_34 : decode cX11_countBeyond 34 = .ok (.iload_n 1, 1) := by decide +kernel
theorem dX11_countBeyond_35 : decode cX11_countBeyond 35 = .ok (.bipush 40, 2) := by decide +kernel
theorem dX11_countBeyond_37 : decode cX11_countBeyond 37 = .ok (.if_icmp .lt 36, 3) := by decide +kernel
theorem dX11_countBeyond_40 : decode cX11_countBeyond 40 = .ok (.iload_n 1, 1) := by decide +kernel
theorem dX11_countBeyond_41 : decode cX11_countBeyond 41 = .ok (.bipush 56, 2) := by decide +kernel
theorem dX11_countBeyond_43 : decode cX11_countBeyond 43 = .ok (.if_icmp .ge 30, 3) := by decide +kernel
theorem dX11_countBeyond_46 : decode cX11_countBeyond 46 = .ok (.aload_n 0, 1) := by decide +kernel
theorem dX11_countBeyond_47 : decode cX11_countBeyond 47 = .ok (.getfield 10, 3) := by decide +kernel
theorem dX11_countBeyond_50 : decode cX11_countBeyond 50 = .ok (.iload_n 1, 1) := by decide +kernel
theorem dX11_countBeyond_51 : decode cX11_countBeyond 51 = .ok (.bipush 40, 2) := by decide +kernel
theorem dX11_countBeyond_53 : decode cX11_countBeyond 53 = .ok (.isub, 1) := by decide +kernel
theorem dX11_countBeyond_54 : decode cX11_countBeyond 54 = .ok (.invokevirtual 100, 3) := by decide +kernel
theorem dX11_countBeyond_57 : decode cX11_countBeyond 57 = .ok (.ifCond .eq 16, 3) := by decide +kernel
theorem dX11_countBeyond_60 : decode cX11_countBeyond 60 = .ok (.aload_n 0, 1) := by decide +kernel
theorem dX11_countBeyond_61 : decode cX11_countBeyond 61 = .ok (.getfield 10, 3) := by decide +kernel
theorem dX11_countBeyond_64 : decode cX11_countBeyond 64 = .ok (.getfield 112, 3) := by decide +kernel
theorem dX11_countBeyond_67 : decode cX11_countBeyond 67 = .ok (.iload_n 1, 1) := by decide +kernel
theorem dX11_countBeyond_68 : decode cX11_countBeyond 68 = .ok (.bipush 40, 2) := by decide +kernel
theorem dX11_countBeyond_70 : decode cX11_countBeyond 70 = .ok (.isub, 1) := by decide +kernel
theorem dX11_countBeyond_71 : decode cX11_countBeyond 71 = .ok (.iaload, 1) := by decide +kernel
theorem dX11_countBeyond_72 : decode cX11_countBeyond 72 = .ok (.ireturn, 1) := by decide +kernel
theorem dX11_countBeyond_73 : decode cX11_countBeyond 73 = .ok (.iconst (-1), 1) := by decide +kernel
theorem dX11_countBeyond_74 : decode cX11_countBeyond 74 = .ok (.ireturn, 1) := by decide +kernel
theorem dX11_settlementOf_0 : decode cX11_settlementOf 0 = .ok (.iload_n 1, 1) := by decide +kernel
theorem dX11_settlementOf_1 : decode cX11_settlementOf 1 = .ok (.ifCond .lt 29, 3) := by decide +kernel
theorem dX11_settlementOf_4 : decode cX11_settlementOf 4 = .ok (.iload_n 1, 1) := by decide +kernel
theorem dX11_settlementOf_5 : decode cX11_settlementOf 5 = .ok (.aload_n 0, 1) := by decide +kernel
theorem dX11_settlementOf_6 : decode cX11_settlementOf 6 = .ok (.getfield 142, 3) := by decide +kernel
theorem dX11_settlementOf_9 : decode cX11_settlementOf 9 = .ok (.if_icmp .ge 21, 3) := by decide +kernel
theorem dX11_settlementOf_12 : decode cX11_settlementOf 12 = .ok (.iload_n 1, 1) := by decide +kernel
theorem dX11_settlementOf_13 : decode cX11_settlementOf 13 = .ok (.aload_n 0, 1) := by decide +kernel
theorem dX11_settlementOf_14 : decode cX11_settlementOf 14 = .ok (.getfield 32, 3) := by decide +kernel
theorem dX11_settlementOf_17 : decode cX11_settlementOf 17 = .ok (.arraylength, 1) := by decide +kernel
theorem dX11_settlementOf_18 : decode cX11_settlementOf 18 = .ok (.if_icmp .ge 12, 3) := by decide +kernel
theorem dX11_settlementOf_21 : decode cX11_settlementOf 21 = .ok (.aload_n 0, 1) := by decide +kernel
theorem dX11_settlementOf_22 : decode cX11_settlementOf 22 = .ok (.getfield 32, 3) := by decide +kernel
theorem dX11_settlementOf_25 : decode cX11_settlementOf 25 = .ok (.iload_n 1, 1) := by decide +kernel
theorem dX11_settlementOf_26 : decode cX11_settlementOf 26 = .ok (.aaload, 1) := by decide +kernel
theorem dX11_settlementOf_27 : decode cX11_settlementOf 27 = .ok (.goto 4, 3) := by decide +kernel
theorem dX11_settlementOf_30 : decode cX11_settlementOf 30 = .ok (.aconst_null, 1) := by decide +kernel
theorem dX11_settlementOf_31 : decode cX11_settlementOf 31 = .ok (.areturn, 1) := by decide +kernel
theorem dX11_isYear_0 : decode cX11_isYear 0 = .ok (.iload_n 0, 1) := by decide +kernel
theorem dX11_isYear_1 : decode cX11_isYear 1 = .ok (.sipush 1700, 3) := by decide +kernel
theorem dX11_isYear_4 : decode cX11_isYear 4 = .ok (.if_icmp .lt 14, 3) := by decide +kernel
theorem dX11_isYear_7 : decode cX11_isYear 7 = .ok (.iload_n 0, 1) := by decide +kernel
theorem dX11_isYear_8 : decode cX11_isYear 8 = .ok (.sipush 1999, 3) := by decide +kernel
theorem dX11_isYear_11 : decode cX11_isYear 11 = .ok (.if_icmp .gt 7, 3) := by decide +kernel
theorem dX11_isYear_14 : decode cX11_isYear 14 = .ok (.iconst 1, 1) := by decide +kernel
theorem dX11_isYear_15 : decode cX11_isYear 15 = .ok (.goto 4, 3) := by decide +kernel
theorem dX11_isYear_18 : decode cX11_isYear 18 = .ok (.iconst 0, 1) := by decide +kernel
theorem dX11_isYear_19 : decode cX11_isYear 19 = .ok (.ireturn, 1) := by decide +kernel
theorem dX11_isParts_0 : decode cX11_isParts 0 = .ok (.iload_n 0, 1) := by decide +kernel
theorem dX11_isParts_1 : decode cX11_isParts 1 = .ok (.iconst 1, 1) := by decide +kernel
theorem dX11_isParts_2 : decode cX11_isParts 2 = .ok (.if_icmp .lt 14, 3) := by decide +kernel
theorem dX11_isParts_5 : decode cX11_isParts 5 = .ok (.iload_n 0, 1) := by decide +kernel
theorem dX11_isParts_6 : decode cX11_isParts 6 = .ok (.sipush 1000, 3) := by decide +kernel
theorem dX11_isParts_9 : decode cX11_isParts 9 = .ok (.if_icmp .gt 7, 3) := by decide +kernel
theorem dX11_isParts_12 : decode cX11_isParts 12 = .ok (.iconst 1, 1) := by decide +kernel
theorem dX11_isParts_13 : decode cX11_isParts 13 = .ok (.goto 4, 3) := by decide +kernel
theorem dX11_isParts_16 : decode cX11_isParts 16 = .ok (.iconst 0, 1) := by decide +kernel
theorem dX11_isParts_17 : decode cX11_isParts 17 = .ok (.ireturn, 1) := by decide +kernel
theorem dX11_reckons_0 : decode cX11_reckons 0 = .ok (.aload_n 0, 1) := by decide +kernel
theorem dX11_reckons_1 : decode cX11_reckons 1 = .ok (.iload_n 1, 1) := by decide +kernel
theorem dX11_reckons_2 : decode cX11_reckons 2 = .ok (.invokevirtual 159, 3) := by decide +kernel
theorem dX11_reckons_5 : decode cX11_reckons 5 = .ok (.astore 5, 2) := by decide +kernel
theorem dX11_reckons_7 : decode cX11_reckons 7 = .ok (.aload 5, 2) := by decide +kernel
theorem dX11_reckons_9 : decode cX11_reckons 9 = .ok (.ifnull 35, 3) := by decide +kernel
theorem dX11_reckons_12 : decode cX11_reckons 12 = .ok (.aload_n 0, 1) := by decide +kernel
theorem dX11_reckons_13 : decode cX11_reckons 13 = .ok (.getfield 10, 3) := by decide +kernel
theorem dX11_reckons_16 : decode cX11_reckons 16 = .ok (.iload_n 2, 1) := by decide +kernel
theorem dX11_reckons_17 : decode cX11_reckons 17 = .ok (.invokevirtual 100, 3) := by decide +kernel
theorem dX11_reckons_20 : decode cX11_reckons 20 = .ok (.ifCond .eq 24, 3) := by decide +kernel
theorem dX11_reckons_23 : decode cX11_reckons 23 = .ok (.iload_n 3, 1) := by decide +kernel
theorem dX11_reckons_24 : decode cX11_reckons 24 = .ok (.invokestatic 163, 3) := by decide +kernel
theorem dX11_reckons_27 : decode cX11_reckons 27 = .ok (.ifCond .eq 17, 3) := by decide +kernel
theorem dX11_reckons_30 : decode cX11_reckons 30 = .ok (.iload 4, 2) := by decide +kernel
theorem dX11_reckons_32 : decode cX11_reckons 32 = .ok (.iload_n 3, 1) := by decide +kernel
theorem dX11_reckons_33 : decode cX11_reckons 33 = .ok (.if_icmp .lt 11, 3) := by decide +kernel
theorem dX11_reckons_36 : decode cX11_reckons 36 = .ok (.iload 4, 2) := by decide +kernel
theorem dX11_reckons_38 : decode cX11_reckons 38 = .ok (.sipush 1999, 3) := by decide +kernel
theorem dX11_reckons_41 : decode cX11_reckons 41 = .ok (.if_icmp .le 5, 3) := by decide +kernel
theorem dX11_reckons_44 : decode cX11_reckons 44 = .ok (.iconst 0, 1) := by decide +kernel
theorem dX11_reckons_45 : decode cX11_reckons 45 = .ok (.ireturn, 1) := by decide +kernel
theorem dX11_reckons_46 : decode cX11_reckons 46 = .ok (.aload_n 0, 1) := by decide +kernel
theorem dX11_reckons_47 : decode cX11_reckons 47 = .ok (.getfield 56, 3) := by decide +kernel
theorem dX11_reckons_50 : decode cX11_reckons 50 = .ok (.aload 5, 2) := by decide +kernel
theorem dX11_reckons_52 : decode cX11_reckons 52 = .ok (.iload_n 2, 1) := by decide +kernel
theorem dX11_reckons_53 : decode cX11_reckons 53 = .ok (.iload_n 3, 1) := by decide +kernel
theorem dX11_reckons_54 : decode cX11_reckons 54 = .ok (.iload 4, 2) := by decide +kernel
theorem dX11_reckons_56 : decode cX11_reckons 56 = .ok (.invokevirtual 339, 3) := by decide +kernel
theorem dX11_reckons_59 : decode cX11_reckons 59 = .ok (.ireturn, 1) := by decide +kernel
theorem dX11_isHard_0 : decode cX11_isHard 0 = .ok (.aload_n 0, 1) := by decide +kernel
theorem dX11_isHard_1 : decode cX11_isHard 1 = .ok (.getfield 63, 3) := by decide +kernel
theorem dX11_isHard_4 : decode cX11_isHard 4 = .ok (.iload_n 1, 1) := by decide +kernel
theorem dX11_isHard_5 : decode cX11_isHard 5 = .ok (.invokevirtual 217, 3) := by decide +kernel
theorem dX11_isHard_8 : decode cX11_isHard 8 = .ok (.ifCond .ne 5, 3) := by decide +kernel
theorem dX11_isHard_11 : decode cX11_isHard 11 = .ok (.iconst 0, 1) := by decide +kernel
theorem dX11_isHard_12 : decode cX11_isHard 12 = .ok (.ireturn, 1) := by decide +kernel
theorem dX11_isHard_13 : decode cX11_isHard 13 = .ok (.aload_n 0, 1) := by decide +kernel
theorem dX11_isHard_14 : decode cX11_isHard 14 = .ok (.aload_n 0, 1) := by decide +kernel
theorem dX11_isHard_15 : decode cX11_isHard 15 = .ok (.getfield 63, 3) := by decide +kernel
theorem dX11_isHard_18 : decode cX11_isHard 18 = .ok (.getfield 250, 3) := by decide +kernel
theorem dX11_isHard_21 : decode cX11_isHard 21 = .ok (.iload_n 1, 1) := by decide +kernel
theorem dX11_isHard_22 : decode cX11_isHard 22 = .ok (.iaload, 1) := by decide +kernel
theorem dX11_isHard_23 : decode cX11_isHard 23 = .ok (.invokevirtual 159, 3) := by decide +kernel
theorem dX11_isHard_26 : decode cX11_isHard 26 = .ok (.astore_n 2, 1) := by decide +kernel
theorem dX11_isHard_27 : decode cX11_isHard 27 = .ok (.aload_n 2, 1) := by decide +kernel
theorem dX11_isHard_28 : decode cX11_isHard 28 = .ok (.ifnonnull 5, 3) := by decide +kernel
theorem dX11_isHard_31 : decode cX11_isHard 31 = .ok (.iconst 0, 1) := by decide +kernel
theorem dX11_isHard_32 : decode cX11_isHard 32 = .ok (.ireturn, 1) := by decide +kernel
theorem dX11_isHard_33 : decode cX11_isHard 33 = .ok (.aload_n 0, 1) := by decide +kernel
theorem dX11_isHard_34 : decode cX11_isHard 34 = .ok (.aload_n 2, 1) := by decide +kernel
theorem dX11_isHard_35 : decode cX11_isHard 35 = .ok (.aload_n 0, 1) := by decide +kernel
theorem dX11_isHard_36 : decode cX11_isHard 36 = .ok (.getfield 63, 3) := by decide +kernel
theorem dX11_isHard_39 : decode cX11_isHard 39 = .ok (.getfield 330, 3) := by decide +kernel
theorem dX11_isHard_42 : decode cX11_isHard 42 = .ok (.iload_n 1, 1) := by decide +kernel
theorem dX11_isHard_43 : decode cX11_isHard 43 = .ok (.iaload, 1) := by decide +kernel
theorem dX11_isHard_44 : decode cX11_isHard 44 = .ok (.aload_n 0, 1) := by decide +kernel
theorem dX11_isHard_45 : decode cX11_isHard 45 = .ok (.getfield 63, 3) := by decide +kernel
theorem dX11_isHard_48 : decode cX11_isHard 48 = .ok (.getfield 218, 3) := by decide +kernel
theorem dX11_isHard_51 : decode cX11_isHard 51 = .ok (.iload_n 1, 1) := by decide +kernel
theorem dX11_isHard_52 : decode cX11_isHard 52 = .ok (.iaload, 1) := by decide +kernel
theorem dX11_isHard_53 : decode cX11_isHard 53 = .ok (.aload_n 0, 1) := by decide +kernel
theorem dX11_isHard_54 : decode cX11_isHard 54 = .ok (.getfield 63, 3) := by decide +kernel
theorem dX11_isHard_57 : decode cX11_isHard 57 = .ok (.getfield 224, 3) := by decide +kernel
theorem dX11_isHard_60 : decode cX11_isHard 60 = .ok (.iload_n 1, 1) := by decide +kernel
theorem dX11_isHard_61 : decode cX11_isHard 61 = .ok (.baload, 1) := by decide +kernel
theorem dX11_isHard_62 : decode cX11_isHard 62 = .ok (.aload_n 0, 1) := by decide +kernel
theorem dX11_isHard_63 : decode cX11_isHard 63 = .ok (.getfield 63, 3) := by decide +kernel
theorem dX11_isHard_66 : decode cX11_isHard 66 = .ok (.getfield 253, 3) := by decide +kernel
theorem dX11_isHard_69 : decode cX11_isHard 69 = .ok (.iload_n 1, 1) := by decide +kernel
theorem dX11_isHard_70 : decode cX11_isHard 70 = .ok (.iaload, 1) := by decide +kernel
theorem dX11_isHard_71 : decode cX11_isHard 71 = .ok (.invokevirtual 260, 3) := by decide +kernel
theorem dX11_isHard_74 : decode cX11_isHard 74 = .ok (.istore_n 3, 1) := by decide +kernel
theorem dX11_isHard_75 : decode cX11_isHard 75 = .ok (.iload_n 3, 1) := by decide +kernel
theorem dX11_isHard_76 : decode cX11_isHard 76 = .ok (.ifCond .eq 27, 3) := by decide +kernel
theorem dX11_isHard_79 : decode cX11_isHard 79 = .ok (.aload_n 0, 1) := by decide +kernel
theorem dX11_isHard_80 : decode cX11_isHard 80 = .ok (.getfield 86, 3) := by decide +kernel
theorem dX11_isHard_83 : decode cX11_isHard 83 = .ok (.aload_n 0, 1) := by decide +kernel
theorem dX11_isHard_84 : decode cX11_isHard 84 = .ok (.getfield 63, 3) := by decide +kernel
theorem dX11_isHard_87 : decode cX11_isHard 87 = .ok (.getfield 221, 3) := by decide +kernel
theorem dX11_isHard_90 : decode cX11_isHard 90 = .ok (.iload_n 1, 1) := by decide +kernel
theorem dX11_isHard_91 : decode cX11_isHard 91 = .ok (.iaload, 1) := by decide +kernel
theorem dX11_isHard_92 : decode cX11_isHard 92 = .ok (.i2l, 1) := by decide +kernel
theorem dX11_isHard_93 : decode cX11_isHard 93 = .ok (.invokevirtual 264, 3) := by decide +kernel
theorem dX11_isHard_96 : decode cX11_isHard 96 = .ok (.ifCond .eq 7, 3) := by decide +kernel
theorem dX11_isHard_99 : decode cX11_isHard 99 = .ok (.iconst 1, 1) := by decide +kernel
theorem dX11_isHard_100 : decode cX11_isHard 100 = .ok (.goto 4, 3) := by decide +kernel
theorem dX11_isHard_103 : decode cX11_isHard 103 = .ok (.iconst 0, 1) := by decide +kernel
theorem dX11_isHard_104 : decode cX11_isHard 104 = .ok (.ireturn, 1) := by decide +kernel
theorem dX11_weighs_0 : decode cX11_weighs 0 = .ok (.aload_n 0, 1) := by decide +kernel
theorem dX11_weighs_1 : decode cX11_weighs 1 = .ok (.getfield 240, 3) := by decide +kernel
theorem dX11_weighs_4 : decode cX11_weighs 4 = .ok (.ifCond .eq 30, 3) := by decide +kernel
theorem dX11_weighs_7 : decode cX11_weighs 7 = .ok (.aload_n 0, 1) := by decide +kernel
theorem dX11_weighs_8 : decode cX11_weighs 8 = .ok (.getfield 10, 3) := by decide +kernel
theorem dX11_weighs_11 : decode cX11_weighs 11 = .ok (.iload_n 2, 1) := by decide +kernel
theorem dX11_weighs_12 : decode cX11_weighs 12 = .ok (.invokevirtual 100, 3) := by decide +kernel
theorem dX11_weighs_15 : decode cX11_weighs 15 = .ok (.ifCond .eq 19, 3) := by decide +kernel
theorem dX11_weighs_18 : decode cX11_weighs 18 = .ok (.aload_n 0, 1) := by decide +kernel
theorem dX11_weighs_19 : decode cX11_weighs 19 = .ok (.getfield 56, 3) := by decide +kernel
theorem dX11_weighs_22 : decode cX11_weighs 22 = .ok (.aload_n 1, 1) := by decide +kernel
theorem dX11_weighs_23 : decode cX11_weighs 23 = .ok (.iload_n 2, 1) := by decide +kernel
theorem dX11_weighs_24 : decode cX11_weighs 24 = .ok (.iload 5, 2) := by decide +kernel
theorem dX11_weighs_26 : decode cX11_weighs 26 = .ok (.iload 5, 2) := by decide +kernel
theorem dX11_weighs_28 : decode cX11_weighs 28 = .ok (.invokevirtual 339, 3) := by decide +kernel
theorem dX11_weighs_31 : decode cX11_weighs 31 = .ok (.ifCond .ne 5, 3) := by decide +kernel
theorem dX11_weighs_34 : decode cX11_weighs 34 = .ok (.iconst 0, 1) := by decide +kernel
theorem dX11_weighs_35 : decode cX11_weighs 35 = .ok (.ireturn, 1) := by decide +kernel
theorem dX11_weighs_36 : decode cX11_weighs 36 = .ok (.aload_n 0, 1) := by decide +kernel
theorem dX11_weighs_37 : decode cX11_weighs 37 = .ok (.getfield 56, 3) := by decide +kernel
theorem dX11_weighs_40 : decode cX11_weighs 40 = .ok (.invokevirtual 200, 3) := by decide +kernel
theorem dX11_weighs_43 : decode cX11_weighs 43 = .ok (.iload_n 3, 1) := by decide +kernel
theorem dX11_weighs_44 : decode cX11_weighs 44 = .ok (.i2l, 1) := by decide +kernel
theorem dX11_weighs_45 : decode cX11_weighs 45 = .ok (.lmul, 1) := by decide +kernel
theorem dX11_weighs_46 : decode cX11_weighs 46 = .ok (.ldc2_w 343, 3) := by decide +kernel
theorem dX11_weighs_49 : decode cX11_weighs 49 = .ok (.ldiv, 1) := by decide +kernel
theorem dX11_weighs_50 : decode cX11_weighs 50 = .ok (.lstore 6, 2) := by decide +kernel
theorem dX11_weighs_52 : decode cX11_weighs 52 = .ok (.aload_n 0, 1) := by decide +kernel
theorem dX11_weighs_53 : decode cX11_weighs 53 = .ok (.getfield 86, 3) := by decide +kernel
theorem dX11_weighs_56 : decode cX11_weighs 56 = .ok (.lload 6, 2) := by decide +kernel
theorem dX11_weighs_58 : decode cX11_weighs 58 = .ok (.iload 5, 2) := by decide +kernel
theorem dX11_weighs_60 : decode cX11_weighs 60 = .ok (.aload_n 0, 1) := by decide +kernel
theorem dX11_weighs_61 : decode cX11_weighs 61 = .ok (.getfield 10, 3) := by decide +kernel
theorem dX11_weighs_64 : decode cX11_weighs 64 = .ok (.getfield 104, 3) := by decide +kernel
theorem dX11_weighs_67 : decode cX11_weighs 67 = .ok (.iload_n 2, 1) := by decide +kernel
theorem dX11_weighs_68 : decode cX11_weighs 68 = .ok (.iaload, 1) := by decide +kernel
theorem dX11_weighs_69 : decode cX11_weighs 69 = .ok (.isub, 1) := by decide +kernel
theorem dX11_weighs_70 : decode cX11_weighs 70 = .ok (.i2l, 1) := by decide +kernel
theorem dX11_weighs_71 : decode cX11_weighs 71 = .ok (.iload 4, 2) := by decide +kernel
theorem dX11_weighs_73 : decode cX11_weighs 73 = .ok (.ifCond .eq 7, 3) := by decide +kernel
theorem dX11_weighs_76 : decode cX11_weighs 76 = .ok (.lconst 1, 1) := by decide +kernel
theorem dX11_weighs_77 : decode cX11_weighs 77 = .ok (.goto 4, 3) := by decide +kernel
theorem dX11_weighs_80 : decode cX11_weighs 80 = .ok (.lconst 0, 1) := by decide +kernel
theorem dX11_weighs_81 : decode cX11_weighs 81 = .ok (.iload_n 3, 1) := by decide +kernel
theorem dX11_weighs_82 : decode cX11_weighs 82 = .ok (.i2l, 1) := by decide +kernel
theorem dX11_weighs_83 : decode cX11_weighs 83 = .ok (.invokevirtual 345, 3) := by decide +kernel
theorem dX11_weighs_86 : decode cX11_weighs 86 = .ok (.iconst 1, 1) := by decide +kernel
theorem dX11_weighs_87 : decode cX11_weighs 87 = .ok (.ireturn, 1) := by decide +kernel
theorem dX11_gainOf_0 : decode cX11_gainOf 0 = .ok (.aload_n 0, 1) := by decide +kernel
theorem dX11_gainOf_1 : decode cX11_gainOf 1 = .ok (.iload_n 1, 1) := by decide +kernel
theorem dX11_gainOf_2 : decode cX11_gainOf 2 = .ok (.invokevirtual 159, 3) := by decide +kernel
theorem dX11_gainOf_5 : decode cX11_gainOf 5 = .ok (.astore 4, 2) := by decide +kernel
theorem dX11_gainOf_7 : decode cX11_gainOf 7 = .ok (.aload 4, 2) := by decide +kernel
theorem dX11_gainOf_9 : decode cX11_gainOf 9 = .ok (.ifnull 21, 3) := by decide +kernel
theorem dX11_gainOf_12 : decode cX11_gainOf 12 = .ok (.aload_n 0, 1) := by decide +kernel
theorem dX11_gainOf_13 : decode cX11_gainOf 13 = .ok (.getfield 10, 3) := by decide +kernel
theorem dX11_gainOf_16 : decode cX11_gainOf 16 = .ok (.iload_n 2, 1) := by decide +kernel
theorem dX11_gainOf_17 : decode cX11_gainOf 17 = .ok (.invokevirtual 100, 3) := by decide +kernel
theorem dX11_gainOf_20 : decode cX11_gainOf 20 = .ok (.ifCond .eq 10, 3) := by decide +kernel
theorem dX11_gainOf_23 : decode cX11_gainOf 23 = .ok (.iload_n 3, 1) := by decide +kernel
theorem dX11_gainOf_24 : decode cX11_gainOf 24 = .ok (.invokestatic 163, 3) := by decide +kernel
theorem dX11_gainOf_27 : decode cX11_gainOf 27 = .ok (.ifCond .ne 5, 3) := by decide +kernel
theorem dX11_gainOf_30 : decode cX11_gainOf 30 = .ok (.iconst (-1), 1) := by decide +kernel
theorem dX11_gainOf_31 : decode cX11_gainOf 31 = .ok (.ireturn, 1) := by decide +kernel
theorem dX11_gainOf_32 : decode cX11_gainOf 32 = .ok (.aload 4, 2) := by decide +kernel
theorem dX11_gainOf_34 : decode cX11_gainOf 34 = .ok (.getfield 207, 3) := by decide +kernel
theorem dX11_gainOf_37 : decode cX11_gainOf 37 = .ok (.istore 5, 2) := by decide +kernel
theorem dX11_gainOf_39 : decode cX11_gainOf 39 = .ok (.aload_n 0, 1) := by decide +kernel
theorem dX11_gainOf_40 : decode cX11_gainOf 40 = .ok (.getfield 10, 3) := by decide +kernel
theorem dX11_gainOf_43 : decode cX11_gainOf 43 = .ok (.iload 5, 2) := by decide +kernel
theorem dX11_gainOf_45 : decode cX11_gainOf 45 = .ok (.invokevirtual 100, 3) := by decide +kernel
theorem dX11_gainOf_48 : decode cX11_gainOf 48 = .ok (.ifCond .eq 16, 3) := by decide +kernel
theorem dX11_gainOf_51 : decode cX11_gainOf 51 = .ok (.aload_n 0, 1) := by decide +kernel
theorem dX11_gainOf_52 : decode cX11_gainOf 52 = .ok (.getfield 10, 3) := by decide +kernel
theorem dX11_gainOf_55 : decode cX11_gainOf 55 = .ok (.iload 5, 2) := by decide +kernel
theorem dX11_gainOf_57 : decode cX11_gainOf 57 = .ok (.iload_n 3, 1) := by decide +kernel
theorem dX11_gainOf_58 : decode cX11_gainOf 58 = .ok (.invokevirtual 210, 3) := by decide +kernel
theorem dX11_gainOf_61 : decode cX11_gainOf 61 = .ok (.ifCond .ne 5, 3) := by decide +kernel
theorem dX11_gainOf_64 : decode cX11_gainOf 64 = .ok (.iconst (-1), 1) := by decide +kernel
theorem dX11_gainOf_65 : decode cX11_gainOf 65 = .ok (.ireturn, 1) := by decide +kernel
theorem dX11_gainOf_66 : decode cX11_gainOf 66 = .ok (.aload_n 0, 1) := by decide +kernel
theorem dX11_gainOf_67 : decode cX11_gainOf 67 = .ok (.getfield 40, 3) := by decide +kernel
theorem dX11_gainOf_70 : decode cX11_gainOf 70 = .ok (.aload_n 0, 1) := by decide +kernel
theorem dX11_gainOf_71 : decode cX11_gainOf 71 = .ok (.getfield 10, 3) := by decide +kernel
theorem dX11_gainOf_74 : decode cX11_gainOf 74 = .ok (.iload_n 3, 1) := by decide +kernel
theorem dX11_gainOf_75 : decode cX11_gainOf 75 = .ok (.invokevirtual 166, 3) := by decide +kernel
theorem dX11_gainOf_78 : decode cX11_gainOf 78 = .ok (.aload_n 0, 1) := by decide +kernel
theorem dX11_gainOf_79 : decode cX11_gainOf 79 = .ok (.getfield 10, 3) := by decide +kernel
theorem dX11_gainOf_82 : decode cX11_gainOf 82 = .ok (.aload_n 0, 1) := by decide +kernel
theorem dX11_gainOf_83 : decode cX11_gainOf 83 = .ok (.getfield 10, 3) := by decide +kernel
theorem dX11_gainOf_86 : decode cX11_gainOf 86 = .ok (.getfield 112, 3) := by decide +kernel
theorem dX11_gainOf_89 : decode cX11_gainOf 89 = .ok (.iload 5, 2) := by decide +kernel
theorem dX11_gainOf_91 : decode cX11_gainOf 91 = .ok (.iaload, 1) := by decide +kernel
theorem dX11_gainOf_92 : decode cX11_gainOf 92 = .ok (.iload_n 3, 1) := by decide +kernel
theorem dX11_gainOf_93 : decode cX11_gainOf 93 = .ok (.invokevirtual 349, 3) := by decide +kernel
theorem dX11_gainOf_96 : decode cX11_gainOf 96 = .ok (.istore 6, 2) := by decide +kernel
theorem dX11_gainOf_98 : decode cX11_gainOf 98 = .ok (.aload_n 0, 1) := by decide +kernel
theorem dX11_gainOf_99 : decode cX11_gainOf 99 = .ok (.getfield 47, 3) := by decide +kernel
theorem dX11_gainOf_102 : decode cX11_gainOf 102 = .ok (.aload 4, 2) := by decide +kernel
theorem dX11_gainOf_104 : decode cX11_gainOf 104 = .ok (.aload_n 0, 1) := by decide +kernel
theorem dX11_gainOf_105 : decode cX11_gainOf 105 = .ok (.getfield 40, 3) := by decide +kernel
theorem dX11_gainOf_108 : decode cX11_gainOf 108 = .ok (.iload 6, 2) := by decide +kernel
theorem dX11_gainOf_110 : decode cX11_gainOf 110 = .ok (.aload_n 0, 1) := by decide +kernel
theorem dX11_gainOf_111 : decode cX11_gainOf 111 = .ok (.getfield 40, 3) := by decide +kernel
theorem dX11_gainOf_114 : decode cX11_gainOf 114 = .ok (.aload 4, 2) := by decide +kernel
theorem dX11_gainOf_116 : decode cX11_gainOf 116 = .ok (.invokevirtual 170, 3) := by decide +kernel
theorem dX11_gainOf_119 : decode cX11_gainOf 119 = .ok (.iand, 1) := by decide +kernel
theorem dX11_gainOf_120 : decode cX11_gainOf 120 = .ok (.invokevirtual 179, 3) := by decide +kernel
theorem dX11_gainOf_123 : decode cX11_gainOf 123 = .ok (.aload_n 0, 1) := by decide +kernel
theorem dX11_gainOf_124 : decode cX11_gainOf 124 = .ok (.getfield 47, 3) := by decide +kernel
theorem dX11_gainOf_127 : decode cX11_gainOf 127 = .ok (.iload_n 2, 1) := by decide +kernel
theorem dX11_gainOf_128 : decode cX11_gainOf 128 = .ok (.invokevirtual 183, 3) := by decide +kernel
theorem dX11_gainOf_131 : decode cX11_gainOf 131 = .ok (.ireturn, 1) := by decide +kernel
