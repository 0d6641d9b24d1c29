/-! ===== decode rows ===== -/
theorem dX12_gives_0 : decode cX12_gives 0 = .ok (.iload_n 2, 1) := by decide +kernel
theorem dX12_gives_1 : decode cX12_gives 1 = .ok (.aload_n 0, 1) := by decide +kernel
theorem dX12_gives_2 : decode cX12_gives 2 = .ok (.getfield 323, 3) := by decide +kernel
theorem dX12_gives_5 : decode cX12_gives 5 = .ok (.if_icmp .ge 7, 3) := by decide +kernel
theorem dX12_gives_8 : decode cX12_gives 8 = .ok (.iload_n 2, 1) := by decide +kernel
theorem dX12_gives_9 : decode cX12_gives 9 = .ok (.goto 7, 3) := by decide +kernel
theorem dX12_gives_12 : decode cX12_gives 12 = .ok (.aload_n 0, 1) := by decide +kernel
theorem dX12_gives_13 : decode cX12_gives 13 = .ok (.getfield 323, 3) := by decide +kernel
theorem dX12_gives_16 : decode cX12_gives 16 = .ok (.istore_n 3, 1) := by decide +kernel
theorem dX12_gives_17 : decode cX12_gives 17 = .ok (.aload_n 0, 1) := by decide +kernel
theorem dX12_gives_18 : decode cX12_gives 18 = .ok (.getfield 82, 3) := by decide +kernel
theorem dX12_gives_21 : decode cX12_gives 21 = .ok (.iload_n 1, 1) := by decide +kernel
theorem dX12_gives_22 : decode cX12_gives 22 = .ok (.dup2, 1) := by decide +kernel
theorem dX12_gives_23 : decode cX12_gives 23 = .ok (.iaload, 1) := by decide +kernel
theorem dX12_gives_24 : decode cX12_gives 24 = .ok (.iload_n 3, 1) := by decide +kernel
theorem dX12_gives_25 : decode cX12_gives 25 = .ok (.iadd, 1) := by decide +kernel
theorem dX12_gives_26 : decode cX12_gives 26 = .ok (.iastore, 1) := by decide +kernel
theorem dX12_gives_27 : decode cX12_gives 27 = .ok (.aload_n 0, 1) := by decide +kernel
theorem dX12_gives_28 : decode cX12_gives 28 = .ok (.dup, 1) := by decide +kernel
theorem dX12_gives_29 : decode cX12_gives 29 = .ok (.getfield 323, 3) := by decide +kernel
theorem dX12_gives_32 : decode cX12_gives 32 = .ok (.iload_n 3, 1) := by decide +kernel
theorem dX12_gives_33 : decode cX12_gives 33 = .ok (.isub, 1) := by decide +kernel
theorem dX12_gives_34 : decode cX12_gives 34 = .ok (.putfield 323, 3) := by decide +kernel
theorem dX12_gives_37 : decode cX12_gives 37 = .ok (.return_, 1) := by decide +kernel
theorem dX12_lets_0 : decode cX12_lets 0 = .ok (.iconst 0, 1) := by decide +kernel
theorem dX12_lets_1 : decode cX12_lets 1 = .ok (.istore_n 3, 1) := by decide +kernel
theorem dX12_lets_2 : decode cX12_lets 2 = .ok (.iload_n 3, 1) := by decide +kernel
theorem dX12_lets_3 : decode cX12_lets 3 = .ok (.bipush 16, 2) := by decide +kernel
theorem dX12_lets_5 : decode cX12_lets 5 = .ok (.if_icmp .ge 16, 3) := by decide +kernel
theorem dX12_lets_8 : decode cX12_lets 8 = .ok (.aload_n 0, 1) := by decide +kernel
theorem dX12_lets_9 : decode cX12_lets 9 = .ok (.getfield 82, 3) := by decide +kernel
theorem dX12_lets_12 : decode cX12_lets 12 = .ok (.iload_n 3, 1) := by decide +kernel
theorem dX12_lets_13 : decode cX12_lets 13 = .ok (.iconst 0, 1) := by decide +kernel
theorem dX12_lets_14 : decode cX12_lets 14 = .ok (.iastore, 1) := by decide +kernel
theorem dX12_lets_15 : decode cX12_lets 15 = .ok (.iinc 3 1, 3) := by decide +kernel
theorem dX12_lets_18 : decode cX12_lets 18 = .ok (.goto (-16), 3) := by decide +kernel
theorem dX12_lets_21 : decode cX12_lets 21 = .ok (.aload_n 0, 1) := by decide +kernel
theorem dX12_lets_22 : decode cX12_lets 22 = .ok (.aload_n 0, 1) := by decide +kernel
theorem dX12_lets_23 : decode cX12_lets 23 = .ok (.getfield 39, 3) := by decide +kernel
theorem dX12_lets_26 : decode cX12_lets 26 = .ok (.iload_n 1, 1) := by decide +kernel
theorem dX12_lets_27 : decode cX12_lets 27 = .ok (.iaload, 1) := by decide +kernel
theorem dX12_lets_28 : decode cX12_lets 28 = .ok (.putfield 323, 3) := by decide +kernel
theorem dX12_lets_31 : decode cX12_lets 31 = .ok (.bipush 8, 2) := by decide +kernel
theorem dX12_lets_33 : decode cX12_lets 33 = .ok (.iload_n 1, 1) := by decide +kernel
theorem dX12_lets_34 : decode cX12_lets 34 = .ok (.imul, 1) := by decide +kernel
theorem dX12_lets_35 : decode cX12_lets 35 = .ok (.istore_n 3, 1) := by decide +kernel
theorem dX12_lets_36 : decode cX12_lets 36 = .ok (.iload_n 3, 1) := by decide +kernel
theorem dX12_lets_37 : decode cX12_lets 37 = .ok (.bipush 8, 2) := by decide +kernel
theorem dX12_lets_39 : decode cX12_lets 39 = .ok (.iload_n 1, 1) := by decide +kernel
theorem dX12_lets_40 : decode cX12_lets 40 = .ok (.imul, 1) := by decide +kernel
theorem dX12_lets_41 : decode cX12_lets 41 = .ok (.aload_n 0, 1) := by decide +kernel
theorem dX12_lets_42 : decode cX12_lets 42 = .ok (.getfield 48, 3) := by decide +kernel
theorem dX12_lets_45 : decode cX12_lets 45 = .ok (.iload_n 1, 1) := by decide +kernel
theorem dX12_lets_46 : decode cX12_lets 46 = .ok (.iaload, 1) := by decide +kernel
theorem dX12_lets_47 : decode cX12_lets 47 = .ok (.iadd, 1) := by decide +kernel
theorem dX12_lets_48 : decode cX12_lets 48 = .ok (.if_icmp .ge 19, 3) := by decide +kernel
theorem dX12_lets_51 : decode cX12_lets 51 = .ok (.aload_n 0, 1) := by decide +kernel
theorem dX12_lets_52 : decode cX12_lets 52 = .ok (.iload_n 1, 1) := by decide +kernel
theorem dX12_lets_53 : decode cX12_lets 53 = .ok (.iload_n 3, 1) := by decide +kernel
theorem dX12_lets_54 : decode cX12_lets 54 = .ok (.iload_n 2, 1) := by decide +kernel
theorem dX12_lets_55 : decode cX12_lets 55 = .ok (.invokevirtual 326, 3) := by decide +kernel
theorem dX12_lets_58 : decode cX12_lets 58 = .ok (.ifCond .ne 9, 3) := by decide +kernel
theorem dX12_lets_61 : decode cX12_lets 61 = .ok (.iinc 3 1, 3) := by decide +kernel
theorem dX12_lets_64 : decode cX12_lets 64 = .ok (.goto (-28), 3) := by decide +kernel
theorem dX12_lets_67 : decode cX12_lets 67 = .ok (.iload_n 3, 1) := by decide +kernel
theorem dX12_lets_68 : decode cX12_lets 68 = .ok (.bipush 8, 2) := by decide +kernel
theorem dX12_lets_70 : decode cX12_lets 70 = .ok (.iload_n 1, 1) := by decide +kernel
theorem dX12_lets_71 : decode cX12_lets 71 = .ok (.imul, 1) := by decide +kernel
theorem dX12_lets_72 : decode cX12_lets 72 = .ok (.aload_n 0, 1) := by decide +kernel
theorem dX12_lets_73 : decode cX12_lets 73 = .ok (.getfield 48, 3) := by decide +kernel
theorem dX12_lets_76 : decode cX12_lets 76 = .ok (.iload_n 1, 1) := by decide +kernel
theorem dX12_lets_77 : decode cX12_lets 77 = .ok (.iaload, 1) := by decide +kernel
theorem dX12_lets_78 : decode cX12_lets 78 = .ok (.iadd, 1) := by decide +kernel
theorem dX12_lets_79 : decode cX12_lets 79 = .ok (.if_icmp .ne 4, 3) := by decide +kernel
theorem dX12_lets_82 : decode cX12_lets 82 = .ok (.return_, 1) := by decide +kernel
theorem dX12_lets_83 : decode cX12_lets 83 = .ok (.iconst 4, 1) := by decide +kernel
theorem dX12_lets_84 : decode cX12_lets 84 = .ok (.iload_n 3, 1) := by decide +kernel
theorem dX12_lets_85 : decode cX12_lets 85 = .ok (.imul, 1) := by decide +kernel
theorem dX12_lets_86 : decode cX12_lets 86 = .ok (.istore 4, 2) := by decide +kernel
theorem dX12_lets_88 : decode cX12_lets 88 = .ok (.iload 4, 2) := by decide +kernel
theorem dX12_lets_90 : decode cX12_lets 90 = .ok (.iconst 4, 1) := by decide +kernel
theorem dX12_lets_91 : decode cX12_lets 91 = .ok (.iload_n 3, 1) := by decide +kernel
theorem dX12_lets_92 : decode cX12_lets 92 = .ok (.imul, 1) := by decide +kernel
theorem dX12_lets_93 : decode cX12_lets 93 = .ok (.aload_n 0, 1) := by decide +kernel
theorem dX12_lets_94 : decode cX12_lets 94 = .ok (.getfield 51, 3) := by decide +kernel
theorem dX12_lets_97 : decode cX12_lets 97 = .ok (.iload_n 3, 1) := by decide +kernel
theorem dX12_lets_98 : decode cX12_lets 98 = .ok (.iaload, 1) := by decide +kernel
theorem dX12_lets_99 : decode cX12_lets 99 = .ok (.iadd, 1) := by decide +kernel
theorem dX12_lets_100 : decode cX12_lets 100 = .ok (.if_icmp .ge 113, 3) := by decide +kernel
theorem dX12_lets_103 : decode cX12_lets 103 = .ok (.aload_n 0, 1) := by decide +kernel
theorem dX12_lets_104 : decode cX12_lets 104 = .ok (.getfield 39, 3) := by decide +kernel
theorem dX12_lets_107 : decode cX12_lets 107 = .ok (.iload_n 1, 1) := by decide +kernel
theorem dX12_lets_108 : decode cX12_lets 108 = .ok (.iaload, 1) := by decide +kernel
theorem dX12_lets_109 : decode cX12_lets 109 = .ok (.aload_n 0, 1) := by decide +kernel
theorem dX12_lets_110 : decode cX12_lets 110 = .ok (.getfield 67, 3) := by decide +kernel
theorem dX12_lets_113 : decode cX12_lets 113 = .ok (.iload 4, 2) := by decide +kernel
theorem dX12_lets_115 : decode cX12_lets 115 = .ok (.iaload, 1) := by decide +kernel
theorem dX12_lets_116 : decode cX12_lets 116 = .ok (.idiv, 1) := by decide +kernel
theorem dX12_lets_117 : decode cX12_lets 117 = .ok (.istore 5, 2) := by decide +kernel
theorem dX12_lets_119 : decode cX12_lets 119 = .ok (.aload_n 0, 1) := by decide +kernel
theorem dX12_lets_120 : decode cX12_lets 120 = .ok (.getfield 60, 3) := by decide +kernel
theorem dX12_lets_123 : decode cX12_lets 123 = .ok (.iload 4, 2) := by decide +kernel
theorem dX12_lets_125 : decode cX12_lets 125 = .ok (.baload, 1) := by decide +kernel
theorem dX12_lets_126 : decode cX12_lets 126 = .ok (.ifCond .eq 22, 3) := by decide +kernel
theorem dX12_lets_129 : decode cX12_lets 129 = .ok (.aload_n 0, 1) := by decide +kernel
theorem dX12_lets_130 : decode cX12_lets 130 = .ok (.aload_n 0, 1) := by decide +kernel
theorem dX12_lets_131 : decode cX12_lets 131 = .ok (.getfield 64, 3) := by decide +kernel
theorem dX12_lets_134 : decode cX12_lets 134 = .ok (.iload 4, 2) := by decide +kernel
theorem dX12_lets_136 : decode cX12_lets 136 = .ok (.iaload, 1) := by decide +kernel
theorem dX12_lets_137 : decode cX12_lets 137 = .ok (.sipush 1999, 3) := by decide +kernel
theorem dX12_lets_140 : decode cX12_lets 140 = .ok (.invokevirtual 305, 3) := by decide +kernel
theorem dX12_lets_143 : decode cX12_lets 143 = .ok (.iload_n 2, 1) := by decide +kernel
theorem dX12_lets_144 : decode cX12_lets 144 = .ok (.iand, 1) := by decide +kernel
theorem dX12_lets_145 : decode cX12_lets 145 = .ok (.goto 14, 3) := by decide +kernel
theorem dX12_lets_148 : decode cX12_lets 148 = .ok (.iload_n 2, 1) := by decide +kernel
theorem dX12_lets_149 : decode cX12_lets 149 = .ok (.iconst 1, 1) := by decide +kernel
theorem dX12_lets_150 : decode cX12_lets 150 = .ok (.aload_n 0, 1) := by decide +kernel
theorem dX12_lets_151 : decode cX12_lets 151 = .ok (.getfield 64, 3) := by decide +kernel
theorem dX12_lets_154 : decode cX12_lets 154 = .ok (.iload 4, 2) := by decide +kernel
theorem dX12_lets_156 : decode cX12_lets 156 = .ok (.iaload, 1) := by decide +kernel
theorem dX12_lets_157 : decode cX12_lets 157 = .ok (.ishl, 1) := by decide +kernel
theorem dX12_lets_158 : decode cX12_lets 158 = .ok (.iand, 1) := by decide +kernel
theorem dX12_lets_159 : decode cX12_lets 159 = .ok (.istore 6, 2) := by decide +kernel
theorem dX12_lets_161 : decode cX12_lets 161 = .ok (.iload 6, 2) := by decide +kernel
theorem dX12_lets_163 : decode cX12_lets 163 = .ok (.invokestatic 317, 3) := by decide +kernel
theorem dX12_lets_166 : decode cX12_lets 166 = .ok (.istore 7, 2) := by decide +kernel
theorem dX12_lets_168 : decode cX12_lets 168 = .ok (.iconst 0, 1) := by decide +kernel
theorem dX12_lets_169 : decode cX12_lets 169 = .ok (.istore 8, 2) := by decide +kernel
theorem dX12_lets_171 : decode cX12_lets 171 = .ok (.iload 8, 2) := by decide +kernel
theorem dX12_lets_173 : decode cX12_lets 173 = .ok (.aload_n 0, 1) := by decide +kernel
theorem dX12_lets_174 : decode cX12_lets 174 = .ok (.getfield 160, 3) := by decide +kernel
theorem dX12_lets_177 : decode cX12_lets 177 = .ok (.if_icmp .ge 30, 3) := by decide +kernel
theorem dX12_lets_180 : decode cX12_lets 180 = .ok (.iload 6, 2) := by decide +kernel
theorem dX12_lets_182 : decode cX12_lets 182 = .ok (.iload 8, 2) := by decide +kernel
theorem dX12_lets_184 : decode cX12_lets 184 = .ok (.invokestatic 320, 3) := by decide +kernel
theorem dX12_lets_187 : decode cX12_lets 187 = .ok (.ifCond .eq 14, 3) := by decide +kernel
theorem dX12_lets_190 : decode cX12_lets 190 = .ok (.aload_n 0, 1) := by decide +kernel
theorem dX12_lets_191 : decode cX12_lets 191 = .ok (.iload 8, 2) := by decide +kernel
theorem dX12_lets_193 : decode cX12_lets 193 = .ok (.iload 5, 2) := by decide +kernel
theorem dX12_lets_195 : decode cX12_lets 195 = .ok (.iload 7, 2) := by decide +kernel
theorem dX12_lets_197 : decode cX12_lets 197 = .ok (.idiv, 1) := by decide +kernel
theorem dX12_lets_198 : decode cX12_lets 198 = .ok (.invokevirtual 330, 3) := by decide +kernel
theorem dX12_lets_201 : decode cX12_lets 201 = .ok (.iinc 8 1, 3) := by decide +kernel
theorem dX12_lets_204 : decode cX12_lets 204 = .ok (.goto (-33), 3) := by decide +kernel
theorem dX12_lets_207 : decode cX12_lets 207 = .ok (.iinc 4 1, 3) := by decide +kernel
theorem dX12_lets_210 : decode cX12_lets 210 = .ok (.goto (-122), 3) := by decide +kernel
theorem dX12_lets_213 : decode cX12_lets 213 = .ok (.return_, 1) := by decide +kernel
theorem dX12_falls_0 : decode cX12_falls 0 = .ok (.aload_n 0, 1) := by decide +kernel
theorem dX12_falls_1 : decode cX12_falls 1 = .ok (.iload_n 1, 1) := by decide +kernel
theorem dX12_falls_2 : decode cX12_falls 2 = .ok (.invokevirtual 308, 3) := by decide +kernel
theorem dX12_falls_5 : decode cX12_falls 5 = .ok (.ifCond .eq 29, 3) := by decide +kernel
theorem dX12_falls_8 : decode cX12_falls 8 = .ok (.aload_n 0, 1) := by decide +kernel
theorem dX12_falls_9 : decode cX12_falls 9 = .ok (.iload_n 3, 1) := by decide +kernel
theorem dX12_falls_10 : decode cX12_falls 10 = .ok (.invokevirtual 165, 3) := by decide +kernel
theorem dX12_falls_13 : decode cX12_falls 13 = .ok (.ifCond .eq 21, 3) := by decide +kernel
theorem dX12_falls_16 : decode cX12_falls 16 = .ok (.iload_n 2, 1) := by decide +kernel
theorem dX12_falls_17 : decode cX12_falls 17 = .ok (.i2l, 1) := by decide +kernel
theorem dX12_falls_18 : decode cX12_falls 18 = .ok (.lconst 0, 1) := by decide +kernel
theorem dX12_falls_19 : decode cX12_falls 19 = .ok (.iconst 1, 1) := by decide +kernel
theorem dX12_falls_20 : decode cX12_falls 20 = .ok (.aload_n 0, 1) := by decide +kernel
theorem dX12_falls_21 : decode cX12_falls 21 = .ok (.getfield 160, 3) := by decide +kernel
theorem dX12_falls_24 : decode cX12_falls 24 = .ok (.ishl, 1) := by decide +kernel
theorem dX12_falls_25 : decode cX12_falls 25 = .ok (.iconst 1, 1) := by decide +kernel
theorem dX12_falls_26 : decode cX12_falls 26 = .ok (.isub, 1) := by decide +kernel
theorem dX12_falls_27 : decode cX12_falls 27 = .ok (.i2l, 1) := by decide +kernel
theorem dX12_falls_28 : decode cX12_falls 28 = .ok (.invokestatic 156, 3) := by decide +kernel
theorem dX12_falls_31 : decode cX12_falls 31 = .ok (.ifCond .ne 5, 3) := by decide +kernel
theorem dX12_falls_34 : decode cX12_falls 34 = .ok (.iconst (-1), 1) := by decide +kernel
theorem dX12_falls_35 : decode cX12_falls 35 = .ok (.ireturn, 1) := by decide +kernel
theorem dX12_falls_36 : decode cX12_falls 36 = .ok (.aload_n 0, 1) := by decide +kernel
theorem dX12_falls_37 : decode cX12_falls 37 = .ok (.iload_n 1, 1) := by decide +kernel
theorem dX12_falls_38 : decode cX12_falls 38 = .ok (.iload_n 2, 1) := by decide +kernel
theorem dX12_falls_39 : decode cX12_falls 39 = .ok (.aload_n 0, 1) := by decide +kernel
theorem dX12_falls_40 : decode cX12_falls 40 = .ok (.iload_n 1, 1) := by decide +kernel
theorem dX12_falls_41 : decode cX12_falls 41 = .ok (.aload_n 0, 1) := by decide +kernel
theorem dX12_falls_42 : decode cX12_falls 42 = .ok (.getfield 13, 3) := by decide +kernel
theorem dX12_falls_45 : decode cX12_falls 45 = .ok (.invokevirtual 314, 3) := by decide +kernel
theorem dX12_falls_48 : decode cX12_falls 48 = .ok (.iand, 1) := by decide +kernel
theorem dX12_falls_49 : decode cX12_falls 49 = .ok (.invokevirtual 333, 3) := by decide +kernel
theorem dX12_falls_52 : decode cX12_falls 52 = .ok (.aload_n 0, 1) := by decide +kernel
theorem dX12_falls_53 : decode cX12_falls 53 = .ok (.getfield 82, 3) := by decide +kernel
theorem dX12_falls_56 : decode cX12_falls 56 = .ok (.iload_n 3, 1) := by decide +kernel
theorem dX12_falls_57 : decode cX12_falls 57 = .ok (.iaload, 1) := by decide +kernel
theorem dX12_falls_58 : decode cX12_falls 58 = .ok (.ireturn, 1) := by decide +kernel
theorem dX12_isReckoned_0 : decode cX12_isReckoned 0 = .ok (.aload_n 0, 1) := by decide +kernel
theorem dX12_isReckoned_1 : decode cX12_isReckoned 1 = .ok (.getfield 42, 3) := by decide +kernel
theorem dX12_isReckoned_4 : decode cX12_isReckoned 4 = .ok (.iload_n 1, 1) := by decide +kernel
theorem dX12_isReckoned_5 : decode cX12_isReckoned 5 = .ok (.iaload, 1) := by decide +kernel
theorem dX12_isReckoned_6 : decode cX12_isReckoned 6 = .ok (.istore 4, 2) := by decide +kernel
theorem dX12_isReckoned_8 : decode cX12_isReckoned 8 = .ok (.aload_n 0, 1) := by decide +kernel
theorem dX12_isReckoned_9 : decode cX12_isReckoned 9 = .ok (.iload 4, 2) := by decide +kernel
theorem dX12_isReckoned_11 : decode cX12_isReckoned 11 = .ok (.iload_n 2, 1) := by decide +kernel
theorem dX12_isReckoned_12 : decode cX12_isReckoned 12 = .ok (.invokevirtual 301, 3) := by decide +kernel
theorem dX12_isReckoned_15 : decode cX12_isReckoned 15 = .ok (.ifCond .eq 13, 3) := by decide +kernel
theorem dX12_isReckoned_18 : decode cX12_isReckoned 18 = .ok (.aload_n 0, 1) := by decide +kernel
theorem dX12_isReckoned_19 : decode cX12_isReckoned 19 = .ok (.iload 4, 2) := by decide +kernel
theorem dX12_isReckoned_21 : decode cX12_isReckoned 21 = .ok (.iload_n 2, 1) := by decide +kernel
theorem dX12_isReckoned_22 : decode cX12_isReckoned 22 = .ok (.invokevirtual 336, 3) := by decide +kernel
theorem dX12_isReckoned_25 : decode cX12_isReckoned 25 = .ok (.ifCond .eq 5, 3) := by decide +kernel
theorem dX12_isReckoned_28 : decode cX12_isReckoned 28 = .ok (.iconst 0, 1) := by decide +kernel
theorem dX12_isReckoned_29 : decode cX12_isReckoned 29 = .ok (.ireturn, 1) := by decide +kernel
theorem dX12_isReckoned_30 : decode cX12_isReckoned 30 = .ok (.aload_n 0, 1) := by decide +kernel
theorem dX12_isReckoned_31 : decode cX12_isReckoned 31 = .ok (.iload_n 1, 1) := by decide +kernel
theorem dX12_isReckoned_32 : decode cX12_isReckoned 32 = .ok (.iload_n 2, 1) := by decide +kernel
theorem dX12_isReckoned_33 : decode cX12_isReckoned 33 = .ok (.invokevirtual 314, 3) := by decide +kernel
theorem dX12_isReckoned_36 : decode cX12_isReckoned 36 = .ok (.istore 5, 2) := by decide +kernel
theorem dX12_isReckoned_38 : decode cX12_isReckoned 38 = .ok (.aload_n 0, 1) := by decide +kernel
theorem dX12_isReckoned_39 : decode cX12_isReckoned 39 = .ok (.iconst 0, 1) := by decide +kernel
theorem dX12_isReckoned_40 : decode cX12_isReckoned 40 = .ok (.putfield 339, 3) := by decide +kernel
theorem dX12_isReckoned_43 : decode cX12_isReckoned 43 = .ok (.aload_n 0, 1) := by decide +kernel
theorem dX12_isReckoned_44 : decode cX12_isReckoned 44 = .ok (.aload_n 0, 1) := by decide +kernel
theorem dX12_isReckoned_45 : decode cX12_isReckoned 45 = .ok (.aload_n 0, 1) := by decide +kernel
theorem dX12_isReckoned_46 : decode cX12_isReckoned 46 = .ok (.getfield 45, 3) := by decide +kernel
theorem dX12_isReckoned_49 : decode cX12_isReckoned 49 = .ok (.iload_n 1, 1) := by decide +kernel
theorem dX12_isReckoned_50 : decode cX12_isReckoned 50 = .ok (.iaload, 1) := by decide +kernel
theorem dX12_isReckoned_51 : decode cX12_isReckoned 51 = .ok (.iload_n 3, 1) := by decide +kernel
theorem dX12_isReckoned_52 : decode cX12_isReckoned 52 = .ok (.aload_n 0, 1) := by decide +kernel
theorem dX12_isReckoned_53 : decode cX12_isReckoned 53 = .ok (.getfield 20, 3) := by decide +kernel
theorem dX12_isReckoned_56 : decode cX12_isReckoned 56 = .ok (.iload 4, 2) := by decide +kernel
theorem dX12_isReckoned_58 : decode cX12_isReckoned 58 = .ok (.iaload, 1) := by decide +kernel
theorem dX12_isReckoned_59 : decode cX12_isReckoned 59 = .ok (.isub, 1) := by decide +kernel
theorem dX12_isReckoned_60 : decode cX12_isReckoned 60 = .ok (.invokevirtual 177, 3) := by decide +kernel
theorem dX12_isReckoned_63 : decode cX12_isReckoned 63 = .ok (.i2l, 1) := by decide +kernel
theorem dX12_isReckoned_64 : decode cX12_isReckoned 64 = .ok (.putfield 342, 3) := by decide +kernel
theorem dX12_isReckoned_67 : decode cX12_isReckoned 67 = .ok (.iconst 0, 1) := by decide +kernel
theorem dX12_isReckoned_68 : decode cX12_isReckoned 68 = .ok (.istore 6, 2) := by decide +kernel
theorem dX12_isReckoned_70 : decode cX12_isReckoned 70 = .ok (.iload 6, 2) := by decide +kernel
theorem dX12_isReckoned_72 : decode cX12_isReckoned 72 = .ok (.aload_n 0, 1) := by decide +kernel
theorem dX12_isReckoned_73 : decode cX12_isReckoned 73 = .ok (.getfield 160, 3) := by decide +kernel
theorem dX12_isReckoned_76 : decode cX12_isReckoned 76 = .ok (.if_icmp .ge 92, 3) := by decide +kernel
theorem dX12_isReckoned_79 : decode cX12_isReckoned 79 = .ok (.iload 5, 2) := by decide +kernel
theorem dX12_isReckoned_81 : decode cX12_isReckoned 81 = .ok (.iload 6, 2) := by decide +kernel
theorem dX12_isReckoned_83 : decode cX12_isReckoned 83 = .ok (.invokestatic 320, 3) := by decide +kernel
theorem dX12_isReckoned_86 : decode cX12_isReckoned 86 = .ok (.ifCond .eq 76, 3) := by decide +kernel
theorem dX12_isReckoned_89 : decode cX12_isReckoned 89 = .ok (.aload_n 0, 1) := by decide +kernel
theorem dX12_isReckoned_90 : decode cX12_isReckoned 90 = .ok (.iload 6, 2) := by decide +kernel
theorem dX12_isReckoned_92 : decode cX12_isReckoned 92 = .ok (.iload_n 2, 1) := by decide +kernel
theorem dX12_isReckoned_93 : decode cX12_isReckoned 93 = .ok (.invokevirtual 336, 3) := by decide +kernel
theorem dX12_isReckoned_96 : decode cX12_isReckoned 96 = .ok (.ifCond .eq 6, 3) := by decide +kernel
theorem dX12_isReckoned_99 : decode cX12_isReckoned 99 = .ok (.goto 63, 3) := by decide +kernel
theorem dX12_isReckoned_102 : decode cX12_isReckoned 102 = .ok (.aload_n 0, 1) := by decide +kernel
theorem dX12_isReckoned_103 : decode cX12_isReckoned 103 = .ok (.getfield 339, 3) := by decide +kernel
theorem dX12_isReckoned_106 : decode cX12_isReckoned 106 = .ok (.iconst 4, 1) := by decide +kernel
theorem dX12_isReckoned_107 : decode cX12_isReckoned 107 = .ok (.if_icmp .ne 5, 3) := by decide +kernel
theorem dX12_isReckoned_110 : decode cX12_isReckoned 110 = .ok (.iconst 0, 1) := by decide +kernel
theorem dX12_isReckoned_111 : decode cX12_isReckoned 111 = .ok (.ireturn, 1) := by decide +kernel
theorem dX12_isReckoned_112 : decode cX12_isReckoned 112 = .ok (.aload_n 0, 1) := by decide +kernel
theorem dX12_isReckoned_113 : decode cX12_isReckoned 113 = .ok (.getfield 85, 3) := by decide +kernel
theorem dX12_isReckoned_116 : decode cX12_isReckoned 116 = .ok (.aload_n 0, 1) := by decide +kernel
theorem dX12_isReckoned_117 : decode cX12_isReckoned 117 = .ok (.getfield 339, 3) := by decide +kernel
theorem dX12_isReckoned_120 : decode cX12_isReckoned 120 = .ok (.iload 6, 2) := by decide +kernel
theorem dX12_isReckoned_122 : decode cX12_isReckoned 122 = .ok (.iastore, 1) := by decide +kernel
theorem dX12_isReckoned_123 : decode cX12_isReckoned 123 = .ok (.aload_n 0, 1) := by decide +kernel
theorem dX12_isReckoned_124 : decode cX12_isReckoned 124 = .ok (.dup, 1) := by decide +kernel
theorem dX12_isReckoned_125 : decode cX12_isReckoned 125 = .ok (.getfield 339, 3) := by decide +kernel
theorem dX12_isReckoned_128 : decode cX12_isReckoned 128 = .ok (.iconst 1, 1) := by decide +kernel
theorem dX12_isReckoned_129 : decode cX12_isReckoned 129 = .ok (.iadd, 1) := by decide +kernel
theorem dX12_isReckoned_130 : decode cX12_isReckoned 130 = .ok (.putfield 339, 3) := by decide +kernel
theorem dX12_isReckoned_133 : decode cX12_isReckoned 133 = .ok (.aload_n 0, 1) := by decide +kernel
theorem dX12_isReckoned_134 : decode cX12_isReckoned 134 = .ok (.dup, 1) := by decide +kernel
theorem dX12_isReckoned_135 : decode cX12_isReckoned 135 = .ok (.getfield 342, 3) := by decide +kernel
theorem dX12_isReckoned_138 : decode cX12_isReckoned 138 = .ok (.aload_n 0, 1) := by decide +kernel
theorem dX12_isReckoned_139 : decode cX12_isReckoned 139 = .ok (.aload_n 0, 1) := by decide +kernel
theorem dX12_isReckoned_140 : decode cX12_isReckoned 140 = .ok (.getfield 45, 3) := by decide +kernel
theorem dX12_isReckoned_143 : decode cX12_isReckoned 143 = .ok (.iload_n 1, 1) := by decide +kernel
theorem dX12_isReckoned_144 : decode cX12_isReckoned 144 = .ok (.iaload, 1) := by decide +kernel
theorem dX12_isReckoned_145 : decode cX12_isReckoned 145 = .ok (.iload_n 3, 1) := by decide +kernel
theorem dX12_isReckoned_146 : decode cX12_isReckoned 146 = .ok (.aload_n 0, 1) := by decide +kernel
theorem dX12_isReckoned_147 : decode cX12_isReckoned 147 = .ok (.getfield 20, 3) := by decide +kernel
theorem dX12_isReckoned_150 : decode cX12_isReckoned 150 = .ok (.iload 6, 2) := by decide +kernel
theorem dX12_isReckoned_152 : decode cX12_isReckoned 152 = .ok (.iaload, 1) := by decide +kernel
theorem dX12_isReckoned_153 : decode cX12_isReckoned 153 = .ok (.isub, 1) := by decide +kernel
theorem dX12_isReckoned_154 : decode cX12_isReckoned 154 = .ok (.invokevirtual 177, 3) := by decide +kernel
theorem dX12_isReckoned_157 : decode cX12_isReckoned 157 = .ok (.i2l, 1) := by decide +kernel
theorem dX12_isReckoned_158 : decode cX12_isReckoned 158 = .ok (.lmul, 1) := by decide +kernel
theorem dX12_isReckoned_159 : decode cX12_isReckoned 159 = .ok (.putfield 342, 3) := by decide +kernel
theorem dX12_isReckoned_162 : decode cX12_isReckoned 162 = .ok (.iinc 6 1, 3) := by decide +kernel
theorem dX12_isReckoned_165 : decode cX12_isReckoned 165 = .ok (.goto (-95), 3) := by decide +kernel
theorem dX12_isReckoned_168 : decode cX12_isReckoned 168 = .ok (.aload_n 0, 1) := by decide +kernel
theorem dX12_isReckoned_169 : decode cX12_isReckoned 169 = .ok (.getfield 342, 3) := by decide +kernel
theorem dX12_isReckoned_172 : decode cX12_isReckoned 172 = .ok (.lconst 0, 1) := by decide +kernel
theorem dX12_isReckoned_173 : decode cX12_isReckoned 173 = .ok (.lcmp, 1) := by decide +kernel
theorem dX12_isReckoned_174 : decode cX12_isReckoned 174 = .ok (.ifCond .le 7, 3) := by decide +kernel
theorem dX12_isReckoned_177 : decode cX12_isReckoned 177 = .ok (.iconst 1, 1) := by decide +kernel
theorem dX12_isReckoned_178 : decode cX12_isReckoned 178 = .ok (.goto 4, 3) := by decide +kernel
theorem dX12_isReckoned_181 : decode cX12_isReckoned 181 = .ok (.iconst 0, 1) := by decide +kernel
theorem dX12_isReckoned_182 : decode cX12_isReckoned 182 = .ok (.ireturn, 1) := by decide +kernel
theorem dX12_aliveOf_0 : decode cX12_aliveOf 0 = .ok (.iconst 0, 1) := by decide +kernel
theorem dX12_aliveOf_1 : decode cX12_aliveOf 1 = .ok (.istore_n 2, 1) := by decide +kernel
theorem dX12_aliveOf_2 : decode cX12_aliveOf 2 = .ok (.iconst 0, 1) := by decide +kernel
theorem dX12_aliveOf_3 : decode cX12_aliveOf 3 = .ok (.istore_n 3, 1) := by decide +kernel
theorem dX12_aliveOf_4 : decode cX12_aliveOf 4 = .ok (.iload_n 3, 1) := by decide +kernel
theorem dX12_aliveOf_5 : decode cX12_aliveOf 5 = .ok (.aload_n 0, 1) := by decide +kernel
theorem dX12_aliveOf_6 : decode cX12_aliveOf 6 = .ok (.getfield 339, 3) := by decide +kernel
theorem dX12_aliveOf_9 : decode cX12_aliveOf 9 = .ok (.if_icmp .ge 32, 3) := by decide +kernel
theorem dX12_aliveOf_12 : decode cX12_aliveOf 12 = .ok (.iload_n 2, 1) := by decide +kernel
theorem dX12_aliveOf_13 : decode cX12_aliveOf 13 = .ok (.iload_n 1, 1) := by decide +kernel
theorem dX12_aliveOf_14 : decode cX12_aliveOf 14 = .ok (.iload_n 3, 1) := by decide +kernel
theorem dX12_aliveOf_15 : decode cX12_aliveOf 15 = .ok (.invokestatic 320, 3) := by decide +kernel
theorem dX12_aliveOf_18 : decode cX12_aliveOf 18 = .ok (.ifCond .eq 14, 3) := by decide +kernel
theorem dX12_aliveOf_21 : decode cX12_aliveOf 21 = .ok (.iconst 1, 1) := by decide +kernel
theorem dX12_aliveOf_22 : decode cX12_aliveOf 22 = .ok (.aload_n 0, 1) := by decide +kernel
theorem dX12_aliveOf_23 : decode cX12_aliveOf 23 = .ok (.getfield 85, 3) := by decide +kernel
theorem dX12_aliveOf_26 : decode cX12_aliveOf 26 = .ok (.iload_n 3, 1) := by decide +kernel
theorem dX12_aliveOf_27 : decode cX12_aliveOf 27 = .ok (.iaload, 1) := by decide +kernel
theorem dX12_aliveOf_28 : decode cX12_aliveOf 28 = .ok (.ishl, 1) := by decide +kernel
theorem dX12_aliveOf_29 : decode cX12_aliveOf 29 = .ok (.goto 4, 3) := by decide +kernel
theorem dX12_aliveOf_32 : decode cX12_aliveOf 32 = .ok (.iconst 0, 1) := by decide +kernel
theorem dX12_aliveOf_33 : decode cX12_aliveOf 33 = .ok (.ior, 1) := by decide +kernel
theorem dX12_aliveOf_34 : decode cX12_aliveOf 34 = .ok (.istore_n 2, 1) := by decide +kernel
theorem dX12_aliveOf_35 : decode cX12_aliveOf 35 = .ok (.iinc 3 1, 3) := by decide +kernel
theorem dX12_aliveOf_38 : decode cX12_aliveOf 38 = .ok (.goto (-34), 3) := by decide +kernel
theorem dX12_aliveOf_41 : decode cX12_aliveOf 41 = .ok (.iload_n 2, 1) := by decide +kernel
theorem dX12_aliveOf_42 : decode cX12_aliveOf 42 = .ok (.ireturn, 1) := by decide +kernel
theorem dX12_weightOf_0 : decode cX12_weightOf 0 = .ok (.aload_n 0, 1) := by decide +kernel
theorem dX12_weightOf_1 : decode cX12_weightOf 1 = .ok (.getfield 45, 3) := by decide +kernel
theorem dX12_weightOf_4 : decode cX12_weightOf 4 = .ok (.iload_n 1, 1) := by decide +kernel
theorem dX12_weightOf_5 : decode cX12_weightOf 5 = .ok (.iaload, 1) := by decide +kernel
theorem dX12_weightOf_6 : decode cX12_weightOf 6 = .ok (.istore 5, 2) := by decide +kernel
theorem dX12_weightOf_8 : decode cX12_weightOf 8 = .ok (.iload_n 2, 1) := by decide +kernel
theorem dX12_weightOf_9 : decode cX12_weightOf 9 = .ok (.aload_n 0, 1) := by decide +kernel
theorem dX12_weightOf_10 : decode cX12_weightOf 10 = .ok (.getfield 20, 3) := by decide +kernel
theorem dX12_weightOf_13 : decode cX12_weightOf 13 = .ok (.aload_n 0, 1) := by decide +kernel
theorem dX12_weightOf_14 : decode cX12_weightOf 14 = .ok (.getfield 42, 3) := by decide +kernel
theorem dX12_weightOf_17 : decode cX12_weightOf 17 = .ok (.iload_n 1, 1) := by decide +kernel
theorem dX12_weightOf_18 : decode cX12_weightOf 18 = .ok (.iaload, 1) := by decide +kernel
theorem dX12_weightOf_19 : decode cX12_weightOf 19 = .ok (.iaload, 1) := by decide +kernel
theorem dX12_weightOf_20 : decode cX12_weightOf 20 = .ok (.isub, 1) := by decide +kernel
theorem dX12_weightOf_21 : decode cX12_weightOf 21 = .ok (.iload_n 3, 1) := by decide +kernel
theorem dX12_weightOf_22 : decode cX12_weightOf 22 = .ok (.iadd, 1) := by decide +kernel
theorem dX12_weightOf_23 : decode cX12_weightOf 23 = .ok (.istore 6, 2) := by decide +kernel
theorem dX12_weightOf_25 : decode cX12_weightOf 25 = .ok (.aload_n 0, 1) := by decide +kernel
theorem dX12_weightOf_26 : decode cX12_weightOf 26 = .ok (.iload 5, 2) := by decide +kernel
theorem dX12_weightOf_28 : decode cX12_weightOf 28 = .ok (.iload 6, 2) := by decide +kernel
theorem dX12_weightOf_30 : decode cX12_weightOf 30 = .ok (.invokevirtual 177, 3) := by decide +kernel
theorem dX12_weightOf_33 : decode cX12_weightOf 33 = .ok (.aload_n 0, 1) := by decide +kernel
theorem dX12_weightOf_34 : decode cX12_weightOf 34 = .ok (.iload 5, 2) := by decide +kernel
theorem dX12_weightOf_36 : decode cX12_weightOf 36 = .ok (.iload 6, 2) := by decide +kernel
theorem dX12_weightOf_38 : decode cX12_weightOf 38 = .ok (.iconst 1, 1) := by decide +kernel
theorem dX12_weightOf_39 : decode cX12_weightOf 39 = .ok (.iadd, 1) := by decide +kernel
theorem dX12_weightOf_40 : decode cX12_weightOf 40 = .ok (.invokevirtual 177, 3) := by decide +kernel
theorem dX12_weightOf_43 : decode cX12_weightOf 43 = .ok (.isub, 1) := by decide +kernel
theorem dX12_weightOf_44 : decode cX12_weightOf 44 = .ok (.i2l, 1) := by decide +kernel
theorem dX12_weightOf_45 : decode cX12_weightOf 45 = .ok (.lstore 7, 2) := by decide +kernel
theorem dX12_weightOf_47 : decode cX12_weightOf 47 = .ok (.iconst 0, 1) := by decide +kernel
theorem dX12_weightOf_48 : decode cX12_weightOf 48 = .ok (.istore 9, 2) := by decide +kernel
theorem dX12_weightOf_50 : decode cX12_weightOf 50 = .ok (.iload 9, 2) := by decide +kernel
theorem dX12_weightOf_52 : decode cX12_weightOf 52 = .ok (.aload_n 0, 1) := by decide +kernel
theorem dX12_weightOf_53 : decode cX12_weightOf 53 = .ok (.getfield 339, 3) := by decide +kernel
theorem dX12_weightOf_56 : decode cX12_weightOf 56 = .ok (.if_icmp .ge 72, 3) := by decide +kernel
theorem dX12_weightOf_59 : decode cX12_weightOf 59 = .ok (.iload_n 2, 1) := by decide +kernel
theorem dX12_weightOf_60 : decode cX12_weightOf 60 = .ok (.aload_n 0, 1) := by decide +kernel
theorem dX12_weightOf_61 : decode cX12_weightOf 61 = .ok (.getfield 20, 3) := by decide +kernel
theorem dX12_weightOf_64 : decode cX12_weightOf 64 = .ok (.aload_n 0, 1) := by decide +kernel
theorem dX12_weightOf_65 : decode cX12_weightOf 65 = .ok (.getfield 85, 3) := by decide +kernel
theorem dX12_weightOf_68 : decode cX12_weightOf 68 = .ok (.iload 9, 2) := by decide +kernel
theorem dX12_weightOf_70 : decode cX12_weightOf 70 = .ok (.iaload, 1) := by decide +kernel
theorem dX12_weightOf_71 : decode cX12_weightOf 71 = .ok (.iaload, 1) := by decide +kernel
theorem dX12_weightOf_72 : decode cX12_weightOf 72 = .ok (.isub, 1) := by decide +kernel
theorem dX12_weightOf_73 : decode cX12_weightOf 73 = .ok (.istore 10, 2) := by decide +kernel
theorem dX12_weightOf_75 : decode cX12_weightOf 75 = .ok (.aload_n 0, 1) := by decide +kernel
theorem dX12_weightOf_76 : decode cX12_weightOf 76 = .ok (.iload 5, 2) := by decide +kernel
theorem dX12_weightOf_78 : decode cX12_weightOf 78 = .ok (.iload 10, 2) := by decide +kernel
theorem dX12_weightOf_80 : decode cX12_weightOf 80 = .ok (.iload_n 3, 1) := by decide +kernel
theorem dX12_weightOf_81 : decode cX12_weightOf 81 = .ok (.iadd, 1) := by decide +kernel
theorem dX12_weightOf_82 : decode cX12_weightOf 82 = .ok (.iconst 1, 1) := by decide +kernel
theorem dX12_weightOf_83 : decode cX12_weightOf 83 = .ok (.iadd, 1) := by decide +kernel
theorem dX12_weightOf_84 : decode cX12_weightOf 84 = .ok (.invokevirtual 177, 3) := by decide +kernel
theorem dX12_weightOf_87 : decode cX12_weightOf 87 = .ok (.istore 11, 2) := by decide +kernel
theorem dX12_weightOf_89 : decode cX12_weightOf 89 = .ok (.lload 7, 2) := by decide +kernel
theorem dX12_weightOf_91 : decode cX12_weightOf 91 = .ok (.iload 4, 2) := by decide +kernel
theorem dX12_weightOf_93 : decode cX12_weightOf 93 = .ok (.iload 9, 2) := by decide +kernel
theorem dX12_weightOf_95 : decode cX12_weightOf 95 = .ok (.invokestatic 320, 3) := by decide +kernel
theorem dX12_weightOf_98 : decode cX12_weightOf 98 = .ok (.ifCond .eq 9, 3) := by decide +kernel
theorem dX12_weightOf_101 : decode cX12_weightOf 101 = .ok (.iload 11, 2) := by decide +kernel
theorem dX12_weightOf_103 : decode cX12_weightOf 103 = .ok (.i2l, 1) := by decide +kernel
theorem dX12_weightOf_104 : decode cX12_weightOf 104 = .ok (.goto 15, 3) := by decide +kernel
theorem dX12_weightOf_107 : decode cX12_weightOf 107 = .ok (.aload_n 0, 1) := by decide +kernel
theorem dX12_weightOf_108 : decode cX12_weightOf 108 = .ok (.iload 5, 2) := by decide +kernel
theorem dX12_weightOf_110 : decode cX12_weightOf 110 = .ok (.iload 10, 2) := by decide +kernel
theorem dX12_weightOf_112 : decode cX12_weightOf 112 = .ok (.invokevirtual 177, 3) := by decide +kernel
theorem dX12_weightOf_115 : decode cX12_weightOf 115 = .ok (.iload 11, 2) := by decide +kernel
theorem dX12_weightOf_117 : decode cX12_weightOf 117 = .ok (.isub, 1) := by decide +kernel
theorem dX12_weightOf_118 : decode cX12_weightOf 118 = .ok (.i2l, 1) := by decide +kernel
theorem dX12_weightOf_119 : decode cX12_weightOf 119 = .ok (.lmul, 1) := by decide +kernel
theorem dX12_weightOf_120 : decode cX12_weightOf 120 = .ok (.lstore 7, 2) := by decide +kernel
theorem dX12_weightOf_122 : decode cX12_weightOf 122 = .ok (.iinc 9 1, 3) := by decide +kernel
theorem dX12_weightOf_125 : decode cX12_weightOf 125 = .ok (.goto (-75), 3) := by decide +kernel
theorem dX12_weightOf_128 : decode cX12_weightOf 128 = .ok (.lload 7, 2) := by decide +kernel
theorem dX12_weightOf_130 : decode cX12_weightOf 130 = .ok (.lreturn, 1) := by decide +kernel
theorem dX12_isAsked_0 : decode cX12_isAsked 0 = .ok (.aload_n 0, 1) := by decide +kernel
theorem dX12_isAsked_1 : decode cX12_isAsked 1 = .ok (.iload_n 1, 1) := by decide +kernel
theorem dX12_isAsked_2 : decode cX12_isAsked 2 = .ok (.invokevirtual 308, 3) := by decide +kernel
theorem dX12_isAsked_5 : decode cX12_isAsked 5 = .ok (.ifCond .eq 47, 3) := by decide +kernel
theorem dX12_isAsked_8 : decode cX12_isAsked 8 = .ok (.aload_n 0, 1) := by decide +kernel
theorem dX12_isAsked_9 : decode cX12_isAsked 9 = .ok (.iload_n 2, 1) := by decide +kernel
theorem dX12_isAsked_10 : decode cX12_isAsked 10 = .ok (.invokevirtual 165, 3) := by decide +kernel
theorem dX12_isAsked_13 : decode cX12_isAsked 13 = .ok (.ifCond .eq 39, 3) := by decide +kernel
theorem dX12_isAsked_16 : decode cX12_isAsked 16 = .ok (.iload_n 3, 1) := by decide +kernel
theorem dX12_isAsked_17 : decode cX12_isAsked 17 = .ok (.invokestatic 311, 3) := by decide +kernel
theorem dX12_isAsked_20 : decode cX12_isAsked 20 = .ok (.ifCond .eq 32, 3) := by decide +kernel
theorem dX12_isAsked_23 : decode cX12_isAsked 23 = .ok (.iload 4, 2) := by decide +kernel
theorem dX12_isAsked_25 : decode cX12_isAsked 25 = .ok (.i2l, 1) := by decide +kernel
theorem dX12_isAsked_26 : decode cX12_isAsked 26 = .ok (.iload_n 3, 1) := by decide +kernel
theorem dX12_isAsked_27 : decode cX12_isAsked 27 = .ok (.i2l, 1) := by decide +kernel
theorem dX12_isAsked_28 : decode cX12_isAsked 28 = .ok (.ldc2_w 154, 3) := by decide +kernel
theorem dX12_isAsked_31 : decode cX12_isAsked 31 = .ok (.invokestatic 156, 3) := by decide +kernel
theorem dX12_isAsked_34 : decode cX12_isAsked 34 = .ok (.ifCond .eq 18, 3) := by decide +kernel
theorem dX12_isAsked_37 : decode cX12_isAsked 37 = .ok (.aload_n 0, 1) := by decide +kernel
theorem dX12_isAsked_38 : decode cX12_isAsked 38 = .ok (.iload_n 1, 1) := by decide +kernel
theorem dX12_isAsked_39 : decode cX12_isAsked 39 = .ok (.iload_n 3, 1) := by decide +kernel
theorem dX12_isAsked_40 : decode cX12_isAsked 40 = .ok (.iload 4, 2) := by decide +kernel
theorem dX12_isAsked_42 : decode cX12_isAsked 42 = .ok (.invokevirtual 346, 3) := by decide +kernel
theorem dX12_isAsked_45 : decode cX12_isAsked 45 = .ok (.ifCond .eq 7, 3) := by decide +kernel
theorem dX12_isAsked_48 : decode cX12_isAsked 48 = .ok (.iconst 1, 1) := by decide +kernel
theorem dX12_isAsked_49 : decode cX12_isAsked 49 = .ok (.goto 4, 3) := by decide +kernel
theorem dX12_isAsked_52 : decode cX12_isAsked 52 = .ok (.iconst 0, 1) := by decide +kernel
theorem dX12_isAsked_53 : decode cX12_isAsked 53 = .ok (.ireturn, 1) := by decide +kernel
theorem dX12_chance_0 : decode cX12_chance 0 = .ok (.iload 5, 2) := by decide +kernel
theorem dX12_chance_2 : decode cX12_chance 2 = .ok (.i2l, 1) := by decide +kernel
theorem dX12_chance_3 : decode cX12_chance 3 = .ok (.lconst 0, 1) := by decide +kernel
theorem dX12_chance_4 : decode cX12_chance 4 = .ok (.lconst 1, 1) := by decide +kernel
theorem dX12_chance_5 : decode cX12_chance 5 = .ok (.invokestatic 156, 3) := by decide +kernel
theorem dX12_chance_8 : decode cX12_chance 8 = .ok (.ifCond .eq 15, 3) := by decide +kernel
theorem dX12_chance_11 : decode cX12_chance 11 = .ok (.aload_n 0, 1) := by decide +kernel
theorem dX12_chance_12 : decode cX12_chance 12 = .ok (.iload_n 1, 1) := by decide +kernel
theorem dX12_chance_13 : decode cX12_chance 13 = .ok (.iload_n 2, 1) := by decide +kernel
theorem dX12_chance_14 : decode cX12_chance 14 = .ok (.iload_n 3, 1) := by decide +kernel
theorem dX12_chance_15 : decode cX12_chance 15 = .ok (.iload 4, 2) := by decide +kernel
theorem dX12_chance_17 : decode cX12_chance 17 = .ok (.invokevirtual 349, 3) := by decide +kernel
theorem dX12_chance_20 : decode cX12_chance 20 = .ok (.ifCond .ne 7, 3) := by decide +kernel
theorem dX12_chance_23 : decode cX12_chance 23 = .ok (.ldc2_w 353, 3) := by decide +kernel
theorem dX12_chance_26 : decode cX12_chance 26 = .ok (.lreturn, 1) := by decide +kernel
theorem dX12_chance_27 : decode cX12_chance 27 = .ok (.iload 5, 2) := by decide +kernel
theorem dX12_chance_29 : decode cX12_chance 29 = .ok (.iconst 1, 1) := by decide +kernel
theorem dX12_chance_30 : decode cX12_chance 30 = .ok (.if_icmp .ne 8, 3) := by decide +kernel
theorem dX12_chance_33 : decode cX12_chance 33 = .ok (.aload_n 0, 1) := by decide +kernel
theorem dX12_chance_34 : decode cX12_chance 34 = .ok (.getfield 342, 3) := by decide +kernel
theorem dX12_chance_37 : decode cX12_chance 37 = .ok (.lreturn, 1) := by decide +kernel
theorem dX12_chance_38 : decode cX12_chance 38 = .ok (.lconst 0, 1) := by decide +kernel
theorem dX12_chance_39 : decode cX12_chance 39 = .ok (.lstore 6, 2) := by decide +kernel
theorem dX12_chance_41 : decode cX12_chance 41 = .ok (.iconst 0, 1) := by decide +kernel
theorem dX12_chance_42 : decode cX12_chance 42 = .ok (.istore 8, 2) := by decide +kernel
theorem dX12_chance_44 : decode cX12_chance 44 = .ok (.iload 8, 2) := by decide +kernel
theorem dX12_chance_46 : decode cX12_chance 46 = .ok (.iconst 1, 1) := by decide +kernel
theorem dX12_chance_47 : decode cX12_chance 47 = .ok (.aload_n 0, 1) := by decide +kernel
theorem dX12_chance_48 : decode cX12_chance 48 = .ok (.getfield 339, 3) := by decide +kernel
theorem dX12_chance_51 : decode cX12_chance 51 = .ok (.ishl, 1) := by decide +kernel
theorem dX12_chance_52 : decode cX12_chance 52 = .ok (.if_icmp .ge 62, 3) := by decide +kernel
theorem dX12_chance_55 : decode cX12_chance 55 = .ok (.aload_n 0, 1) := by decide +kernel
theorem dX12_chance_56 : decode cX12_chance 56 = .ok (.iload_n 1, 1) := by decide +kernel
theorem dX12_chance_57 : decode cX12_chance 57 = .ok (.aload_n 0, 1) := by decide +kernel
theorem dX12_chance_58 : decode cX12_chance 58 = .ok (.iload 8, 2) := by decide +kernel
theorem dX12_chance_60 : decode cX12_chance 60 = .ok (.invokevirtual 355, 3) := by decide +kernel
theorem dX12_chance_63 : decode cX12_chance 63 = .ok (.invokevirtual 333, 3) := by decide +kernel
theorem dX12_chance_66 : decode cX12_chance 66 = .ok (.iconst 0, 1) := by decide +kernel
theorem dX12_chance_67 : decode cX12_chance 67 = .ok (.istore 9, 2) := by decide +kernel
theorem dX12_chance_69 : decode cX12_chance 69 = .ok (.iload 9, 2) := by decide +kernel
theorem dX12_chance_71 : decode cX12_chance 71 = .ok (.sipush 400, 3) := by decide +kernel
theorem dX12_chance_74 : decode cX12_chance 74 = .ok (.if_icmp .ge 34, 3) := by decide +kernel
theorem dX12_chance_77 : decode cX12_chance 77 = .ok (.aload_n 0, 1) := by decide +kernel
theorem dX12_chance_78 : decode cX12_chance 78 = .ok (.getfield 82, 3) := by decide +kernel
theorem dX12_chance_81 : decode cX12_chance 81 = .ok (.iload_n 2, 1) := by decide +kernel
theorem dX12_chance_82 : decode cX12_chance 82 = .ok (.iaload, 1) := by decide +kernel
theorem dX12_chance_83 : decode cX12_chance 83 = .ok (.ifCond .le 25, 3) := by decide +kernel
theorem dX12_chance_86 : decode cX12_chance 86 = .ok (.lload 6, 2) := by decide +kernel
theorem dX12_chance_88 : decode cX12_chance 88 = .ok (.aload_n 0, 1) := by decide +kernel
theorem dX12_chance_89 : decode cX12_chance 89 = .ok (.iload_n 1, 1) := by decide +kernel
theorem dX12_chance_90 : decode cX12_chance 90 = .ok (.iload 4, 2) := by decide +kernel
theorem dX12_chance_92 : decode cX12_chance 92 = .ok (.iload 9, 2) := by decide +kernel
theorem dX12_chance_94 : decode cX12_chance 94 = .ok (.iload 8, 2) := by decide +kernel
theorem dX12_chance_96 : decode cX12_chance 96 = .ok (.invokevirtual 358, 3) := by decide +kernel
theorem dX12_chance_99 : decode cX12_chance 99 = .ok (.ladd, 1) := by decide +kernel
theorem dX12_chance_100 : decode cX12_chance 100 = .ok (.lstore 6, 2) := by decide +kernel
theorem dX12_chance_102 : decode cX12_chance 102 = .ok (.iinc 9 1, 3) := by decide +kernel
theorem dX12_chance_105 : decode cX12_chance 105 = .ok (.goto (-36), 3) := by decide +kernel
theorem dX12_chance_108 : decode cX12_chance 108 = .ok (.iinc 8 1, 3) := by decide +kernel
theorem dX12_chance_111 : decode cX12_chance 111 = .ok (.goto (-67), 3) := by decide +kernel
theorem dX12_chance_114 : decode cX12_chance 114 = .ok (.lload 6, 2) := by decide +kernel
theorem dX12_chance_116 : decode cX12_chance 116 = .ok (.lreturn, 1) := by decide +kernel
theorem dX12_worthOf_0 : decode cX12_worthOf 0 = .ok (.iconst 0, 1) := by decide +kernel
theorem dX12_worthOf_1 : decode cX12_worthOf 1 = .ok (.istore 4, 2) := by decide +kernel
theorem dX12_worthOf_3 : decode cX12_worthOf 3 = .ok (.iload 4, 2) := by decide +kernel
theorem dX12_worthOf_5 : decode cX12_worthOf 5 = .ok (.iconst 1, 1) := by decide +kernel
theorem dX12_worthOf_6 : decode cX12_worthOf 6 = .ok (.aload_n 0, 1) := by decide +kernel
theorem dX12_worthOf_7 : decode cX12_worthOf 7 = .ok (.getfield 339, 3) := by decide +kernel
theorem dX12_worthOf_10 : decode cX12_worthOf 10 = .ok (.ishl, 1) := by decide +kernel
theorem dX12_worthOf_11 : decode cX12_worthOf 11 = .ok (.if_icmp .ge 33, 3) := by decide +kernel
theorem dX12_worthOf_14 : decode cX12_worthOf 14 = .ok (.aload_n 0, 1) := by decide +kernel
theorem dX12_worthOf_15 : decode cX12_worthOf 15 = .ok (.iload_n 1, 1) := by decide +kernel
theorem dX12_worthOf_16 : decode cX12_worthOf 16 = .ok (.aload_n 0, 1) := by decide +kernel
theorem dX12_worthOf_17 : decode cX12_worthOf 17 = .ok (.iload 4, 2) := by decide +kernel
theorem dX12_worthOf_19 : decode cX12_worthOf 19 = .ok (.invokevirtual 355, 3) := by decide +kernel
theorem dX12_worthOf_22 : decode cX12_worthOf 22 = .ok (.invokevirtual 333, 3) := by decide +kernel
theorem dX12_worthOf_25 : decode cX12_worthOf 25 = .ok (.aload_n 0, 1) := by decide +kernel
theorem dX12_worthOf_26 : decode cX12_worthOf 26 = .ok (.getfield 88, 3) := by decide +kernel
theorem dX12_worthOf_29 : decode cX12_worthOf 29 = .ok (.iload 4, 2) := by decide +kernel
theorem dX12_worthOf_31 : decode cX12_worthOf 31 = .ok (.aload_n 0, 1) := by decide +kernel
theorem dX12_worthOf_32 : decode cX12_worthOf 32 = .ok (.getfield 82, 3) := by decide +kernel
theorem dX12_worthOf_35 : decode cX12_worthOf 35 = .ok (.iload_n 2, 1) := by decide +kernel
theorem dX12_worthOf_36 : decode cX12_worthOf 36 = .ok (.iaload, 1) := by decide +kernel
theorem dX12_worthOf_37 : decode cX12_worthOf 37 = .ok (.iastore, 1) := by decide +kernel
theorem dX12_worthOf_38 : decode cX12_worthOf 38 = .ok (.iinc 4 1, 3) := by decide +kernel
theorem dX12_worthOf_41 : decode cX12_worthOf 41 = .ok (.goto (-38), 3) := by decide +kernel
theorem dX12_worthOf_44 : decode cX12_worthOf 44 = .ok (.lconst 0, 1) := by decide +kernel
theorem dX12_worthOf_45 : decode cX12_worthOf 45 = .ok (.lstore 4, 2) := by decide +kernel
theorem dX12_worthOf_47 : decode cX12_worthOf 47 = .ok (.ldc 188, 2) := by decide +kernel
theorem dX12_worthOf_49 : decode cX12_worthOf 49 = .ok (.istore 6, 2) := by decide +kernel
theorem dX12_worthOf_51 : decode cX12_worthOf 51 = .ok (.iconst 0, 1) := by decide +kernel
theorem dX12_worthOf_52 : decode cX12_worthOf 52 = .ok (.istore 7, 2) := by decide +kernel
theorem dX12_worthOf_54 : decode cX12_worthOf 54 = .ok (.iload 7, 2) := by decide +kernel
theorem dX12_worthOf_56 : decode cX12_worthOf 56 = .ok (.sipush 400, 3) := by decide +kernel
theorem dX12_worthOf_59 : decode cX12_worthOf 59 = .ok (.if_icmp .ge 91, 3) := by decide +kernel
theorem dX12_worthOf_62 : decode cX12_worthOf 62 = .ok (.lconst 0, 1) := by decide +kernel
theorem dX12_worthOf_63 : decode cX12_worthOf 63 = .ok (.lstore 8, 2) := by decide +kernel
theorem dX12_worthOf_65 : decode cX12_worthOf 65 = .ok (.iconst 0, 1) := by decide +kernel
theorem dX12_worthOf_66 : decode cX12_worthOf 66 = .ok (.istore 10, 2) := by decide +kernel
theorem dX12_worthOf_68 : decode cX12_worthOf 68 = .ok (.iload 10, 2) := by decide +kernel
theorem dX12_worthOf_70 : decode cX12_worthOf 70 = .ok (.iconst 1, 1) := by decide +kernel
theorem dX12_worthOf_71 : decode cX12_worthOf 71 = .ok (.aload_n 0, 1) := by decide +kernel
theorem dX12_worthOf_72 : decode cX12_worthOf 72 = .ok (.getfield 339, 3) := by decide +kernel
theorem dX12_worthOf_75 : decode cX12_worthOf 75 = .ok (.ishl, 1) := by decide +kernel
theorem dX12_worthOf_76 : decode cX12_worthOf 76 = .ok (.if_icmp .ge 33, 3) := by decide +kernel
theorem dX12_worthOf_79 : decode cX12_worthOf 79 = .ok (.lload 8, 2) := by decide +kernel
theorem dX12_worthOf_81 : decode cX12_worthOf 81 = .ok (.aload_n 0, 1) := by decide +kernel
theorem dX12_worthOf_82 : decode cX12_worthOf 82 = .ok (.iload_n 1, 1) := by decide +kernel
theorem dX12_worthOf_83 : decode cX12_worthOf 83 = .ok (.iload_n 3, 1) := by decide +kernel
theorem dX12_worthOf_84 : decode cX12_worthOf 84 = .ok (.iload 7, 2) := by decide +kernel
theorem dX12_worthOf_86 : decode cX12_worthOf 86 = .ok (.iload 10, 2) := by decide +kernel
theorem dX12_worthOf_88 : decode cX12_worthOf 88 = .ok (.invokevirtual 358, 3) := by decide +kernel
theorem dX12_worthOf_91 : decode cX12_worthOf 91 = .ok (.aload_n 0, 1) := by decide +kernel
theorem dX12_worthOf_92 : decode cX12_worthOf 92 = .ok (.getfield 88, 3) := by decide +kernel
theorem dX12_worthOf_95 : decode cX12_worthOf 95 = .ok (.iload 10, 2) := by decide +kernel
theorem dX12_worthOf_97 : decode cX12_worthOf 97 = .ok (.iaload, 1) := by decide +kernel
theorem dX12_worthOf_98 : decode cX12_worthOf 98 = .ok (.i2l, 1) := by decide +kernel
theorem dX12_worthOf_99 : decode cX12_worthOf 99 = .ok (.lmul, 1) := by decide +kernel
theorem dX12_worthOf_100 : decode cX12_worthOf 100 = .ok (.ladd, 1) := by decide +kernel
theorem dX12_worthOf_101 : decode cX12_worthOf 101 = .ok (.lstore 8, 2) := by decide +kernel
theorem dX12_worthOf_103 : decode cX12_worthOf 103 = .ok (.iinc 10 1, 3) := by decide +kernel
theorem dX12_worthOf_106 : decode cX12_worthOf 106 = .ok (.goto (-38), 3) := by decide +kernel
theorem dX12_worthOf_109 : decode cX12_worthOf 109 = .ok (.bipush 100, 2) := by decide +kernel
theorem dX12_worthOf_111 : decode cX12_worthOf 111 = .ok (.iload 6, 2) := by decide +kernel
theorem dX12_worthOf_113 : decode cX12_worthOf 113 = .ok (.imul, 1) := by decide +kernel
theorem dX12_worthOf_114 : decode cX12_worthOf 114 = .ok (.bipush 100, 2) := by decide +kernel
theorem dX12_worthOf_116 : decode cX12_worthOf 116 = .ok (.aload_n 0, 1) := by decide +kernel
theorem dX12_worthOf_117 : decode cX12_worthOf 117 = .ok (.getfield 17, 3) := by decide +kernel
theorem dX12_worthOf_120 : decode cX12_worthOf 120 = .ok (.iadd, 1) := by decide +kernel
theorem dX12_worthOf_121 : decode cX12_worthOf 121 = .ok (.idiv, 1) := by decide +kernel
theorem dX12_worthOf_122 : decode cX12_worthOf 122 = .ok (.istore 6, 2) := by decide +kernel
theorem dX12_worthOf_124 : decode cX12_worthOf 124 = .ok (.lload 4, 2) := by decide +kernel
theorem dX12_worthOf_126 : decode cX12_worthOf 126 = .ok (.lload 8, 2) := by decide +kernel
theorem dX12_worthOf_128 : decode cX12_worthOf 128 = .ok (.aload_n 0, 1) := by decide +kernel
theorem dX12_worthOf_129 : decode cX12_worthOf 129 = .ok (.getfield 342, 3) := by decide +kernel
theorem dX12_worthOf_132 : decode cX12_worthOf 132 = .ok (.ldiv, 1) := by decide +kernel
theorem dX12_worthOf_133 : decode cX12_worthOf 133 = .ok (.iload 6, 2) := by decide +kernel
theorem dX12_worthOf_135 : decode cX12_worthOf 135 = .ok (.i2l, 1) := by decide +kernel
theorem dX12_worthOf_136 : decode cX12_worthOf 136 = .ok (.lmul, 1) := by decide +kernel
theorem dX12_worthOf_137 : decode cX12_worthOf 137 = .ok (.ldc2_w 362, 3) := by decide +kernel
theorem dX12_worthOf_140 : decode cX12_worthOf 140 = .ok (.ldiv, 1) := by decide +kernel
theorem dX12_worthOf_141 : decode cX12_worthOf 141 = .ok (.ladd, 1) := by decide +kernel
theorem dX12_worthOf_142 : decode cX12_worthOf 142 = .ok (.lstore 4, 2) := by decide +kernel
theorem dX12_worthOf_144 : decode cX12_worthOf 144 = .ok (.iinc 7 1, 3) := by decide +kernel
theorem dX12_worthOf_147 : decode cX12_worthOf 147 = .ok (.goto (-93), 3) := by decide +kernel
theorem dX12_worthOf_150 : decode cX12_worthOf 150 = .ok (.lload 4, 2) := by decide +kernel
theorem dX12_worthOf_152 : decode cX12_worthOf 152 = .ok (.lreturn, 1) := by decide +kernel
theorem dX12_worth_0 : decode cX12_worth 0 = .ok (.aload_n 0, 1) := by decide +kernel
theorem dX12_worth_1 : decode cX12_worth 1 = .ok (.iload_n 1, 1) := by decide +kernel
theorem dX12_worth_2 : decode cX12_worth 2 = .ok (.iload_n 2, 1) := by decide +kernel
theorem dX12_worth_3 : decode cX12_worth 3 = .ok (.iload_n 3, 1) := by decide +kernel
theorem dX12_worth_4 : decode cX12_worth 4 = .ok (.iload 4, 2) := by decide +kernel
theorem dX12_worth_6 : decode cX12_worth 6 = .ok (.invokevirtual 349, 3) := by decide +kernel
theorem dX12_worth_9 : decode cX12_worth 9 = .ok (.ifCond .eq 14, 3) := by decide +kernel
theorem dX12_worth_12 : decode cX12_worth 12 = .ok (.aload_n 0, 1) := by decide +kernel
theorem dX12_worth_13 : decode cX12_worth 13 = .ok (.iload_n 1, 1) := by decide +kernel
theorem dX12_worth_14 : decode cX12_worth 14 = .ok (.iload_n 2, 1) := by decide +kernel
theorem dX12_worth_15 : decode cX12_worth 15 = .ok (.iload 4, 2) := by decide +kernel
theorem dX12_worth_17 : decode cX12_worth 17 = .ok (.invokevirtual 364, 3) := by decide +kernel
theorem dX12_worth_20 : decode cX12_worth 20 = .ok (.goto 6, 3) := by decide +kernel
theorem dX12_worth_23 : decode cX12_worth 23 = .ok (.ldc2_w 353, 3) := by decide +kernel
theorem dX12_worth_26 : decode cX12_worth 26 = .ok (.lreturn, 1) := by decide +kernel
theorem dX12_isSale_0 : decode cX12_isSale 0 = .ok (.iload_n 1, 1) := by decide +kernel
theorem dX12_isSale_1 : decode cX12_isSale 1 = .ok (.i2l, 1) := by decide +kernel
theorem dX12_isSale_2 : decode cX12_isSale 2 = .ok (.lconst 0, 1) := by decide +kernel
theorem dX12_isSale_3 : decode cX12_isSale 3 = .ok (.aload_n 0, 1) := by decide +kernel
theorem dX12_isSale_4 : decode cX12_isSale 4 = .ok (.getfield 368, 3) := by decide +kernel
theorem dX12_isSale_7 : decode cX12_isSale 7 = .ok (.iconst 1, 1) := by decide +kernel
theorem dX12_isSale_8 : decode cX12_isSale 8 = .ok (.isub, 1) := by decide +kernel
theorem dX12_isSale_9 : decode cX12_isSale 9 = .ok (.i2l, 1) := by decide +kernel
theorem dX12_isSale_10 : decode cX12_isSale 10 = .ok (.invokestatic 156, 3) := by decide +kernel
theorem dX12_isSale_13 : decode cX12_isSale 13 = .ok (.ireturn, 1) := by decide +kernel
theorem dX12_isParts_0 : decode cX12_isParts 0 = .ok (.iload_n 0, 1) := by decide +kernel
theorem dX12_isParts_1 : decode cX12_isParts 1 = .ok (.i2l, 1) := by decide +kernel
theorem dX12_isParts_2 : decode cX12_isParts 2 = .ok (.lconst 1, 1) := by decide +kernel
theorem dX12_isParts_3 : decode cX12_isParts 3 = .ok (.ldc2_w 371, 3) := by decide +kernel
theorem dX12_isParts_6 : decode cX12_isParts 6 = .ok (.invokestatic 156, 3) := by decide +kernel
theorem dX12_isParts_9 : decode cX12_isParts 9 = .ok (.ireturn, 1) := by decide +kernel
theorem dX12_sale_0 : decode cX12_sale 0 = .ok (.aload_n 0, 1) := by decide +kernel
theorem dX12_sale_1 : decode cX12_sale 1 = .ok (.getfield 368, 3) := by decide +kernel
theorem dX12_sale_4 : decode cX12_sale 4 = .ok (.bipush 40, 2) := by decide +kernel
theorem dX12_sale_6 : decode cX12_sale 6 = .ok (.if_icmp .eq 71, 3) := by decide +kernel
theorem dX12_sale_9 : decode cX12_sale 9 = .ok (.aload_n 0, 1) := by decide +kernel
theorem dX12_sale_10 : decode cX12_sale 10 = .ok (.iload_n 1, 1) := by decide +kernel
theorem dX12_sale_11 : decode cX12_sale 11 = .ok (.invokevirtual 165, 3) := by decide +kernel
theorem dX12_sale_14 : decode cX12_sale 14 = .ok (.ifCond .eq 63, 3) := by decide +kernel
theorem dX12_sale_17 : decode cX12_sale 17 = .ok (.aload_n 0, 1) := by decide +kernel
theorem dX12_sale_18 : decode cX12_sale 18 = .ok (.iload 4, 2) := by decide +kernel
theorem dX12_sale_20 : decode cX12_sale 20 = .ok (.invokevirtual 165, 3) := by decide +kernel
theorem dX12_sale_23 : decode cX12_sale 23 = .ok (.ifCond .eq 54, 3) := by decide +kernel
theorem dX12_sale_26 : decode cX12_sale 26 = .ok (.iload_n 1, 1) := by decide +kernel
theorem dX12_sale_27 : decode cX12_sale 27 = .ok (.iload 4, 2) := by decide +kernel
theorem dX12_sale_29 : decode cX12_sale 29 = .ok (.if_icmp .eq 48, 3) := by decide +kernel
theorem dX12_sale_32 : decode cX12_sale 32 = .ok (.aload_n 0, 1) := by decide +kernel
theorem dX12_sale_33 : decode cX12_sale 33 = .ok (.iload_n 2, 1) := by decide +kernel
theorem dX12_sale_34 : decode cX12_sale 34 = .ok (.invokevirtual 308, 3) := by decide +kernel
theorem dX12_sale_37 : decode cX12_sale 37 = .ok (.ifCond .eq 40, 3) := by decide +kernel
theorem dX12_sale_40 : decode cX12_sale 40 = .ok (.iload_n 3, 1) := by decide +kernel
theorem dX12_sale_41 : decode cX12_sale 41 = .ok (.invokestatic 373, 3) := by decide +kernel
theorem dX12_sale_44 : decode cX12_sale 44 = .ok (.ifCond .eq 33, 3) := by decide +kernel
theorem dX12_sale_47 : decode cX12_sale 47 = .ok (.iload 5, 2) := by decide +kernel
theorem dX12_sale_49 : decode cX12_sale 49 = .ok (.i2l, 1) := by decide +kernel
theorem dX12_sale_50 : decode cX12_sale 50 = .ok (.lconst 0, 1) := by decide +kernel
theorem dX12_sale_51 : decode cX12_sale 51 = .ok (.ldc2_w 294, 3) := by decide +kernel
theorem dX12_sale_54 : decode cX12_sale 54 = .ok (.invokestatic 156, 3) := by decide +kernel
theorem dX12_sale_57 : decode cX12_sale 57 = .ok (.ifCond .eq 20, 3) := by decide +kernel
theorem dX12_sale_60 : decode cX12_sale 60 = .ok (.aload_n 0, 1) := by decide +kernel
theorem dX12_sale_61 : decode cX12_sale 61 = .ok (.aload_n 0, 1) := by decide +kernel
theorem dX12_sale_62 : decode cX12_sale 62 = .ok (.getfield 42, 3) := by decide +kernel
theorem dX12_sale_65 : decode cX12_sale 65 = .ok (.iload_n 2, 1) := by decide +kernel
theorem dX12_sale_66 : decode cX12_sale 66 = .ok (.iaload, 1) := by decide +kernel
theorem dX12_sale_67 : decode cX12_sale 67 = .ok (.aload_n 0, 1) := by decide +kernel
theorem dX12_sale_68 : decode cX12_sale 68 = .ok (.getfield 13, 3) := by decide +kernel
theorem dX12_sale_71 : decode cX12_sale 71 = .ok (.invokevirtual 336, 3) := by decide +kernel
theorem dX12_sale_74 : decode cX12_sale 74 = .ok (.ifCond .eq 5, 3) := by decide +kernel
theorem dX12_sale_77 : decode cX12_sale 77 = .ok (.iconst (-1), 1) := by decide +kernel
theorem dX12_sale_78 : decode cX12_sale 78 = .ok (.ireturn, 1) := by decide +kernel
theorem dX12_sale_79 : decode cX12_sale 79 = .ok (.aload_n 0, 1) := by decide +kernel
theorem dX12_sale_80 : decode cX12_sale 80 = .ok (.getfield 91, 3) := by decide +kernel
theorem dX12_sale_83 : decode cX12_sale 83 = .ok (.aload_n 0, 1) := by decide +kernel
theorem dX12_sale_84 : decode cX12_sale 84 = .ok (.getfield 368, 3) := by decide +kernel
theorem dX12_sale_87 : decode cX12_sale 87 = .ok (.iload_n 1, 1) := by decide +kernel
theorem dX12_sale_88 : decode cX12_sale 88 = .ok (.iastore, 1) := by decide +kernel
theorem dX12_sale_89 : decode cX12_sale 89 = .ok (.aload_n 0, 1) := by decide +kernel
theorem dX12_sale_90 : decode cX12_sale 90 = .ok (.getfield 94, 3) := by decide +kernel
theorem dX12_sale_93 : decode cX12_sale 93 = .ok (.aload_n 0, 1) := by decide +kernel
theorem dX12_sale_94 : decode cX12_sale 94 = .ok (.getfield 368, 3) := by decide +kernel
theorem dX12_sale_97 : decode cX12_sale 97 = .ok (.iload_n 2, 1) := by decide +kernel
theorem dX12_sale_98 : decode cX12_sale 98 = .ok (.iastore, 1) := by decide +kernel
theorem dX12_sale_99 : decode cX12_sale 99 = .ok (.aload_n 0, 1) := by decide +kernel
theorem dX12_sale_100 : decode cX12_sale 100 = .ok (.getfield 97, 3) := by decide +kernel
theorem dX12_sale_103 : decode cX12_sale 103 = .ok (.aload_n 0, 1) := by decide +kernel
theorem dX12_sale_104 : decode cX12_sale 104 = .ok (.getfield 368, 3) := by decide +kernel
theorem dX12_sale_107 : decode cX12_sale 107 = .ok (.iload_n 3, 1) := by decide +kernel
theorem dX12_sale_108 : decode cX12_sale 108 = .ok (.iastore, 1) := by decide +kernel
theorem dX12_sale_109 : decode cX12_sale 109 = .ok (.aload_n 0, 1) := by decide +kernel
theorem dX12_sale_110 : decode cX12_sale 110 = .ok (.getfield 100, 3) := by decide +kernel
theorem dX12_sale_113 : decode cX12_sale 113 = .ok (.aload_n 0, 1) := by decide +kernel
theorem dX12_sale_114 : decode cX12_sale 114 = .ok (.getfield 368, 3) := by decide +kernel
theorem dX12_sale_117 : decode cX12_sale 117 = .ok (.iload 4, 2) := by decide +kernel
theorem dX12_sale_119 : decode cX12_sale 119 = .ok (.iastore, 1) := by decide +kernel
theorem dX12_sale_120 : decode cX12_sale 120 = .ok (.aload_n 0, 1) := by decide +kernel
theorem dX12_sale_121 : decode cX12_sale 121 = .ok (.getfield 103, 3) := by decide +kernel
theorem dX12_sale_124 : decode cX12_sale 124 = .ok (.aload_n 0, 1) := by decide +kernel
theorem dX12_sale_125 : decode cX12_sale 125 = .ok (.getfield 368, 3) := by decide +kernel
theorem dX12_sale_128 : decode cX12_sale 128 = .ok (.iload 5, 2) := by decide +kernel
theorem dX12_sale_130 : decode cX12_sale 130 = .ok (.iastore, 1) := by decide +kernel
theorem dX12_sale_131 : decode cX12_sale 131 = .ok (.aload_n 0, 1) := by decide +kernel
theorem dX12_sale_132 : decode cX12_sale 132 = .ok (.getfield 106, 3) := by decide +kernel
theorem dX12_sale_135 : decode cX12_sale 135 = .ok (.aload_n 0, 1) := by decide +kernel
theorem dX12_sale_136 : decode cX12_sale 136 = .ok (.getfield 368, 3) := by decide +kernel
theorem dX12_sale_139 : decode cX12_sale 139 = .ok (.aload_n 0, 1) := by decide +kernel
theorem dX12_sale_140 : decode cX12_sale 140 = .ok (.getfield 13, 3) := by decide +kernel
theorem dX12_sale_143 : decode cX12_sale 143 = .ok (.iastore, 1) := by decide +kernel
theorem dX12_sale_144 : decode cX12_sale 144 = .ok (.aload_n 0, 1) := by decide +kernel
theorem dX12_sale_145 : decode cX12_sale 145 = .ok (.getfield 109, 3) := by decide +kernel
theorem dX12_sale_148 : decode cX12_sale 148 = .ok (.aload_n 0, 1) := by decide +kernel
theorem dX12_sale_149 : decode cX12_sale 149 = .ok (.getfield 368, 3) := by decide +kernel
theorem dX12_sale_152 : decode cX12_sale 152 = .ok (.iload 6, 2) := by decide +kernel
theorem dX12_sale_154 : decode cX12_sale 154 = .ok (.bastore, 1) := by decide +kernel
theorem dX12_sale_155 : decode cX12_sale 155 = .ok (.aload_n 0, 1) := by decide +kernel
theorem dX12_sale_156 : decode cX12_sale 156 = .ok (.getfield 112, 3) := by decide +kernel
theorem dX12_sale_159 : decode cX12_sale 159 = .ok (.aload_n 0, 1) := by decide +kernel
theorem dX12_sale_160 : decode cX12_sale 160 = .ok (.getfield 368, 3) := by decide +kernel
theorem dX12_sale_163 : decode cX12_sale 163 = .ok (.iconst (-1), 1) := by decide +kernel
theorem dX12_sale_164 : decode cX12_sale 164 = .ok (.iastore, 1) := by decide +kernel
theorem dX12_sale_165 : decode cX12_sale 165 = .ok (.aload_n 0, 1) := by decide +kernel
theorem dX12_sale_166 : decode cX12_sale 166 = .ok (.getfield 115, 3) := by decide +kernel
theorem dX12_sale_169 : decode cX12_sale 169 = .ok (.aload_n 0, 1) := by decide +kernel
theorem dX12_sale_170 : decode cX12_sale 170 = .ok (.getfield 368, 3) := by decide +kernel
theorem dX12_sale_173 : decode cX12_sale 173 = .ok (.iconst (-1), 1) := by decide +kernel
theorem dX12_sale_174 : decode cX12_sale 174 = .ok (.iastore, 1) := by decide +kernel
theorem dX12_sale_175 : decode cX12_sale 175 = .ok (.aload_n 0, 1) := by decide +kernel
theorem dX12_sale_176 : decode cX12_sale 176 = .ok (.getfield 118, 3) := by decide +kernel
theorem dX12_sale_179 : decode cX12_sale 179 = .ok (.aload_n 0, 1) := by decide +kernel
theorem dX12_sale_180 : decode cX12_sale 180 = .ok (.getfield 368, 3) := by decide +kernel
theorem dX12_sale_183 : decode cX12_sale 183 = .ok (.iconst (-1), 1) := by decide +kernel
theorem dX12_sale_184 : decode cX12_sale 184 = .ok (.iastore, 1) := by decide +kernel
theorem dX12_sale_185 : decode cX12_sale 185 = .ok (.aload_n 0, 1) := by decide +kernel
theorem dX12_sale_186 : decode cX12_sale 186 = .ok (.dup, 1) := by decide +kernel
theorem dX12_sale_187 : decode cX12_sale 187 = .ok (.getfield 368, 3) := by decide +kernel
theorem dX12_sale_190 : decode cX12_sale 190 = .ok (.iconst 1, 1) := by decide +kernel
theorem dX12_sale_191 : decode cX12_sale 191 = .ok (.iadd, 1) := by decide +kernel
theorem dX12_sale_192 : decode cX12_sale 192 = .ok (.putfield 368, 3) := by decide +kernel
theorem dX12_sale_195 : decode cX12_sale 195 = .ok (.aload_n 0, 1) := by decide +kernel
theorem dX12_sale_196 : decode cX12_sale 196 = .ok (.getfield 368, 3) := by decide +kernel
theorem dX12_sale_199 : decode cX12_sale 199 = .ok (.iconst 1, 1) := by decide +kernel
theorem dX12_sale_200 : decode cX12_sale 200 = .ok (.isub, 1) := by decide +kernel
theorem dX12_sale_201 : decode cX12_sale 201 = .ok (.ireturn, 1) := by decide +kernel
theorem dX12_notice_0 : decode cX12_notice 0 = .ok (.aload_n 0, 1) := by decide +kernel
theorem dX12_notice_1 : decode cX12_notice 1 = .ok (.iload_n 1, 1) := by decide +kernel
theorem dX12_notice_2 : decode cX12_notice 2 = .ok (.invokevirtual 376, 3) := by decide +kernel
theorem dX12_notice_5 : decode cX12_notice 5 = .ok (.ifCond .eq 25, 3) := by decide +kernel
theorem dX12_notice_8 : decode cX12_notice 8 = .ok (.aload_n 0, 1) := by decide +kernel
theorem dX12_notice_9 : decode cX12_notice 9 = .ok (.getfield 112, 3) := by decide +kernel
theorem dX12_notice_12 : decode cX12_notice 12 = .ok (.iload_n 1, 1) := by decide +kernel
theorem dX12_notice_13 : decode cX12_notice 13 = .ok (.iaload, 1) := by decide +kernel
theorem dX12_notice_14 : decode cX12_notice 14 = .ok (.iconst (-1), 1) := by decide +kernel
theorem dX12_notice_15 : decode cX12_notice 15 = .ok (.if_icmp .ne 15, 3) := by decide +kernel
theorem dX12_notice_18 : decode cX12_notice 18 = .ok (.iload_n 2, 1) := by decide +kernel
theorem dX12_notice_19 : decode cX12_notice 19 = .ok (.i2l, 1) := by decide +kernel
theorem dX12_notice_20 : decode cX12_notice 20 = .ok (.lconst 0, 1) := by decide +kernel
theorem dX12_notice_21 : decode cX12_notice 21 = .ok (.ldc2_w 379, 3) := by decide +kernel
theorem dX12_notice_24 : decode cX12_notice 24 = .ok (.invokestatic 156, 3) := by decide +kernel
theorem dX12_notice_27 : decode cX12_notice 27 = .ok (.ifCond .ne 5, 3) := by decide +kernel
theorem dX12_notice_30 : decode cX12_notice 30 = .ok (.iconst 0, 1) := by decide +kernel
theorem dX12_notice_31 : decode cX12_notice 31 = .ok (.ireturn, 1) := by decide +kernel
theorem dX12_notice_32 : decode cX12_notice 32 = .ok (.aload_n 0, 1) := by decide +kernel
theorem dX12_notice_33 : decode cX12_notice 33 = .ok (.getfield 112, 3) := by decide +kernel
theorem dX12_notice_36 : decode cX12_notice 36 = .ok (.iload_n 1, 1) := by decide +kernel
theorem dX12_notice_37 : decode cX12_notice 37 = .ok (.aload_n 0, 1) := by decide +kernel
theorem dX12_notice_38 : decode cX12_notice 38 = .ok (.getfield 13, 3) := by decide +kernel
theorem dX12_notice_41 : decode cX12_notice 41 = .ok (.iastore, 1) := by decide +kernel
theorem dX12_notice_42 : decode cX12_notice 42 = .ok (.aload_n 0, 1) := by decide +kernel
theorem dX12_notice_43 : decode cX12_notice 43 = .ok (.getfield 115, 3) := by decide +kernel
theorem dX12_notice_46 : decode cX12_notice 46 = .ok (.iload_n 1, 1) := by decide +kernel
theorem dX12_notice_47 : decode cX12_notice 47 = .ok (.iload_n 2, 1) := by decide +kernel
theorem dX12_notice_48 : decode cX12_notice 48 = .ok (.iastore, 1) := by decide +kernel
theorem dX12_notice_49 : decode cX12_notice 49 = .ok (.iconst 1, 1) := by decide +kernel
theorem dX12_notice_50 : decode cX12_notice 50 = .ok (.ireturn, 1) := by decide +kernel
theorem dX12_charge_0 : decode cX12_charge 0 = .ok (.aload_n 0, 1) := by decide +kernel
theorem dX12_charge_1 : decode cX12_charge 1 = .ok (.getfield 381, 3) := by decide +kernel
theorem dX12_charge_4 : decode cX12_charge 4 = .ok (.bipush 20, 2) := by decide +kernel
theorem dX12_charge_6 : decode cX12_charge 6 = .ok (.if_icmp .eq 45, 3) := by decide +kernel
theorem dX12_charge_9 : decode cX12_charge 9 = .ok (.aload_n 0, 1) := by decide +kernel
theorem dX12_charge_10 : decode cX12_charge 10 = .ok (.iload_n 1, 1) := by decide +kernel
theorem dX12_charge_11 : decode cX12_charge 11 = .ok (.invokevirtual 165, 3) := by decide +kernel
theorem dX12_charge_14 : decode cX12_charge 14 = .ok (.ifCond .eq 37, 3) := by decide +kernel
theorem dX12_charge_17 : decode cX12_charge 17 = .ok (.aload_n 0, 1) := by decide +kernel
theorem dX12_charge_18 : decode cX12_charge 18 = .ok (.iload_n 3, 1) := by decide +kernel
theorem dX12_charge_19 : decode cX12_charge 19 = .ok (.invokevirtual 165, 3) := by decide +kernel
theorem dX12_charge_22 : decode cX12_charge 22 = .ok (.ifCond .eq 29, 3) := by decide +kernel
theorem dX12_charge_25 : decode cX12_charge 25 = .ok (.iload_n 1, 1) := by decide +kernel
theorem dX12_charge_26 : decode cX12_charge 26 = .ok (.iload_n 3, 1) := by decide +kernel
theorem dX12_charge_27 : decode cX12_charge 27 = .ok (.if_icmp .eq 24, 3) := by decide +kernel
theorem dX12_charge_30 : decode cX12_charge 30 = .ok (.aload_n 0, 1) := by decide +kernel
theorem dX12_charge_31 : decode cX12_charge 31 = .ok (.iload_n 2, 1) := by decide +kernel
theorem dX12_charge_32 : decode cX12_charge 32 = .ok (.invokevirtual 308, 3) := by decide +kernel
theorem dX12_charge_35 : decode cX12_charge 35 = .ok (.ifCond .eq 16, 3) := by decide +kernel
theorem dX12_charge_38 : decode cX12_charge 38 = .ok (.iload 4, 2) := by decide +kernel
theorem dX12_charge_40 : decode cX12_charge 40 = .ok (.i2l, 1) := by decide +kernel
theorem dX12_charge_41 : decode cX12_charge 41 = .ok (.lconst 1, 1) := by decide +kernel
theorem dX12_charge_42 : decode cX12_charge 42 = .ok (.ldc2_w 294, 3) := by decide +kernel
theorem dX12_charge_45 : decode cX12_charge 45 = .ok (.invokestatic 156, 3) := by decide +kernel
theorem dX12_charge_48 : decode cX12_charge 48 = .ok (.ifCond .ne 5, 3) := by decide +kernel
theorem dX12_charge_51 : decode cX12_charge 51 = .ok (.iconst (-1), 1) := by decide +kernel
theorem dX12_charge_52 : decode cX12_charge 52 = .ok (.ireturn, 1) := by decide +kernel
theorem dX12_charge_53 : decode cX12_charge 53 = .ok (.aload_n 0, 1) := by decide +kernel
theorem dX12_charge_54 : decode cX12_charge 54 = .ok (.getfield 121, 3) := by decide +kernel
theorem dX12_charge_57 : decode cX12_charge 57 = .ok (.aload_n 0, 1) := by decide +kernel
theorem dX12_charge_58 : decode cX12_charge 58 = .ok (.getfield 381, 3) := by decide +kernel
theorem dX12_charge_61 : decode cX12_charge 61 = .ok (.iload_n 1, 1) := by decide +kernel
theorem dX12_charge_62 : decode cX12_charge 62 = .ok (.iastore, 1) := by decide +kernel
theorem dX12_charge_63 : decode cX12_charge 63 = .ok (.aload_n 0, 1) := by decide +kernel
theorem dX12_charge_64 : decode cX12_charge 64 = .ok (.getfield 124, 3) := by decide +kernel
theorem dX12_charge_67 : decode cX12_charge 67 = .ok (.aload_n 0, 1) := by decide +kernel
theorem dX12_charge_68 : decode cX12_charge 68 = .ok (.getfield 381, 3) := by decide +kernel
theorem dX12_charge_71 : decode cX12_charge 71 = .ok (.iload_n 2, 1) := by decide +kernel
theorem dX12_charge_72 : decode cX12_charge 72 = .ok (.iastore, 1) := by decide +kernel
theorem dX12_charge_73 : decode cX12_charge 73 = .ok (.aload_n 0, 1) := by decide +kernel
theorem dX12_charge_74 : decode cX12_charge 74 = .ok (.getfield 127, 3) := by decide +kernel
theorem dX12_charge_77 : decode cX12_charge 77 = .ok (.aload_n 0, 1) := by decide +kernel
theorem dX12_charge_78 : decode cX12_charge 78 = .ok (.getfield 381, 3) := by decide +kernel
theorem dX12_charge_81 : decode cX12_charge 81 = .ok (.iload_n 3, 1) := by decide +kernel
theorem dX12_charge_82 : decode cX12_charge 82 = .ok (.iastore, 1) := by decide +kernel
theorem dX12_charge_83 : decode cX12_charge 83 = .ok (.aload_n 0, 1) := by decide +kernel
theorem dX12_charge_84 : decode cX12_charge 84 = .ok (.getfield 130, 3) := by decide +kernel
theorem dX12_charge_87 : decode cX12_charge 87 = .ok (.aload_n 0, 1) := by decide +kernel
theorem dX12_charge_88 : decode cX12_charge 88 = .ok (.getfield 381, 3) := by decide +kernel
theorem dX12_charge_91 : decode cX12_charge 91 = .ok (.iload 4, 2) := by decide +kernel
theorem dX12_charge_93 : decode cX12_charge 93 = .ok (.iastore, 1) := by decide +kernel
theorem dX12_charge_94 : decode cX12_charge 94 = .ok (.aload_n 0, 1) := by decide +kernel
theorem dX12_charge_95 : decode cX12_charge 95 = .ok (.getfield 133, 3) := by decide +kernel
theorem dX12_charge_98 : decode cX12_charge 98 = .ok (.aload_n 0, 1) := by decide +kernel
theorem dX12_charge_99 : decode cX12_charge 99 = .ok (.getfield 381, 3) := by decide +kernel
theorem dX12_charge_102 : decode cX12_charge 102 = .ok (.aload_n 0, 1) := by decide +kernel
theorem dX12_charge_103 : decode cX12_charge 103 = .ok (.getfield 13, 3) := by decide +kernel
theorem dX12_charge_106 : decode cX12_charge 106 = .ok (.iastore, 1) := by decide +kernel
theorem dX12_charge_107 : decode cX12_charge 107 = .ok (.aload_n 0, 1) := by decide +kernel
theorem dX12_charge_108 : decode cX12_charge 108 = .ok (.dup, 1) := by decide +kernel
theorem dX12_charge_109 : decode cX12_charge 109 = .ok (.getfield 381, 3) := by decide +kernel
theorem dX12_charge_112 : decode cX12_charge 112 = .ok (.iconst 1, 1) := by decide +kernel
theorem dX12_charge_113 : decode cX12_charge 113 = .ok (.iadd, 1) := by decide +kernel
theorem dX12_charge_114 : decode cX12_charge 114 = .ok (.putfield 381, 3) := by decide +kernel
theorem dX12_charge_117 : decode cX12_charge 117 = .ok (.aload_n 0, 1) := by decide +kernel
theorem dX12_charge_118 : decode cX12_charge 118 = .ok (.getfield 381, 3) := by decide +kernel
theorem dX12_charge_121 : decode cX12_charge 121 = .ok (.iconst 1, 1) := by decide +kernel
theorem dX12_charge_122 : decode cX12_charge 122 = .ok (.isub, 1) := by decide +kernel
theorem dX12_charge_123 : decode cX12_charge 123 = .ok (.ireturn, 1) := by decide +kernel
theorem dX12_isValue_0 : decode cX12_isValue 0 = .ok (.iload_n 0, 1) := by decide +kernel
theorem dX12_isValue_1 : decode cX12_isValue 1 = .ok (.bipush 112, 2) := by decide +kernel
theorem dX12_isValue_3 : decode cX12_isValue 3 = .ok (.if_icmp .eq 27, 3) := by decide +kernel
theorem dX12_isValue_6 : decode cX12_isValue 6 = .ok (.iload_n 0, 1) := by decide +kernel
theorem dX12_isValue_7 : decode cX12_isValue 7 = .ok (.bipush 119, 2) := by decide +kernel
theorem dX12_isValue_9 : decode cX12_isValue 9 = .ok (.if_icmp .eq 21, 3) := by decide +kernel
theorem dX12_isValue_12 : decode cX12_isValue 12 = .ok (.iload_n 0, 1) := by decide +kernel
theorem dX12_isValue_13 : decode cX12_isValue 13 = .ok (.bipush 97, 2) := by decide +kernel
theorem dX12_isValue_15 : decode cX12_isValue 15 = .ok (.if_icmp .eq 15, 3) := by decide +kernel
theorem dX12_isValue_18 : decode cX12_isValue 18 = .ok (.iload_n 0, 1) := by decide +kernel
theorem dX12_isValue_19 : decode cX12_isValue 19 = .ok (.bipush 118, 2) := by decide +kernel
theorem dX12_isValue_21 : decode cX12_isValue 21 = .ok (.if_icmp .eq 9, 3) := by decide +kernel
theorem dX12_isValue_24 : decode cX12_isValue 24 = .ok (.iload_n 0, 1) := by decide +kernel
theorem dX12_isValue_25 : decode cX12_isValue 25 = .ok (.bipush 116, 2) := by decide +kernel
theorem dX12_isValue_27 : decode cX12_isValue 27 = .ok (.if_icmp .ne 7, 3) := by decide +kernel
theorem dX12_isValue_30 : decode cX12_isValue 30 = .ok (.iconst 1, 1) := by decide +kernel
theorem dX12_isValue_31 : decode cX12_isValue 31 = .ok (.goto 4, 3) := by decide +kernel
theorem dX12_isValue_34 : decode cX12_isValue 34 = .ok (.iconst 0, 1) := by decide +kernel
theorem dX12_isValue_35 : decode cX12_isValue 35 = .ok (.ireturn, 1) := by decide +kernel
theorem dX12_says_0 : decode cX12_says 0 = .ok (.aload_n 0, 1) := by decide +kernel
theorem dX12_says_1 : decode cX12_says 1 = .ok (.invokevirtual 221, 3) := by decide +kernel
theorem dX12_says_4 : decode cX12_says 4 = .ok (.ifCond .ne 4, 3) := by decide +kernel
theorem dX12_says_7 : decode cX12_says 7 = .ok (.return_, 1) := by decide +kernel
theorem dX12_says_8 : decode cX12_says 8 = .ok (.aload_n 0, 1) := by decide +kernel
theorem dX12_says_9 : decode cX12_says 9 = .ok (.getfield 136, 3) := by decide +kernel
theorem dX12_says_12 : decode cX12_says 12 = .ok (.bipush 100, 2) := by decide +kernel
theorem dX12_says_14 : decode cX12_says 14 = .ok (.aload_n 0, 1) := by decide +kernel
theorem dX12_says_15 : decode cX12_says 15 = .ok (.getfield 384, 3) := by decide +kernel
theorem dX12_says_18 : decode cX12_says 18 = .ok (.iadd, 1) := by decide +kernel
theorem dX12_says_19 : decode cX12_says 19 = .ok (.iload_n 1, 1) := by decide +kernel
theorem dX12_says_20 : decode cX12_says 20 = .ok (.iastore, 1) := by decide +kernel
theorem dX12_says_21 : decode cX12_says 21 = .ok (.aload_n 0, 1) := by decide +kernel
theorem dX12_says_22 : decode cX12_says 22 = .ok (.getfield 139, 3) := by decide +kernel
theorem dX12_says_25 : decode cX12_says 25 = .ok (.bipush 100, 2) := by decide +kernel
theorem dX12_says_27 : decode cX12_says 27 = .ok (.aload_n 0, 1) := by decide +kernel
theorem dX12_says_28 : decode cX12_says 28 = .ok (.getfield 384, 3) := by decide +kernel
theorem dX12_says_31 : decode cX12_says 31 = .ok (.iadd, 1) := by decide +kernel
theorem dX12_says_32 : decode cX12_says 32 = .ok (.iload_n 2, 1) := by decide +kernel
theorem dX12_says_33 : decode cX12_says 33 = .ok (.iastore, 1) := by decide +kernel
theorem dX12_says_34 : decode cX12_says 34 = .ok (.aload_n 0, 1) := by decide +kernel
theorem dX12_says_35 : decode cX12_says 35 = .ok (.dup, 1) := by decide +kernel
theorem dX12_says_36 : decode cX12_says 36 = .ok (.getfield 384, 3) := by decide +kernel
theorem dX12_says_39 : decode cX12_says 39 = .ok (.iconst 1, 1) := by decide +kernel
theorem dX12_says_40 : decode cX12_says 40 = .ok (.iadd, 1) := by decide +kernel
theorem dX12_says_41 : decode cX12_says 41 = .ok (.putfield 384, 3) := by decide +kernel
theorem dX12_says_44 : decode cX12_says 44 = .ok (.return_, 1) := by decide +kernel
theorem dX12_sums_0 : decode cX12_sums 0 = .ok (.aload_n 0, 1) := by decide +kernel
theorem dX12_sums_1 : decode cX12_sums 1 = .ok (.invokevirtual 268, 3) := by decide +kernel
theorem dX12_sums_4 : decode cX12_sums 4 = .ok (.bipush 42, 2) := by decide +kernel
theorem dX12_sums_6 : decode cX12_sums 6 = .ok (.if_icmp .eq 25, 3) := by decide +kernel
theorem dX12_sums_9 : decode cX12_sums 9 = .ok (.iload_n 1, 1) := by decide +kernel
theorem dX12_sums_10 : decode cX12_sums 10 = .ok (.ifCond .eq 43, 3) := by decide +kernel
theorem dX12_sums_13 : decode cX12_sums 13 = .ok (.aload_n 0, 1) := by decide +kernel
theorem dX12_sums_14 : decode cX12_sums 14 = .ok (.invokevirtual 268, 3) := by decide +kernel
theorem dX12_sums_17 : decode cX12_sums 17 = .ok (.bipush 43, 2) := by decide +kernel
theorem dX12_sums_19 : decode cX12_sums 19 = .ok (.if_icmp .eq 12, 3) := by decide +kernel
theorem dX12_sums_22 : decode cX12_sums 22 = .ok (.aload_n 0, 1) := by decide +kernel
theorem dX12_sums_23 : decode cX12_sums 23 = .ok (.invokevirtual 268, 3) := by decide +kernel
theorem dX12_sums_26 : decode cX12_sums 26 = .ok (.bipush 45, 2) := by decide +kernel
theorem dX12_sums_28 : decode cX12_sums 28 = .ok (.if_icmp .ne 25, 3) := by decide +kernel
theorem dX12_sums_31 : decode cX12_sums 31 = .ok (.aload_n 0, 1) := by decide +kernel
theorem dX12_sums_32 : decode cX12_sums 32 = .ok (.aload_n 0, 1) := by decide +kernel
theorem dX12_sums_33 : decode cX12_sums 33 = .ok (.invokevirtual 268, 3) := by decide +kernel
theorem dX12_sums_36 : decode cX12_sums 36 = .ok (.iconst 0, 1) := by decide +kernel
theorem dX12_sums_37 : decode cX12_sums 37 = .ok (.invokevirtual 387, 3) := by decide +kernel
theorem dX12_sums_40 : decode cX12_sums 40 = .ok (.aload_n 0, 1) := by decide +kernel
theorem dX12_sums_41 : decode cX12_sums 41 = .ok (.dup, 1) := by decide +kernel
theorem dX12_sums_42 : decode cX12_sums 42 = .ok (.getfield 231, 3) := by decide +kernel
theorem dX12_sums_45 : decode cX12_sums 45 = .ok (.iconst 1, 1) := by decide +kernel
theorem dX12_sums_46 : decode cX12_sums 46 = .ok (.isub, 1) := by decide +kernel
theorem dX12_sums_47 : decode cX12_sums 47 = .ok (.putfield 231, 3) := by decide +kernel
theorem dX12_sums_50 : decode cX12_sums 50 = .ok (.goto (-50), 3) := by decide +kernel
theorem dX12_sums_53 : decode cX12_sums 53 = .ok (.return_, 1) := by decide +kernel
theorem dX12_digits_0 : decode cX12_digits 0 = .ok (.aload_n 0, 1) := by decide +kernel
theorem dX12_digits_1 : decode cX12_digits 1 = .ok (.getfield 200, 3) := by decide +kernel
theorem dX12_digits_4 : decode cX12_digits 4 = .ok (.istore_n 1, 1) := by decide +kernel
theorem dX12_digits_5 : decode cX12_digits 5 = .ok (.iconst 0, 1) := by decide +kernel
theorem dX12_digits_6 : decode cX12_digits 6 = .ok (.istore_n 2, 1) := by decide +kernel
theorem dX12_digits_7 : decode cX12_digits 7 = .ok (.aload_n 0, 1) := by decide +kernel
theorem dX12_digits_8 : decode cX12_digits 8 = .ok (.invokevirtual 221, 3) := by decide +kernel
theorem dX12_digits_11 : decode cX12_digits 11 = .ok (.ifCond .eq 56, 3) := by decide +kernel
theorem dX12_digits_14 : decode cX12_digits 14 = .ok (.aload_n 0, 1) := by decide +kernel
theorem dX12_digits_15 : decode cX12_digits 15 = .ok (.invokevirtual 253, 3) := by decide +kernel
theorem dX12_digits_18 : decode cX12_digits 18 = .ok (.ifCond .eq 49, 3) := by decide +kernel
theorem dX12_digits_21 : decode cX12_digits 21 = .ok (.aload_n 0, 1) := by decide +kernel
theorem dX12_digits_22 : decode cX12_digits 22 = .ok (.getfield 200, 3) := by decide +kernel
theorem dX12_digits_25 : decode cX12_digits 25 = .ok (.iload_n 1, 1) := by decide +kernel
theorem dX12_digits_26 : decode cX12_digits 26 = .ok (.bipush 6, 2) := by decide +kernel
theorem dX12_digits_28 : decode cX12_digits 28 = .ok (.iadd, 1) := by decide +kernel
theorem dX12_digits_29 : decode cX12_digits 29 = .ok (.if_icmp .ne 12, 3) := by decide +kernel
theorem dX12_digits_32 : decode cX12_digits 32 = .ok (.aload_n 0, 1) := by decide +kernel
theorem dX12_digits_33 : decode cX12_digits 33 = .ok (.iconst 2, 1) := by decide +kernel
theorem dX12_digits_34 : decode cX12_digits 34 = .ok (.aload_n 0, 1) := by decide +kernel
theorem dX12_digits_35 : decode cX12_digits 35 = .ok (.getfield 200, 3) := by decide +kernel
theorem dX12_digits_38 : decode cX12_digits 38 = .ok (.invokevirtual 237, 3) := by decide +kernel
theorem dX12_digits_41 : decode cX12_digits 41 = .ok (.bipush 10, 2) := by decide +kernel
theorem dX12_digits_43 : decode cX12_digits 43 = .ok (.iload_n 2, 1) := by decide +kernel
theorem dX12_digits_44 : decode cX12_digits 44 = .ok (.imul, 1) := by decide +kernel
theorem dX12_digits_45 : decode cX12_digits 45 = .ok (.aload_n 0, 1) := by decide +kernel
theorem dX12_digits_46 : decode cX12_digits 46 = .ok (.invokevirtual 213, 3) := by decide +kernel
theorem dX12_digits_49 : decode cX12_digits 49 = .ok (.iadd, 1) := by decide +kernel
theorem dX12_digits_50 : decode cX12_digits 50 = .ok (.bipush 48, 2) := by decide +kernel
theorem dX12_digits_52 : decode cX12_digits 52 = .ok (.isub, 1) := by decide +kernel
theorem dX12_digits_53 : decode cX12_digits 53 = .ok (.istore_n 2, 1) := by decide +kernel
theorem dX12_digits_54 : decode cX12_digits 54 = .ok (.aload_n 0, 1) := by decide +kernel
theorem dX12_digits_55 : decode cX12_digits 55 = .ok (.dup, 1) := by decide +kernel
theorem dX12_digits_56 : decode cX12_digits 56 = .ok (.getfield 200, 3) := by decide +kernel
theorem dX12_digits_59 : decode cX12_digits 59 = .ok (.iconst 1, 1) := by decide +kernel
theorem dX12_digits_60 : decode cX12_digits 60 = .ok (.iadd, 1) := by decide +kernel
theorem dX12_digits_61 : decode cX12_digits 61 = .ok (.putfield 200, 3) := by decide +kernel
theorem dX12_digits_64 : decode cX12_digits 64 = .ok (.goto (-57), 3) := by decide +kernel
theorem dX12_digits_67 : decode cX12_digits 67 = .ok (.aload_n 0, 1) := by decide +kernel
theorem dX12_digits_68 : decode cX12_digits 68 = .ok (.iconst 1, 1) := by decide +kernel
theorem dX12_digits_69 : decode cX12_digits 69 = .ok (.iload_n 2, 1) := by decide +kernel
theorem dX12_digits_70 : decode cX12_digits 70 = .ok (.invokevirtual 387, 3) := by decide +kernel
theorem dX12_digits_73 : decode cX12_digits 73 = .ok (.return_, 1) := by decide +kernel
theorem dX12_expression_0 : decode cX12_expression 0 = .ok (.iconst 1, 1) := by decide +kernel
theorem dX12_expression_1 : decode cX12_expression 1 = .ok (.istore_n 1, 1) := by decide +kernel
theorem dX12_expression_2 : decode cX12_expression 2 = .ok (.iconst 1, 1) := by decide +kernel
theorem dX12_expression_3 : decode cX12_expression 3 = .ok (.istore_n 2, 1) := by decide +kernel
theorem dX12_expression_4 : decode cX12_expression 4 = .ok (.aload_n 0, 1) := by decide +kernel
theorem dX12_expression_5 : decode cX12_expression 5 = .ok (.iconst 0, 1) := by decide +kernel
theorem dX12_expression_6 : decode cX12_expression 6 = .ok (.putfield 231, 3) := by decide +kernel
theorem dX12_expression_9 : decode cX12_expression 9 = .ok (.aload_n 0, 1) := by decide +kernel
theorem dX12_expression_10 : decode cX12_expression 10 = .ok (.iconst 0, 1) := by decide +kernel
theorem dX12_expression_11 : decode cX12_expression 11 = .ok (.putfield 234, 3) := by decide +kernel
theorem dX12_expression_14 : decode cX12_expression 14 = .ok (.aload_n 0, 1) := by decide +kernel
theorem dX12_expression_15 : decode cX12_expression 15 = .ok (.invokevirtual 221, 3) := by decide +kernel
theorem dX12_expression_18 : decode cX12_expression 18 = .ok (.ifCond .eq 204, 3) := by decide +kernel
theorem dX12_expression_21 : decode cX12_expression 21 = .ok (.iload_n 2, 1) := by decide +kernel
theorem dX12_expression_22 : decode cX12_expression 22 = .ok (.ifCond .eq 200, 3) := by decide +kernel
theorem dX12_expression_25 : decode cX12_expression 25 = .ok (.aload_n 0, 1) := by decide +kernel
theorem dX12_expression_26 : decode cX12_expression 26 = .ok (.invokevirtual 213, 3) := by decide +kernel
theorem dX12_expression_29 : decode cX12_expression 29 = .ok (.istore_n 3, 1) := by decide +kernel
theorem dX12_expression_30 : decode cX12_expression 30 = .ok (.iload_n 1, 1) := by decide +kernel
theorem dX12_expression_31 : decode cX12_expression 31 = .ok (.ifCond .eq 16, 3) := by decide +kernel
theorem dX12_expression_34 : decode cX12_expression 34 = .ok (.iload_n 3, 1) := by decide +kernel
theorem dX12_expression_35 : decode cX12_expression 35 = .ok (.bipush 40, 2) := by decide +kernel
theorem dX12_expression_37 : decode cX12_expression 37 = .ok (.if_icmp .ne 10, 3) := by decide +kernel
theorem dX12_expression_40 : decode cX12_expression 40 = .ok (.aload_n 0, 1) := by decide +kernel
theorem dX12_expression_41 : decode cX12_expression 41 = .ok (.invokevirtual 271, 3) := by decide +kernel
theorem dX12_expression_44 : decode cX12_expression 44 = .ok (.goto 175, 3) := by decide +kernel
theorem dX12_expression_47 : decode cX12_expression 47 = .ok (.iload_n 1, 1) := by decide +kernel
theorem dX12_expression_48 : decode cX12_expression 48 = .ok (.ifCond .eq 54, 3) := by decide +kernel
theorem dX12_expression_51 : decode cX12_expression 51 = .ok (.aload_n 0, 1) := by decide +kernel
theorem dX12_expression_52 : decode cX12_expression 52 = .ok (.invokevirtual 253, 3) := by decide +kernel
theorem dX12_expression_55 : decode cX12_expression 55 = .ok (.ifCond .eq 10, 3) := by decide +kernel
theorem dX12_expression_58 : decode cX12_expression 58 = .ok (.aload_n 0, 1) := by decide +kernel
theorem dX12_expression_59 : decode cX12_expression 59 = .ok (.invokevirtual 390, 3) := by decide +kernel
theorem dX12_expression_62 : decode cX12_expression 62 = .ok (.goto 35, 3) := by decide +kernel
theorem dX12_expression_65 : decode cX12_expression 65 = .ok (.iload_n 3, 1) := by decide +kernel
theorem dX12_expression_66 : decode cX12_expression 66 = .ok (.invokestatic 393, 3) := by decide +kernel
theorem dX12_expression_69 : decode cX12_expression 69 = .ok (.ifCond .ne 12, 3) := by decide +kernel
theorem dX12_expression_72 : decode cX12_expression 72 = .ok (.aload_n 0, 1) := by decide +kernel
theorem dX12_expression_73 : decode cX12_expression 73 = .ok (.iconst 1, 1) := by decide +kernel
theorem dX12_expression_74 : decode cX12_expression 74 = .ok (.aload_n 0, 1) := by decide +kernel
theorem dX12_expression_75 : decode cX12_expression 75 = .ok (.getfield 200, 3) := by decide +kernel
theorem dX12_expression_78 : decode cX12_expression 78 = .ok (.invokevirtual 237, 3) := by decide +kernel
theorem dX12_expression_81 : decode cX12_expression 81 = .ok (.aload_n 0, 1) := by decide +kernel
theorem dX12_expression_82 : decode cX12_expression 82 = .ok (.iconst 2, 1) := by decide +kernel
theorem dX12_expression_83 : decode cX12_expression 83 = .ok (.iload_n 3, 1) := by decide +kernel
theorem dX12_expression_84 : decode cX12_expression 84 = .ok (.invokevirtual 387, 3) := by decide +kernel
theorem dX12_expression_87 : decode cX12_expression 87 = .ok (.aload_n 0, 1) := by decide +kernel
theorem dX12_expression_88 : decode cX12_expression 88 = .ok (.dup, 1) := by decide +kernel
theorem dX12_expression_89 : decode cX12_expression 89 = .ok (.getfield 200, 3) := by decide +kernel
theorem dX12_expression_92 : decode cX12_expression 92 = .ok (.iconst 1, 1) := by decide +kernel
theorem dX12_expression_93 : decode cX12_expression 93 = .ok (.iadd, 1) := by decide +kernel
theorem dX12_expression_94 : decode cX12_expression 94 = .ok (.putfield 200, 3) := by decide +kernel
theorem dX12_expression_97 : decode cX12_expression 97 = .ok (.iconst 0, 1) := by decide +kernel
theorem dX12_expression_98 : decode cX12_expression 98 = .ok (.istore_n 1, 1) := by decide +kernel
theorem dX12_expression_99 : decode cX12_expression 99 = .ok (.goto 120, 3) := by decide +kernel
theorem dX12_expression_102 : decode cX12_expression 102 = .ok (.iload_n 3, 1) := by decide +kernel
theorem dX12_expression_103 : decode cX12_expression 103 = .ok (.bipush 42, 2) := by decide +kernel
theorem dX12_expression_105 : decode cX12_expression 105 = .ok (.if_icmp .eq 15, 3) := by decide +kernel
theorem dX12_expression_108 : decode cX12_expression 108 = .ok (.iload_n 3, 1) := by decide +kernel
theorem dX12_expression_109 : decode cX12_expression 109 = .ok (.bipush 43, 2) := by decide +kernel
theorem dX12_expression_111 : decode cX12_expression 111 = .ok (.if_icmp .eq 9, 3) := by decide +kernel
theorem dX12_expression_114 : decode cX12_expression 114 = .ok (.iload_n 3, 1) := by decide +kernel
theorem dX12_expression_115 : decode cX12_expression 115 = .ok (.bipush 45, 2) := by decide +kernel
theorem dX12_expression_117 : decode cX12_expression 117 = .ok (.if_icmp .ne 28, 3) := by decide +kernel
theorem dX12_expression_120 : decode cX12_expression 120 = .ok (.aload_n 0, 1) := by decide +kernel
theorem dX12_expression_121 : decode cX12_expression 121 = .ok (.iload_n 3, 1) := by decide +kernel
theorem dX12_expression_122 : decode cX12_expression 122 = .ok (.bipush 42, 2) := by decide +kernel
theorem dX12_expression_124 : decode cX12_expression 124 = .ok (.if_icmp .eq 7, 3) := by decide +kernel
theorem dX12_expression_127 : decode cX12_expression 127 = .ok (.iconst 1, 1) := by decide +kernel
theorem dX12_expression_128 : decode cX12_expression 128 = .ok (.goto 4, 3) := by decide +kernel
theorem dX12_expression_131 : decode cX12_expression 131 = .ok (.iconst 0, 1) := by decide +kernel
theorem dX12_expression_132 : decode cX12_expression 132 = .ok (.invokevirtual 396, 3) := by decide +kernel
theorem dX12_expression_135 : decode cX12_expression 135 = .ok (.aload_n 0, 1) := by decide +kernel
theorem dX12_expression_136 : decode cX12_expression 136 = .ok (.iload_n 3, 1) := by decide +kernel
theorem dX12_expression_137 : decode cX12_expression 137 = .ok (.invokevirtual 241, 3) := by decide +kernel
theorem dX12_expression_140 : decode cX12_expression 140 = .ok (.iconst 1, 1) := by decide +kernel
theorem dX12_expression_141 : decode cX12_expression 141 = .ok (.istore_n 1, 1) := by decide +kernel
theorem dX12_expression_142 : decode cX12_expression 142 = .ok (.goto 77, 3) := by decide +kernel
theorem dX12_expression_145 : decode cX12_expression 145 = .ok (.iload_n 3, 1) := by decide +kernel
theorem dX12_expression_146 : decode cX12_expression 146 = .ok (.bipush 41, 2) := by decide +kernel
theorem dX12_expression_148 : decode cX12_expression 148 = .ok (.if_icmp .ne 48, 3) := by decide +kernel
theorem dX12_expression_151 : decode cX12_expression 151 = .ok (.aload_n 0, 1) := by decide +kernel
theorem dX12_expression_152 : decode cX12_expression 152 = .ok (.getfield 234, 3) := by decide +kernel
theorem dX12_expression_155 : decode cX12_expression 155 = .ok (.ifCond .le 41, 3) := by decide +kernel
theorem dX12_expression_158 : decode cX12_expression 158 = .ok (.aload_n 0, 1) := by decide +kernel
theorem dX12_expression_159 : decode cX12_expression 159 = .ok (.iconst 1, 1) := by decide +kernel
theorem dX12_expression_160 : decode cX12_expression 160 = .ok (.invokevirtual 396, 3) := by decide +kernel
theorem dX12_expression_163 : decode cX12_expression 163 = .ok (.aload_n 0, 1) := by decide +kernel
theorem dX12_expression_164 : decode cX12_expression 164 = .ok (.dup, 1) := by decide +kernel
theorem dX12_expression_165 : decode cX12_expression 165 = .ok (.getfield 231, 3) := by decide +kernel
theorem dX12_expression_168 : decode cX12_expression 168 = .ok (.iconst 1, 1) := by decide +kernel
theorem dX12_expression_169 : decode cX12_expression 169 = .ok (.isub, 1) := by decide +kernel
theorem dX12_expression_170 : decode cX12_expression 170 = .ok (.putfield 231, 3) := by decide +kernel
theorem dX12_expression_173 : decode cX12_expression 173 = .ok (.aload_n 0, 1) := by decide +kernel
theorem dX12_expression_174 : decode cX12_expression 174 = .ok (.dup, 1) := by decide +kernel
theorem dX12_expression_175 : decode cX12_expression 175 = .ok (.getfield 234, 3) := by decide +kernel
theorem dX12_expression_178 : decode cX12_expression 178 = .ok (.iconst 1, 1) := by decide +kernel
theorem dX12_expression_179 : decode cX12_expression 179 = .ok (.isub, 1) := by decide +kernel
theorem dX12_expression_180 : decode cX12_expression 180 = .ok (.putfield 234, 3) := by decide +kernel
theorem dX12_expression_183 : decode cX12_expression 183 = .ok (.aload_n 0, 1) := by decide +kernel
theorem dX12_expression_184 : decode cX12_expression 184 = .ok (.dup, 1) := by decide +kernel
theorem dX12_expression_185 : decode cX12_expression 185 = .ok (.getfield 200, 3) := by decide +kernel
theorem dX12_expression_188 : decode cX12_expression 188 = .ok (.iconst 1, 1) := by decide +kernel
theorem dX12_expression_189 : decode cX12_expression 189 = .ok (.iadd, 1) := by decide +kernel
theorem dX12_expression_190 : decode cX12_expression 190 = .ok (.putfield 200, 3) := by decide +kernel
theorem dX12_expression_193 : decode cX12_expression 193 = .ok (.goto 26, 3) := by decide +kernel
theorem dX12_expression_196 : decode cX12_expression 196 = .ok (.aload_n 0, 1) := by decide +kernel
theorem dX12_expression_197 : decode cX12_expression 197 = .ok (.iconst 1, 1) := by decide +kernel
theorem dX12_expression_198 : decode cX12_expression 198 = .ok (.invokevirtual 396, 3) := by decide +kernel
theorem dX12_expression_201 : decode cX12_expression 201 = .ok (.aload_n 0, 1) := by decide +kernel
theorem dX12_expression_202 : decode cX12_expression 202 = .ok (.getfield 234, 3) := by decide +kernel
theorem dX12_expression_205 : decode cX12_expression 205 = .ok (.ifCond .le 12, 3) := by decide +kernel
theorem dX12_expression_208 : decode cX12_expression 208 = .ok (.aload_n 0, 1) := by decide +kernel
theorem dX12_expression_209 : decode cX12_expression 209 = .ok (.iconst 1, 1) := by decide +kernel
theorem dX12_expression_210 : decode cX12_expression 210 = .ok (.aload_n 0, 1) := by decide +kernel
theorem dX12_expression_211 : decode cX12_expression 211 = .ok (.getfield 200, 3) := by decide +kernel
theorem dX12_expression_214 : decode cX12_expression 214 = .ok (.invokevirtual 237, 3) := by decide +kernel
theorem dX12_expression_217 : decode cX12_expression 217 = .ok (.iconst 0, 1) := by decide +kernel
theorem dX12_expression_218 : decode cX12_expression 218 = .ok (.istore_n 2, 1) := by decide +kernel
theorem dX12_expression_219 : decode cX12_expression 219 = .ok (.goto (-205), 3) := by decide +kernel
theorem dX12_expression_222 : decode cX12_expression 222 = .ok (.return_, 1) := by decide +kernel
theorem dX12_act_0 : decode cX12_act 0 = .ok (.iload_n 1, 1) := by decide +kernel
theorem dX12_act_1 : decode cX12_act 1 = .ok (.i2l, 1) := by decide +kernel
theorem dX12_act_2 : decode cX12_act 2 = .ok (.lconst 1, 1) := by decide +kernel
theorem dX12_act_3 : decode cX12_act 3 = .ok (.ldc2_w 399, 3) := by decide +kernel
theorem dX12_act_6 : decode cX12_act 6 = .ok (.invokestatic 156, 3) := by decide +kernel
theorem dX12_act_9 : decode cX12_act 9 = .ok (.ifCond .eq 11, 3) := by decide +kernel
theorem dX12_act_12 : decode cX12_act 12 = .ok (.iload_n 1, 1) := by decide +kernel
theorem dX12_act_13 : decode cX12_act 13 = .ok (.aload_n 0, 1) := by decide +kernel
theorem dX12_act_14 : decode cX12_act 14 = .ok (.getfield 193, 3) := by decide +kernel
theorem dX12_act_17 : decode cX12_act 17 = .ok (.if_icmp .le 5, 3) := by decide +kernel
theorem dX12_act_20 : decode cX12_act 20 = .ok (.iconst (-1), 1) := by decide +kernel
theorem dX12_act_21 : decode cX12_act 21 = .ok (.ireturn, 1) := by decide +kernel
theorem dX12_act_22 : decode cX12_act 22 = .ok (.aload_n 0, 1) := by decide +kernel
theorem dX12_act_23 : decode cX12_act 23 = .ok (.iconst 0, 1) := by decide +kernel
theorem dX12_act_24 : decode cX12_act 24 = .ok (.putfield 193, 3) := by decide +kernel
theorem dX12_act_27 : decode cX12_act 27 = .ok (.aload_n 0, 1) := by decide +kernel
theorem dX12_act_28 : decode cX12_act 28 = .ok (.iconst 0, 1) := by decide +kernel
theorem dX12_act_29 : decode cX12_act 29 = .ok (.putfield 200, 3) := by decide +kernel
theorem dX12_act_32 : decode cX12_act 32 = .ok (.aload_n 0, 1) := by decide +kernel
theorem dX12_act_33 : decode cX12_act 33 = .ok (.iload_n 1, 1) := by decide +kernel
theorem dX12_act_34 : decode cX12_act 34 = .ok (.putfield 203, 3) := by decide +kernel
theorem dX12_act_37 : decode cX12_act 37 = .ok (.aload_n 0, 1) := by decide +kernel
theorem dX12_act_38 : decode cX12_act 38 = .ok (.iconst 0, 1) := by decide +kernel
theorem dX12_act_39 : decode cX12_act 39 = .ok (.putfield 206, 3) := by decide +kernel
theorem dX12_act_42 : decode cX12_act 42 = .ok (.aload_n 0, 1) := by decide +kernel
theorem dX12_act_43 : decode cX12_act 43 = .ok (.iconst 0, 1) := by decide +kernel
theorem dX12_act_44 : decode cX12_act 44 = .ok (.putfield 384, 3) := by decide +kernel
theorem dX12_act_47 : decode cX12_act 47 = .ok (.aload_n 0, 1) := by decide +kernel
theorem dX12_act_48 : decode cX12_act 48 = .ok (.invokevirtual 401, 3) := by decide +kernel
theorem dX12_act_51 : decode cX12_act 51 = .ok (.aload_n 0, 1) := by decide +kernel
theorem dX12_act_52 : decode cX12_act 52 = .ok (.invokevirtual 213, 3) := by decide +kernel
theorem dX12_act_55 : decode cX12_act 55 = .ok (.istore_n 2, 1) := by decide +kernel
theorem dX12_act_56 : decode cX12_act 56 = .ok (.aload_n 0, 1) := by decide +kernel
theorem dX12_act_57 : decode cX12_act 57 = .ok (.invokevirtual 221, 3) := by decide +kernel
theorem dX12_act_60 : decode cX12_act 60 = .ok (.ifCond .eq 24, 3) := by decide +kernel
theorem dX12_act_63 : decode cX12_act 63 = .ok (.iload_n 2, 1) := by decide +kernel
theorem dX12_act_64 : decode cX12_act 64 = .ok (.bipush 60, 2) := by decide +kernel
theorem dX12_act_66 : decode cX12_act 66 = .ok (.if_icmp .eq 18, 3) := by decide +kernel
theorem dX12_act_69 : decode cX12_act 69 = .ok (.iload_n 2, 1) := by decide +kernel
theorem dX12_act_70 : decode cX12_act 70 = .ok (.bipush 62, 2) := by decide +kernel
theorem dX12_act_72 : decode cX12_act 72 = .ok (.if_icmp .eq 12, 3) := by decide +kernel
theorem dX12_act_75 : decode cX12_act 75 = .ok (.aload_n 0, 1) := by decide +kernel
theorem dX12_act_76 : decode cX12_act 76 = .ok (.iconst 1, 1) := by decide +kernel
theorem dX12_act_77 : decode cX12_act 77 = .ok (.aload_n 0, 1) := by decide +kernel
theorem dX12_act_78 : decode cX12_act 78 = .ok (.getfield 200, 3) := by decide +kernel
theorem dX12_act_81 : decode cX12_act 81 = .ok (.invokevirtual 237, 3) := by decide +kernel
theorem dX12_act_84 : decode cX12_act 84 = .ok (.aload_n 0, 1) := by decide +kernel
theorem dX12_act_85 : decode cX12_act 85 = .ok (.dup, 1) := by decide +kernel
theorem dX12_act_86 : decode cX12_act 86 = .ok (.getfield 200, 3) := by decide +kernel
theorem dX12_act_89 : decode cX12_act 89 = .ok (.iconst 1, 1) := by decide +kernel
theorem dX12_act_90 : decode cX12_act 90 = .ok (.iadd, 1) := by decide +kernel
theorem dX12_act_91 : decode cX12_act 91 = .ok (.putfield 200, 3) := by decide +kernel
theorem dX12_act_94 : decode cX12_act 94 = .ok (.aload_n 0, 1) := by decide +kernel
theorem dX12_act_95 : decode cX12_act 95 = .ok (.invokevirtual 221, 3) := by decide +kernel
theorem dX12_act_98 : decode cX12_act 98 = .ok (.ifCond .eq 7, 3) := by decide +kernel
theorem dX12_act_101 : decode cX12_act 101 = .ok (.aload_n 0, 1) := by decide +kernel
theorem dX12_act_102 : decode cX12_act 102 = .ok (.invokevirtual 401, 3) := by decide +kernel
theorem dX12_act_105 : decode cX12_act 105 = .ok (.aload_n 0, 1) := by decide +kernel
theorem dX12_act_106 : decode cX12_act 106 = .ok (.invokevirtual 221, 3) := by decide +kernel
theorem dX12_act_109 : decode cX12_act 109 = .ok (.ifCond .eq 23, 3) := by decide +kernel
theorem dX12_act_112 : decode cX12_act 112 = .ok (.aload_n 0, 1) := by decide +kernel
theorem dX12_act_113 : decode cX12_act 113 = .ok (.getfield 200, 3) := by decide +kernel
theorem dX12_act_116 : decode cX12_act 116 = .ok (.aload_n 0, 1) := by decide +kernel
theorem dX12_act_117 : decode cX12_act 117 = .ok (.getfield 203, 3) := by decide +kernel
theorem dX12_act_120 : decode cX12_act 120 = .ok (.if_icmp .ge 12, 3) := by decide +kernel
theorem dX12_act_123 : decode cX12_act 123 = .ok (.aload_n 0, 1) := by decide +kernel
theorem dX12_act_124 : decode cX12_act 124 = .ok (.iconst 1, 1) := by decide +kernel
theorem dX12_act_125 : decode cX12_act 125 = .ok (.aload_n 0, 1) := by decide +kernel
theorem dX12_act_126 : decode cX12_act 126 = .ok (.getfield 200, 3) := by decide +kernel
theorem dX12_act_129 : decode cX12_act 129 = .ok (.invokevirtual 237, 3) := by decide +kernel
theorem dX12_act_132 : decode cX12_act 132 = .ok (.aload_n 0, 1) := by decide +kernel
theorem dX12_act_133 : decode cX12_act 133 = .ok (.iload_n 2, 1) := by decide +kernel
theorem dX12_act_134 : decode cX12_act 134 = .ok (.iconst 0, 1) := by decide +kernel
theorem dX12_act_135 : decode cX12_act 135 = .ok (.invokevirtual 387, 3) := by decide +kernel
theorem dX12_act_138 : decode cX12_act 138 = .ok (.aload_n 0, 1) := by decide +kernel
theorem dX12_act_139 : decode cX12_act 139 = .ok (.getfield 206, 3) := by decide +kernel
theorem dX12_act_142 : decode cX12_act 142 = .ok (.ifCond .ge 8, 3) := by decide +kernel
theorem dX12_act_145 : decode cX12_act 145 = .ok (.aload_n 0, 1) := by decide +kernel
theorem dX12_act_146 : decode cX12_act 146 = .ok (.getfield 206, 3) := by decide +kernel
theorem dX12_act_149 : decode cX12_act 149 = .ok (.ireturn, 1) := by decide +kernel
theorem dX12_act_150 : decode cX12_act 150 = .ok (.aload_n 0, 1) := by decide +kernel
theorem dX12_act_151 : decode cX12_act 151 = .ok (.iconst 1, 1) := by decide +kernel
theorem dX12_act_152 : decode cX12_act 152 = .ok (.putfield 404, 3) := by decide +kernel
theorem dX12_act_155 : decode cX12_act 155 = .ok (.aload_n 0, 1) := by decide +kernel
theorem dX12_act_156 : decode cX12_act 156 = .ok (.aload_n 0, 1) := by decide +kernel
theorem dX12_act_157 : decode cX12_act 157 = .ok (.getfield 384, 3) := by decide +kernel
theorem dX12_act_160 : decode cX12_act 160 = .ok (.putfield 408, 3) := by decide +kernel
theorem dX12_act_163 : decode cX12_act 163 = .ok (.iconst 0, 1) := by decide +kernel
theorem dX12_act_164 : decode cX12_act 164 = .ok (.istore_n 3, 1) := by decide +kernel
theorem dX12_act_165 : decode cX12_act 165 = .ok (.iload_n 3, 1) := by decide +kernel
theorem dX12_act_166 : decode cX12_act 166 = .ok (.aload_n 0, 1) := by decide +kernel
theorem dX12_act_167 : decode cX12_act 167 = .ok (.getfield 384, 3) := by decide +kernel
theorem dX12_act_170 : decode cX12_act 170 = .ok (.if_icmp .ge 39, 3) := by decide +kernel
theorem dX12_act_173 : decode cX12_act 173 = .ok (.aload_n 0, 1) := by decide +kernel
theorem dX12_act_174 : decode cX12_act 174 = .ok (.getfield 136, 3) := by decide +kernel
theorem dX12_act_177 : decode cX12_act 177 = .ok (.iload_n 3, 1) := by decide +kernel
theorem dX12_act_178 : decode cX12_act 178 = .ok (.aload_n 0, 1) := by decide +kernel
theorem dX12_act_179 : decode cX12_act 179 = .ok (.getfield 136, 3) := by decide +kernel
theorem dX12_act_182 : decode cX12_act 182 = .ok (.bipush 100, 2) := by decide +kernel
theorem dX12_act_184 : decode cX12_act 184 = .ok (.iload_n 3, 1) := by decide +kernel
theorem dX12_act_185 : decode cX12_act 185 = .ok (.iadd, 1) := by decide +kernel
theorem dX12_act_186 : decode cX12_act 186 = .ok (.iaload, 1) := by decide +kernel
theorem dX12_act_187 : decode cX12_act 187 = .ok (.iastore, 1) := by decide +kernel
theorem dX12_act_188 : decode cX12_act 188 = .ok (.aload_n 0, 1) := by decide +kernel
theorem dX12_act_189 : decode cX12_act 189 = .ok (.getfield 139, 3) := by decide +kernel
theorem dX12_act_192 : decode cX12_act 192 = .ok (.iload_n 3, 1) := by decide +kernel
theorem dX12_act_193 : decode cX12_act 193 = .ok (.aload_n 0, 1) := by decide +kernel
theorem dX12_act_194 : decode cX12_act 194 = .ok (.getfield 139, 3) := by decide +kernel
theorem dX12_act_197 : decode cX12_act 197 = .ok (.bipush 100, 2) := by decide +kernel
theorem dX12_act_199 : decode cX12_act 199 = .ok (.iload_n 3, 1) := by decide +kernel
theorem dX12_act_200 : decode cX12_act 200 = .ok (.iadd, 1) := by decide +kernel
theorem dX12_act_201 : decode cX12_act 201 = .ok (.iaload, 1) := by decide +kernel
theorem dX12_act_202 : decode cX12_act 202 = .ok (.iastore, 1) := by decide +kernel
theorem dX12_act_203 : decode cX12_act 203 = .ok (.iinc 3 1, 3) := by decide +kernel
theorem dX12_act_206 : decode cX12_act 206 = .ok (.goto (-41), 3) := by decide +kernel
theorem dX12_act_209 : decode cX12_act 209 = .ok (.iconst 0, 1) := by decide +kernel
theorem dX12_act_210 : decode cX12_act 210 = .ok (.ireturn, 1) := by decide +kernel
theorem dX12_valueOf_0 : decode cX12_valueOf 0 = .ok (.iload_n 0, 1) := by decide +kernel
theorem dX12_valueOf_1 : decode cX12_valueOf 1 = .ok (.bipush 112, 2) := by decide +kernel
theorem dX12_valueOf_3 : decode cX12_valueOf 3 = .ok (.if_icmp .ne 7, 3) := by decide +kernel
theorem dX12_valueOf_6 : decode cX12_valueOf 6 = .ok (.lload_n 1, 1) := by decide +kernel
theorem dX12_valueOf_7 : decode cX12_valueOf 7 = .ok (.goto 40, 3) := by decide +kernel
theorem dX12_valueOf_10 : decode cX12_valueOf 10 = .ok (.iload_n 0, 1) := by decide +kernel
theorem dX12_valueOf_11 : decode cX12_valueOf 11 = .ok (.bipush 119, 2) := by decide +kernel
theorem dX12_valueOf_13 : decode cX12_valueOf 13 = .ok (.if_icmp .ne 7, 3) := by decide +kernel
theorem dX12_valueOf_16 : decode cX12_valueOf 16 = .ok (.lload_n 3, 1) := by decide +kernel
theorem dX12_valueOf_17 : decode cX12_valueOf 17 = .ok (.goto 30, 3) := by decide +kernel
theorem dX12_valueOf_20 : decode cX12_valueOf 20 = .ok (.iload_n 0, 1) := by decide +kernel
theorem dX12_valueOf_21 : decode cX12_valueOf 21 = .ok (.bipush 97, 2) := by decide +kernel
theorem dX12_valueOf_23 : decode cX12_valueOf 23 = .ok (.if_icmp .ne 9, 3) := by decide +kernel
theorem dX12_valueOf_26 : decode cX12_valueOf 26 = .ok (.iload 5, 2) := by decide +kernel
theorem dX12_valueOf_28 : decode cX12_valueOf 28 = .ok (.i2l, 1) := by decide +kernel
theorem dX12_valueOf_29 : decode cX12_valueOf 29 = .ok (.goto 18, 3) := by decide +kernel
theorem dX12_valueOf_32 : decode cX12_valueOf 32 = .ok (.iload_n 0, 1) := by decide +kernel
theorem dX12_valueOf_33 : decode cX12_valueOf 33 = .ok (.bipush 118, 2) := by decide +kernel
theorem dX12_valueOf_35 : decode cX12_valueOf 35 = .ok (.if_icmp .ne 9, 3) := by decide +kernel
theorem dX12_valueOf_38 : decode cX12_valueOf 38 = .ok (.iload 6, 2) := by decide +kernel
theorem dX12_valueOf_40 : decode cX12_valueOf 40 = .ok (.i2l, 1) := by decide +kernel
theorem dX12_valueOf_41 : decode cX12_valueOf 41 = .ok (.goto 6, 3) := by decide +kernel
theorem dX12_valueOf_44 : decode cX12_valueOf 44 = .ok (.iload 7, 2) := by decide +kernel
theorem dX12_valueOf_46 : decode cX12_valueOf 46 = .ok (.i2l, 1) := by decide +kernel
theorem dX12_valueOf_47 : decode cX12_valueOf 47 = .ok (.lreturn, 1) := by decide +kernel
theorem dX12_isHard_0 : decode cX12_isHard 0 = .ok (.iconst 0, 1) := by decide +kernel
theorem dX12_isHard_1 : decode cX12_isHard 1 = .ok (.istore 8, 2) := by decide +kernel
theorem dX12_isHard_3 : decode cX12_isHard 3 = .ok (.iconst 0, 1) := by decide +kernel
theorem dX12_isHard_4 : decode cX12_isHard 4 = .ok (.istore 9, 2) := by decide +kernel
theorem dX12_isHard_6 : decode cX12_isHard 6 = .ok (.iload 9, 2) := by decide +kernel
theorem dX12_isHard_8 : decode cX12_isHard 8 = .ok (.aload_n 0, 1) := by decide +kernel
theorem dX12_isHard_9 : decode cX12_isHard 9 = .ok (.getfield 408, 3) := by decide +kernel
theorem dX12_isHard_12 : decode cX12_isHard 12 = .ok (.if_icmp .ge 199, 3) := by decide +kernel
theorem dX12_isHard_15 : decode cX12_isHard 15 = .ok (.aload_n 0, 1) := by decide +kernel
theorem dX12_isHard_16 : decode cX12_isHard 16 = .ok (.getfield 136, 3) := by decide +kernel
theorem dX12_isHard_19 : decode cX12_isHard 19 = .ok (.iload 9, 2) := by decide +kernel
theorem dX12_isHard_21 : decode cX12_isHard 21 = .ok (.iaload, 1) := by decide +kernel
theorem dX12_isHard_22 : decode cX12_isHard 22 = .ok (.istore 10, 2) := by decide +kernel
theorem dX12_isHard_24 : decode cX12_isHard 24 = .ok (.iload 10, 2) := by decide +kernel
theorem dX12_isHard_26 : decode cX12_isHard 26 = .ok (.iconst 1, 1) := by decide +kernel
theorem dX12_isHard_27 : decode cX12_isHard 27 = .ok (.if_icmp .eq 9, 3) := by decide +kernel
theorem dX12_isHard_30 : decode cX12_isHard 30 = .ok (.iload 10, 2) := by decide +kernel
theorem dX12_isHard_32 : decode cX12_isHard 32 = .ok (.iconst 2, 1) := by decide +kernel
theorem dX12_isHard_33 : decode cX12_isHard 33 = .ok (.if_icmp .ne 59, 3) := by decide +kernel
theorem dX12_isHard_36 : decode cX12_isHard 36 = .ok (.aload_n 0, 1) := by decide +kernel
theorem dX12_isHard_37 : decode cX12_isHard 37 = .ok (.getfield 142, 3) := by decide +kernel
theorem dX12_isHard_40 : decode cX12_isHard 40 = .ok (.iload 8, 2) := by decide +kernel
theorem dX12_isHard_42 : decode cX12_isHard 42 = .ok (.iload 10, 2) := by decide +kernel
theorem dX12_isHard_44 : decode cX12_isHard 44 = .ok (.iconst 1, 1) := by decide +kernel
theorem dX12_isHard_45 : decode cX12_isHard 45 = .ok (.if_icmp .ne 14, 3) := by decide +kernel
theorem dX12_isHard_48 : decode cX12_isHard 48 = .ok (.aload_n 0, 1) := by decide +kernel
theorem dX12_isHard_49 : decode cX12_isHard 49 = .ok (.getfield 139, 3) := by decide +kernel
theorem dX12_isHard_52 : decode cX12_isHard 52 = .ok (.iload 9, 2) := by decide +kernel
theorem dX12_isHard_54 : decode cX12_isHard 54 = .ok (.iaload, 1) := by decide +kernel
theorem dX12_isHard_55 : decode cX12_isHard 55 = .ok (.i2l, 1) := by decide +kernel
theorem dX12_isHard_56 : decode cX12_isHard 56 = .ok (.goto 29, 3) := by decide +kernel
theorem dX12_isHard_59 : decode cX12_isHard 59 = .ok (.aload_n 0, 1) := by decide +kernel
theorem dX12_isHard_60 : decode cX12_isHard 60 = .ok (.getfield 139, 3) := by decide +kernel
theorem dX12_isHard_63 : decode cX12_isHard 63 = .ok (.iload 9, 2) := by decide +kernel
theorem dX12_isHard_65 : decode cX12_isHard 65 = .ok (.iaload, 1) := by decide +kernel
theorem dX12_isHard_66 : decode cX12_isHard 66 = .ok (.lload_n 1, 1) := by decide +kernel
theorem dX12_isHard_67 : decode cX12_isHard 67 = .ok (.lload_n 3, 1) := by decide +kernel
theorem dX12_isHard_68 : decode cX12_isHard 68 = .ok (.iload 5, 2) := by decide +kernel
theorem dX12_isHard_70 : decode cX12_isHard 70 = .ok (.iload 6, 2) := by decide +kernel
theorem dX12_isHard_72 : decode cX12_isHard 72 = .ok (.ifCond .eq 7, 3) := by decide +kernel
theorem dX12_isHard_75 : decode cX12_isHard 75 = .ok (.iconst 1, 1) := by decide +kernel
theorem dX12_isHard_76 : decode cX12_isHard 76 = .ok (.goto 4, 3) := by decide +kernel
theorem dX12_isHard_79 : decode cX12_isHard 79 = .ok (.iconst 0, 1) := by decide +kernel
theorem dX12_isHard_80 : decode cX12_isHard 80 = .ok (.iload 7, 2) := by decide +kernel
theorem dX12_isHard_82 : decode cX12_isHard 82 = .ok (.invokestatic 411, 3) := by decide +kernel
theorem dX12_isHard_85 : decode cX12_isHard 85 = .ok (.lastore, 1) := by decide +kernel
theorem dX12_isHard_86 : decode cX12_isHard 86 = .ok (.iinc 8 1, 3) := by decide +kernel
theorem dX12_isHard_89 : decode cX12_isHard 89 = .ok (.goto 116, 3) := by decide +kernel
theorem dX12_isHard_92 : decode cX12_isHard 92 = .ok (.iinc 8 (-1), 3) := by decide +kernel
theorem dX12_isHard_95 : decode cX12_isHard 95 = .ok (.aload_n 0, 1) := by decide +kernel
theorem dX12_isHard_96 : decode cX12_isHard 96 = .ok (.getfield 142, 3) := by decide +kernel
theorem dX12_isHard_99 : decode cX12_isHard 99 = .ok (.iload 8, 2) := by decide +kernel
theorem dX12_isHard_101 : decode cX12_isHard 101 = .ok (.iconst 1, 1) := by decide +kernel
theorem dX12_isHard_102 : decode cX12_isHard 102 = .ok (.isub, 1) := by decide +kernel
theorem dX12_isHard_103 : decode cX12_isHard 103 = .ok (.laload, 1) := by decide +kernel
theorem dX12_isHard_104 : decode cX12_isHard 104 = .ok (.lstore 11, 2) := by decide +kernel
theorem dX12_isHard_106 : decode cX12_isHard 106 = .ok (.aload_n 0, 1) := by decide +kernel
theorem dX12_isHard_107 : decode cX12_isHard 107 = .ok (.getfield 142, 3) := by decide +kernel
theorem dX12_isHard_110 : decode cX12_isHard 110 = .ok (.iload 8, 2) := by decide +kernel
theorem dX12_isHard_112 : decode cX12_isHard 112 = .ok (.laload, 1) := by decide +kernel
theorem dX12_isHard_113 : decode cX12_isHard 113 = .ok (.lstore 13, 2) := by decide +kernel
theorem dX12_isHard_115 : decode cX12_isHard 115 = .ok (.aload_n 0, 1) := by decide +kernel
theorem dX12_isHard_116 : decode cX12_isHard 116 = .ok (.getfield 142, 3) := by decide +kernel
theorem dX12_isHard_119 : decode cX12_isHard 119 = .ok (.iload 8, 2) := by decide +kernel
theorem dX12_isHard_121 : decode cX12_isHard 121 = .ok (.iconst 1, 1) := by decide +kernel
theorem dX12_isHard_122 : decode cX12_isHard 122 = .ok (.isub, 1) := by decide +kernel
theorem dX12_isHard_123 : decode cX12_isHard 123 = .ok (.iload 10, 2) := by decide +kernel
theorem dX12_isHard_125 : decode cX12_isHard 125 = .ok (.bipush 43, 2) := by decide +kernel
theorem dX12_isHard_127 : decode cX12_isHard 127 = .ok (.if_icmp .ne 11, 3) := by decide +kernel
theorem dX12_isHard_130 : decode cX12_isHard 130 = .ok (.lload 11, 2) := by decide +kernel
theorem dX12_isHard_132 : decode cX12_isHard 132 = .ok (.lload 13, 2) := by decide +kernel
theorem dX12_isHard_134 : decode cX12_isHard 134 = .ok (.ladd, 1) := by decide +kernel
theorem dX12_isHard_135 : decode cX12_isHard 135 = .ok (.goto 69, 3) := by decide +kernel
theorem dX12_isHard_138 : decode cX12_isHard 138 = .ok (.iload 10, 2) := by decide +kernel
theorem dX12_isHard_140 : decode cX12_isHard 140 = .ok (.bipush 45, 2) := by decide +kernel
theorem dX12_isHard_142 : decode cX12_isHard 142 = .ok (.if_icmp .ne 11, 3) := by decide +kernel
theorem dX12_isHard_145 : decode cX12_isHard 145 = .ok (.lload 11, 2) := by decide +kernel
theorem dX12_isHard_147 : decode cX12_isHard 147 = .ok (.lload 13, 2) := by decide +kernel
theorem dX12_isHard_149 : decode cX12_isHard 149 = .ok (.lsub, 1) := by decide +kernel
theorem dX12_isHard_150 : decode cX12_isHard 150 = .ok (.goto 54, 3) := by decide +kernel
theorem dX12_isHard_153 : decode cX12_isHard 153 = .ok (.iload 10, 2) := by decide +kernel
theorem dX12_isHard_155 : decode cX12_isHard 155 = .ok (.bipush 42, 2) := by decide +kernel
theorem dX12_isHard_157 : decode cX12_isHard 157 = .ok (.if_icmp .ne 11, 3) := by decide +kernel
theorem dX12_isHard_160 : decode cX12_isHard 160 = .ok (.lload 11, 2) := by decide +kernel
theorem dX12_isHard_162 : decode cX12_isHard 162 = .ok (.lload 13, 2) := by decide +kernel
theorem dX12_isHard_164 : decode cX12_isHard 164 = .ok (.lmul, 1) := by decide +kernel
theorem dX12_isHard_165 : decode cX12_isHard 165 = .ok (.goto 39, 3) := by decide +kernel
theorem dX12_isHard_168 : decode cX12_isHard 168 = .ok (.iload 10, 2) := by decide +kernel
theorem dX12_isHard_170 : decode cX12_isHard 170 = .ok (.bipush 60, 2) := by decide +kernel
theorem dX12_isHard_172 : decode cX12_isHard 172 = .ok (.if_icmp .ne 19, 3) := by decide +kernel
theorem dX12_isHard_175 : decode cX12_isHard 175 = .ok (.lload 11, 2) := by decide +kernel
theorem dX12_isHard_177 : decode cX12_isHard 177 = .ok (.lload 13, 2) := by decide +kernel
theorem dX12_isHard_179 : decode cX12_isHard 179 = .ok (.lcmp, 1) := by decide +kernel
theorem dX12_isHard_180 : decode cX12_isHard 180 = .ok (.ifCond .ge 7, 3) := by decide +kernel
theorem dX12_isHard_183 : decode cX12_isHard 183 = .ok (.lconst 1, 1) := by decide +kernel
theorem dX12_isHard_184 : decode cX12_isHard 184 = .ok (.goto 20, 3) := by decide +kernel
theorem dX12_isHard_187 : decode cX12_isHard 187 = .ok (.lconst 0, 1) := by decide +kernel
theorem dX12_isHard_188 : decode cX12_isHard 188 = .ok (.goto 16, 3) := by decide +kernel
theorem dX12_isHard_191 : decode cX12_isHard 191 = .ok (.lload 11, 2) := by decide +kernel
theorem dX12_isHard_193 : decode cX12_isHard 193 = .ok (.lload 13, 2) := by decide +kernel
theorem dX12_isHard_195 : decode cX12_isHard 195 = .ok (.lcmp, 1) := by decide +kernel
theorem dX12_isHard_196 : decode cX12_isHard 196 = .ok (.ifCond .le 7, 3) := by decide +kernel
theorem dX12_isHard_199 : decode cX12_isHard 199 = .ok (.lconst 1, 1) := by decide +kernel
theorem dX12_isHard_200 : decode cX12_isHard 200 = .ok (.goto 4, 3) := by decide +kernel
theorem dX12_isHard_203 : decode cX12_isHard 203 = .ok (.lconst 0, 1) := by decide +kernel
theorem dX12_isHard_204 : decode cX12_isHard 204 = .ok (.lastore, 1) := by decide +kernel
theorem dX12_isHard_205 : decode cX12_isHard 205 = .ok (.iinc 9 1, 3) := by decide +kernel
theorem dX12_isHard_208 : decode cX12_isHard 208 = .ok (.goto (-202), 3) := by decide +kernel
theorem dX12_isHard_211 : decode cX12_isHard 211 = .ok (.aload_n 0, 1) := by decide +kernel
theorem dX12_isHard_212 : decode cX12_isHard 212 = .ok (.getfield 142, 3) := by decide +kernel
theorem dX12_isHard_215 : decode cX12_isHard 215 = .ok (.iconst 0, 1) := by decide +kernel
theorem dX12_isHard_216 : decode cX12_isHard 216 = .ok (.laload, 1) := by decide +kernel
theorem dX12_isHard_217 : decode cX12_isHard 217 = .ok (.lconst 1, 1) := by decide +kernel
theorem dX12_isHard_218 : decode cX12_isHard 218 = .ok (.lcmp, 1) := by decide +kernel
theorem dX12_isHard_219 : decode cX12_isHard 219 = .ok (.ifCond .ne 7, 3) := by decide +kernel
theorem dX12_isHard_222 : decode cX12_isHard 222 = .ok (.iconst 1, 1) := by decide +kernel
theorem dX12_isHard_223 : decode cX12_isHard 223 = .ok (.goto 4, 3) := by decide +kernel
theorem dX12_isHard_226 : decode cX12_isHard 226 = .ok (.iconst 0, 1) := by decide +kernel
theorem dX12_isHard_227 : decode cX12_isHard 227 = .ok (.ireturn, 1) := by decide +kernel
theorem dX12_hardOf_0 : decode cX12_hardOf 0 = .ok (.aload_n 0, 1) := by decide +kernel
theorem dX12_hardOf_1 : decode cX12_hardOf 1 = .ok (.getfield 106, 3) := by decide +kernel
theorem dX12_hardOf_4 : decode cX12_hardOf 4 = .ok (.iload_n 1, 1) := by decide +kernel
theorem dX12_hardOf_5 : decode cX12_hardOf 5 = .ok (.iaload, 1) := by decide +kernel
theorem dX12_hardOf_6 : decode cX12_hardOf 6 = .ok (.istore_n 2, 1) := by decide +kernel
theorem dX12_hardOf_7 : decode cX12_hardOf 7 = .ok (.aload_n 0, 1) := by decide +kernel
theorem dX12_hardOf_8 : decode cX12_hardOf 8 = .ok (.getfield 404, 3) := by decide +kernel
theorem dX12_hardOf_11 : decode cX12_hardOf 11 = .ok (.ifCond .eq 18, 3) := by decide +kernel
theorem dX12_hardOf_14 : decode cX12_hardOf 14 = .ok (.aload_n 0, 1) := by decide +kernel
theorem dX12_hardOf_15 : decode cX12_hardOf 15 = .ok (.aload_n 0, 1) := by decide +kernel
theorem dX12_hardOf_16 : decode cX12_hardOf 16 = .ok (.getfield 94, 3) := by decide +kernel
theorem dX12_hardOf_19 : decode cX12_hardOf 19 = .ok (.iload_n 1, 1) := by decide +kernel
theorem dX12_hardOf_20 : decode cX12_hardOf 20 = .ok (.iaload, 1) := by decide +kernel
theorem dX12_hardOf_21 : decode cX12_hardOf 21 = .ok (.iload_n 2, 1) := by decide +kernel
theorem dX12_hardOf_22 : decode cX12_hardOf 22 = .ok (.iload_n 2, 1) := by decide +kernel
theorem dX12_hardOf_23 : decode cX12_hardOf 23 = .ok (.invokevirtual 346, 3) := by decide +kernel
theorem dX12_hardOf_26 : decode cX12_hardOf 26 = .ok (.ifCond .ne 5, 3) := by decide +kernel
theorem dX12_hardOf_29 : decode cX12_hardOf 29 = .ok (.iconst 0, 1) := by decide +kernel
theorem dX12_hardOf_30 : decode cX12_hardOf 30 = .ok (.ireturn, 1) := by decide +kernel
theorem dX12_hardOf_31 : decode cX12_hardOf 31 = .ok (.aload_n 0, 1) := by decide +kernel
theorem dX12_hardOf_32 : decode cX12_hardOf 32 = .ok (.aload_n 0, 1) := by decide +kernel
theorem dX12_hardOf_33 : decode cX12_hardOf 33 = .ok (.getfield 103, 3) := by decide +kernel
theorem dX12_hardOf_36 : decode cX12_hardOf 36 = .ok (.iload_n 1, 1) := by decide +kernel
theorem dX12_hardOf_37 : decode cX12_hardOf 37 = .ok (.iaload, 1) := by decide +kernel
theorem dX12_hardOf_38 : decode cX12_hardOf 38 = .ok (.i2l, 1) := by decide +kernel
theorem dX12_hardOf_39 : decode cX12_hardOf 39 = .ok (.aload_n 0, 1) := by decide +kernel
theorem dX12_hardOf_40 : decode cX12_hardOf 40 = .ok (.aload_n 0, 1) := by decide +kernel
theorem dX12_hardOf_41 : decode cX12_hardOf 41 = .ok (.getfield 94, 3) := by decide +kernel
theorem dX12_hardOf_44 : decode cX12_hardOf 44 = .ok (.iload_n 1, 1) := by decide +kernel
theorem dX12_hardOf_45 : decode cX12_hardOf 45 = .ok (.iaload, 1) := by decide +kernel
theorem dX12_hardOf_46 : decode cX12_hardOf 46 = .ok (.aload_n 0, 1) := by decide +kernel
theorem dX12_hardOf_47 : decode cX12_hardOf 47 = .ok (.getfield 91, 3) := by decide +kernel
theorem dX12_hardOf_50 : decode cX12_hardOf 50 = .ok (.iload_n 1, 1) := by decide +kernel
theorem dX12_hardOf_51 : decode cX12_hardOf 51 = .ok (.iaload, 1) := by decide +kernel
theorem dX12_hardOf_52 : decode cX12_hardOf 52 = .ok (.iload_n 2, 1) := by decide +kernel
theorem dX12_hardOf_53 : decode cX12_hardOf 53 = .ok (.invokevirtual 364, 3) := by decide +kernel
theorem dX12_hardOf_56 : decode cX12_hardOf 56 = .ok (.aload_n 0, 1) := by decide +kernel
theorem dX12_hardOf_57 : decode cX12_hardOf 57 = .ok (.getfield 97, 3) := by decide +kernel
theorem dX12_hardOf_60 : decode cX12_hardOf 60 = .ok (.iload_n 1, 1) := by decide +kernel
theorem dX12_hardOf_61 : decode cX12_hardOf 61 = .ok (.iaload, 1) := by decide +kernel
theorem dX12_hardOf_62 : decode cX12_hardOf 62 = .ok (.i2l, 1) := by decide +kernel
theorem dX12_hardOf_63 : decode cX12_hardOf 63 = .ok (.lmul, 1) := by decide +kernel
theorem dX12_hardOf_64 : decode cX12_hardOf 64 = .ok (.ldc2_w 371, 3) := by decide +kernel
theorem dX12_hardOf_67 : decode cX12_hardOf 67 = .ok (.ldiv, 1) := by decide +kernel
theorem dX12_hardOf_68 : decode cX12_hardOf 68 = .ok (.iload_n 2, 1) := by decide +kernel
theorem dX12_hardOf_69 : decode cX12_hardOf 69 = .ok (.aload_n 0, 1) := by decide +kernel
theorem dX12_hardOf_70 : decode cX12_hardOf 70 = .ok (.getfield 20, 3) := by decide +kernel
theorem dX12_hardOf_73 : decode cX12_hardOf 73 = .ok (.aload_n 0, 1) := by decide +kernel
theorem dX12_hardOf_74 : decode cX12_hardOf 74 = .ok (.getfield 91, 3) := by decide +kernel
theorem dX12_hardOf_77 : decode cX12_hardOf 77 = .ok (.iload_n 1, 1) := by decide +kernel
theorem dX12_hardOf_78 : decode cX12_hardOf 78 = .ok (.iaload, 1) := by decide +kernel
theorem dX12_hardOf_79 : decode cX12_hardOf 79 = .ok (.iaload, 1) := by decide +kernel
theorem dX12_hardOf_80 : decode cX12_hardOf 80 = .ok (.isub, 1) := by decide +kernel
theorem dX12_hardOf_81 : decode cX12_hardOf 81 = .ok (.aload_n 0, 1) := by decide +kernel
theorem dX12_hardOf_82 : decode cX12_hardOf 82 = .ok (.getfield 109, 3) := by decide +kernel
theorem dX12_hardOf_85 : decode cX12_hardOf 85 = .ok (.iload_n 1, 1) := by decide +kernel
theorem dX12_hardOf_86 : decode cX12_hardOf 86 = .ok (.baload, 1) := by decide +kernel
theorem dX12_hardOf_87 : decode cX12_hardOf 87 = .ok (.aload_n 0, 1) := by decide +kernel
theorem dX12_hardOf_88 : decode cX12_hardOf 88 = .ok (.getfield 97, 3) := by decide +kernel
theorem dX12_hardOf_91 : decode cX12_hardOf 91 = .ok (.iload_n 1, 1) := by decide +kernel
theorem dX12_hardOf_92 : decode cX12_hardOf 92 = .ok (.iaload, 1) := by decide +kernel
theorem dX12_hardOf_93 : decode cX12_hardOf 93 = .ok (.invokevirtual 415, 3) := by decide +kernel
theorem dX12_hardOf_96 : decode cX12_hardOf 96 = .ok (.ireturn, 1) := by decide +kernel
theorem dX12_hard_0 : decode cX12_hard 0 = .ok (.aload_n 0, 1) := by decide +kernel
theorem dX12_hard_1 : decode cX12_hard 1 = .ok (.iload_n 1, 1) := by decide +kernel
theorem dX12_hard_2 : decode cX12_hard 2 = .ok (.invokevirtual 376, 3) := by decide +kernel
theorem dX12_hard_5 : decode cX12_hard 5 = .ok (.ifCond .ne 7, 3) := by decide +kernel
theorem dX12_hard_8 : decode cX12_hard 8 = .ok (.iconst (-1), 1) := by decide +kernel
theorem dX12_hard_9 : decode cX12_hard 9 = .ok (.goto 16, 3) := by decide +kernel
theorem dX12_hard_12 : decode cX12_hard 12 = .ok (.aload_n 0, 1) := by decide +kernel
theorem dX12_hard_13 : decode cX12_hard 13 = .ok (.iload_n 1, 1) := by decide +kernel
theorem dX12_hard_14 : decode cX12_hard 14 = .ok (.invokevirtual 419, 3) := by decide +kernel
theorem dX12_hard_17 : decode cX12_hard 17 = .ok (.ifCond .eq 7, 3) := by decide +kernel
theorem dX12_hard_20 : decode cX12_hard 20 = .ok (.iconst 1, 1) := by decide +kernel
theorem dX12_hard_21 : decode cX12_hard 21 = .ok (.goto 4, 3) := by decide +kernel
theorem dX12_hard_24 : decode cX12_hard 24 = .ok (.iconst 0, 1) := by decide +kernel
theorem dX12_hard_25 : decode cX12_hard 25 = .ok (.ireturn, 1) := by decide +kernel
theorem dX12_undo_0 : decode cX12_undo 0 = .ok (.aload_n 0, 1) := by decide +kernel
theorem dX12_undo_1 : decode cX12_undo 1 = .ok (.iload_n 1, 1) := by decide +kernel
theorem dX12_undo_2 : decode cX12_undo 2 = .ok (.invokevirtual 376, 3) := by decide +kernel
theorem dX12_undo_5 : decode cX12_undo 5 = .ok (.ifCond .eq 43, 3) := by decide +kernel
theorem dX12_undo_8 : decode cX12_undo 8 = .ok (.aload_n 0, 1) := by decide +kernel
theorem dX12_undo_9 : decode cX12_undo 9 = .ok (.getfield 118, 3) := by decide +kernel
theorem dX12_undo_12 : decode cX12_undo 12 = .ok (.iload_n 1, 1) := by decide +kernel
theorem dX12_undo_13 : decode cX12_undo 13 = .ok (.iaload, 1) := by decide +kernel
theorem dX12_undo_14 : decode cX12_undo 14 = .ok (.iconst (-1), 1) := by decide +kernel
theorem dX12_undo_15 : decode cX12_undo 15 = .ok (.if_icmp .ne 33, 3) := by decide +kernel
theorem dX12_undo_18 : decode cX12_undo 18 = .ok (.aload_n 0, 1) := by decide +kernel
theorem dX12_undo_19 : decode cX12_undo 19 = .ok (.aload_n 0, 1) := by decide +kernel
theorem dX12_undo_20 : decode cX12_undo 20 = .ok (.getfield 42, 3) := by decide +kernel
theorem dX12_undo_23 : decode cX12_undo 23 = .ok (.aload_n 0, 1) := by decide +kernel
theorem dX12_undo_24 : decode cX12_undo 24 = .ok (.getfield 94, 3) := by decide +kernel
theorem dX12_undo_27 : decode cX12_undo 27 = .ok (.iload_n 1, 1) := by decide +kernel
theorem dX12_undo_28 : decode cX12_undo 28 = .ok (.iaload, 1) := by decide +kernel
theorem dX12_undo_29 : decode cX12_undo 29 = .ok (.iaload, 1) := by decide +kernel
theorem dX12_undo_30 : decode cX12_undo 30 = .ok (.aload_n 0, 1) := by decide +kernel
theorem dX12_undo_31 : decode cX12_undo 31 = .ok (.getfield 13, 3) := by decide +kernel
theorem dX12_undo_34 : decode cX12_undo 34 = .ok (.invokevirtual 336, 3) := by decide +kernel
theorem dX12_undo_37 : decode cX12_undo 37 = .ok (.ifCond .ne 11, 3) := by decide +kernel
theorem dX12_undo_40 : decode cX12_undo 40 = .ok (.aload_n 0, 1) := by decide +kernel
theorem dX12_undo_41 : decode cX12_undo 41 = .ok (.iload_n 1, 1) := by decide +kernel
theorem dX12_undo_42 : decode cX12_undo 42 = .ok (.invokevirtual 419, 3) := by decide +kernel
theorem dX12_undo_45 : decode cX12_undo 45 = .ok (.ifCond .ne 7, 3) := by decide +kernel
theorem dX12_undo_48 : decode cX12_undo 48 = .ok (.ldc2_w 353, 3) := by decide +kernel
theorem dX12_undo_51 : decode cX12_undo 51 = .ok (.lreturn, 1) := by decide +kernel
theorem dX12_undo_52 : decode cX12_undo 52 = .ok (.aload_n 0, 1) := by decide +kernel
theorem dX12_undo_53 : decode cX12_undo 53 = .ok (.getfield 118, 3) := by decide +kernel
theorem dX12_undo_56 : decode cX12_undo 56 = .ok (.iload_n 1, 1) := by decide +kernel
theorem dX12_undo_57 : decode cX12_undo 57 = .ok (.aload_n 0, 1) := by decide +kernel
theorem dX12_undo_58 : decode cX12_undo 58 = .ok (.getfield 13, 3) := by decide +kernel
theorem dX12_undo_61 : decode cX12_undo 61 = .ok (.iastore, 1) := by decide +kernel
theorem dX12_undo_62 : decode cX12_undo 62 = .ok (.aload_n 0, 1) := by decide +kernel
theorem dX12_undo_63 : decode cX12_undo 63 = .ok (.getfield 103, 3) := by decide +kernel
theorem dX12_undo_66 : decode cX12_undo 66 = .ok (.iload_n 1, 1) := by decide +kernel
theorem dX12_undo_67 : decode cX12_undo 67 = .ok (.iaload, 1) := by decide +kernel
theorem dX12_undo_68 : decode cX12_undo 68 = .ok (.i2l, 1) := by decide +kernel
theorem dX12_undo_69 : decode cX12_undo 69 = .ok (.lstore_n 2, 1) := by decide +kernel
theorem dX12_undo_70 : decode cX12_undo 70 = .ok (.aload_n 0, 1) := by decide +kernel
theorem dX12_undo_71 : decode cX12_undo 71 = .ok (.getfield 106, 3) := by decide +kernel
theorem dX12_undo_74 : decode cX12_undo 74 = .ok (.iload_n 1, 1) := by decide +kernel
theorem dX12_undo_75 : decode cX12_undo 75 = .ok (.iaload, 1) := by decide +kernel
theorem dX12_undo_76 : decode cX12_undo 76 = .ok (.istore 4, 2) := by decide +kernel
theorem dX12_undo_78 : decode cX12_undo 78 = .ok (.iload 4, 2) := by decide +kernel
theorem dX12_undo_80 : decode cX12_undo 80 = .ok (.aload_n 0, 1) := by decide +kernel
theorem dX12_undo_81 : decode cX12_undo 81 = .ok (.getfield 13, 3) := by decide +kernel
theorem dX12_undo_84 : decode cX12_undo 84 = .ok (.if_icmp .ge 41, 3) := by decide +kernel
theorem dX12_undo_87 : decode cX12_undo 87 = .ok (.ldc2_w 296, 3) := by decide +kernel
theorem dX12_undo_90 : decode cX12_undo 90 = .ok (.aload_n 0, 1) := by decide +kernel
theorem dX12_undo_91 : decode cX12_undo 91 = .ok (.getfield 17, 3) := by decide +kernel
theorem dX12_undo_94 : decode cX12_undo 94 = .ok (.i2l, 1) := by decide +kernel
theorem dX12_undo_95 : decode cX12_undo 95 = .ok (.ladd, 1) := by decide +kernel
theorem dX12_undo_96 : decode cX12_undo 96 = .ok (.lload_n 2, 1) := by decide +kernel
theorem dX12_undo_97 : decode cX12_undo 97 = .ok (.lmul, 1) := by decide +kernel
theorem dX12_undo_98 : decode cX12_undo 98 = .ok (.ldc2_w 296, 3) := by decide +kernel
theorem dX12_undo_101 : decode cX12_undo 101 = .ok (.ldiv, 1) := by decide +kernel
theorem dX12_undo_102 : decode cX12_undo 102 = .ok (.lstore_n 2, 1) := by decide +kernel
theorem dX12_undo_103 : decode cX12_undo 103 = .ok (.lload_n 2, 1) := by decide +kernel
theorem dX12_undo_104 : decode cX12_undo 104 = .ok (.ldc2_w 422, 3) := by decide +kernel
theorem dX12_undo_107 : decode cX12_undo 107 = .ok (.lcmp, 1) := by decide +kernel
theorem dX12_undo_108 : decode cX12_undo 108 = .ok (.ifCond .ge 7, 3) := by decide +kernel
theorem dX12_undo_111 : decode cX12_undo 111 = .ok (.lload_n 2, 1) := by decide +kernel
theorem dX12_undo_112 : decode cX12_undo 112 = .ok (.goto 6, 3) := by decide +kernel
theorem dX12_undo_115 : decode cX12_undo 115 = .ok (.ldc2_w 422, 3) := by decide +kernel
theorem dX12_undo_118 : decode cX12_undo 118 = .ok (.lstore_n 2, 1) := by decide +kernel
theorem dX12_undo_119 : decode cX12_undo 119 = .ok (.iinc 4 1, 3) := by decide +kernel
theorem dX12_undo_122 : decode cX12_undo 122 = .ok (.goto (-44), 3) := by decide +kernel
theorem dX12_undo_125 : decode cX12_undo 125 = .ok (.lload_n 2, 1) := by decide +kernel
theorem dX12_undo_126 : decode cX12_undo 126 = .ok (.lreturn, 1) := by decide +kernel
theorem dX12_least_0 : decode cX12_least 0 = .ok (.aload_n 0, 1) := by decide +kernel
theorem dX12_least_1 : decode cX12_least 1 = .ok (.iload_n 1, 1) := by decide +kernel
theorem dX12_least_2 : decode cX12_least 2 = .ok (.invokevirtual 165, 3) := by decide +kernel
theorem dX12_least_5 : decode cX12_least 5 = .ok (.ifCond .eq 18, 3) := by decide +kernel
theorem dX12_least_8 : decode cX12_least 8 = .ok (.aload_n 0, 1) := by decide +kernel
theorem dX12_least_9 : decode cX12_least 9 = .ok (.iload_n 2, 1) := by decide +kernel
theorem dX12_least_10 : decode cX12_least 10 = .ok (.invokevirtual 308, 3) := by decide +kernel
theorem dX12_least_13 : decode cX12_least 13 = .ok (.ifCond .eq 10, 3) := by decide +kernel
theorem dX12_least_16 : decode cX12_least 16 = .ok (.iload_n 3, 1) := by decide +kernel
theorem dX12_least_17 : decode cX12_least 17 = .ok (.invokestatic 373, 3) := by decide +kernel
theorem dX12_least_20 : decode cX12_least 20 = .ok (.ifCond .ne 5, 3) := by decide +kernel
theorem dX12_least_23 : decode cX12_least 23 = .ok (.iconst (-1), 1) := by decide +kernel
theorem dX12_least_24 : decode cX12_least 24 = .ok (.ireturn, 1) := by decide +kernel
theorem dX12_least_25 : decode cX12_least 25 = .ok (.aload_n 0, 1) := by decide +kernel
theorem dX12_least_26 : decode cX12_least 26 = .ok (.getfield 404, 3) := by decide +kernel
theorem dX12_least_29 : decode cX12_least 29 = .ok (.ifCond .eq 19, 3) := by decide +kernel
theorem dX12_least_32 : decode cX12_least 32 = .ok (.aload_n 0, 1) := by decide +kernel
theorem dX12_least_33 : decode cX12_least 33 = .ok (.iload_n 2, 1) := by decide +kernel
theorem dX12_least_34 : decode cX12_least 34 = .ok (.aload_n 0, 1) := by decide +kernel
theorem dX12_least_35 : decode cX12_least 35 = .ok (.getfield 13, 3) := by decide +kernel
theorem dX12_least_38 : decode cX12_least 38 = .ok (.aload_n 0, 1) := by decide +kernel
theorem dX12_least_39 : decode cX12_least 39 = .ok (.getfield 13, 3) := by decide +kernel
theorem dX12_least_42 : decode cX12_least 42 = .ok (.invokevirtual 346, 3) := by decide +kernel
theorem dX12_least_45 : decode cX12_least 45 = .ok (.ifCond .ne 5, 3) := by decide +kernel
theorem dX12_least_48 : decode cX12_least 48 = .ok (.iconst 0, 1) := by decide +kernel
theorem dX12_least_49 : decode cX12_least 49 = .ok (.ireturn, 1) := by decide +kernel
theorem dX12_least_50 : decode cX12_least 50 = .ok (.aload_n 0, 1) := by decide +kernel
theorem dX12_least_51 : decode cX12_least 51 = .ok (.iload_n 2, 1) := by decide +kernel
theorem dX12_least_52 : decode cX12_least 52 = .ok (.iload_n 1, 1) := by decide +kernel
theorem dX12_least_53 : decode cX12_least 53 = .ok (.aload_n 0, 1) := by decide +kernel
theorem dX12_least_54 : decode cX12_least 54 = .ok (.getfield 13, 3) := by decide +kernel
theorem dX12_least_57 : decode cX12_least 57 = .ok (.invokevirtual 364, 3) := by decide +kernel
theorem dX12_least_60 : decode cX12_least 60 = .ok (.iload_n 3, 1) := by decide +kernel
theorem dX12_least_61 : decode cX12_least 61 = .ok (.i2l, 1) := by decide +kernel
theorem dX12_least_62 : decode cX12_least 62 = .ok (.lmul, 1) := by decide +kernel
theorem dX12_least_63 : decode cX12_least 63 = .ok (.ldc2_w 371, 3) := by decide +kernel
theorem dX12_least_66 : decode cX12_least 66 = .ok (.ldiv, 1) := by decide +kernel
theorem dX12_least_67 : decode cX12_least 67 = .ok (.lstore 5, 2) := by decide +kernel
theorem dX12_least_69 : decode cX12_least 69 = .ok (.iconst 0, 1) := by decide +kernel
theorem dX12_least_70 : decode cX12_least 70 = .ok (.istore 7, 2) := by decide +kernel
theorem dX12_least_72 : decode cX12_least 72 = .ok (.iload 7, 2) := by decide +kernel
theorem dX12_least_74 : decode cX12_least 74 = .ok (.ldc_w 424, 3) := by decide +kernel
theorem dX12_least_77 : decode cX12_least 77 = .ok (.if_icmp .gt 38, 3) := by decide +kernel
theorem dX12_least_80 : decode cX12_least 80 = .ok (.aload_n 0, 1) := by decide +kernel
theorem dX12_least_81 : decode cX12_least 81 = .ok (.iload 7, 2) := by decide +kernel
theorem dX12_least_83 : decode cX12_least 83 = .ok (.i2l, 1) := by decide +kernel
theorem dX12_least_84 : decode cX12_least 84 = .ok (.lload 5, 2) := by decide +kernel
theorem dX12_least_86 : decode cX12_least 86 = .ok (.aload_n 0, 1) := by decide +kernel
theorem dX12_least_87 : decode cX12_least 87 = .ok (.getfield 13, 3) := by decide +kernel
theorem dX12_least_90 : decode cX12_least 90 = .ok (.aload_n 0, 1) := by decide +kernel
theorem dX12_least_91 : decode cX12_least 91 = .ok (.getfield 20, 3) := by decide +kernel
theorem dX12_least_94 : decode cX12_least 94 = .ok (.iload_n 1, 1) := by decide +kernel
theorem dX12_least_95 : decode cX12_least 95 = .ok (.iaload, 1) := by decide +kernel
theorem dX12_least_96 : decode cX12_least 96 = .ok (.isub, 1) := by decide +kernel
theorem dX12_least_97 : decode cX12_least 97 = .ok (.iload 4, 2) := by decide +kernel
theorem dX12_least_99 : decode cX12_least 99 = .ok (.iload_n 3, 1) := by decide +kernel
theorem dX12_least_100 : decode cX12_least 100 = .ok (.invokevirtual 415, 3) := by decide +kernel
theorem dX12_least_103 : decode cX12_least 103 = .ok (.ifCond .ne 6, 3) := by decide +kernel
theorem dX12_least_106 : decode cX12_least 106 = .ok (.iload 7, 2) := by decide +kernel
theorem dX12_least_108 : decode cX12_least 108 = .ok (.ireturn, 1) := by decide +kernel
theorem dX12_least_109 : decode cX12_least 109 = .ok (.iinc 7 1, 3) := by decide +kernel
theorem dX12_least_112 : decode cX12_least 112 = .ok (.goto (-40), 3) := by decide +kernel
theorem dX12_least_115 : decode cX12_least 115 = .ok (.iconst (-1), 1) := by decide +kernel
theorem dX12_least_116 : decode cX12_least 116 = .ok (.ireturn, 1) := by decide +kernel
theorem dX12_cover_0 : decode cX12_cover 0 = .ok (.aload_n 0, 1) := by decide +kernel
theorem dX12_cover_1 : decode cX12_cover 1 = .ok (.iload_n 1, 1) := by decide +kernel
theorem dX12_cover_2 : decode cX12_cover 2 = .ok (.invokevirtual 308, 3) := by decide +kernel
theorem dX12_cover_5 : decode cX12_cover 5 = .ok (.ifCond .eq 62, 3) := by decide +kernel
theorem dX12_cover_8 : decode cX12_cover 8 = .ok (.aload_n 0, 1) := by decide +kernel
theorem dX12_cover_9 : decode cX12_cover 9 = .ok (.iload_n 2, 1) := by decide +kernel
theorem dX12_cover_10 : decode cX12_cover 10 = .ok (.invokevirtual 165, 3) := by decide +kernel
theorem dX12_cover_13 : decode cX12_cover 13 = .ok (.ifCond .eq 54, 3) := by decide +kernel
theorem dX12_cover_16 : decode cX12_cover 16 = .ok (.iload_n 2, 1) := by decide +kernel
theorem dX12_cover_17 : decode cX12_cover 17 = .ok (.aload_n 0, 1) := by decide +kernel
theorem dX12_cover_18 : decode cX12_cover 18 = .ok (.getfield 42, 3) := by decide +kernel
theorem dX12_cover_21 : decode cX12_cover 21 = .ok (.iload_n 1, 1) := by decide +kernel
theorem dX12_cover_22 : decode cX12_cover 22 = .ok (.iaload, 1) := by decide +kernel
theorem dX12_cover_23 : decode cX12_cover 23 = .ok (.if_icmp .eq 44, 3) := by decide +kernel
theorem dX12_cover_26 : decode cX12_cover 26 = .ok (.iload_n 3, 1) := by decide +kernel
theorem dX12_cover_27 : decode cX12_cover 27 = .ok (.i2l, 1) := by decide +kernel
theorem dX12_cover_28 : decode cX12_cover 28 = .ok (.lconst 1, 1) := by decide +kernel
theorem dX12_cover_29 : decode cX12_cover 29 = .ok (.ldc2_w 294, 3) := by decide +kernel
theorem dX12_cover_32 : decode cX12_cover 32 = .ok (.invokestatic 156, 3) := by decide +kernel
theorem dX12_cover_35 : decode cX12_cover 35 = .ok (.ifCond .eq 32, 3) := by decide +kernel
theorem dX12_cover_38 : decode cX12_cover 38 = .ok (.aload_n 0, 1) := by decide +kernel
theorem dX12_cover_39 : decode cX12_cover 39 = .ok (.iload_n 2, 1) := by decide +kernel
theorem dX12_cover_40 : decode cX12_cover 40 = .ok (.aload_n 0, 1) := by decide +kernel
theorem dX12_cover_41 : decode cX12_cover 41 = .ok (.getfield 13, 3) := by decide +kernel
theorem dX12_cover_44 : decode cX12_cover 44 = .ok (.invokevirtual 336, 3) := by decide +kernel
theorem dX12_cover_47 : decode cX12_cover 47 = .ok (.ifCond .ne 20, 3) := by decide +kernel
theorem dX12_cover_50 : decode cX12_cover 50 = .ok (.aload_n 0, 1) := by decide +kernel
theorem dX12_cover_51 : decode cX12_cover 51 = .ok (.aload_n 0, 1) := by decide +kernel
theorem dX12_cover_52 : decode cX12_cover 52 = .ok (.getfield 42, 3) := by decide +kernel
theorem dX12_cover_55 : decode cX12_cover 55 = .ok (.iload_n 1, 1) := by decide +kernel
theorem dX12_cover_56 : decode cX12_cover 56 = .ok (.iaload, 1) := by decide +kernel
theorem dX12_cover_57 : decode cX12_cover 57 = .ok (.aload_n 0, 1) := by decide +kernel
theorem dX12_cover_58 : decode cX12_cover 58 = .ok (.getfield 13, 3) := by decide +kernel
theorem dX12_cover_61 : decode cX12_cover 61 = .ok (.invokevirtual 336, 3) := by decide +kernel
theorem dX12_cover_64 : decode cX12_cover 64 = .ok (.ifCond .eq 7, 3) := by decide +kernel
theorem dX12_cover_67 : decode cX12_cover 67 = .ok (.ldc2_w 353, 3) := by decide +kernel
theorem dX12_cover_70 : decode cX12_cover 70 = .ok (.lreturn, 1) := by decide +kernel
theorem dX12_cover_71 : decode cX12_cover 71 = .ok (.aload_n 0, 1) := by decide +kernel
theorem dX12_cover_72 : decode cX12_cover 72 = .ok (.getfield 45, 3) := by decide +kernel
theorem dX12_cover_75 : decode cX12_cover 75 = .ok (.iload_n 1, 1) := by decide +kernel
theorem dX12_cover_76 : decode cX12_cover 76 = .ok (.iaload, 1) := by decide +kernel
theorem dX12_cover_77 : decode cX12_cover 77 = .ok (.istore 4, 2) := by decide +kernel
theorem dX12_cover_79 : decode cX12_cover 79 = .ok (.aload_n 0, 1) := by decide +kernel
theorem dX12_cover_80 : decode cX12_cover 80 = .ok (.getfield 13, 3) := by decide +kernel
theorem dX12_cover_83 : decode cX12_cover 83 = .ok (.aload_n 0, 1) := by decide +kernel
theorem dX12_cover_84 : decode cX12_cover 84 = .ok (.getfield 20, 3) := by decide +kernel
theorem dX12_cover_87 : decode cX12_cover 87 = .ok (.iload_n 2, 1) := by decide +kernel
theorem dX12_cover_88 : decode cX12_cover 88 = .ok (.iaload, 1) := by decide +kernel
theorem dX12_cover_89 : decode cX12_cover 89 = .ok (.isub, 1) := by decide +kernel
theorem dX12_cover_90 : decode cX12_cover 90 = .ok (.istore 5, 2) := by decide +kernel
theorem dX12_cover_92 : decode cX12_cover 92 = .ok (.aload_n 0, 1) := by decide +kernel
theorem dX12_cover_93 : decode cX12_cover 93 = .ok (.getfield 13, 3) := by decide +kernel
theorem dX12_cover_96 : decode cX12_cover 96 = .ok (.aload_n 0, 1) := by decide +kernel
theorem dX12_cover_97 : decode cX12_cover 97 = .ok (.getfield 20, 3) := by decide +kernel
theorem dX12_cover_100 : decode cX12_cover 100 = .ok (.aload_n 0, 1) := by decide +kernel
theorem dX12_cover_101 : decode cX12_cover 101 = .ok (.getfield 42, 3) := by decide +kernel
theorem dX12_cover_104 : decode cX12_cover 104 = .ok (.iload_n 1, 1) := by decide +kernel
theorem dX12_cover_105 : decode cX12_cover 105 = .ok (.iaload, 1) := by decide +kernel
theorem dX12_cover_106 : decode cX12_cover 106 = .ok (.iaload, 1) := by decide +kernel
theorem dX12_cover_107 : decode cX12_cover 107 = .ok (.isub, 1) := by decide +kernel
theorem dX12_cover_108 : decode cX12_cover 108 = .ok (.istore 6, 2) := by decide +kernel
theorem dX12_cover_110 : decode cX12_cover 110 = .ok (.aload_n 0, 1) := by decide +kernel
theorem dX12_cover_111 : decode cX12_cover 111 = .ok (.iload 4, 2) := by decide +kernel
theorem dX12_cover_113 : decode cX12_cover 113 = .ok (.iload 5, 2) := by decide +kernel
theorem dX12_cover_115 : decode cX12_cover 115 = .ok (.invokevirtual 177, 3) := by decide +kernel
theorem dX12_cover_118 : decode cX12_cover 118 = .ok (.i2l, 1) := by decide +kernel
theorem dX12_cover_119 : decode cX12_cover 119 = .ok (.aload_n 0, 1) := by decide +kernel
theorem dX12_cover_120 : decode cX12_cover 120 = .ok (.iload 4, 2) := by decide +kernel
theorem dX12_cover_122 : decode cX12_cover 122 = .ok (.iload 6, 2) := by decide +kernel
theorem dX12_cover_124 : decode cX12_cover 124 = .ok (.invokevirtual 177, 3) := by decide +kernel
theorem dX12_cover_127 : decode cX12_cover 127 = .ok (.i2l, 1) := by decide +kernel
theorem dX12_cover_128 : decode cX12_cover 128 = .ok (.lmul, 1) := by decide +kernel
theorem dX12_cover_129 : decode cX12_cover 129 = .ok (.lstore 7, 2) := by decide +kernel
theorem dX12_cover_131 : decode cX12_cover 131 = .ok (.lload 7, 2) := by decide +kernel
theorem dX12_cover_133 : decode cX12_cover 133 = .ok (.lconst 0, 1) := by decide +kernel
theorem dX12_cover_134 : decode cX12_cover 134 = .ok (.lcmp, 1) := by decide +kernel
theorem dX12_cover_135 : decode cX12_cover 135 = .ok (.ifCond .ne 7, 3) := by decide +kernel
theorem dX12_cover_138 : decode cX12_cover 138 = .ok (.ldc2_w 353, 3) := by decide +kernel
theorem dX12_cover_141 : decode cX12_cover 141 = .ok (.lreturn, 1) := by decide +kernel
theorem dX12_cover_142 : decode cX12_cover 142 = .ok (.lconst 0, 1) := by decide +kernel
theorem dX12_cover_143 : decode cX12_cover 143 = .ok (.lstore 9, 2) := by decide +kernel
theorem dX12_cover_145 : decode cX12_cover 145 = .ok (.ldc 188, 2) := by decide +kernel
theorem dX12_cover_147 : decode cX12_cover 147 = .ok (.istore 11, 2) := by decide +kernel
theorem dX12_cover_149 : decode cX12_cover 149 = .ok (.iconst 0, 1) := by decide +kernel
theorem dX12_cover_150 : decode cX12_cover 150 = .ok (.istore 12, 2) := by decide +kernel
theorem dX12_cover_152 : decode cX12_cover 152 = .ok (.iload 12, 2) := by decide +kernel
theorem dX12_cover_154 : decode cX12_cover 154 = .ok (.sipush 400, 3) := by decide +kernel
theorem dX12_cover_157 : decode cX12_cover 157 = .ok (.if_icmp .ge 86, 3) := by decide +kernel
theorem dX12_cover_160 : decode cX12_cover 160 = .ok (.bipush 100, 2) := by decide +kernel
theorem dX12_cover_162 : decode cX12_cover 162 = .ok (.iload 11, 2) := by decide +kernel
theorem dX12_cover_164 : decode cX12_cover 164 = .ok (.imul, 1) := by decide +kernel
theorem dX12_cover_165 : decode cX12_cover 165 = .ok (.bipush 100, 2) := by decide +kernel
theorem dX12_cover_167 : decode cX12_cover 167 = .ok (.aload_n 0, 1) := by decide +kernel
theorem dX12_cover_168 : decode cX12_cover 168 = .ok (.getfield 17, 3) := by decide +kernel
theorem dX12_cover_171 : decode cX12_cover 171 = .ok (.iadd, 1) := by decide +kernel
theorem dX12_cover_172 : decode cX12_cover 172 = .ok (.idiv, 1) := by decide +kernel
theorem dX12_cover_173 : decode cX12_cover 173 = .ok (.istore 11, 2) := by decide +kernel
theorem dX12_cover_175 : decode cX12_cover 175 = .ok (.iload_n 3, 1) := by decide +kernel
theorem dX12_cover_176 : decode cX12_cover 176 = .ok (.i2l, 1) := by decide +kernel
theorem dX12_cover_177 : decode cX12_cover 177 = .ok (.aload_n 0, 1) := by decide +kernel
theorem dX12_cover_178 : decode cX12_cover 178 = .ok (.iload 4, 2) := by decide +kernel
theorem dX12_cover_180 : decode cX12_cover 180 = .ok (.iload 5, 2) := by decide +kernel
theorem dX12_cover_182 : decode cX12_cover 182 = .ok (.iload 12, 2) := by decide +kernel
theorem dX12_cover_184 : decode cX12_cover 184 = .ok (.iadd, 1) := by decide +kernel
theorem dX12_cover_185 : decode cX12_cover 185 = .ok (.invokevirtual 177, 3) := by decide +kernel
theorem dX12_cover_188 : decode cX12_cover 188 = .ok (.aload_n 0, 1) := by decide +kernel
theorem dX12_cover_189 : decode cX12_cover 189 = .ok (.iload 4, 2) := by decide +kernel
theorem dX12_cover_191 : decode cX12_cover 191 = .ok (.iload 5, 2) := by decide +kernel
theorem dX12_cover_193 : decode cX12_cover 193 = .ok (.iload 12, 2) := by decide +kernel
theorem dX12_cover_195 : decode cX12_cover 195 = .ok (.iadd, 1) := by decide +kernel
theorem dX12_cover_196 : decode cX12_cover 196 = .ok (.iconst 1, 1) := by decide +kernel
theorem dX12_cover_197 : decode cX12_cover 197 = .ok (.iadd, 1) := by decide +kernel
theorem dX12_cover_198 : decode cX12_cover 198 = .ok (.invokevirtual 177, 3) := by decide +kernel
theorem dX12_cover_201 : decode cX12_cover 201 = .ok (.isub, 1) := by decide +kernel
theorem dX12_cover_202 : decode cX12_cover 202 = .ok (.i2l, 1) := by decide +kernel
theorem dX12_cover_203 : decode cX12_cover 203 = .ok (.lmul, 1) := by decide +kernel
theorem dX12_cover_204 : decode cX12_cover 204 = .ok (.aload_n 0, 1) := by decide +kernel
theorem dX12_cover_205 : decode cX12_cover 205 = .ok (.iload 4, 2) := by decide +kernel
theorem dX12_cover_207 : decode cX12_cover 207 = .ok (.iload 6, 2) := by decide +kernel
theorem dX12_cover_209 : decode cX12_cover 209 = .ok (.iload 12, 2) := by decide +kernel
theorem dX12_cover_211 : decode cX12_cover 211 = .ok (.iadd, 1) := by decide +kernel
theorem dX12_cover_212 : decode cX12_cover 212 = .ok (.invokevirtual 177, 3) := by decide +kernel
theorem dX12_cover_215 : decode cX12_cover 215 = .ok (.i2l, 1) := by decide +kernel
theorem dX12_cover_216 : decode cX12_cover 216 = .ok (.lmul, 1) := by decide +kernel
theorem dX12_cover_217 : decode cX12_cover 217 = .ok (.lload 7, 2) := by decide +kernel
theorem dX12_cover_219 : decode cX12_cover 219 = .ok (.ldiv, 1) := by decide +kernel
theorem dX12_cover_220 : decode cX12_cover 220 = .ok (.lstore 13, 2) := by decide +kernel
theorem dX12_cover_222 : decode cX12_cover 222 = .ok (.lload 9, 2) := by decide +kernel
theorem dX12_cover_224 : decode cX12_cover 224 = .ok (.lload 13, 2) := by decide +kernel
theorem dX12_cover_226 : decode cX12_cover 226 = .ok (.iload 11, 2) := by decide +kernel
theorem dX12_cover_228 : decode cX12_cover 228 = .ok (.i2l, 1) := by decide +kernel
theorem dX12_cover_229 : decode cX12_cover 229 = .ok (.lmul, 1) := by decide +kernel
theorem dX12_cover_230 : decode cX12_cover 230 = .ok (.ldc2_w 362, 3) := by decide +kernel
theorem dX12_cover_233 : decode cX12_cover 233 = .ok (.ldiv, 1) := by decide +kernel
theorem dX12_cover_234 : decode cX12_cover 234 = .ok (.ladd, 1) := by decide +kernel
theorem dX12_cover_235 : decode cX12_cover 235 = .ok (.lstore 9, 2) := by decide +kernel
theorem dX12_cover_237 : decode cX12_cover 237 = .ok (.iinc 12 1, 3) := by decide +kernel
theorem dX12_cover_240 : decode cX12_cover 240 = .ok (.goto (-88), 3) := by decide +kernel
theorem dX12_cover_243 : decode cX12_cover 243 = .ok (.lload 9, 2) := by decide +kernel
theorem dX12_cover_245 : decode cX12_cover 245 = .ok (.lreturn, 1) := by decide +kernel
theorem dX12_hasFallen_0 : decode cX12_hasFallen 0 = .ok (.aload_n 0, 1) := by decide +kernel
theorem dX12_hasFallen_1 : decode cX12_hasFallen 1 = .ok (.aload_n 0, 1) := by decide +kernel
theorem dX12_hasFallen_2 : decode cX12_hasFallen 2 = .ok (.getfield 42, 3) := by decide +kernel
theorem dX12_hasFallen_5 : decode cX12_hasFallen 5 = .ok (.iload_n 1, 1) := by decide +kernel
theorem dX12_hasFallen_6 : decode cX12_hasFallen 6 = .ok (.iaload, 1) := by decide +kernel
theorem dX12_hasFallen_7 : decode cX12_hasFallen 7 = .ok (.iload_n 2, 1) := by decide +kernel
theorem dX12_hasFallen_8 : decode cX12_hasFallen 8 = .ok (.invokevirtual 301, 3) := by decide +kernel
theorem dX12_hasFallen_11 : decode cX12_hasFallen 11 = .ok (.ifCond .eq 21, 3) := by decide +kernel
theorem dX12_hasFallen_14 : decode cX12_hasFallen 14 = .ok (.aload_n 0, 1) := by decide +kernel
theorem dX12_hasFallen_15 : decode cX12_hasFallen 15 = .ok (.aload_n 0, 1) := by decide +kernel
theorem dX12_hasFallen_16 : decode cX12_hasFallen 16 = .ok (.getfield 42, 3) := by decide +kernel
theorem dX12_hasFallen_19 : decode cX12_hasFallen 19 = .ok (.iload_n 1, 1) := by decide +kernel
theorem dX12_hasFallen_20 : decode cX12_hasFallen 20 = .ok (.iaload, 1) := by decide +kernel
theorem dX12_hasFallen_21 : decode cX12_hasFallen 21 = .ok (.iload_n 2, 1) := by decide +kernel
theorem dX12_hasFallen_22 : decode cX12_hasFallen 22 = .ok (.invokevirtual 336, 3) := by decide +kernel
theorem dX12_hasFallen_25 : decode cX12_hasFallen 25 = .ok (.ifCond .eq 7, 3) := by decide +kernel
theorem dX12_hasFallen_28 : decode cX12_hasFallen 28 = .ok (.iconst 1, 1) := by decide +kernel
theorem dX12_hasFallen_29 : decode cX12_hasFallen 29 = .ok (.goto 4, 3) := by decide +kernel
theorem dX12_hasFallen_32 : decode cX12_hasFallen 32 = .ok (.iconst 0, 1) := by decide +kernel
theorem dX12_hasFallen_33 : decode cX12_hasFallen 33 = .ok (.ireturn, 1) := by decide +kernel
theorem dX12_aliveAt_0 : decode cX12_aliveAt 0 = .ok (.aload_n 0, 1) := by decide +kernel
theorem dX12_aliveAt_1 : decode cX12_aliveAt 1 = .ok (.iload_n 1, 1) := by decide +kernel
theorem dX12_aliveAt_2 : decode cX12_aliveAt 2 = .ok (.iload_n 2, 1) := by decide +kernel
theorem dX12_aliveAt_3 : decode cX12_aliveAt 3 = .ok (.invokevirtual 314, 3) := by decide +kernel
theorem dX12_aliveAt_6 : decode cX12_aliveAt 6 = .ok (.istore_n 3, 1) := by decide +kernel
theorem dX12_aliveAt_7 : decode cX12_aliveAt 7 = .ok (.aload_n 0, 1) := by decide +kernel
theorem dX12_aliveAt_8 : decode cX12_aliveAt 8 = .ok (.getfield 30, 3) := by decide +kernel
theorem dX12_aliveAt_11 : decode cX12_aliveAt 11 = .ok (.aload_n 0, 1) := by decide +kernel
theorem dX12_aliveAt_12 : decode cX12_aliveAt 12 = .ok (.getfield 42, 3) := by decide +kernel
theorem dX12_aliveAt_15 : decode cX12_aliveAt 15 = .ok (.iload_n 1, 1) := by decide +kernel
theorem dX12_aliveAt_16 : decode cX12_aliveAt 16 = .ok (.iaload, 1) := by decide +kernel
theorem dX12_aliveAt_17 : decode cX12_aliveAt 17 = .ok (.iaload, 1) := by decide +kernel
theorem dX12_aliveAt_18 : decode cX12_aliveAt 18 = .ok (.istore 4, 2) := by decide +kernel
theorem dX12_aliveAt_20 : decode cX12_aliveAt 20 = .ok (.iconst 0, 1) := by decide +kernel
theorem dX12_aliveAt_21 : decode cX12_aliveAt 21 = .ok (.istore 5, 2) := by decide +kernel
theorem dX12_aliveAt_23 : decode cX12_aliveAt 23 = .ok (.iconst 0, 1) := by decide +kernel
theorem dX12_aliveAt_24 : decode cX12_aliveAt 24 = .ok (.istore 6, 2) := by decide +kernel
theorem dX12_aliveAt_26 : decode cX12_aliveAt 26 = .ok (.iload 6, 2) := by decide +kernel
theorem dX12_aliveAt_28 : decode cX12_aliveAt 28 = .ok (.aload_n 0, 1) := by decide +kernel
theorem dX12_aliveAt_29 : decode cX12_aliveAt 29 = .ok (.getfield 160, 3) := by decide +kernel
theorem dX12_aliveAt_32 : decode cX12_aliveAt 32 = .ok (.if_icmp .ge 65, 3) := by decide +kernel
theorem dX12_aliveAt_35 : decode cX12_aliveAt 35 = .ok (.iload 5, 2) := by decide +kernel
theorem dX12_aliveAt_37 : decode cX12_aliveAt 37 = .ok (.iload_n 3, 1) := by decide +kernel
theorem dX12_aliveAt_38 : decode cX12_aliveAt 38 = .ok (.iload 6, 2) := by decide +kernel
theorem dX12_aliveAt_40 : decode cX12_aliveAt 40 = .ok (.invokestatic 320, 3) := by decide +kernel
theorem dX12_aliveAt_43 : decode cX12_aliveAt 43 = .ok (.ifCond .eq 44, 3) := by decide +kernel
theorem dX12_aliveAt_46 : decode cX12_aliveAt 46 = .ok (.aload_n 0, 1) := by decide +kernel
theorem dX12_aliveAt_47 : decode cX12_aliveAt 47 = .ok (.getfield 20, 3) := by decide +kernel
theorem dX12_aliveAt_50 : decode cX12_aliveAt 50 = .ok (.iload 6, 2) := by decide +kernel
theorem dX12_aliveAt_52 : decode cX12_aliveAt 52 = .ok (.iaload, 1) := by decide +kernel
theorem dX12_aliveAt_53 : decode cX12_aliveAt 53 = .ok (.iload 4, 2) := by decide +kernel
theorem dX12_aliveAt_55 : decode cX12_aliveAt 55 = .ok (.if_icmp .gt 32, 3) := by decide +kernel
theorem dX12_aliveAt_58 : decode cX12_aliveAt 58 = .ok (.aload_n 0, 1) := by decide +kernel
theorem dX12_aliveAt_59 : decode cX12_aliveAt 59 = .ok (.iload 6, 2) := by decide +kernel
theorem dX12_aliveAt_61 : decode cX12_aliveAt 61 = .ok (.iload_n 2, 1) := by decide +kernel
theorem dX12_aliveAt_62 : decode cX12_aliveAt 62 = .ok (.invokevirtual 336, 3) := by decide +kernel
theorem dX12_aliveAt_65 : decode cX12_aliveAt 65 = .ok (.ifCond .eq 15, 3) := by decide +kernel
theorem dX12_aliveAt_68 : decode cX12_aliveAt 68 = .ok (.aload_n 0, 1) := by decide +kernel
theorem dX12_aliveAt_69 : decode cX12_aliveAt 69 = .ok (.getfield 30, 3) := by decide +kernel
theorem dX12_aliveAt_72 : decode cX12_aliveAt 72 = .ok (.iload 6, 2) := by decide +kernel
theorem dX12_aliveAt_74 : decode cX12_aliveAt 74 = .ok (.iaload, 1) := by decide +kernel
theorem dX12_aliveAt_75 : decode cX12_aliveAt 75 = .ok (.iload 4, 2) := by decide +kernel
theorem dX12_aliveAt_77 : decode cX12_aliveAt 77 = .ok (.if_icmp .le 10, 3) := by decide +kernel
theorem dX12_aliveAt_80 : decode cX12_aliveAt 80 = .ok (.iconst 1, 1) := by decide +kernel
theorem dX12_aliveAt_81 : decode cX12_aliveAt 81 = .ok (.iload 6, 2) := by decide +kernel
theorem dX12_aliveAt_83 : decode cX12_aliveAt 83 = .ok (.ishl, 1) := by decide +kernel
theorem dX12_aliveAt_84 : decode cX12_aliveAt 84 = .ok (.goto 4, 3) := by decide +kernel
theorem dX12_aliveAt_87 : decode cX12_aliveAt 87 = .ok (.iconst 0, 1) := by decide +kernel
theorem dX12_aliveAt_88 : decode cX12_aliveAt 88 = .ok (.ior, 1) := by decide +kernel
theorem dX12_aliveAt_89 : decode cX12_aliveAt 89 = .ok (.istore 5, 2) := by decide +kernel
theorem dX12_aliveAt_91 : decode cX12_aliveAt 91 = .ok (.iinc 6 1, 3) := by decide +kernel
theorem dX12_aliveAt_94 : decode cX12_aliveAt 94 = .ok (.goto (-68), 3) := by decide +kernel
theorem dX12_aliveAt_97 : decode cX12_aliveAt 97 = .ok (.iload 5, 2) := by decide +kernel
theorem dX12_aliveAt_99 : decode cX12_aliveAt 99 = .ok (.ireturn, 1) := by decide +kernel
theorem dX12_gain_0 : decode cX12_gain 0 = .ok (.aload_n 0, 1) := by decide +kernel
theorem dX12_gain_1 : decode cX12_gain 1 = .ok (.iload_n 1, 1) := by decide +kernel
theorem dX12_gain_2 : decode cX12_gain 2 = .ok (.invokevirtual 308, 3) := by decide +kernel
theorem dX12_gain_5 : decode cX12_gain 5 = .ok (.ifCond .eq 27, 3) := by decide +kernel
theorem dX12_gain_8 : decode cX12_gain 8 = .ok (.aload_n 0, 1) := by decide +kernel
theorem dX12_gain_9 : decode cX12_gain 9 = .ok (.iload_n 2, 1) := by decide +kernel
theorem dX12_gain_10 : decode cX12_gain 10 = .ok (.invokevirtual 165, 3) := by decide +kernel
theorem dX12_gain_13 : decode cX12_gain 13 = .ok (.ifCond .eq 19, 3) := by decide +kernel
theorem dX12_gain_16 : decode cX12_gain 16 = .ok (.iload_n 3, 1) := by decide +kernel
theorem dX12_gain_17 : decode cX12_gain 17 = .ok (.invokestatic 311, 3) := by decide +kernel
theorem dX12_gain_20 : decode cX12_gain 20 = .ok (.ifCond .eq 12, 3) := by decide +kernel
theorem dX12_gain_23 : decode cX12_gain 23 = .ok (.aload_n 0, 1) := by decide +kernel
theorem dX12_gain_24 : decode cX12_gain 24 = .ok (.iload_n 1, 1) := by decide +kernel
theorem dX12_gain_25 : decode cX12_gain 25 = .ok (.iload_n 3, 1) := by decide +kernel
theorem dX12_gain_26 : decode cX12_gain 26 = .ok (.invokevirtual 425, 3) := by decide +kernel
theorem dX12_gain_29 : decode cX12_gain 29 = .ok (.ifCond .ne 5, 3) := by decide +kernel
theorem dX12_gain_32 : decode cX12_gain 32 = .ok (.iconst (-1), 1) := by decide +kernel
theorem dX12_gain_33 : decode cX12_gain 33 = .ok (.ireturn, 1) := by decide +kernel
theorem dX12_gain_34 : decode cX12_gain 34 = .ok (.aload_n 0, 1) := by decide +kernel
theorem dX12_gain_35 : decode cX12_gain 35 = .ok (.iload_n 1, 1) := by decide +kernel
theorem dX12_gain_36 : decode cX12_gain 36 = .ok (.aload_n 0, 1) := by decide +kernel
theorem dX12_gain_37 : decode cX12_gain 37 = .ok (.iload_n 1, 1) := by decide +kernel
theorem dX12_gain_38 : decode cX12_gain 38 = .ok (.iload_n 3, 1) := by decide +kernel
theorem dX12_gain_39 : decode cX12_gain 39 = .ok (.invokevirtual 428, 3) := by decide +kernel
theorem dX12_gain_42 : decode cX12_gain 42 = .ok (.invokevirtual 333, 3) := by decide +kernel
theorem dX12_gain_45 : decode cX12_gain 45 = .ok (.aload_n 0, 1) := by decide +kernel
theorem dX12_gain_46 : decode cX12_gain 46 = .ok (.getfield 82, 3) := by decide +kernel
theorem dX12_gain_49 : decode cX12_gain 49 = .ok (.iload_n 2, 1) := by decide +kernel
theorem dX12_gain_50 : decode cX12_gain 50 = .ok (.iaload, 1) := by decide +kernel
theorem dX12_gain_51 : decode cX12_gain 51 = .ok (.ireturn, 1) := by decide +kernel
theorem dX12_isOn_0 : decode cX12_isOn 0 = .ok (.aload_n 0, 1) := by decide +kernel
theorem dX12_isOn_1 : decode cX12_isOn 1 = .ok (.getfield 91, 3) := by decide +kernel
theorem dX12_isOn_4 : decode cX12_isOn 4 = .ok (.iload_n 1, 1) := by decide +kernel
theorem dX12_isOn_5 : decode cX12_isOn 5 = .ok (.iaload, 1) := by decide +kernel
theorem dX12_isOn_6 : decode cX12_isOn 6 = .ok (.iload_n 2, 1) := by decide +kernel
theorem dX12_isOn_7 : decode cX12_isOn 7 = .ok (.if_icmp .ne 49, 3) := by decide +kernel
theorem dX12_isOn_10 : decode cX12_isOn 10 = .ok (.aload_n 0, 1) := by decide +kernel
theorem dX12_isOn_11 : decode cX12_isOn 11 = .ok (.getfield 94, 3) := by decide +kernel
theorem dX12_isOn_14 : decode cX12_isOn 14 = .ok (.iload_n 1, 1) := by decide +kernel
theorem dX12_isOn_15 : decode cX12_isOn 15 = .ok (.iaload, 1) := by decide +kernel
theorem dX12_isOn_16 : decode cX12_isOn 16 = .ok (.iload_n 3, 1) := by decide +kernel
theorem dX12_isOn_17 : decode cX12_isOn 17 = .ok (.if_icmp .ne 39, 3) := by decide +kernel
theorem dX12_isOn_20 : decode cX12_isOn 20 = .ok (.aload_n 0, 1) := by decide +kernel
theorem dX12_isOn_21 : decode cX12_isOn 21 = .ok (.getfield 106, 3) := by decide +kernel
theorem dX12_isOn_24 : decode cX12_isOn 24 = .ok (.iload_n 1, 1) := by decide +kernel
theorem dX12_isOn_25 : decode cX12_isOn 25 = .ok (.iaload, 1) := by decide +kernel
theorem dX12_isOn_26 : decode cX12_isOn 26 = .ok (.iload 4, 2) := by decide +kernel
theorem dX12_isOn_28 : decode cX12_isOn 28 = .ok (.if_icmp .gt 28, 3) := by decide +kernel
theorem dX12_isOn_31 : decode cX12_isOn 31 = .ok (.aload_n 0, 1) := by decide +kernel
theorem dX12_isOn_32 : decode cX12_isOn 32 = .ok (.getfield 118, 3) := by decide +kernel
theorem dX12_isOn_35 : decode cX12_isOn 35 = .ok (.iload_n 1, 1) := by decide +kernel
theorem dX12_isOn_36 : decode cX12_isOn 36 = .ok (.iaload, 1) := by decide +kernel
theorem dX12_isOn_37 : decode cX12_isOn 37 = .ok (.iconst (-1), 1) := by decide +kernel
theorem dX12_isOn_38 : decode cX12_isOn 38 = .ok (.if_icmp .eq 14, 3) := by decide +kernel
theorem dX12_isOn_41 : decode cX12_isOn 41 = .ok (.aload_n 0, 1) := by decide +kernel
theorem dX12_isOn_42 : decode cX12_isOn 42 = .ok (.getfield 118, 3) := by decide +kernel
theorem dX12_isOn_45 : decode cX12_isOn 45 = .ok (.iload_n 1, 1) := by decide +kernel
theorem dX12_isOn_46 : decode cX12_isOn 46 = .ok (.iaload, 1) := by decide +kernel
theorem dX12_isOn_47 : decode cX12_isOn 47 = .ok (.iload 4, 2) := by decide +kernel
theorem dX12_isOn_49 : decode cX12_isOn 49 = .ok (.if_icmp .le 7, 3) := by decide +kernel
theorem dX12_isOn_52 : decode cX12_isOn 52 = .ok (.iconst 1, 1) := by decide +kernel
theorem dX12_isOn_53 : decode cX12_isOn 53 = .ok (.goto 4, 3) := by decide +kernel
theorem dX12_isOn_56 : decode cX12_isOn 56 = .ok (.iconst 0, 1) := by decide +kernel
theorem dX12_isOn_57 : decode cX12_isOn 57 = .ok (.ireturn, 1) := by decide +kernel
theorem dX12_isAhead_0 : decode cX12_isAhead 0 = .ok (.aload_n 0, 1) := by decide +kernel
theorem dX12_isAhead_1 : decode cX12_isAhead 1 = .ok (.getfield 112, 3) := by decide +kernel
theorem dX12_isAhead_4 : decode cX12_isAhead 4 = .ok (.iload_n 1, 1) := by decide +kernel
theorem dX12_isAhead_5 : decode cX12_isAhead 5 = .ok (.iaload, 1) := by decide +kernel
theorem dX12_isAhead_6 : decode cX12_isAhead 6 = .ok (.iconst (-1), 1) := by decide +kernel
theorem dX12_isAhead_7 : decode cX12_isAhead 7 = .ok (.if_icmp .eq 17, 3) := by decide +kernel
theorem dX12_isAhead_10 : decode cX12_isAhead 10 = .ok (.aload_n 0, 1) := by decide +kernel
theorem dX12_isAhead_11 : decode cX12_isAhead 11 = .ok (.getfield 112, 3) := by decide +kernel
theorem dX12_isAhead_14 : decode cX12_isAhead 14 = .ok (.iload_n 1, 1) := by decide +kernel
theorem dX12_isAhead_15 : decode cX12_isAhead 15 = .ok (.iaload, 1) := by decide +kernel
theorem dX12_isAhead_16 : decode cX12_isAhead 16 = .ok (.iload_n 3, 1) := by decide +kernel
theorem dX12_isAhead_17 : decode cX12_isAhead 17 = .ok (.if_icmp .gt 7, 3) := by decide +kernel
theorem dX12_isAhead_20 : decode cX12_isAhead 20 = .ok (.iconst 1, 1) := by decide +kernel
theorem dX12_isAhead_21 : decode cX12_isAhead 21 = .ok (.goto 4, 3) := by decide +kernel
theorem dX12_isAhead_24 : decode cX12_isAhead 24 = .ok (.iconst 0, 1) := by decide +kernel
theorem dX12_isAhead_25 : decode cX12_isAhead 25 = .ok (.istore 4, 2) := by decide +kernel
theorem dX12_isAhead_27 : decode cX12_isAhead 27 = .ok (.aload_n 0, 1) := by decide +kernel
theorem dX12_isAhead_28 : decode cX12_isAhead 28 = .ok (.getfield 112, 3) := by decide +kernel
theorem dX12_isAhead_31 : decode cX12_isAhead 31 = .ok (.iload_n 2, 1) := by decide +kernel
theorem dX12_isAhead_32 : decode cX12_isAhead 32 = .ok (.iaload, 1) := by decide +kernel
theorem dX12_isAhead_33 : decode cX12_isAhead 33 = .ok (.iconst (-1), 1) := by decide +kernel
theorem dX12_isAhead_34 : decode cX12_isAhead 34 = .ok (.if_icmp .eq 17, 3) := by decide +kernel
theorem dX12_isAhead_37 : decode cX12_isAhead 37 = .ok (.aload_n 0, 1) := by decide +kernel
theorem dX12_isAhead_38 : decode cX12_isAhead 38 = .ok (.getfield 112, 3) := by decide +kernel
theorem dX12_isAhead_41 : decode cX12_isAhead 41 = .ok (.iload_n 2, 1) := by decide +kernel
theorem dX12_isAhead_42 : decode cX12_isAhead 42 = .ok (.iaload, 1) := by decide +kernel
theorem dX12_isAhead_43 : decode cX12_isAhead 43 = .ok (.iload_n 3, 1) := by decide +kernel
theorem dX12_isAhead_44 : decode cX12_isAhead 44 = .ok (.if_icmp .gt 7, 3) := by decide +kernel
theorem dX12_isAhead_47 : decode cX12_isAhead 47 = .ok (.iconst 1, 1) := by decide +kernel
theorem dX12_isAhead_48 : decode cX12_isAhead 48 = .ok (.goto 4, 3) := by decide +kernel
theorem dX12_isAhead_51 : decode cX12_isAhead 51 = .ok (.iconst 0, 1) := by decide +kernel
theorem dX12_isAhead_52 : decode cX12_isAhead 52 = .ok (.istore 5, 2) := by decide +kernel
theorem dX12_isAhead_54 : decode cX12_isAhead 54 = .ok (.iload 4, 2) := by decide +kernel
theorem dX12_isAhead_56 : decode cX12_isAhead 56 = .ok (.iload 5, 2) := by decide +kernel
theorem dX12_isAhead_58 : decode cX12_isAhead 58 = .ok (.if_icmp .eq 6, 3) := by decide +kernel
theorem dX12_isAhead_61 : decode cX12_isAhead 61 = .ok (.iload 4, 2) := by decide +kernel
theorem dX12_isAhead_63 : decode cX12_isAhead 63 = .ok (.ireturn, 1) := by decide +kernel
theorem dX12_isAhead_64 : decode cX12_isAhead 64 = .ok (.iload 4, 2) := by decide +kernel
theorem dX12_isAhead_66 : decode cX12_isAhead 66 = .ok (.ifCond .ne 14, 3) := by decide +kernel
theorem dX12_isAhead_69 : decode cX12_isAhead 69 = .ok (.iload_n 1, 1) := by decide +kernel
theorem dX12_isAhead_70 : decode cX12_isAhead 70 = .ok (.iload_n 2, 1) := by decide +kernel
theorem dX12_isAhead_71 : decode cX12_isAhead 71 = .ok (.if_icmp .ge 7, 3) := by decide +kernel
theorem dX12_isAhead_74 : decode cX12_isAhead 74 = .ok (.iconst 1, 1) := by decide +kernel
theorem dX12_isAhead_75 : decode cX12_isAhead 75 = .ok (.goto 4, 3) := by decide +kernel
theorem dX12_isAhead_78 : decode cX12_isAhead 78 = .ok (.iconst 0, 1) := by decide +kernel
theorem dX12_isAhead_79 : decode cX12_isAhead 79 = .ok (.ireturn, 1) := by decide +kernel
theorem dX12_isAhead_80 : decode cX12_isAhead 80 = .ok (.aload_n 0, 1) := by decide +kernel
theorem dX12_isAhead_81 : decode cX12_isAhead 81 = .ok (.getfield 112, 3) := by decide +kernel
theorem dX12_isAhead_84 : decode cX12_isAhead 84 = .ok (.iload_n 1, 1) := by decide +kernel
theorem dX12_isAhead_85 : decode cX12_isAhead 85 = .ok (.iaload, 1) := by decide +kernel
theorem dX12_isAhead_86 : decode cX12_isAhead 86 = .ok (.aload_n 0, 1) := by decide +kernel
theorem dX12_isAhead_87 : decode cX12_isAhead 87 = .ok (.getfield 112, 3) := by decide +kernel
theorem dX12_isAhead_90 : decode cX12_isAhead 90 = .ok (.iload_n 2, 1) := by decide +kernel
theorem dX12_isAhead_91 : decode cX12_isAhead 91 = .ok (.iaload, 1) := by decide +kernel
theorem dX12_isAhead_92 : decode cX12_isAhead 92 = .ok (.if_icmp .eq 24, 3) := by decide +kernel
theorem dX12_isAhead_95 : decode cX12_isAhead 95 = .ok (.aload_n 0, 1) := by decide +kernel
theorem dX12_isAhead_96 : decode cX12_isAhead 96 = .ok (.getfield 112, 3) := by decide +kernel
theorem dX12_isAhead_99 : decode cX12_isAhead 99 = .ok (.iload_n 1, 1) := by decide +kernel
theorem dX12_isAhead_100 : decode cX12_isAhead 100 = .ok (.iaload, 1) := by decide +kernel
theorem dX12_isAhead_101 : decode cX12_isAhead 101 = .ok (.aload_n 0, 1) := by decide +kernel
theorem dX12_isAhead_102 : decode cX12_isAhead 102 = .ok (.getfield 112, 3) := by decide +kernel
theorem dX12_isAhead_105 : decode cX12_isAhead 105 = .ok (.iload_n 2, 1) := by decide +kernel
theorem dX12_isAhead_106 : decode cX12_isAhead 106 = .ok (.iaload, 1) := by decide +kernel
theorem dX12_isAhead_107 : decode cX12_isAhead 107 = .ok (.if_icmp .ge 7, 3) := by decide +kernel
theorem dX12_isAhead_110 : decode cX12_isAhead 110 = .ok (.iconst 1, 1) := by decide +kernel
theorem dX12_isAhead_111 : decode cX12_isAhead 111 = .ok (.goto 4, 3) := by decide +kernel
theorem dX12_isAhead_114 : decode cX12_isAhead 114 = .ok (.iconst 0, 1) := by decide +kernel
theorem dX12_isAhead_115 : decode cX12_isAhead 115 = .ok (.ireturn, 1) := by decide +kernel
theorem dX12_isAhead_116 : decode cX12_isAhead 116 = .ok (.aload_n 0, 1) := by decide +kernel
theorem dX12_isAhead_117 : decode cX12_isAhead 117 = .ok (.getfield 115, 3) := by decide +kernel
theorem dX12_isAhead_120 : decode cX12_isAhead 120 = .ok (.iload_n 1, 1) := by decide +kernel
theorem dX12_isAhead_121 : decode cX12_isAhead 121 = .ok (.iaload, 1) := by decide +kernel
theorem dX12_isAhead_122 : decode cX12_isAhead 122 = .ok (.aload_n 0, 1) := by decide +kernel
theorem dX12_isAhead_123 : decode cX12_isAhead 123 = .ok (.getfield 115, 3) := by decide +kernel
theorem dX12_isAhead_126 : decode cX12_isAhead 126 = .ok (.iload_n 2, 1) := by decide +kernel
theorem dX12_isAhead_127 : decode cX12_isAhead 127 = .ok (.iaload, 1) := by decide +kernel
theorem dX12_isAhead_128 : decode cX12_isAhead 128 = .ok (.if_icmp .eq 26, 3) := by decide +kernel
theorem dX12_isAhead_131 : decode cX12_isAhead 131 = .ok (.aload_n 0, 1) := by decide +kernel
theorem dX12_isAhead_132 : decode cX12_isAhead 132 = .ok (.getfield 115, 3) := by decide +kernel
theorem dX12_isAhead_135 : decode cX12_isAhead 135 = .ok (.iload_n 1, 1) := by decide +kernel
theorem dX12_isAhead_136 : decode cX12_isAhead 136 = .ok (.iaload, 1) := by decide +kernel
theorem dX12_isAhead_137 : decode cX12_isAhead 137 = .ok (.aload_n 0, 1) := by decide +kernel
theorem dX12_isAhead_138 : decode cX12_isAhead 138 = .ok (.getfield 115, 3) := by decide +kernel
theorem dX12_isAhead_141 : decode cX12_isAhead 141 = .ok (.iload_n 2, 1) := by decide +kernel
theorem dX12_isAhead_142 : decode cX12_isAhead 142 = .ok (.iaload, 1) := by decide +kernel
theorem dX12_isAhead_143 : decode cX12_isAhead 143 = .ok (.if_icmp .ge 7, 3) := by decide +kernel
theorem dX12_isAhead_146 : decode cX12_isAhead 146 = .ok (.iconst 1, 1) := by decide +kernel
theorem dX12_isAhead_147 : decode cX12_isAhead 147 = .ok (.goto 17, 3) := by decide +kernel
theorem dX12_isAhead_150 : decode cX12_isAhead 150 = .ok (.iconst 0, 1) := by decide +kernel
theorem dX12_isAhead_151 : decode cX12_isAhead 151 = .ok (.goto 13, 3) := by decide +kernel
theorem dX12_isAhead_154 : decode cX12_isAhead 154 = .ok (.iload_n 1, 1) := by decide +kernel
theorem dX12_isAhead_155 : decode cX12_isAhead 155 = .ok (.iload_n 2, 1) := by decide +kernel
theorem dX12_isAhead_156 : decode cX12_isAhead 156 = .ok (.if_icmp .ge 7, 3) := by decide +kernel
theorem dX12_isAhead_159 : decode cX12_isAhead 159 = .ok (.iconst 1, 1) := by decide +kernel
theorem dX12_isAhead_160 : decode cX12_isAhead 160 = .ok (.goto 4, 3) := by decide +kernel
theorem dX12_isAhead_163 : decode cX12_isAhead 163 = .ok (.iconst 0, 1) := by decide +kernel
theorem dX12_isAhead_164 : decode cX12_isAhead 164 = .ok (.ireturn, 1) := by decide +kernel
theorem dX12_partsOf_0 : decode cX12_partsOf 0 = .ok (.iconst 0, 1) := by decide +kernel
theorem dX12_partsOf_1 : decode cX12_partsOf 1 = .ok (.istore_n 3, 1) := by decide +kernel
theorem dX12_partsOf_2 : decode cX12_partsOf 2 = .ok (.iconst 0, 1) := by decide +kernel
theorem dX12_partsOf_3 : decode cX12_partsOf 3 = .ok (.istore 4, 2) := by decide +kernel
theorem dX12_partsOf_5 : decode cX12_partsOf 5 = .ok (.iload 4, 2) := by decide +kernel
theorem dX12_partsOf_7 : decode cX12_partsOf 7 = .ok (.aload_n 0, 1) := by decide +kernel
theorem dX12_partsOf_8 : decode cX12_partsOf 8 = .ok (.getfield 368, 3) := by decide +kernel
theorem dX12_partsOf_11 : decode cX12_partsOf 11 = .ok (.if_icmp .ge 62, 3) := by decide +kernel
theorem dX12_partsOf_14 : decode cX12_partsOf 14 = .ok (.iload_n 3, 1) := by decide +kernel
theorem dX12_partsOf_15 : decode cX12_partsOf 15 = .ok (.iload 4, 2) := by decide +kernel
theorem dX12_partsOf_17 : decode cX12_partsOf 17 = .ok (.iload_n 1, 1) := by decide +kernel
theorem dX12_partsOf_18 : decode cX12_partsOf 18 = .ok (.if_icmp .eq 46, 3) := by decide +kernel
theorem dX12_partsOf_21 : decode cX12_partsOf 21 = .ok (.aload_n 0, 1) := by decide +kernel
theorem dX12_partsOf_22 : decode cX12_partsOf 22 = .ok (.iload 4, 2) := by decide +kernel
theorem dX12_partsOf_24 : decode cX12_partsOf 24 = .ok (.aload_n 0, 1) := by decide +kernel
theorem dX12_partsOf_25 : decode cX12_partsOf 25 = .ok (.getfield 91, 3) := by decide +kernel
theorem dX12_partsOf_28 : decode cX12_partsOf 28 = .ok (.iload_n 1, 1) := by decide +kernel
theorem dX12_partsOf_29 : decode cX12_partsOf 29 = .ok (.iaload, 1) := by decide +kernel
theorem dX12_partsOf_30 : decode cX12_partsOf 30 = .ok (.aload_n 0, 1) := by decide +kernel
theorem dX12_partsOf_31 : decode cX12_partsOf 31 = .ok (.getfield 94, 3) := by decide +kernel
theorem dX12_partsOf_34 : decode cX12_partsOf 34 = .ok (.iload_n 1, 1) := by decide +kernel
theorem dX12_partsOf_35 : decode cX12_partsOf 35 = .ok (.iaload, 1) := by decide +kernel
theorem dX12_partsOf_36 : decode cX12_partsOf 36 = .ok (.iload_n 2, 1) := by decide +kernel
theorem dX12_partsOf_37 : decode cX12_partsOf 37 = .ok (.invokevirtual 431, 3) := by decide +kernel
theorem dX12_partsOf_40 : decode cX12_partsOf 40 = .ok (.ifCond .eq 24, 3) := by decide +kernel
theorem dX12_partsOf_43 : decode cX12_partsOf 43 = .ok (.aload_n 0, 1) := by decide +kernel
theorem dX12_partsOf_44 : decode cX12_partsOf 44 = .ok (.iload 4, 2) := by decide +kernel
theorem dX12_partsOf_46 : decode cX12_partsOf 46 = .ok (.iload_n 1, 1) := by decide +kernel
theorem dX12_partsOf_47 : decode cX12_partsOf 47 = .ok (.iload_n 2, 1) := by decide +kernel
theorem dX12_partsOf_48 : decode cX12_partsOf 48 = .ok (.invokevirtual 434, 3) := by decide +kernel
theorem dX12_partsOf_51 : decode cX12_partsOf 51 = .ok (.ifCond .eq 13, 3) := by decide +kernel
theorem dX12_partsOf_54 : decode cX12_partsOf 54 = .ok (.aload_n 0, 1) := by decide +kernel
theorem dX12_partsOf_55 : decode cX12_partsOf 55 = .ok (.getfield 97, 3) := by decide +kernel
theorem dX12_partsOf_58 : decode cX12_partsOf 58 = .ok (.iload 4, 2) := by decide +kernel
theorem dX12_partsOf_60 : decode cX12_partsOf 60 = .ok (.iaload, 1) := by decide +kernel
theorem dX12_partsOf_61 : decode cX12_partsOf 61 = .ok (.goto 4, 3) := by decide +kernel
theorem dX12_partsOf_64 : decode cX12_partsOf 64 = .ok (.iconst 0, 1) := by decide +kernel
theorem dX12_partsOf_65 : decode cX12_partsOf 65 = .ok (.iadd, 1) := by decide +kernel
theorem dX12_partsOf_66 : decode cX12_partsOf 66 = .ok (.istore_n 3, 1) := by decide +kernel
theorem dX12_partsOf_67 : decode cX12_partsOf 67 = .ok (.iinc 4 1, 3) := by decide +kernel
theorem dX12_partsOf_70 : decode cX12_partsOf 70 = .ok (.goto (-65), 3) := by decide +kernel
theorem dX12_partsOf_73 : decode cX12_partsOf 73 = .ok (.sipush 1000, 3) := by decide +kernel
theorem dX12_partsOf_76 : decode cX12_partsOf 76 = .ok (.iload_n 3, 1) := by decide +kernel
theorem dX12_partsOf_77 : decode cX12_partsOf 77 = .ok (.isub, 1) := by decide +kernel
theorem dX12_partsOf_78 : decode cX12_partsOf 78 = .ok (.istore 4, 2) := by decide +kernel
theorem dX12_partsOf_80 : decode cX12_partsOf 80 = .ok (.iload 4, 2) := by decide +kernel
theorem dX12_partsOf_82 : decode cX12_partsOf 82 = .ok (.ifCond .gt 7, 3) := by decide +kernel
theorem dX12_partsOf_85 : decode cX12_partsOf 85 = .ok (.iconst 0, 1) := by decide +kernel
theorem dX12_partsOf_86 : decode cX12_partsOf 86 = .ok (.goto 25, 3) := by decide +kernel
theorem dX12_partsOf_89 : decode cX12_partsOf 89 = .ok (.iload 4, 2) := by decide +kernel
theorem dX12_partsOf_91 : decode cX12_partsOf 91 = .ok (.aload_n 0, 1) := by decide +kernel
theorem dX12_partsOf_92 : decode cX12_partsOf 92 = .ok (.getfield 97, 3) := by decide +kernel
theorem dX12_partsOf_95 : decode cX12_partsOf 95 = .ok (.iload_n 1, 1) := by decide +kernel
theorem dX12_partsOf_96 : decode cX12_partsOf 96 = .ok (.iaload, 1) := by decide +kernel
theorem dX12_partsOf_97 : decode cX12_partsOf 97 = .ok (.if_icmp .ge 8, 3) := by decide +kernel
theorem dX12_partsOf_100 : decode cX12_partsOf 100 = .ok (.iload 4, 2) := by decide +kernel
theorem dX12_partsOf_102 : decode cX12_partsOf 102 = .ok (.goto 9, 3) := by decide +kernel
theorem dX12_partsOf_105 : decode cX12_partsOf 105 = .ok (.aload_n 0, 1) := by decide +kernel
theorem dX12_partsOf_106 : decode cX12_partsOf 106 = .ok (.getfield 97, 3) := by decide +kernel
theorem dX12_partsOf_109 : decode cX12_partsOf 109 = .ok (.iload_n 1, 1) := by decide +kernel
theorem dX12_partsOf_110 : decode cX12_partsOf 110 = .ok (.iaload, 1) := by decide +kernel
theorem dX12_partsOf_111 : decode cX12_partsOf 111 = .ok (.ireturn, 1) := by decide +kernel
theorem dX12_paid_0 : decode cX12_paid 0 = .ok (.aload_n 0, 1) := by decide +kernel
theorem dX12_paid_1 : decode cX12_paid 1 = .ok (.iload_n 3, 1) := by decide +kernel
theorem dX12_paid_2 : decode cX12_paid 2 = .ok (.invokevirtual 165, 3) := by decide +kernel
theorem dX12_paid_5 : decode cX12_paid 5 = .ok (.ifCond .ne 5, 3) := by decide +kernel
theorem dX12_paid_8 : decode cX12_paid 8 = .ok (.iconst (-1), 1) := by decide +kernel
theorem dX12_paid_9 : decode cX12_paid 9 = .ok (.ireturn, 1) := by decide +kernel
theorem dX12_paid_10 : decode cX12_paid 10 = .ok (.aload_n 0, 1) := by decide +kernel
theorem dX12_paid_11 : decode cX12_paid 11 = .ok (.iload_n 1, 1) := by decide +kernel
theorem dX12_paid_12 : decode cX12_paid 12 = .ok (.iload_n 2, 1) := by decide +kernel
theorem dX12_paid_13 : decode cX12_paid 13 = .ok (.iload 4, 2) := by decide +kernel
theorem dX12_paid_15 : decode cX12_paid 15 = .ok (.invokevirtual 437, 3) := by decide +kernel
theorem dX12_paid_18 : decode cX12_paid 18 = .ok (.istore 5, 2) := by decide +kernel
theorem dX12_paid_20 : decode cX12_paid 20 = .ok (.iload 5, 2) := by decide +kernel
theorem dX12_paid_22 : decode cX12_paid 22 = .ok (.iconst (-1), 1) := by decide +kernel
theorem dX12_paid_23 : decode cX12_paid 23 = .ok (.if_icmp .ne 5, 3) := by decide +kernel
theorem dX12_paid_26 : decode cX12_paid 26 = .ok (.iconst (-1), 1) := by decide +kernel
theorem dX12_paid_27 : decode cX12_paid 27 = .ok (.ireturn, 1) := by decide +kernel
theorem dX12_paid_28 : decode cX12_paid 28 = .ok (.iconst 0, 1) := by decide +kernel
theorem dX12_paid_29 : decode cX12_paid 29 = .ok (.istore 6, 2) := by decide +kernel
theorem dX12_paid_31 : decode cX12_paid 31 = .ok (.iload 5, 2) := by decide +kernel
theorem dX12_paid_33 : decode cX12_paid 33 = .ok (.iload 5, 2) := by decide +kernel
theorem dX12_paid_35 : decode cX12_paid 35 = .ok (.aload_n 0, 1) := by decide +kernel
theorem dX12_paid_36 : decode cX12_paid 36 = .ok (.getfield 185, 3) := by decide +kernel
theorem dX12_paid_39 : decode cX12_paid 39 = .ok (.imul, 1) := by decide +kernel
theorem dX12_paid_40 : decode cX12_paid 40 = .ok (.bipush 100, 2) := by decide +kernel
theorem dX12_paid_42 : decode cX12_paid 42 = .ok (.idiv, 1) := by decide +kernel
theorem dX12_paid_43 : decode cX12_paid 43 = .ok (.isub, 1) := by decide +kernel
theorem dX12_paid_44 : decode cX12_paid 44 = .ok (.istore 5, 2) := by decide +kernel
theorem dX12_paid_46 : decode cX12_paid 46 = .ok (.iconst 0, 1) := by decide +kernel
theorem dX12_paid_47 : decode cX12_paid 47 = .ok (.istore 7, 2) := by decide +kernel
theorem dX12_paid_49 : decode cX12_paid 49 = .ok (.iload 7, 2) := by decide +kernel
theorem dX12_paid_51 : decode cX12_paid 51 = .ok (.aload_n 0, 1) := by decide +kernel
theorem dX12_paid_52 : decode cX12_paid 52 = .ok (.getfield 381, 3) := by decide +kernel
theorem dX12_paid_55 : decode cX12_paid 55 = .ok (.if_icmp .ge 101, 3) := by decide +kernel
theorem dX12_paid_58 : decode cX12_paid 58 = .ok (.aload_n 0, 1) := by decide +kernel
theorem dX12_paid_59 : decode cX12_paid 59 = .ok (.getfield 121, 3) := by decide +kernel
theorem dX12_paid_62 : decode cX12_paid 62 = .ok (.iload 7, 2) := by decide +kernel
theorem dX12_paid_64 : decode cX12_paid 64 = .ok (.iaload, 1) := by decide +kernel
theorem dX12_paid_65 : decode cX12_paid 65 = .ok (.iload_n 2, 1) := by decide +kernel
theorem dX12_paid_66 : decode cX12_paid 66 = .ok (.if_icmp .ne 84, 3) := by decide +kernel
theorem dX12_paid_69 : decode cX12_paid 69 = .ok (.aload_n 0, 1) := by decide +kernel
theorem dX12_paid_70 : decode cX12_paid 70 = .ok (.getfield 124, 3) := by decide +kernel
theorem dX12_paid_73 : decode cX12_paid 73 = .ok (.iload 7, 2) := by decide +kernel
theorem dX12_paid_75 : decode cX12_paid 75 = .ok (.iaload, 1) := by decide +kernel
theorem dX12_paid_76 : decode cX12_paid 76 = .ok (.iload_n 1, 1) := by decide +kernel
theorem dX12_paid_77 : decode cX12_paid 77 = .ok (.if_icmp .ne 73, 3) := by decide +kernel
theorem dX12_paid_80 : decode cX12_paid 80 = .ok (.aload_n 0, 1) := by decide +kernel
theorem dX12_paid_81 : decode cX12_paid 81 = .ok (.getfield 133, 3) := by decide +kernel
theorem dX12_paid_84 : decode cX12_paid 84 = .ok (.iload 7, 2) := by decide +kernel
theorem dX12_paid_86 : decode cX12_paid 86 = .ok (.iaload, 1) := by decide +kernel
theorem dX12_paid_87 : decode cX12_paid 87 = .ok (.iload 4, 2) := by decide +kernel
theorem dX12_paid_89 : decode cX12_paid 89 = .ok (.if_icmp .le 6, 3) := by decide +kernel
theorem dX12_paid_92 : decode cX12_paid 92 = .ok (.goto 58, 3) := by decide +kernel
theorem dX12_paid_95 : decode cX12_paid 95 = .ok (.aload_n 0, 1) := by decide +kernel
theorem dX12_paid_96 : decode cX12_paid 96 = .ok (.getfield 130, 3) := by decide +kernel
theorem dX12_paid_99 : decode cX12_paid 99 = .ok (.iload 7, 2) := by decide +kernel
theorem dX12_paid_101 : decode cX12_paid 101 = .ok (.iaload, 1) := by decide +kernel
theorem dX12_paid_102 : decode cX12_paid 102 = .ok (.iload 5, 2) := by decide +kernel
theorem dX12_paid_104 : decode cX12_paid 104 = .ok (.if_icmp .ge 13, 3) := by decide +kernel
theorem dX12_paid_107 : decode cX12_paid 107 = .ok (.aload_n 0, 1) := by decide +kernel
theorem dX12_paid_108 : decode cX12_paid 108 = .ok (.getfield 130, 3) := by decide +kernel
theorem dX12_paid_111 : decode cX12_paid 111 = .ok (.iload 7, 2) := by decide +kernel
theorem dX12_paid_113 : decode cX12_paid 113 = .ok (.iaload, 1) := by decide +kernel
theorem dX12_paid_114 : decode cX12_paid 114 = .ok (.goto 5, 3) := by decide +kernel
theorem dX12_paid_117 : decode cX12_paid 117 = .ok (.iload 5, 2) := by decide +kernel
theorem dX12_paid_119 : decode cX12_paid 119 = .ok (.istore 8, 2) := by decide +kernel
theorem dX12_paid_121 : decode cX12_paid 121 = .ok (.iload 5, 2) := by decide +kernel
theorem dX12_paid_123 : decode cX12_paid 123 = .ok (.iload 8, 2) := by decide +kernel
theorem dX12_paid_125 : decode cX12_paid 125 = .ok (.isub, 1) := by decide +kernel
theorem dX12_paid_126 : decode cX12_paid 126 = .ok (.istore 5, 2) := by decide +kernel
theorem dX12_paid_128 : decode cX12_paid 128 = .ok (.iload 6, 2) := by decide +kernel
theorem dX12_paid_130 : decode cX12_paid 130 = .ok (.aload_n 0, 1) := by decide +kernel
theorem dX12_paid_131 : decode cX12_paid 131 = .ok (.getfield 127, 3) := by decide +kernel
theorem dX12_paid_134 : decode cX12_paid 134 = .ok (.iload 7, 2) := by decide +kernel
theorem dX12_paid_136 : decode cX12_paid 136 = .ok (.iaload, 1) := by decide +kernel
theorem dX12_paid_137 : decode cX12_paid 137 = .ok (.iload_n 3, 1) := by decide +kernel
theorem dX12_paid_138 : decode cX12_paid 138 = .ok (.if_icmp .ne 8, 3) := by decide +kernel
theorem dX12_paid_141 : decode cX12_paid 141 = .ok (.iload 8, 2) := by decide +kernel
theorem dX12_paid_143 : decode cX12_paid 143 = .ok (.goto 4, 3) := by decide +kernel
theorem dX12_paid_146 : decode cX12_paid 146 = .ok (.iconst 0, 1) := by decide +kernel
theorem dX12_paid_147 : decode cX12_paid 147 = .ok (.iadd, 1) := by decide +kernel
theorem dX12_paid_148 : decode cX12_paid 148 = .ok (.istore 6, 2) := by decide +kernel
theorem dX12_paid_150 : decode cX12_paid 150 = .ok (.iinc 7 1, 3) := by decide +kernel
theorem dX12_paid_153 : decode cX12_paid 153 = .ok (.goto (-104), 3) := by decide +kernel
theorem dX12_paid_156 : decode cX12_paid 156 = .ok (.iload 5, 2) := by decide +kernel
theorem dX12_paid_158 : decode cX12_paid 158 = .ok (.istore 7, 2) := by decide +kernel
theorem dX12_paid_160 : decode cX12_paid 160 = .ok (.iconst 0, 1) := by decide +kernel
theorem dX12_paid_161 : decode cX12_paid 161 = .ok (.istore 8, 2) := by decide +kernel
theorem dX12_paid_163 : decode cX12_paid 163 = .ok (.iload 8, 2) := by decide +kernel
theorem dX12_paid_165 : decode cX12_paid 165 = .ok (.aload_n 0, 1) := by decide +kernel
theorem dX12_paid_166 : decode cX12_paid 166 = .ok (.getfield 368, 3) := by decide +kernel
theorem dX12_paid_169 : decode cX12_paid 169 = .ok (.if_icmp .ge 74, 3) := by decide +kernel
theorem dX12_paid_172 : decode cX12_paid 172 = .ok (.aload_n 0, 1) := by decide +kernel
theorem dX12_paid_173 : decode cX12_paid 173 = .ok (.iload 8, 2) := by decide +kernel
theorem dX12_paid_175 : decode cX12_paid 175 = .ok (.iload_n 2, 1) := by decide +kernel
theorem dX12_paid_176 : decode cX12_paid 176 = .ok (.iload_n 1, 1) := by decide +kernel
theorem dX12_paid_177 : decode cX12_paid 177 = .ok (.iload 4, 2) := by decide +kernel
theorem dX12_paid_179 : decode cX12_paid 179 = .ok (.invokevirtual 431, 3) := by decide +kernel
theorem dX12_paid_182 : decode cX12_paid 182 = .ok (.ifCond .ne 6, 3) := by decide +kernel
theorem dX12_paid_185 : decode cX12_paid 185 = .ok (.goto 52, 3) := by decide +kernel
theorem dX12_paid_188 : decode cX12_paid 188 = .ok (.iload 5, 2) := by decide +kernel
theorem dX12_paid_190 : decode cX12_paid 190 = .ok (.i2l, 1) := by decide +kernel
theorem dX12_paid_191 : decode cX12_paid 191 = .ok (.aload_n 0, 1) := by decide +kernel
theorem dX12_paid_192 : decode cX12_paid 192 = .ok (.iload 8, 2) := by decide +kernel
theorem dX12_paid_194 : decode cX12_paid 194 = .ok (.iload 4, 2) := by decide +kernel
theorem dX12_paid_196 : decode cX12_paid 196 = .ok (.invokevirtual 440, 3) := by decide +kernel
theorem dX12_paid_199 : decode cX12_paid 199 = .ok (.i2l, 1) := by decide +kernel
theorem dX12_paid_200 : decode cX12_paid 200 = .ok (.lmul, 1) := by decide +kernel
theorem dX12_paid_201 : decode cX12_paid 201 = .ok (.ldc2_w 371, 3) := by decide +kernel
theorem dX12_paid_204 : decode cX12_paid 204 = .ok (.ldiv, 1) := by decide +kernel
theorem dX12_paid_205 : decode cX12_paid 205 = .ok (.l2i, 1) := by decide +kernel
theorem dX12_paid_206 : decode cX12_paid 206 = .ok (.istore 9, 2) := by decide +kernel
theorem dX12_paid_208 : decode cX12_paid 208 = .ok (.iload 7, 2) := by decide +kernel
theorem dX12_paid_210 : decode cX12_paid 210 = .ok (.iload 9, 2) := by decide +kernel
theorem dX12_paid_212 : decode cX12_paid 212 = .ok (.isub, 1) := by decide +kernel
theorem dX12_paid_213 : decode cX12_paid 213 = .ok (.istore 7, 2) := by decide +kernel
theorem dX12_paid_215 : decode cX12_paid 215 = .ok (.iload 6, 2) := by decide +kernel
theorem dX12_paid_217 : decode cX12_paid 217 = .ok (.aload_n 0, 1) := by decide +kernel
theorem dX12_paid_218 : decode cX12_paid 218 = .ok (.getfield 100, 3) := by decide +kernel
theorem dX12_paid_221 : decode cX12_paid 221 = .ok (.iload 8, 2) := by decide +kernel
theorem dX12_paid_223 : decode cX12_paid 223 = .ok (.iaload, 1) := by decide +kernel
theorem dX12_paid_224 : decode cX12_paid 224 = .ok (.iload_n 3, 1) := by decide +kernel
theorem dX12_paid_225 : decode cX12_paid 225 = .ok (.if_icmp .ne 8, 3) := by decide +kernel
theorem dX12_paid_228 : decode cX12_paid 228 = .ok (.iload 9, 2) := by decide +kernel
theorem dX12_paid_230 : decode cX12_paid 230 = .ok (.goto 4, 3) := by decide +kernel
theorem dX12_paid_233 : decode cX12_paid 233 = .ok (.iconst 0, 1) := by decide +kernel
theorem dX12_paid_234 : decode cX12_paid 234 = .ok (.iadd, 1) := by decide +kernel
theorem dX12_paid_235 : decode cX12_paid 235 = .ok (.istore 6, 2) := by decide +kernel
theorem dX12_paid_237 : decode cX12_paid 237 = .ok (.iinc 8 1, 3) := by decide +kernel
theorem dX12_paid_240 : decode cX12_paid 240 = .ok (.goto (-77), 3) := by decide +kernel
theorem dX12_paid_243 : decode cX12_paid 243 = .ok (.iload_n 3, 1) := by decide +kernel
theorem dX12_paid_244 : decode cX12_paid 244 = .ok (.iload_n 2, 1) := by decide +kernel
theorem dX12_paid_245 : decode cX12_paid 245 = .ok (.if_icmp .ne 11, 3) := by decide +kernel
theorem dX12_paid_248 : decode cX12_paid 248 = .ok (.iload 6, 2) := by decide +kernel
theorem dX12_paid_250 : decode cX12_paid 250 = .ok (.iload 7, 2) := by decide +kernel
theorem dX12_paid_252 : decode cX12_paid 252 = .ok (.iadd, 1) := by decide +kernel
theorem dX12_paid_253 : decode cX12_paid 253 = .ok (.goto 5, 3) := by decide +kernel
theorem dX12_paid_256 : decode cX12_paid 256 = .ok (.iload 6, 2) := by decide +kernel
theorem dX12_paid_258 : decode cX12_paid 258 = .ok (.ireturn, 1) := by decide +kernel
theorem dX12_isHeld_0 : decode cX12_isHeld 0 = .ok (.aload_n 0, 1) := by decide +kernel
theorem dX12_isHeld_1 : decode cX12_isHeld 1 = .ok (.getfield 100, 3) := by decide +kernel
theorem dX12_isHeld_4 : decode cX12_isHeld 4 = .ok (.iload_n 1, 1) := by decide +kernel
theorem dX12_isHeld_5 : decode cX12_isHeld 5 = .ok (.iaload, 1) := by decide +kernel
theorem dX12_isHeld_6 : decode cX12_isHeld 6 = .ok (.iload_n 2, 1) := by decide +kernel
theorem dX12_isHeld_7 : decode cX12_isHeld 7 = .ok (.if_icmp .ne 39, 3) := by decide +kernel
theorem dX12_isHeld_10 : decode cX12_isHeld 10 = .ok (.aload_n 0, 1) := by decide +kernel
theorem dX12_isHeld_11 : decode cX12_isHeld 11 = .ok (.getfield 118, 3) := by decide +kernel
theorem dX12_isHeld_14 : decode cX12_isHeld 14 = .ok (.iload_n 1, 1) := by decide +kernel
theorem dX12_isHeld_15 : decode cX12_isHeld 15 = .ok (.iaload, 1) := by decide +kernel
theorem dX12_isHeld_16 : decode cX12_isHeld 16 = .ok (.iconst (-1), 1) := by decide +kernel
theorem dX12_isHeld_17 : decode cX12_isHeld 17 = .ok (.if_icmp .ne 29, 3) := by decide +kernel
theorem dX12_isHeld_20 : decode cX12_isHeld 20 = .ok (.aload_n 0, 1) := by decide +kernel
theorem dX12_isHeld_21 : decode cX12_isHeld 21 = .ok (.aload_n 0, 1) := by decide +kernel
theorem dX12_isHeld_22 : decode cX12_isHeld 22 = .ok (.getfield 42, 3) := by decide +kernel
theorem dX12_isHeld_25 : decode cX12_isHeld 25 = .ok (.aload_n 0, 1) := by decide +kernel
theorem dX12_isHeld_26 : decode cX12_isHeld 26 = .ok (.getfield 94, 3) := by decide +kernel
theorem dX12_isHeld_29 : decode cX12_isHeld 29 = .ok (.iload_n 1, 1) := by decide +kernel
theorem dX12_isHeld_30 : decode cX12_isHeld 30 = .ok (.iaload, 1) := by decide +kernel
theorem dX12_isHeld_31 : decode cX12_isHeld 31 = .ok (.iaload, 1) := by decide +kernel
theorem dX12_isHeld_32 : decode cX12_isHeld 32 = .ok (.aload_n 0, 1) := by decide +kernel
theorem dX12_isHeld_33 : decode cX12_isHeld 33 = .ok (.getfield 13, 3) := by decide +kernel
theorem dX12_isHeld_36 : decode cX12_isHeld 36 = .ok (.invokevirtual 336, 3) := by decide +kernel
theorem dX12_isHeld_39 : decode cX12_isHeld 39 = .ok (.ifCond .ne 7, 3) := by decide +kernel
theorem dX12_isHeld_42 : decode cX12_isHeld 42 = .ok (.iconst 1, 1) := by decide +kernel
theorem dX12_isHeld_43 : decode cX12_isHeld 43 = .ok (.goto 4, 3) := by decide +kernel
theorem dX12_isHeld_46 : decode cX12_isHeld 46 = .ok (.iconst 0, 1) := by decide +kernel
theorem dX12_isHeld_47 : decode cX12_isHeld 47 = .ok (.ireturn, 1) := by decide +kernel
theorem dX12_tenantsOf_0 : decode cX12_tenantsOf 0 = .ok (.iconst 0, 1) := by decide +kernel
theorem dX12_tenantsOf_1 : decode cX12_tenantsOf 1 = .ok (.istore_n 2, 1) := by decide +kernel
theorem dX12_tenantsOf_2 : decode cX12_tenantsOf 2 = .ok (.iconst 0, 1) := by decide +kernel
theorem dX12_tenantsOf_3 : decode cX12_tenantsOf 3 = .ok (.istore_n 3, 1) := by decide +kernel
theorem dX12_tenantsOf_4 : decode cX12_tenantsOf 4 = .ok (.iload_n 3, 1) := by decide +kernel
theorem dX12_tenantsOf_5 : decode cX12_tenantsOf 5 = .ok (.aload_n 0, 1) := by decide +kernel
theorem dX12_tenantsOf_6 : decode cX12_tenantsOf 6 = .ok (.getfield 368, 3) := by decide +kernel
theorem dX12_tenantsOf_9 : decode cX12_tenantsOf 9 = .ok (.if_icmp .ge 38, 3) := by decide +kernel
theorem dX12_tenantsOf_12 : decode cX12_tenantsOf 12 = .ok (.iload_n 2, 1) := by decide +kernel
theorem dX12_tenantsOf_13 : decode cX12_tenantsOf 13 = .ok (.aload_n 0, 1) := by decide +kernel
theorem dX12_tenantsOf_14 : decode cX12_tenantsOf 14 = .ok (.iload_n 3, 1) := by decide +kernel
theorem dX12_tenantsOf_15 : decode cX12_tenantsOf 15 = .ok (.iload_n 1, 1) := by decide +kernel
theorem dX12_tenantsOf_16 : decode cX12_tenantsOf 16 = .ok (.invokevirtual 443, 3) := by decide +kernel
theorem dX12_tenantsOf_19 : decode cX12_tenantsOf 19 = .ok (.ifCond .eq 19, 3) := by decide +kernel
theorem dX12_tenantsOf_22 : decode cX12_tenantsOf 22 = .ok (.iconst 1, 1) := by decide +kernel
theorem dX12_tenantsOf_23 : decode cX12_tenantsOf 23 = .ok (.aload_n 0, 1) := by decide +kernel
theorem dX12_tenantsOf_24 : decode cX12_tenantsOf 24 = .ok (.getfield 42, 3) := by decide +kernel
theorem dX12_tenantsOf_27 : decode cX12_tenantsOf 27 = .ok (.aload_n 0, 1) := by decide +kernel
theorem dX12_tenantsOf_28 : decode cX12_tenantsOf 28 = .ok (.getfield 94, 3) := by decide +kernel
theorem dX12_tenantsOf_31 : decode cX12_tenantsOf 31 = .ok (.iload_n 3, 1) := by decide +kernel
theorem dX12_tenantsOf_32 : decode cX12_tenantsOf 32 = .ok (.iaload, 1) := by decide +kernel
theorem dX12_tenantsOf_33 : decode cX12_tenantsOf 33 = .ok (.iaload, 1) := by decide +kernel
theorem dX12_tenantsOf_34 : decode cX12_tenantsOf 34 = .ok (.ishl, 1) := by decide +kernel
theorem dX12_tenantsOf_35 : decode cX12_tenantsOf 35 = .ok (.goto 4, 3) := by decide +kernel
theorem dX12_tenantsOf_38 : decode cX12_tenantsOf 38 = .ok (.iconst 0, 1) := by decide +kernel
theorem dX12_tenantsOf_39 : decode cX12_tenantsOf 39 = .ok (.ior, 1) := by decide +kernel
theorem dX12_tenantsOf_40 : decode cX12_tenantsOf 40 = .ok (.istore_n 2, 1) := by decide +kernel
theorem dX12_tenantsOf_41 : decode cX12_tenantsOf 41 = .ok (.iinc 3 1, 3) := by decide +kernel
theorem dX12_tenantsOf_44 : decode cX12_tenantsOf 44 = .ok (.goto (-40), 3) := by decide +kernel
theorem dX12_tenantsOf_47 : decode cX12_tenantsOf 47 = .ok (.iload_n 2, 1) := by decide +kernel
theorem dX12_tenantsOf_48 : decode cX12_tenantsOf 48 = .ok (.ireturn, 1) := by decide +kernel
theorem dX12_livingOf_0 : decode cX12_livingOf 0 = .ok (.iconst 0, 1) := by decide +kernel
theorem dX12_livingOf_1 : decode cX12_livingOf 1 = .ok (.istore_n 2, 1) := by decide +kernel
theorem dX12_livingOf_2 : decode cX12_livingOf 2 = .ok (.iconst 0, 1) := by decide +kernel
theorem dX12_livingOf_3 : decode cX12_livingOf 3 = .ok (.istore_n 3, 1) := by decide +kernel
theorem dX12_livingOf_4 : decode cX12_livingOf 4 = .ok (.iload_n 3, 1) := by decide +kernel
theorem dX12_livingOf_5 : decode cX12_livingOf 5 = .ok (.aload_n 0, 1) := by decide +kernel
theorem dX12_livingOf_6 : decode cX12_livingOf 6 = .ok (.getfield 368, 3) := by decide +kernel
theorem dX12_livingOf_9 : decode cX12_livingOf 9 = .ok (.if_icmp .ge 39, 3) := by decide +kernel
theorem dX12_livingOf_12 : decode cX12_livingOf 12 = .ok (.iload_n 2, 1) := by decide +kernel
theorem dX12_livingOf_13 : decode cX12_livingOf 13 = .ok (.aload_n 0, 1) := by decide +kernel
theorem dX12_livingOf_14 : decode cX12_livingOf 14 = .ok (.iload_n 3, 1) := by decide +kernel
theorem dX12_livingOf_15 : decode cX12_livingOf 15 = .ok (.iload_n 1, 1) := by decide +kernel
theorem dX12_livingOf_16 : decode cX12_livingOf 16 = .ok (.invokevirtual 443, 3) := by decide +kernel
theorem dX12_livingOf_19 : decode cX12_livingOf 19 = .ok (.ifCond .eq 20, 3) := by decide +kernel
theorem dX12_livingOf_22 : decode cX12_livingOf 22 = .ok (.aload_n 0, 1) := by decide +kernel
theorem dX12_livingOf_23 : decode cX12_livingOf 23 = .ok (.aload_n 0, 1) := by decide +kernel
theorem dX12_livingOf_24 : decode cX12_livingOf 24 = .ok (.getfield 94, 3) := by decide +kernel
theorem dX12_livingOf_27 : decode cX12_livingOf 27 = .ok (.iload_n 3, 1) := by decide +kernel
theorem dX12_livingOf_28 : decode cX12_livingOf 28 = .ok (.iaload, 1) := by decide +kernel
theorem dX12_livingOf_29 : decode cX12_livingOf 29 = .ok (.aload_n 0, 1) := by decide +kernel
theorem dX12_livingOf_30 : decode cX12_livingOf 30 = .ok (.getfield 13, 3) := by decide +kernel
theorem dX12_livingOf_33 : decode cX12_livingOf 33 = .ok (.invokevirtual 314, 3) := by decide +kernel
theorem dX12_livingOf_36 : decode cX12_livingOf 36 = .ok (.goto 4, 3) := by decide +kernel
theorem dX12_livingOf_39 : decode cX12_livingOf 39 = .ok (.iconst 0, 1) := by decide +kernel
theorem dX12_livingOf_40 : decode cX12_livingOf 40 = .ok (.ior, 1) := by decide +kernel
theorem dX12_livingOf_41 : decode cX12_livingOf 41 = .ok (.istore_n 2, 1) := by decide +kernel
theorem dX12_livingOf_42 : decode cX12_livingOf 42 = .ok (.iinc 3 1, 3) := by decide +kernel
theorem dX12_livingOf_45 : decode cX12_livingOf 45 = .ok (.goto (-41), 3) := by decide +kernel
theorem dX12_livingOf_48 : decode cX12_livingOf 48 = .ok (.iconst 0, 1) := by decide +kernel
theorem dX12_livingOf_49 : decode cX12_livingOf 49 = .ok (.istore_n 3, 1) := by decide +kernel
theorem dX12_livingOf_50 : decode cX12_livingOf 50 = .ok (.iconst 0, 1) := by decide +kernel
theorem dX12_livingOf_51 : decode cX12_livingOf 51 = .ok (.istore 4, 2) := by decide +kernel
theorem dX12_livingOf_53 : decode cX12_livingOf 53 = .ok (.iload 4, 2) := by decide +kernel
theorem dX12_livingOf_55 : decode cX12_livingOf 55 = .ok (.aload_n 0, 1) := by decide +kernel
theorem dX12_livingOf_56 : decode cX12_livingOf 56 = .ok (.getfield 160, 3) := by decide +kernel
theorem dX12_livingOf_59 : decode cX12_livingOf 59 = .ok (.if_icmp .ge 50, 3) := by decide +kernel
theorem dX12_livingOf_62 : decode cX12_livingOf 62 = .ok (.iload_n 3, 1) := by decide +kernel
theorem dX12_livingOf_63 : decode cX12_livingOf 63 = .ok (.iload_n 2, 1) := by decide +kernel
theorem dX12_livingOf_64 : decode cX12_livingOf 64 = .ok (.aload_n 0, 1) := by decide +kernel
theorem dX12_livingOf_65 : decode cX12_livingOf 65 = .ok (.iload_n 1, 1) := by decide +kernel
theorem dX12_livingOf_66 : decode cX12_livingOf 66 = .ok (.invokevirtual 446, 3) := by decide +kernel
theorem dX12_livingOf_69 : decode cX12_livingOf 69 = .ok (.iconst (-1), 1) := by decide +kernel
theorem dX12_livingOf_70 : decode cX12_livingOf 70 = .ok (.ixor, 1) := by decide +kernel
theorem dX12_livingOf_71 : decode cX12_livingOf 71 = .ok (.iand, 1) := by decide +kernel
theorem dX12_livingOf_72 : decode cX12_livingOf 72 = .ok (.iload 4, 2) := by decide +kernel
theorem dX12_livingOf_74 : decode cX12_livingOf 74 = .ok (.invokestatic 320, 3) := by decide +kernel
theorem dX12_livingOf_77 : decode cX12_livingOf 77 = .ok (.ifCond .eq 23, 3) := by decide +kernel
theorem dX12_livingOf_80 : decode cX12_livingOf 80 = .ok (.aload_n 0, 1) := by decide +kernel
theorem dX12_livingOf_81 : decode cX12_livingOf 81 = .ok (.iload 4, 2) := by decide +kernel
theorem dX12_livingOf_83 : decode cX12_livingOf 83 = .ok (.aload_n 0, 1) := by decide +kernel
theorem dX12_livingOf_84 : decode cX12_livingOf 84 = .ok (.getfield 13, 3) := by decide +kernel
theorem dX12_livingOf_87 : decode cX12_livingOf 87 = .ok (.invokevirtual 336, 3) := by decide +kernel
theorem dX12_livingOf_90 : decode cX12_livingOf 90 = .ok (.ifCond .ne 10, 3) := by decide +kernel
theorem dX12_livingOf_93 : decode cX12_livingOf 93 = .ok (.iconst 1, 1) := by decide +kernel
theorem dX12_livingOf_94 : decode cX12_livingOf 94 = .ok (.iload 4, 2) := by decide +kernel
theorem dX12_livingOf_96 : decode cX12_livingOf 96 = .ok (.ishl, 1) := by decide +kernel
theorem dX12_livingOf_97 : decode cX12_livingOf 97 = .ok (.goto 4, 3) := by decide +kernel
theorem dX12_livingOf_100 : decode cX12_livingOf 100 = .ok (.iconst 0, 1) := by decide +kernel
theorem dX12_livingOf_101 : decode cX12_livingOf 101 = .ok (.ior, 1) := by decide +kernel
theorem dX12_livingOf_102 : decode cX12_livingOf 102 = .ok (.istore_n 3, 1) := by decide +kernel
theorem dX12_livingOf_103 : decode cX12_livingOf 103 = .ok (.iinc 4 1, 3) := by decide +kernel
theorem dX12_livingOf_106 : decode cX12_livingOf 106 = .ok (.goto (-53), 3) := by decide +kernel
theorem dX12_livingOf_109 : decode cX12_livingOf 109 = .ok (.iload_n 3, 1) := by decide +kernel
theorem dX12_livingOf_110 : decode cX12_livingOf 110 = .ok (.ireturn, 1) := by decide +kernel
theorem dX12_bringsOf_0 : decode cX12_bringsOf 0 = .ok (.lconst 0, 1) := by decide +kernel
theorem dX12_bringsOf_1 : decode cX12_bringsOf 1 = .ok (.lstore_n 3, 1) := by decide +kernel
theorem dX12_bringsOf_2 : decode cX12_bringsOf 2 = .ok (.iconst 0, 1) := by decide +kernel
theorem dX12_bringsOf_3 : decode cX12_bringsOf 3 = .ok (.istore 5, 2) := by decide +kernel
theorem dX12_bringsOf_5 : decode cX12_bringsOf 5 = .ok (.iload 5, 2) := by decide +kernel
theorem dX12_bringsOf_7 : decode cX12_bringsOf 7 = .ok (.aload_n 0, 1) := by decide +kernel
theorem dX12_bringsOf_8 : decode cX12_bringsOf 8 = .ok (.getfield 368, 3) := by decide +kernel
theorem dX12_bringsOf_11 : decode cX12_bringsOf 11 = .ok (.if_icmp .ge 82, 3) := by decide +kernel
theorem dX12_bringsOf_14 : decode cX12_bringsOf 14 = .ok (.aload_n 0, 1) := by decide +kernel
theorem dX12_bringsOf_15 : decode cX12_bringsOf 15 = .ok (.iload 5, 2) := by decide +kernel
theorem dX12_bringsOf_17 : decode cX12_bringsOf 17 = .ok (.iload_n 1, 1) := by decide +kernel
theorem dX12_bringsOf_18 : decode cX12_bringsOf 18 = .ok (.invokevirtual 443, 3) := by decide +kernel
theorem dX12_bringsOf_21 : decode cX12_bringsOf 21 = .ok (.ifCond .ne 6, 3) := by decide +kernel
theorem dX12_bringsOf_24 : decode cX12_bringsOf 24 = .ok (.goto 63, 3) := by decide +kernel
theorem dX12_bringsOf_27 : decode cX12_bringsOf 27 = .ok (.aload_n 0, 1) := by decide +kernel
theorem dX12_bringsOf_28 : decode cX12_bringsOf 28 = .ok (.aload_n 0, 1) := by decide +kernel
theorem dX12_bringsOf_29 : decode cX12_bringsOf 29 = .ok (.getfield 94, 3) := by decide +kernel
theorem dX12_bringsOf_32 : decode cX12_bringsOf 32 = .ok (.iload 5, 2) := by decide +kernel
theorem dX12_bringsOf_34 : decode cX12_bringsOf 34 = .ok (.iaload, 1) := by decide +kernel
theorem dX12_bringsOf_35 : decode cX12_bringsOf 35 = .ok (.iload_n 2, 1) := by decide +kernel
theorem dX12_bringsOf_36 : decode cX12_bringsOf 36 = .ok (.aload_n 0, 1) := by decide +kernel
theorem dX12_bringsOf_37 : decode cX12_bringsOf 37 = .ok (.aload_n 0, 1) := by decide +kernel
theorem dX12_bringsOf_38 : decode cX12_bringsOf 38 = .ok (.getfield 94, 3) := by decide +kernel
theorem dX12_bringsOf_41 : decode cX12_bringsOf 41 = .ok (.iload 5, 2) := by decide +kernel
theorem dX12_bringsOf_43 : decode cX12_bringsOf 43 = .ok (.iaload, 1) := by decide +kernel
theorem dX12_bringsOf_44 : decode cX12_bringsOf 44 = .ok (.aload_n 0, 1) := by decide +kernel
theorem dX12_bringsOf_45 : decode cX12_bringsOf 45 = .ok (.getfield 13, 3) := by decide +kernel
theorem dX12_bringsOf_48 : decode cX12_bringsOf 48 = .ok (.invokevirtual 314, 3) := by decide +kernel
theorem dX12_bringsOf_51 : decode cX12_bringsOf 51 = .ok (.iand, 1) := by decide +kernel
theorem dX12_bringsOf_52 : decode cX12_bringsOf 52 = .ok (.invokevirtual 333, 3) := by decide +kernel
theorem dX12_bringsOf_55 : decode cX12_bringsOf 55 = .ok (.lload_n 3, 1) := by decide +kernel
theorem dX12_bringsOf_56 : decode cX12_bringsOf 56 = .ok (.aload_n 0, 1) := by decide +kernel
theorem dX12_bringsOf_57 : decode cX12_bringsOf 57 = .ok (.getfield 82, 3) := by decide +kernel
theorem dX12_bringsOf_60 : decode cX12_bringsOf 60 = .ok (.aload_n 0, 1) := by decide +kernel
theorem dX12_bringsOf_61 : decode cX12_bringsOf 61 = .ok (.getfield 91, 3) := by decide +kernel
theorem dX12_bringsOf_64 : decode cX12_bringsOf 64 = .ok (.iload 5, 2) := by decide +kernel
theorem dX12_bringsOf_66 : decode cX12_bringsOf 66 = .ok (.iaload, 1) := by decide +kernel
theorem dX12_bringsOf_67 : decode cX12_bringsOf 67 = .ok (.iaload, 1) := by decide +kernel
theorem dX12_bringsOf_68 : decode cX12_bringsOf 68 = .ok (.i2l, 1) := by decide +kernel
theorem dX12_bringsOf_69 : decode cX12_bringsOf 69 = .ok (.aload_n 0, 1) := by decide +kernel
theorem dX12_bringsOf_70 : decode cX12_bringsOf 70 = .ok (.iload 5, 2) := by decide +kernel
theorem dX12_bringsOf_72 : decode cX12_bringsOf 72 = .ok (.aload_n 0, 1) := by decide +kernel
theorem dX12_bringsOf_73 : decode cX12_bringsOf 73 = .ok (.getfield 13, 3) := by decide +kernel
theorem dX12_bringsOf_76 : decode cX12_bringsOf 76 = .ok (.invokevirtual 440, 3) := by decide +kernel
theorem dX12_bringsOf_79 : decode cX12_bringsOf 79 = .ok (.i2l, 1) := by decide +kernel
theorem dX12_bringsOf_80 : decode cX12_bringsOf 80 = .ok (.lmul, 1) := by decide +kernel
theorem dX12_bringsOf_81 : decode cX12_bringsOf 81 = .ok (.ldc2_w 371, 3) := by decide +kernel
theorem dX12_bringsOf_84 : decode cX12_bringsOf 84 = .ok (.ldiv, 1) := by decide +kernel
theorem dX12_bringsOf_85 : decode cX12_bringsOf 85 = .ok (.ladd, 1) := by decide +kernel
theorem dX12_bringsOf_86 : decode cX12_bringsOf 86 = .ok (.lstore_n 3, 1) := by decide +kernel
theorem dX12_bringsOf_87 : decode cX12_bringsOf 87 = .ok (.iinc 5 1, 3) := by decide +kernel
theorem dX12_bringsOf_90 : decode cX12_bringsOf 90 = .ok (.goto (-85), 3) := by decide +kernel
theorem dX12_bringsOf_93 : decode cX12_bringsOf 93 = .ok (.lload_n 3, 1) := by decide +kernel
theorem dX12_bringsOf_94 : decode cX12_bringsOf 94 = .ok (.lreturn, 1) := by decide +kernel
theorem dX12_holds_0 : decode cX12_holds 0 = .ok (.aload_n 0, 1) := by decide +kernel
theorem dX12_holds_1 : decode cX12_holds 1 = .ok (.iload_n 1, 1) := by decide +kernel
theorem dX12_holds_2 : decode cX12_holds 2 = .ok (.invokevirtual 165, 3) := by decide +kernel
theorem dX12_holds_5 : decode cX12_holds 5 = .ok (.ifCond .eq 15, 3) := by decide +kernel
theorem dX12_holds_8 : decode cX12_holds 8 = .ok (.iload_n 2, 1) := by decide +kernel
theorem dX12_holds_9 : decode cX12_holds 9 = .ok (.i2l, 1) := by decide +kernel
theorem dX12_holds_10 : decode cX12_holds 10 = .ok (.lconst 0, 1) := by decide +kernel
theorem dX12_holds_11 : decode cX12_holds 11 = .ok (.ldc2_w 169, 3) := by decide +kernel
theorem dX12_holds_14 : decode cX12_holds 14 = .ok (.invokestatic 156, 3) := by decide +kernel
theorem dX12_holds_17 : decode cX12_holds 17 = .ok (.ifCond .ne 5, 3) := by decide +kernel
theorem dX12_holds_20 : decode cX12_holds 20 = .ok (.iconst (-1), 1) := by decide +kernel
theorem dX12_holds_21 : decode cX12_holds 21 = .ok (.ireturn, 1) := by decide +kernel
theorem dX12_holds_22 : decode cX12_holds 22 = .ok (.iconst 0, 1) := by decide +kernel
theorem dX12_holds_23 : decode cX12_holds 23 = .ok (.istore_n 3, 1) := by decide +kernel
theorem dX12_holds_24 : decode cX12_holds 24 = .ok (.iconst 0, 1) := by decide +kernel
theorem dX12_holds_25 : decode cX12_holds 25 = .ok (.istore 4, 2) := by decide +kernel
theorem dX12_holds_27 : decode cX12_holds 27 = .ok (.iconst 0, 1) := by decide +kernel
theorem dX12_holds_28 : decode cX12_holds 28 = .ok (.istore 5, 2) := by decide +kernel
theorem dX12_holds_30 : decode cX12_holds 30 = .ok (.iload 5, 2) := by decide +kernel
theorem dX12_holds_32 : decode cX12_holds 32 = .ok (.aload_n 0, 1) := by decide +kernel
theorem dX12_holds_33 : decode cX12_holds 33 = .ok (.getfield 368, 3) := by decide +kernel
theorem dX12_holds_36 : decode cX12_holds 36 = .ok (.if_icmp .ge 53, 3) := by decide +kernel
theorem dX12_holds_39 : decode cX12_holds 39 = .ok (.iload_n 3, 1) := by decide +kernel
theorem dX12_holds_40 : decode cX12_holds 40 = .ok (.aload_n 0, 1) := by decide +kernel
theorem dX12_holds_41 : decode cX12_holds 41 = .ok (.iload 5, 2) := by decide +kernel
theorem dX12_holds_43 : decode cX12_holds 43 = .ok (.iload_n 1, 1) := by decide +kernel
theorem dX12_holds_44 : decode cX12_holds 44 = .ok (.invokevirtual 443, 3) := by decide +kernel
theorem dX12_holds_47 : decode cX12_holds 47 = .ok (.ifCond .eq 7, 3) := by decide +kernel
theorem dX12_holds_50 : decode cX12_holds 50 = .ok (.iconst 1, 1) := by decide +kernel
theorem dX12_holds_51 : decode cX12_holds 51 = .ok (.goto 4, 3) := by decide +kernel
theorem dX12_holds_54 : decode cX12_holds 54 = .ok (.iconst 0, 1) := by decide +kernel
theorem dX12_holds_55 : decode cX12_holds 55 = .ok (.iadd, 1) := by decide +kernel
theorem dX12_holds_56 : decode cX12_holds 56 = .ok (.istore_n 3, 1) := by decide +kernel
theorem dX12_holds_57 : decode cX12_holds 57 = .ok (.iload 4, 2) := by decide +kernel
theorem dX12_holds_59 : decode cX12_holds 59 = .ok (.aload_n 0, 1) := by decide +kernel
theorem dX12_holds_60 : decode cX12_holds 60 = .ok (.iload 5, 2) := by decide +kernel
theorem dX12_holds_62 : decode cX12_holds 62 = .ok (.iload_n 1, 1) := by decide +kernel
theorem dX12_holds_63 : decode cX12_holds 63 = .ok (.invokevirtual 443, 3) := by decide +kernel
theorem dX12_holds_66 : decode cX12_holds 66 = .ok (.ifCond .eq 13, 3) := by decide +kernel
theorem dX12_holds_69 : decode cX12_holds 69 = .ok (.aload_n 0, 1) := by decide +kernel
theorem dX12_holds_70 : decode cX12_holds 70 = .ok (.getfield 97, 3) := by decide +kernel
theorem dX12_holds_73 : decode cX12_holds 73 = .ok (.iload 5, 2) := by decide +kernel
theorem dX12_holds_75 : decode cX12_holds 75 = .ok (.iaload, 1) := by decide +kernel
theorem dX12_holds_76 : decode cX12_holds 76 = .ok (.goto 4, 3) := by decide +kernel
theorem dX12_holds_79 : decode cX12_holds 79 = .ok (.iconst 0, 1) := by decide +kernel
theorem dX12_holds_80 : decode cX12_holds 80 = .ok (.iadd, 1) := by decide +kernel
theorem dX12_holds_81 : decode cX12_holds 81 = .ok (.istore 4, 2) := by decide +kernel
theorem dX12_holds_83 : decode cX12_holds 83 = .ok (.iinc 5 1, 3) := by decide +kernel
theorem dX12_holds_86 : decode cX12_holds 86 = .ok (.goto (-56), 3) := by decide +kernel
theorem dX12_holds_89 : decode cX12_holds 89 = .ok (.iload_n 2, 1) := by decide +kernel
theorem dX12_holds_90 : decode cX12_holds 90 = .ok (.iconst 2, 1) := by decide +kernel
theorem dX12_holds_91 : decode cX12_holds 91 = .ok (.if_icmp .ge 14, 3) := by decide +kernel
theorem dX12_holds_94 : decode cX12_holds 94 = .ok (.iload_n 2, 1) := by decide +kernel
theorem dX12_holds_95 : decode cX12_holds 95 = .ok (.ifCond .ne 7, 3) := by decide +kernel
theorem dX12_holds_98 : decode cX12_holds 98 = .ok (.iload_n 3, 1) := by decide +kernel
theorem dX12_holds_99 : decode cX12_holds 99 = .ok (.goto 5, 3) := by decide +kernel
theorem dX12_holds_102 : decode cX12_holds 102 = .ok (.iload 4, 2) := by decide +kernel
theorem dX12_holds_104 : decode cX12_holds 104 = .ok (.ireturn, 1) := by decide +kernel
theorem dX12_holds_105 : decode cX12_holds 105 = .ok (.aload_n 0, 1) := by decide +kernel
theorem dX12_holds_106 : decode cX12_holds 106 = .ok (.iload_n 1, 1) := by decide +kernel
theorem dX12_holds_107 : decode cX12_holds 107 = .ok (.invokevirtual 449, 3) := by decide +kernel
theorem dX12_holds_110 : decode cX12_holds 110 = .ok (.istore 5, 2) := by decide +kernel
theorem dX12_holds_112 : decode cX12_holds 112 = .ok (.iload 5, 2) := by decide +kernel
theorem dX12_holds_114 : decode cX12_holds 114 = .ok (.invokestatic 317, 3) := by decide +kernel
theorem dX12_holds_117 : decode cX12_holds 117 = .ok (.bipush 8, 2) := by decide +kernel
theorem dX12_holds_119 : decode cX12_holds 119 = .ok (.if_icmp .le 5, 3) := by decide +kernel
theorem dX12_holds_122 : decode cX12_holds 122 = .ok (.iconst (-1), 1) := by decide +kernel
theorem dX12_holds_123 : decode cX12_holds 123 = .ok (.ireturn, 1) := by decide +kernel
theorem dX12_holds_124 : decode cX12_holds 124 = .ok (.ldc2_w 353, 3) := by decide +kernel
theorem dX12_holds_127 : decode cX12_holds 127 = .ok (.lstore 6, 2) := by decide +kernel
theorem dX12_holds_129 : decode cX12_holds 129 = .ok (.iconst 0, 1) := by decide +kernel
theorem dX12_holds_130 : decode cX12_holds 130 = .ok (.istore 8, 2) := by decide +kernel
theorem dX12_holds_132 : decode cX12_holds 132 = .ok (.iconst 0, 1) := by decide +kernel
theorem dX12_holds_133 : decode cX12_holds 133 = .ok (.istore 9, 2) := by decide +kernel
theorem dX12_holds_135 : decode cX12_holds 135 = .ok (.iconst 1, 1) := by decide +kernel
theorem dX12_holds_136 : decode cX12_holds 136 = .ok (.istore 10, 2) := by decide +kernel
theorem dX12_holds_138 : decode cX12_holds 138 = .ok (.iload 10, 2) := by decide +kernel
theorem dX12_holds_140 : decode cX12_holds 140 = .ok (.ifCond .eq 103, 3) := by decide +kernel
theorem dX12_holds_143 : decode cX12_holds 143 = .ok (.aload_n 0, 1) := by decide +kernel
theorem dX12_holds_144 : decode cX12_holds 144 = .ok (.iload_n 1, 1) := by decide +kernel
theorem dX12_holds_145 : decode cX12_holds 145 = .ok (.iload 9, 2) := by decide +kernel
theorem dX12_holds_147 : decode cX12_holds 147 = .ok (.invokevirtual 452, 3) := by decide +kernel
theorem dX12_holds_150 : decode cX12_holds 150 = .ok (.lstore 11, 2) := by decide +kernel
theorem dX12_holds_152 : decode cX12_holds 152 = .ok (.lload 6, 2) := by decide +kernel
theorem dX12_holds_154 : decode cX12_holds 154 = .ok (.ldc2_w 353, 3) := by decide +kernel
theorem dX12_holds_157 : decode cX12_holds 157 = .ok (.lcmp, 1) := by decide +kernel
theorem dX12_holds_158 : decode cX12_holds 158 = .ok (.ifCond .eq 11, 3) := by decide +kernel
theorem dX12_holds_161 : decode cX12_holds 161 = .ok (.lload 11, 2) := by decide +kernel
theorem dX12_holds_163 : decode cX12_holds 163 = .ok (.lload 6, 2) := by decide +kernel
theorem dX12_holds_165 : decode cX12_holds 165 = .ok (.lcmp, 1) := by decide +kernel
theorem dX12_holds_166 : decode cX12_holds 166 = .ok (.ifCond .ge 7, 3) := by decide +kernel
theorem dX12_holds_169 : decode cX12_holds 169 = .ok (.iconst 1, 1) := by decide +kernel
theorem dX12_holds_170 : decode cX12_holds 170 = .ok (.goto 20, 3) := by decide +kernel
theorem dX12_holds_173 : decode cX12_holds 173 = .ok (.lload 11, 2) := by decide +kernel
theorem dX12_holds_175 : decode cX12_holds 175 = .ok (.lload 6, 2) := by decide +kernel
theorem dX12_holds_177 : decode cX12_holds 177 = .ok (.lcmp, 1) := by decide +kernel
theorem dX12_holds_178 : decode cX12_holds 178 = .ok (.ifCond .ne 10, 3) := by decide +kernel
theorem dX12_holds_181 : decode cX12_holds 181 = .ok (.iload 8, 2) := by decide +kernel
theorem dX12_holds_183 : decode cX12_holds 183 = .ok (.iconst 1, 1) := by decide +kernel
theorem dX12_holds_184 : decode cX12_holds 184 = .ok (.iadd, 1) := by decide +kernel
theorem dX12_holds_185 : decode cX12_holds 185 = .ok (.goto 5, 3) := by decide +kernel
theorem dX12_holds_188 : decode cX12_holds 188 = .ok (.iload 8, 2) := by decide +kernel
theorem dX12_holds_190 : decode cX12_holds 190 = .ok (.istore 8, 2) := by decide +kernel
theorem dX12_holds_192 : decode cX12_holds 192 = .ok (.lload 6, 2) := by decide +kernel
theorem dX12_holds_194 : decode cX12_holds 194 = .ok (.ldc2_w 353, 3) := by decide +kernel
theorem dX12_holds_197 : decode cX12_holds 197 = .ok (.lcmp, 1) := by decide +kernel
theorem dX12_holds_198 : decode cX12_holds 198 = .ok (.ifCond .eq 11, 3) := by decide +kernel
theorem dX12_holds_201 : decode cX12_holds 201 = .ok (.lload 11, 2) := by decide +kernel
theorem dX12_holds_203 : decode cX12_holds 203 = .ok (.lload 6, 2) := by decide +kernel
theorem dX12_holds_205 : decode cX12_holds 205 = .ok (.lcmp, 1) := by decide +kernel
theorem dX12_holds_206 : decode cX12_holds 206 = .ok (.ifCond .ge 8, 3) := by decide +kernel
theorem dX12_holds_209 : decode cX12_holds 209 = .ok (.lload 11, 2) := by decide +kernel
theorem dX12_holds_211 : decode cX12_holds 211 = .ok (.goto 5, 3) := by decide +kernel
theorem dX12_holds_214 : decode cX12_holds 214 = .ok (.lload 6, 2) := by decide +kernel
theorem dX12_holds_216 : decode cX12_holds 216 = .ok (.lstore 6, 2) := by decide +kernel
theorem dX12_holds_218 : decode cX12_holds 218 = .ok (.iload 9, 2) := by decide +kernel
theorem dX12_holds_220 : decode cX12_holds 220 = .ok (.iload 5, 2) := by decide +kernel
theorem dX12_holds_222 : decode cX12_holds 222 = .ok (.isub, 1) := by decide +kernel
theorem dX12_holds_223 : decode cX12_holds 223 = .ok (.iload 5, 2) := by decide +kernel
theorem dX12_holds_225 : decode cX12_holds 225 = .ok (.iand, 1) := by decide +kernel
theorem dX12_holds_226 : decode cX12_holds 226 = .ok (.istore 9, 2) := by decide +kernel
theorem dX12_holds_228 : decode cX12_holds 228 = .ok (.iload 9, 2) := by decide +kernel
theorem dX12_holds_230 : decode cX12_holds 230 = .ok (.ifCond .eq 7, 3) := by decide +kernel
theorem dX12_holds_233 : decode cX12_holds 233 = .ok (.iconst 1, 1) := by decide +kernel
theorem dX12_holds_234 : decode cX12_holds 234 = .ok (.goto 4, 3) := by decide +kernel
theorem dX12_holds_237 : decode cX12_holds 237 = .ok (.iconst 0, 1) := by decide +kernel
theorem dX12_holds_238 : decode cX12_holds 238 = .ok (.istore 10, 2) := by decide +kernel
theorem dX12_holds_240 : decode cX12_holds 240 = .ok (.goto (-102), 3) := by decide +kernel
theorem dX12_holds_243 : decode cX12_holds 243 = .ok (.iload_n 2, 1) := by decide +kernel
theorem dX12_holds_244 : decode cX12_holds 244 = .ok (.iconst 2, 1) := by decide +kernel
theorem dX12_holds_245 : decode cX12_holds 245 = .ok (.if_icmp .ne 9, 3) := by decide +kernel
theorem dX12_holds_248 : decode cX12_holds 248 = .ok (.lload 6, 2) := by decide +kernel
theorem dX12_holds_250 : decode cX12_holds 250 = .ok (.l2i, 1) := by decide +kernel
theorem dX12_holds_251 : decode cX12_holds 251 = .ok (.goto 5, 3) := by decide +kernel
theorem dX12_holds_254 : decode cX12_holds 254 = .ok (.iload 8, 2) := by decide +kernel
theorem dX12_holds_256 : decode cX12_holds 256 = .ok (.ireturn, 1) := by decide +kernel
theorem dX12_papers_0 : decode cX12_papers 0 = .ok (.aload_n 0, 1) := by decide +kernel
theorem dX12_papers_1 : decode cX12_papers 1 = .ok (.getfield 456, 3) := by decide +kernel
theorem dX12_papers_4 : decode cX12_papers 4 = .ok (.bipush 100, 2) := by decide +kernel
theorem dX12_papers_6 : decode cX12_papers 6 = .ok (.if_icmp .eq 25, 3) := by decide +kernel
theorem dX12_papers_9 : decode cX12_papers 9 = .ok (.aload_n 0, 1) := by decide +kernel
theorem dX12_papers_10 : decode cX12_papers 10 = .ok (.iload_n 1, 1) := by decide +kernel
theorem dX12_papers_11 : decode cX12_papers 11 = .ok (.invokevirtual 165, 3) := by decide +kernel
theorem dX12_papers_14 : decode cX12_papers 14 = .ok (.ifCond .eq 17, 3) := by decide +kernel
theorem dX12_papers_17 : decode cX12_papers 17 = .ok (.iload_n 2, 1) := by decide +kernel
theorem dX12_papers_18 : decode cX12_papers 18 = .ok (.i2l, 1) := by decide +kernel
theorem dX12_papers_19 : decode cX12_papers 19 = .ok (.lconst 0, 1) := by decide +kernel
theorem dX12_papers_20 : decode cX12_papers 20 = .ok (.aload_n 0, 1) := by decide +kernel
theorem dX12_papers_21 : decode cX12_papers 21 = .ok (.getfield 13, 3) := by decide +kernel
theorem dX12_papers_24 : decode cX12_papers 24 = .ok (.i2l, 1) := by decide +kernel
theorem dX12_papers_25 : decode cX12_papers 25 = .ok (.invokestatic 156, 3) := by decide +kernel
theorem dX12_papers_28 : decode cX12_papers 28 = .ok (.ifCond .ne 5, 3) := by decide +kernel
theorem dX12_papers_31 : decode cX12_papers 31 = .ok (.iconst 0, 1) := by decide +kernel
theorem dX12_papers_32 : decode cX12_papers 32 = .ok (.ireturn, 1) := by decide +kernel
theorem dX12_papers_33 : decode cX12_papers 33 = .ok (.aload_n 0, 1) := by decide +kernel
theorem dX12_papers_34 : decode cX12_papers 34 = .ok (.getfield 146, 3) := by decide +kernel
theorem dX12_papers_37 : decode cX12_papers 37 = .ok (.aload_n 0, 1) := by decide +kernel
theorem dX12_papers_38 : decode cX12_papers 38 = .ok (.getfield 456, 3) := by decide +kernel
theorem dX12_papers_41 : decode cX12_papers 41 = .ok (.iload_n 1, 1) := by decide +kernel
theorem dX12_papers_42 : decode cX12_papers 42 = .ok (.iastore, 1) := by decide +kernel
theorem dX12_papers_43 : decode cX12_papers 43 = .ok (.aload_n 0, 1) := by decide +kernel
theorem dX12_papers_44 : decode cX12_papers 44 = .ok (.getfield 149, 3) := by decide +kernel
theorem dX12_papers_47 : decode cX12_papers 47 = .ok (.aload_n 0, 1) := by decide +kernel
theorem dX12_papers_48 : decode cX12_papers 48 = .ok (.getfield 456, 3) := by decide +kernel
theorem dX12_papers_51 : decode cX12_papers 51 = .ok (.iload_n 2, 1) := by decide +kernel
theorem dX12_papers_52 : decode cX12_papers 52 = .ok (.iastore, 1) := by decide +kernel
theorem dX12_papers_53 : decode cX12_papers 53 = .ok (.aload_n 0, 1) := by decide +kernel
theorem dX12_papers_54 : decode cX12_papers 54 = .ok (.dup, 1) := by decide +kernel
theorem dX12_papers_55 : decode cX12_papers 55 = .ok (.getfield 456, 3) := by decide +kernel
theorem dX12_papers_58 : decode cX12_papers 58 = .ok (.iconst 1, 1) := by decide +kernel
theorem dX12_papers_59 : decode cX12_papers 59 = .ok (.iadd, 1) := by decide +kernel
theorem dX12_papers_60 : decode cX12_papers 60 = .ok (.putfield 456, 3) := by decide +kernel
theorem dX12_papers_63 : decode cX12_papers 63 = .ok (.iconst 1, 1) := by decide +kernel
theorem dX12_papers_64 : decode cX12_papers 64 = .ok (.ireturn, 1) := by decide +kernel
theorem dX12_falseOnes_0 : decode cX12_falseOnes 0 = .ok (.iconst 0, 1) := by decide +kernel
theorem dX12_falseOnes_1 : decode cX12_falseOnes 1 = .ok (.istore_n 1, 1) := by decide +kernel
theorem dX12_falseOnes_2 : decode cX12_falseOnes 2 = .ok (.iconst 0, 1) := by decide +kernel
theorem dX12_falseOnes_3 : decode cX12_falseOnes 3 = .ok (.istore_n 2, 1) := by decide +kernel
theorem dX12_falseOnes_4 : decode cX12_falseOnes 4 = .ok (.iload_n 2, 1) := by decide +kernel
theorem dX12_falseOnes_5 : decode cX12_falseOnes 5 = .ok (.aload_n 0, 1) := by decide +kernel
theorem dX12_falseOnes_6 : decode cX12_falseOnes 6 = .ok (.getfield 456, 3) := by decide +kernel
theorem dX12_falseOnes_9 : decode cX12_falseOnes 9 = .ok (.if_icmp .ge 62, 3) := by decide +kernel
theorem dX12_falseOnes_12 : decode cX12_falseOnes 12 = .ok (.aload_n 0, 1) := by decide +kernel
theorem dX12_falseOnes_13 : decode cX12_falseOnes 13 = .ok (.getfield 146, 3) := by decide +kernel
theorem dX12_falseOnes_16 : decode cX12_falseOnes 16 = .ok (.iload_n 2, 1) := by decide +kernel
theorem dX12_falseOnes_17 : decode cX12_falseOnes 17 = .ok (.iaload, 1) := by decide +kernel
theorem dX12_falseOnes_18 : decode cX12_falseOnes 18 = .ok (.istore_n 3, 1) := by decide +kernel
theorem dX12_falseOnes_19 : decode cX12_falseOnes 19 = .ok (.aload_n 0, 1) := by decide +kernel
theorem dX12_falseOnes_20 : decode cX12_falseOnes 20 = .ok (.getfield 149, 3) := by decide +kernel
theorem dX12_falseOnes_23 : decode cX12_falseOnes 23 = .ok (.iload_n 2, 1) := by decide +kernel
theorem dX12_falseOnes_24 : decode cX12_falseOnes 24 = .ok (.iaload, 1) := by decide +kernel
theorem dX12_falseOnes_25 : decode cX12_falseOnes 25 = .ok (.aload_n 0, 1) := by decide +kernel
theorem dX12_falseOnes_26 : decode cX12_falseOnes 26 = .ok (.getfield 20, 3) := by decide +kernel
theorem dX12_falseOnes_29 : decode cX12_falseOnes 29 = .ok (.iload_n 3, 1) := by decide +kernel
theorem dX12_falseOnes_30 : decode cX12_falseOnes 30 = .ok (.iaload, 1) := by decide +kernel
theorem dX12_falseOnes_31 : decode cX12_falseOnes 31 = .ok (.if_icmp .lt 28, 3) := by decide +kernel
theorem dX12_falseOnes_34 : decode cX12_falseOnes 34 = .ok (.aload_n 0, 1) := by decide +kernel
theorem dX12_falseOnes_35 : decode cX12_falseOnes 35 = .ok (.getfield 30, 3) := by decide +kernel
theorem dX12_falseOnes_38 : decode cX12_falseOnes 38 = .ok (.iload_n 3, 1) := by decide +kernel
theorem dX12_falseOnes_39 : decode cX12_falseOnes 39 = .ok (.iaload, 1) := by decide +kernel
theorem dX12_falseOnes_40 : decode cX12_falseOnes 40 = .ok (.iconst (-1), 1) := by decide +kernel
theorem dX12_falseOnes_41 : decode cX12_falseOnes 41 = .ok (.if_icmp .eq 24, 3) := by decide +kernel
theorem dX12_falseOnes_44 : decode cX12_falseOnes 44 = .ok (.aload_n 0, 1) := by decide +kernel
theorem dX12_falseOnes_45 : decode cX12_falseOnes 45 = .ok (.getfield 149, 3) := by decide +kernel
theorem dX12_falseOnes_48 : decode cX12_falseOnes 48 = .ok (.iload_n 2, 1) := by decide +kernel
theorem dX12_falseOnes_49 : decode cX12_falseOnes 49 = .ok (.iaload, 1) := by decide +kernel
theorem dX12_falseOnes_50 : decode cX12_falseOnes 50 = .ok (.aload_n 0, 1) := by decide +kernel
theorem dX12_falseOnes_51 : decode cX12_falseOnes 51 = .ok (.getfield 30, 3) := by decide +kernel
theorem dX12_falseOnes_54 : decode cX12_falseOnes 54 = .ok (.iload_n 3, 1) := by decide +kernel
theorem dX12_falseOnes_55 : decode cX12_falseOnes 55 = .ok (.iaload, 1) := by decide +kernel
theorem dX12_falseOnes_56 : decode cX12_falseOnes 56 = .ok (.if_icmp .le 9, 3) := by decide +kernel
theorem dX12_falseOnes_59 : decode cX12_falseOnes 59 = .ok (.iload_n 1, 1) := by decide +kernel
theorem dX12_falseOnes_60 : decode cX12_falseOnes 60 = .ok (.iconst 1, 1) := by decide +kernel
theorem dX12_falseOnes_61 : decode cX12_falseOnes 61 = .ok (.iload_n 3, 1) := by decide +kernel
theorem dX12_falseOnes_62 : decode cX12_falseOnes 62 = .ok (.ishl, 1) := by decide +kernel
theorem dX12_falseOnes_63 : decode cX12_falseOnes 63 = .ok (.ior, 1) := by decide +kernel
theorem dX12_falseOnes_64 : decode cX12_falseOnes 64 = .ok (.istore_n 1, 1) := by decide +kernel
theorem dX12_falseOnes_65 : decode cX12_falseOnes 65 = .ok (.iinc 2 1, 3) := by decide +kernel
theorem dX12_falseOnes_68 : decode cX12_falseOnes 68 = .ok (.goto (-64), 3) := by decide +kernel
theorem dX12_falseOnes_71 : decode cX12_falseOnes 71 = .ok (.iload_n 1, 1) := by decide +kernel
theorem dX12_falseOnes_72 : decode cX12_falseOnes 72 = .ok (.ireturn, 1) := by decide +kernel
theorem dX12_look_0 : decode cX12_look 0 = .ok (.aload_n 0, 1) := by decide +kernel
theorem dX12_look_1 : decode cX12_look 1 = .ok (.iload_n 1, 1) := by decide +kernel
theorem dX12_look_2 : decode cX12_look 2 = .ok (.invokevirtual 376, 3) := by decide +kernel
theorem dX12_look_5 : decode cX12_look 5 = .ok (.ifCond .ne 5, 3) := by decide +kernel
theorem dX12_look_8 : decode cX12_look 8 = .ok (.iconst (-1), 1) := by decide +kernel
theorem dX12_look_9 : decode cX12_look 9 = .ok (.ireturn, 1) := by decide +kernel
theorem dX12_look_10 : decode cX12_look 10 = .ok (.iload_n 2, 1) := by decide +kernel
theorem dX12_look_11 : decode cX12_look 11 = .ok (.tableswitch 112 0 8 #[49, 56, 63, 70, 77, 84, 91, 98, 105], 49) := by decide +kernel
theorem dX12_look_60 : decode cX12_look 60 = .ok (.aload_n 0, 1) := by decide +kernel
theorem dX12_look_61 : decode cX12_look 61 = .ok (.getfield 91, 3) := by decide +kernel
theorem dX12_look_64 : decode cX12_look 64 = .ok (.iload_n 1, 1) := by decide +kernel
theorem dX12_look_65 : decode cX12_look 65 = .ok (.iaload, 1) := by decide +kernel
theorem dX12_look_66 : decode cX12_look 66 = .ok (.ireturn, 1) := by decide +kernel
theorem dX12_look_67 : decode cX12_look 67 = .ok (.aload_n 0, 1) := by decide +kernel
theorem dX12_look_68 : decode cX12_look 68 = .ok (.getfield 94, 3) := by decide +kernel
theorem dX12_look_71 : decode cX12_look 71 = .ok (.iload_n 1, 1) := by decide +kernel
theorem dX12_look_72 : decode cX12_look 72 = .ok (.iaload, 1) := by decide +kernel
theorem dX12_look_73 : decode cX12_look 73 = .ok (.ireturn, 1) := by decide +kernel
theorem dX12_look_74 : decode cX12_look 74 = .ok (.aload_n 0, 1) := by decide +kernel
theorem dX12_look_75 : decode cX12_look 75 = .ok (.getfield 97, 3) := by decide +kernel
theorem dX12_look_78 : decode cX12_look 78 = .ok (.iload_n 1, 1) := by decide +kernel
theorem dX12_look_79 : decode cX12_look 79 = .ok (.iaload, 1) := by decide +kernel
theorem dX12_look_80 : decode cX12_look 80 = .ok (.ireturn, 1) := by decide +kernel
theorem dX12_look_81 : decode cX12_look 81 = .ok (.aload_n 0, 1) := by decide +kernel
theorem dX12_look_82 : decode cX12_look 82 = .ok (.getfield 100, 3) := by decide +kernel
theorem dX12_look_85 : decode cX12_look 85 = .ok (.iload_n 1, 1) := by decide +kernel
theorem dX12_look_86 : decode cX12_look 86 = .ok (.iaload, 1) := by decide +kernel
theorem dX12_look_87 : decode cX12_look 87 = .ok (.ireturn, 1) := by decide +kernel
theorem dX12_look_88 : decode cX12_look 88 = .ok (.aload_n 0, 1) := by decide +kernel
theorem dX12_look_89 : decode cX12_look 89 = .ok (.getfield 103, 3) := by decide +kernel
theorem dX12_look_92 : decode cX12_look 92 = .ok (.iload_n 1, 1) := by decide +kernel
theorem dX12_look_93 : decode cX12_look 93 = .ok (.iaload, 1) := by decide +kernel
theorem dX12_look_94 : decode cX12_look 94 = .ok (.ireturn, 1) := by decide +kernel
theorem dX12_look_95 : decode cX12_look 95 = .ok (.aload_n 0, 1) := by decide +kernel
theorem dX12_look_96 : decode cX12_look 96 = .ok (.getfield 106, 3) := by decide +kernel
theorem dX12_look_99 : decode cX12_look 99 = .ok (.iload_n 1, 1) := by decide +kernel
theorem dX12_look_100 : decode cX12_look 100 = .ok (.iaload, 1) := by decide +kernel
theorem dX12_look_101 : decode cX12_look 101 = .ok (.ireturn, 1) := by decide +kernel
theorem dX12_look_102 : decode cX12_look 102 = .ok (.aload_n 0, 1) := by decide +kernel
theorem dX12_look_103 : decode cX12_look 103 = .ok (.getfield 112, 3) := by decide +kernel
theorem dX12_look_106 : decode cX12_look 106 = .ok (.iload_n 1, 1) := by decide +kernel
theorem dX12_look_107 : decode cX12_look 107 = .ok (.iaload, 1) := by decide +kernel
theorem dX12_look_108 : decode cX12_look 108 = .ok (.ireturn, 1) := by decide +kernel
theorem dX12_look_109 : decode cX12_look 109 = .ok (.aload_n 0, 1) := by decide +kernel
theorem dX12_look_110 : decode cX12_look 110 = .ok (.getfield 115, 3) := by decide +kernel
theorem dX12_look_113 : decode cX12_look 113 = .ok (.iload_n 1, 1) := by decide +kernel
theorem dX12_look_114 : decode cX12_look 114 = .ok (.iaload, 1) := by decide +kernel
theorem dX12_look_115 : decode cX12_look 115 = .ok (.ireturn, 1) := by decide +kernel
theorem dX12_look_116 : decode cX12_look 116 = .ok (.aload_n 0, 1) := by decide +kernel
theorem dX12_look_117 : decode cX12_look 117 = .ok (.getfield 118, 3) := by decide +kernel
theorem dX12_look_120 : decode cX12_look 120 = .ok (.iload_n 1, 1) := by decide +kernel
theorem dX12_look_121 : decode cX12_look 121 = .ok (.iaload, 1) := by decide +kernel
theorem dX12_look_122 : decode cX12_look 122 = .ok (.ireturn, 1) := by decide +kernel
theorem dX12_look_123 : decode cX12_look 123 = .ok (.iconst (-1), 1) := by decide +kernel
theorem dX12_look_124 : decode cX12_look 124 = .ok (.ireturn, 1) := by decide +kernel
theorem dX12_count_0 : decode cX12_count 0 = .ok (.iload_n 1, 1) := by decide +kernel
theorem dX12_count_1 : decode cX12_count 1 = .ok (.i2l, 1) := by decide +kernel
theorem dX12_count_2 : decode cX12_count 2 = .ok (.ldc2_w 181, 3) := by decide +kernel
theorem dX12_count_5 : decode cX12_count 5 = .ok (.bipush 19, 2) := by decide +kernel
theorem dX12_count_7 : decode cX12_count 7 = .ok (.aload_n 0, 1) := by decide +kernel
theorem dX12_count_8 : decode cX12_count 8 = .ok (.getfield 225, 3) := by decide +kernel
theorem dX12_count_11 : decode cX12_count 11 = .ok (.iadd, 1) := by decide +kernel
theorem dX12_count_12 : decode cX12_count 12 = .ok (.i2l, 1) := by decide +kernel
theorem dX12_count_13 : decode cX12_count 13 = .ok (.invokestatic 156, 3) := by decide +kernel
theorem dX12_count_16 : decode cX12_count 16 = .ok (.ifCond .eq 13, 3) := by decide +kernel
theorem dX12_count_19 : decode cX12_count 19 = .ok (.aload_n 0, 1) := by decide +kernel
theorem dX12_count_20 : decode cX12_count 20 = .ok (.getfield 48, 3) := by decide +kernel
theorem dX12_count_23 : decode cX12_count 23 = .ok (.iload_n 1, 1) := by decide +kernel
theorem dX12_count_24 : decode cX12_count 24 = .ok (.bipush 20, 2) := by decide +kernel
theorem dX12_count_26 : decode cX12_count 26 = .ok (.isub, 1) := by decide +kernel
theorem dX12_count_27 : decode cX12_count 27 = .ok (.iaload, 1) := by decide +kernel
theorem dX12_count_28 : decode cX12_count 28 = .ok (.ireturn, 1) := by decide +kernel
theorem dX12_count_29 : decode cX12_count 29 = .ok (.iload_n 1, 1) := by decide +kernel
theorem dX12_count_30 : decode cX12_count 30 = .ok (.i2l, 1) := by decide +kernel
theorem dX12_count_31 : decode cX12_count 31 = .ok (.ldc2_w 459, 3) := by decide +kernel
theorem dX12_count_34 : decode cX12_count 34 = .ok (.bipush 39, 2) := by decide +kernel
theorem dX12_count_36 : decode cX12_count 36 = .ok (.aload_n 0, 1) := by decide +kernel
theorem dX12_count_37 : decode cX12_count 37 = .ok (.getfield 160, 3) := by decide +kernel
theorem dX12_count_40 : decode cX12_count 40 = .ok (.iadd, 1) := by decide +kernel
theorem dX12_count_41 : decode cX12_count 41 = .ok (.i2l, 1) := by decide +kernel
theorem dX12_count_42 : decode cX12_count 42 = .ok (.invokestatic 156, 3) := by decide +kernel
theorem dX12_count_45 : decode cX12_count 45 = .ok (.ifCond .eq 13, 3) := by decide +kernel
theorem dX12_count_48 : decode cX12_count 48 = .ok (.aload_n 0, 1) := by decide +kernel
theorem dX12_count_49 : decode cX12_count 49 = .ok (.getfield 30, 3) := by decide +kernel
theorem dX12_count_52 : decode cX12_count 52 = .ok (.iload_n 1, 1) := by decide +kernel
theorem dX12_count_53 : decode cX12_count 53 = .ok (.bipush 40, 2) := by decide +kernel
theorem dX12_count_55 : decode cX12_count 55 = .ok (.isub, 1) := by decide +kernel
theorem dX12_count_56 : decode cX12_count 56 = .ok (.iaload, 1) := by decide +kernel
theorem dX12_count_57 : decode cX12_count 57 = .ok (.ireturn, 1) := by decide +kernel
theorem dX12_count_58 : decode cX12_count 58 = .ok (.iload_n 1, 1) := by decide +kernel
theorem dX12_count_59 : decode cX12_count 59 = .ok (.tableswitch 111 0 9 #[53, 58, 63, 68, 73, 78, 83, 88, 101, 106], 53) := by decide +kernel
theorem dX12_count_112 : decode cX12_count 112 = .ok (.aload_n 0, 1) := by decide +kernel
theorem dX12_count_113 : decode cX12_count 113 = .ok (.getfield 13, 3) := by decide +kernel
theorem dX12_count_116 : decode cX12_count 116 = .ok (.ireturn, 1) := by decide +kernel
theorem dX12_count_117 : decode cX12_count 117 = .ok (.aload_n 0, 1) := by decide +kernel
theorem dX12_count_118 : decode cX12_count 118 = .ok (.getfield 160, 3) := by decide +kernel
theorem dX12_count_121 : decode cX12_count 121 = .ok (.ireturn, 1) := by decide +kernel
theorem dX12_count_122 : decode cX12_count 122 = .ok (.aload_n 0, 1) := by decide +kernel
theorem dX12_count_123 : decode cX12_count 123 = .ok (.getfield 225, 3) := by decide +kernel
theorem dX12_count_126 : decode cX12_count 126 = .ok (.ireturn, 1) := by decide +kernel
theorem dX12_count_127 : decode cX12_count 127 = .ok (.aload_n 0, 1) := by decide +kernel
theorem dX12_count_128 : decode cX12_count 128 = .ok (.getfield 368, 3) := by decide +kernel
theorem dX12_count_131 : decode cX12_count 131 = .ok (.ireturn, 1) := by decide +kernel
theorem dX12_count_132 : decode cX12_count 132 = .ok (.aload_n 0, 1) := by decide +kernel
theorem dX12_count_133 : decode cX12_count 133 = .ok (.getfield 381, 3) := by decide +kernel
theorem dX12_count_136 : decode cX12_count 136 = .ok (.ireturn, 1) := by decide +kernel
theorem dX12_count_137 : decode cX12_count 137 = .ok (.aload_n 0, 1) := by decide +kernel
theorem dX12_count_138 : decode cX12_count 138 = .ok (.getfield 456, 3) := by decide +kernel
theorem dX12_count_141 : decode cX12_count 141 = .ok (.ireturn, 1) := by decide +kernel
theorem dX12_count_142 : decode cX12_count 142 = .ok (.aload_n 0, 1) := by decide +kernel
theorem dX12_count_143 : decode cX12_count 143 = .ok (.getfield 193, 3) := by decide +kernel
theorem dX12_count_146 : decode cX12_count 146 = .ok (.ireturn, 1) := by decide +kernel
theorem dX12_count_147 : decode cX12_count 147 = .ok (.aload_n 0, 1) := by decide +kernel
theorem dX12_count_148 : decode cX12_count 148 = .ok (.getfield 404, 3) := by decide +kernel
theorem dX12_count_151 : decode cX12_count 151 = .ok (.ifCond .eq 7, 3) := by decide +kernel
theorem dX12_count_154 : decode cX12_count 154 = .ok (.iconst 1, 1) := by decide +kernel
theorem dX12_count_155 : decode cX12_count 155 = .ok (.goto 4, 3) := by decide +kernel
theorem dX12_count_158 : decode cX12_count 158 = .ok (.iconst 0, 1) := by decide +kernel
theorem dX12_count_159 : decode cX12_count 159 = .ok (.ireturn, 1) := by decide +kernel
theorem dX12_count_160 : decode cX12_count 160 = .ok (.aload_n 0, 1) := by decide +kernel
theorem dX12_count_161 : decode cX12_count 161 = .ok (.getfield 17, 3) := by decide +kernel
theorem dX12_count_164 : decode cX12_count 164 = .ok (.ireturn, 1) := by decide +kernel
theorem dX12_count_165 : decode cX12_count 165 = .ok (.aload_n 0, 1) := by decide +kernel
theorem dX12_count_166 : decode cX12_count 166 = .ok (.getfield 185, 3) := by decide +kernel
theorem dX12_count_169 : decode cX12_count 169 = .ok (.ireturn, 1) := by decide +kernel
theorem dX12_count_170 : decode cX12_count 170 = .ok (.iconst (-1), 1) := by decide +kernel
theorem dX12_count_171 : decode cX12_count 171 = .ok (.ireturn, 1) := by decide +kernel
