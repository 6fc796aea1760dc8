theorem dX12_takes_81 : decode cX12_takes 81 = .ok (.iload_n 3, 1) := by decide +kernel
theorem dX12_takes_82 : decode cX12_takes 82 = .ok (.iaload, 1) := by decide +kernel
theorem dX12_takes_83 : decode cX12_takes 83 = .ok (.iastore, 1) := by decide +kernel
theorem dX12_takes_84 : decode cX12_takes 84 = .ok (.aload_n 0, 1) := by decide +kernel
theorem dX12_takes_85 : decode cX12_takes 85 = .ok (.getfield 67, 3) := by decide +kernel
theorem dX12_takes_88 : decode cX12_takes 88 = .ok (.iload_n 2, 1) := by decide +kernel
theorem dX12_takes_89 : decode cX12_takes 89 = .ok (.aload_n 0, 1) := by decide +kernel
theorem dX12_takes_90 : decode cX12_takes 90 = .ok (.getfield 43, 3) := by decide +kernel
theorem dX12_takes_93 : decode cX12_takes 93 = .ok (.iload_n 3, 1) := by decide +kernel
theorem dX12_takes_94 : decode cX12_takes 94 = .ok (.iaload, 1) := by decide +kernel
theorem dX12_takes_95 : decode cX12_takes 95 = .ok (.iastore, 1) := by decide +kernel
theorem dX12_takes_96 : decode cX12_takes 96 = .ok (.iinc 2 1, 3) := by decide +kernel
theorem dX12_takes_99 : decode cX12_takes 99 = .ok (.goto (-97), 3) := by decide +kernel
theorem dX12_takes_102 : decode cX12_takes 102 = .ok (.return_, 1) := by decide +kernel
theorem dX12_lets_0 : decode cX12_lets 0 = .ok (.iconst 1, 1) := by decide +kernel
theorem dX12_lets_1 : decode cX12_lets 1 = .ok (.istore_n 3, 1) := by decide +kernel
theorem dX12_lets_2 : decode cX12_lets 2 = .ok (.iconst 0, 1) := by decide +kernel
theorem dX12_lets_3 : decode cX12_lets 3 = .ok (.istore 4, 2) := by decide +kernel
theorem dX12_lets_5 : decode cX12_lets 5 = .ok (.iload 4, 2) := by decide +kernel
theorem dX12_lets_7 : decode cX12_lets 7 = .ok (.aload_n 0, 1) := by decide +kernel
theorem dX12_lets_8 : decode cX12_lets 8 = .ok (.getfield 236, 3) := by decide +kernel
theorem dX12_lets_11 : decode cX12_lets 11 = .ok (.if_icmp .ge 208, 3) := by decide +kernel
theorem dX12_lets_14 : decode cX12_lets 14 = .ok (.iload 4, 2) := by decide +kernel
theorem dX12_lets_16 : decode cX12_lets 16 = .ok (.ifCond .ne 7, 3) := by decide +kernel
theorem dX12_lets_19 : decode cX12_lets 19 = .ok (.iload_n 1, 1) := by decide +kernel
theorem dX12_lets_20 : decode cX12_lets 20 = .ok (.goto 31, 3) := by decide +kernel
theorem dX12_lets_23 : decode cX12_lets 23 = .ok (.aload_n 0, 1) := by decide +kernel
theorem dX12_lets_24 : decode cX12_lets 24 = .ok (.getfield 67, 3) := by decide +kernel
theorem dX12_lets_27 : decode cX12_lets 27 = .ok (.aload_n 0, 1) := by decide +kernel
theorem dX12_lets_28 : decode cX12_lets 28 = .ok (.getfield 13, 3) := by decide +kernel
theorem dX12_lets_31 : decode cX12_lets 31 = .ok (.iload 4, 2) := by decide +kernel
theorem dX12_lets_33 : decode cX12_lets 33 = .ok (.iaload, 1) := by decide +kernel
theorem dX12_lets_34 : decode cX12_lets 34 = .ok (.iaload, 1) := by decide +kernel
theorem dX12_lets_35 : decode cX12_lets 35 = .ok (.aload_n 0, 1) := by decide +kernel
theorem dX12_lets_36 : decode cX12_lets 36 = .ok (.getfield 52, 3) := by decide +kernel
theorem dX12_lets_39 : decode cX12_lets 39 = .ok (.iload 4, 2) := by decide +kernel
theorem dX12_lets_41 : decode cX12_lets 41 = .ok (.iaload, 1) := by decide +kernel
theorem dX12_lets_42 : decode cX12_lets 42 = .ok (.isub, 1) := by decide +kernel
theorem dX12_lets_43 : decode cX12_lets 43 = .ok (.aload_n 0, 1) := by decide +kernel
theorem dX12_lets_44 : decode cX12_lets 44 = .ok (.getfield 61, 3) := by decide +kernel
theorem dX12_lets_47 : decode cX12_lets 47 = .ok (.iload 4, 2) := by decide +kernel
theorem dX12_lets_49 : decode cX12_lets 49 = .ok (.iaload, 1) := by decide +kernel
theorem dX12_lets_50 : decode cX12_lets 50 = .ok (.isub, 1) := by decide +kernel
theorem dX12_lets_51 : decode cX12_lets 51 = .ok (.istore 5, 2) := by decide +kernel
theorem dX12_lets_53 : decode cX12_lets 53 = .ok (.aload_n 0, 1) := by decide +kernel
theorem dX12_lets_54 : decode cX12_lets 54 = .ok (.getfield 70, 3) := by decide +kernel
theorem dX12_lets_57 : decode cX12_lets 57 = .ok (.iload 4, 2) := by decide +kernel
theorem dX12_lets_59 : decode cX12_lets 59 = .ok (.iload 4, 2) := by decide +kernel
theorem dX12_lets_61 : decode cX12_lets 61 = .ok (.ifCond .ne 7, 3) := by decide +kernel
theorem dX12_lets_64 : decode cX12_lets 64 = .ok (.iload_n 1, 1) := by decide +kernel
theorem dX12_lets_65 : decode cX12_lets 65 = .ok (.goto 36, 3) := by decide +kernel
theorem dX12_lets_68 : decode cX12_lets 68 = .ok (.iload 5, 2) := by decide +kernel
theorem dX12_lets_70 : decode cX12_lets 70 = .ok (.ifCond .gt 7, 3) := by decide +kernel
theorem dX12_lets_73 : decode cX12_lets 73 = .ok (.iconst 0, 1) := by decide +kernel
theorem dX12_lets_74 : decode cX12_lets 74 = .ok (.goto 27, 3) := by decide +kernel
theorem dX12_lets_77 : decode cX12_lets 77 = .ok (.iload 5, 2) := by decide +kernel
theorem dX12_lets_79 : decode cX12_lets 79 = .ok (.aload_n 0, 1) := by decide +kernel
theorem dX12_lets_80 : decode cX12_lets 80 = .ok (.getfield 19, 3) := by decide +kernel
theorem dX12_lets_83 : decode cX12_lets 83 = .ok (.iload 4, 2) := by decide +kernel
theorem dX12_lets_85 : decode cX12_lets 85 = .ok (.iaload, 1) := by decide +kernel
theorem dX12_lets_86 : decode cX12_lets 86 = .ok (.bipush 10, 2) := by decide +kernel
theorem dX12_lets_88 : decode cX12_lets 88 = .ok (.idiv, 1) := by decide +kernel
theorem dX12_lets_89 : decode cX12_lets 89 = .ok (.imul, 1) := by decide +kernel
theorem dX12_lets_90 : decode cX12_lets 90 = .ok (.aload_n 0, 1) := by decide +kernel
theorem dX12_lets_91 : decode cX12_lets 91 = .ok (.getfield 19, 3) := by decide +kernel
theorem dX12_lets_94 : decode cX12_lets 94 = .ok (.iload 4, 2) := by decide +kernel
theorem dX12_lets_96 : decode cX12_lets 96 = .ok (.iaload, 1) := by decide +kernel
theorem dX12_lets_97 : decode cX12_lets 97 = .ok (.bipush 10, 2) := by decide +kernel
theorem dX12_lets_99 : decode cX12_lets 99 = .ok (.irem, 1) := by decide +kernel
theorem dX12_lets_100 : decode cX12_lets 100 = .ok (.idiv, 1) := by decide +kernel
theorem dX12_lets_101 : decode cX12_lets 101 = .ok (.iastore, 1) := by decide +kernel
theorem dX12_lets_102 : decode cX12_lets 102 = .ok (.aload_n 0, 1) := by decide +kernel
theorem dX12_lets_103 : decode cX12_lets 103 = .ok (.getfield 70, 3) := by decide +kernel
theorem dX12_lets_106 : decode cX12_lets 106 = .ok (.iload 4, 2) := by decide +kernel
theorem dX12_lets_108 : decode cX12_lets 108 = .ok (.iaload, 1) := by decide +kernel
theorem dX12_lets_109 : decode cX12_lets 109 = .ok (.aload_n 0, 1) := by decide +kernel
theorem dX12_lets_110 : decode cX12_lets 110 = .ok (.getfield 22, 3) := by decide +kernel
theorem dX12_lets_113 : decode cX12_lets 113 = .ok (.iload 4, 2) := by decide +kernel
theorem dX12_lets_115 : decode cX12_lets 115 = .ok (.iaload, 1) := by decide +kernel
theorem dX12_lets_116 : decode cX12_lets 116 = .ok (.if_icmp .ge 13, 3) := by decide +kernel
theorem dX12_lets_119 : decode cX12_lets 119 = .ok (.aload_n 0, 1) := by decide +kernel
theorem dX12_lets_120 : decode cX12_lets 120 = .ok (.getfield 70, 3) := by decide +kernel
theorem dX12_lets_123 : decode cX12_lets 123 = .ok (.iload 4, 2) := by decide +kernel
theorem dX12_lets_125 : decode cX12_lets 125 = .ok (.iaload, 1) := by decide +kernel
theorem dX12_lets_126 : decode cX12_lets 126 = .ok (.goto 10, 3) := by decide +kernel
theorem dX12_lets_129 : decode cX12_lets 129 = .ok (.aload_n 0, 1) := by decide +kernel
theorem dX12_lets_130 : decode cX12_lets 130 = .ok (.getfield 22, 3) := by decide +kernel
theorem dX12_lets_133 : decode cX12_lets 133 = .ok (.iload 4, 2) := by decide +kernel
theorem dX12_lets_135 : decode cX12_lets 135 = .ok (.iaload, 1) := by decide +kernel
theorem dX12_lets_136 : decode cX12_lets 136 = .ok (.aload_n 0, 1) := by decide +kernel
theorem dX12_lets_137 : decode cX12_lets 137 = .ok (.getfield 64, 3) := by decide +kernel
theorem dX12_lets_140 : decode cX12_lets 140 = .ok (.iload 4, 2) := by decide +kernel
theorem dX12_lets_142 : decode cX12_lets 142 = .ok (.iaload, 1) := by decide +kernel
theorem dX12_lets_143 : decode cX12_lets 143 = .ok (.isub, 1) := by decide +kernel
theorem dX12_lets_144 : decode cX12_lets 144 = .ok (.istore 6, 2) := by decide +kernel
theorem dX12_lets_146 : decode cX12_lets 146 = .ok (.aload_n 0, 1) := by decide +kernel
theorem dX12_lets_147 : decode cX12_lets 147 = .ok (.getfield 67, 3) := by decide +kernel
theorem dX12_lets_150 : decode cX12_lets 150 = .ok (.iload 4, 2) := by decide +kernel
theorem dX12_lets_152 : decode cX12_lets 152 = .ok (.iload 6, 2) := by decide +kernel
theorem dX12_lets_154 : decode cX12_lets 154 = .ok (.ifCond .ge 7, 3) := by decide +kernel
theorem dX12_lets_157 : decode cX12_lets 157 = .ok (.iconst 0, 1) := by decide +kernel
theorem dX12_lets_158 : decode cX12_lets 158 = .ok (.goto 5, 3) := by decide +kernel
theorem dX12_lets_161 : decode cX12_lets 161 = .ok (.iload 6, 2) := by decide +kernel
theorem dX12_lets_163 : decode cX12_lets 163 = .ok (.iastore, 1) := by decide +kernel
theorem dX12_lets_164 : decode cX12_lets 164 = .ok (.iload_n 3, 1) := by decide +kernel
theorem dX12_lets_165 : decode cX12_lets 165 = .ok (.ifCond .eq 46, 3) := by decide +kernel
theorem dX12_lets_168 : decode cX12_lets 168 = .ok (.aload_n 0, 1) := by decide +kernel
theorem dX12_lets_169 : decode cX12_lets 169 = .ok (.getfield 70, 3) := by decide +kernel
theorem dX12_lets_172 : decode cX12_lets 172 = .ok (.iload 4, 2) := by decide +kernel
theorem dX12_lets_174 : decode cX12_lets 174 = .ok (.iaload, 1) := by decide +kernel
theorem dX12_lets_175 : decode cX12_lets 175 = .ok (.aload_n 0, 1) := by decide +kernel
theorem dX12_lets_176 : decode cX12_lets 176 = .ok (.getfield 22, 3) := by decide +kernel
theorem dX12_lets_179 : decode cX12_lets 179 = .ok (.iload 4, 2) := by decide +kernel
theorem dX12_lets_181 : decode cX12_lets 181 = .ok (.iaload, 1) := by decide +kernel
theorem dX12_lets_182 : decode cX12_lets 182 = .ok (.if_icmp .le 25, 3) := by decide +kernel
theorem dX12_lets_185 : decode cX12_lets 185 = .ok (.aload_n 0, 1) := by decide +kernel
theorem dX12_lets_186 : decode cX12_lets 186 = .ok (.getfield 9, 3) := by decide +kernel
theorem dX12_lets_189 : decode cX12_lets 189 = .ok (.iload 4, 2) := by decide +kernel
theorem dX12_lets_191 : decode cX12_lets 191 = .ok (.iaload, 1) := by decide +kernel
theorem dX12_lets_192 : decode cX12_lets 192 = .ok (.iconst 1, 1) := by decide +kernel
theorem dX12_lets_193 : decode cX12_lets 193 = .ok (.if_icmp .ne 18, 3) := by decide +kernel
theorem dX12_lets_196 : decode cX12_lets 196 = .ok (.aload_n 0, 1) := by decide +kernel
theorem dX12_lets_197 : decode cX12_lets 197 = .ok (.getfield 58, 3) := by decide +kernel
theorem dX12_lets_200 : decode cX12_lets 200 = .ok (.iload 4, 2) := by decide +kernel
theorem dX12_lets_202 : decode cX12_lets 202 = .ok (.iaload, 1) := by decide +kernel
theorem dX12_lets_203 : decode cX12_lets 203 = .ok (.iload_n 2, 1) := by decide +kernel
theorem dX12_lets_204 : decode cX12_lets 204 = .ok (.if_icmp .gt 7, 3) := by decide +kernel
theorem dX12_lets_207 : decode cX12_lets 207 = .ok (.iconst 1, 1) := by decide +kernel
theorem dX12_lets_208 : decode cX12_lets 208 = .ok (.goto 4, 3) := by decide +kernel
theorem dX12_lets_211 : decode cX12_lets 211 = .ok (.iconst 0, 1) := by decide +kernel
theorem dX12_lets_212 : decode cX12_lets 212 = .ok (.istore_n 3, 1) := by decide +kernel
theorem dX12_lets_213 : decode cX12_lets 213 = .ok (.iinc 4 1, 3) := by decide +kernel
theorem dX12_lets_216 : decode cX12_lets 216 = .ok (.goto (-211), 3) := by decide +kernel
theorem dX12_lets_219 : decode cX12_lets 219 = .ok (.iload_n 3, 1) := by decide +kernel
theorem dX12_lets_220 : decode cX12_lets 220 = .ok (.ireturn, 1) := by decide +kernel
theorem dX12_pushes_0 : decode cX12_pushes 0 = .ok (.iconst 0, 1) := by decide +kernel
theorem dX12_pushes_1 : decode cX12_pushes 1 = .ok (.istore_n 3, 1) := by decide +kernel
theorem dX12_pushes_2 : decode cX12_pushes 2 = .ok (.iload_n 1, 1) := by decide +kernel
theorem dX12_pushes_3 : decode cX12_pushes 3 = .ok (.istore 4, 2) := by decide +kernel
theorem dX12_pushes_5 : decode cX12_pushes 5 = .ok (.iload_n 3, 1) := by decide +kernel
theorem dX12_pushes_6 : decode cX12_pushes 6 = .ok (.iload 4, 2) := by decide +kernel
theorem dX12_pushes_8 : decode cX12_pushes 8 = .ok (.if_icmp .ge 38, 3) := by decide +kernel
theorem dX12_pushes_11 : decode cX12_pushes 11 = .ok (.iload_n 3, 1) := by decide +kernel
theorem dX12_pushes_12 : decode cX12_pushes 12 = .ok (.iload 4, 2) := by decide +kernel
theorem dX12_pushes_14 : decode cX12_pushes 14 = .ok (.iadd, 1) := by decide +kernel
theorem dX12_pushes_15 : decode cX12_pushes 15 = .ok (.iconst 1, 1) := by decide +kernel
theorem dX12_pushes_16 : decode cX12_pushes 16 = .ok (.iadd, 1) := by decide +kernel
theorem dX12_pushes_17 : decode cX12_pushes 17 = .ok (.iconst 2, 1) := by decide +kernel
theorem dX12_pushes_18 : decode cX12_pushes 18 = .ok (.idiv, 1) := by decide +kernel
theorem dX12_pushes_19 : decode cX12_pushes 19 = .ok (.istore 5, 2) := by decide +kernel
theorem dX12_pushes_21 : decode cX12_pushes 21 = .ok (.aload_n 0, 1) := by decide +kernel
theorem dX12_pushes_22 : decode cX12_pushes 22 = .ok (.iload 5, 2) := by decide +kernel
theorem dX12_pushes_24 : decode cX12_pushes 24 = .ok (.iload_n 2, 1) := by decide +kernel
theorem dX12_pushes_25 : decode cX12_pushes 25 = .ok (.invokevirtual 267, 3) := by decide +kernel
theorem dX12_pushes_28 : decode cX12_pushes 28 = .ok (.ifCond .eq 9, 3) := by decide +kernel
theorem dX12_pushes_31 : decode cX12_pushes 31 = .ok (.iload 5, 2) := by decide +kernel
theorem dX12_pushes_33 : decode cX12_pushes 33 = .ok (.istore_n 3, 1) := by decide +kernel
theorem dX12_pushes_34 : decode cX12_pushes 34 = .ok (.goto 9, 3) := by decide +kernel
theorem dX12_pushes_37 : decode cX12_pushes 37 = .ok (.iload 5, 2) := by decide +kernel
theorem dX12_pushes_39 : decode cX12_pushes 39 = .ok (.iconst 1, 1) := by decide +kernel
theorem dX12_pushes_40 : decode cX12_pushes 40 = .ok (.isub, 1) := by decide +kernel
theorem dX12_pushes_41 : decode cX12_pushes 41 = .ok (.istore 4, 2) := by decide +kernel
theorem dX12_pushes_43 : decode cX12_pushes 43 = .ok (.goto (-38), 3) := by decide +kernel
theorem dX12_pushes_46 : decode cX12_pushes 46 = .ok (.aload_n 0, 1) := by decide +kernel
theorem dX12_pushes_47 : decode cX12_pushes 47 = .ok (.iload_n 3, 1) := by decide +kernel
theorem dX12_pushes_48 : decode cX12_pushes 48 = .ok (.iload_n 2, 1) := by decide +kernel
theorem dX12_pushes_49 : decode cX12_pushes 49 = .ok (.invokevirtual 267, 3) := by decide +kernel
theorem dX12_pushes_52 : decode cX12_pushes 52 = .ok (.pop, 1) := by decide +kernel
theorem dX12_pushes_53 : decode cX12_pushes 53 = .ok (.iload_n 3, 1) := by decide +kernel
theorem dX12_pushes_54 : decode cX12_pushes 54 = .ok (.ireturn, 1) := by decide +kernel
theorem dX12_push_0 : decode cX12_push 0 = .ok (.aload_n 0, 1) := by decide +kernel
theorem dX12_push_1 : decode cX12_push 1 = .ok (.iload_n 1, 1) := by decide +kernel
theorem dX12_push_2 : decode cX12_push 2 = .ok (.invokevirtual 262, 3) := by decide +kernel
theorem dX12_push_5 : decode cX12_push 5 = .ok (.ifCond .eq 34, 3) := by decide +kernel
theorem dX12_push_8 : decode cX12_push 8 = .ok (.aload_n 0, 1) := by decide +kernel
theorem dX12_push_9 : decode cX12_push 9 = .ok (.getfield 236, 3) := by decide +kernel
theorem dX12_push_12 : decode cX12_push 12 = .ok (.ifCond .eq 27, 3) := by decide +kernel
theorem dX12_push_15 : decode cX12_push 15 = .ok (.iload_n 2, 1) := by decide +kernel
theorem dX12_push_16 : decode cX12_push 16 = .ok (.i2l, 1) := by decide +kernel
theorem dX12_push_17 : decode cX12_push 17 = .ok (.lconst 0, 1) := by decide +kernel
theorem dX12_push_18 : decode cX12_push 18 = .ok (.ldc2_w 256, 3) := by decide +kernel
theorem dX12_push_21 : decode cX12_push 21 = .ok (.invokestatic 229, 3) := by decide +kernel
theorem dX12_push_24 : decode cX12_push 24 = .ok (.ifCond .eq 15, 3) := by decide +kernel
theorem dX12_push_27 : decode cX12_push 27 = .ok (.iload_n 3, 1) := by decide +kernel
theorem dX12_push_28 : decode cX12_push 28 = .ok (.i2l, 1) := by decide +kernel
theorem dX12_push_29 : decode cX12_push 29 = .ok (.lconst 0, 1) := by decide +kernel
theorem dX12_push_30 : decode cX12_push 30 = .ok (.ldc2_w 256, 3) := by decide +kernel
theorem dX12_push_33 : decode cX12_push 33 = .ok (.invokestatic 229, 3) := by decide +kernel
theorem dX12_push_36 : decode cX12_push 36 = .ok (.ifCond .ne 5, 3) := by decide +kernel
theorem dX12_push_39 : decode cX12_push 39 = .ok (.iconst (-1), 1) := by decide +kernel
theorem dX12_push_40 : decode cX12_push 40 = .ok (.ireturn, 1) := by decide +kernel
theorem dX12_push_41 : decode cX12_push 41 = .ok (.aload_n 0, 1) := by decide +kernel
theorem dX12_push_42 : decode cX12_push 42 = .ok (.iload_n 1, 1) := by decide +kernel
theorem dX12_push_43 : decode cX12_push 43 = .ok (.invokevirtual 270, 3) := by decide +kernel
theorem dX12_push_46 : decode cX12_push 46 = .ok (.aload_n 0, 1) := by decide +kernel
theorem dX12_push_47 : decode cX12_push 47 = .ok (.iload_n 2, 1) := by decide +kernel
theorem dX12_push_48 : decode cX12_push 48 = .ok (.iload_n 3, 1) := by decide +kernel
theorem dX12_push_49 : decode cX12_push 49 = .ok (.invokevirtual 274, 3) := by decide +kernel
theorem dX12_push_52 : decode cX12_push 52 = .ok (.istore 4, 2) := by decide +kernel
theorem dX12_push_54 : decode cX12_push 54 = .ok (.iconst 0, 1) := by decide +kernel
theorem dX12_push_55 : decode cX12_push 55 = .ok (.istore 5, 2) := by decide +kernel
theorem dX12_push_57 : decode cX12_push 57 = .ok (.iload 5, 2) := by decide +kernel
theorem dX12_push_59 : decode cX12_push 59 = .ok (.aload_n 0, 1) := by decide +kernel
theorem dX12_push_60 : decode cX12_push 60 = .ok (.getfield 236, 3) := by decide +kernel
theorem dX12_push_63 : decode cX12_push 63 = .ok (.if_icmp .ge 112, 3) := by decide +kernel
theorem dX12_push_66 : decode cX12_push 66 = .ok (.bipush 24, 2) := by decide +kernel
theorem dX12_push_68 : decode cX12_push 68 = .ok (.iload_n 1, 1) := by decide +kernel
theorem dX12_push_69 : decode cX12_push 69 = .ok (.imul, 1) := by decide +kernel
theorem dX12_push_70 : decode cX12_push 70 = .ok (.iload 5, 2) := by decide +kernel
theorem dX12_push_72 : decode cX12_push 72 = .ok (.iadd, 1) := by decide +kernel
theorem dX12_push_73 : decode cX12_push 73 = .ok (.istore 6, 2) := by decide +kernel
theorem dX12_push_75 : decode cX12_push 75 = .ok (.aload_n 0, 1) := by decide +kernel
theorem dX12_push_76 : decode cX12_push 76 = .ok (.getfield 43, 3) := by decide +kernel
theorem dX12_push_79 : decode cX12_push 79 = .ok (.iload 6, 2) := by decide +kernel
theorem dX12_push_81 : decode cX12_push 81 = .ok (.aload_n 0, 1) := by decide +kernel
theorem dX12_push_82 : decode cX12_push 82 = .ok (.getfield 67, 3) := by decide +kernel
theorem dX12_push_85 : decode cX12_push 85 = .ok (.iload 5, 2) := by decide +kernel
theorem dX12_push_87 : decode cX12_push 87 = .ok (.iaload, 1) := by decide +kernel
theorem dX12_push_88 : decode cX12_push 88 = .ok (.iastore, 1) := by decide +kernel
theorem dX12_push_89 : decode cX12_push 89 = .ok (.aload_n 0, 1) := by decide +kernel
theorem dX12_push_90 : decode cX12_push 90 = .ok (.getfield 40, 3) := by decide +kernel
theorem dX12_push_93 : decode cX12_push 93 = .ok (.iload 6, 2) := by decide +kernel
theorem dX12_push_95 : decode cX12_push 95 = .ok (.iaload, 1) := by decide +kernel
theorem dX12_push_96 : decode cX12_push 96 = .ok (.aload_n 0, 1) := by decide +kernel
theorem dX12_push_97 : decode cX12_push 97 = .ok (.getfield 9, 3) := by decide +kernel
theorem dX12_push_100 : decode cX12_push 100 = .ok (.iload 5, 2) := by decide +kernel
theorem dX12_push_102 : decode cX12_push 102 = .ok (.iaload, 1) := by decide +kernel
theorem dX12_push_103 : decode cX12_push 103 = .ok (.iconst 1, 1) := by decide +kernel
theorem dX12_push_104 : decode cX12_push 104 = .ok (.if_icmp .ne 38, 3) := by decide +kernel
theorem dX12_push_107 : decode cX12_push 107 = .ok (.aload_n 0, 1) := by decide +kernel
theorem dX12_push_108 : decode cX12_push 108 = .ok (.getfield 70, 3) := by decide +kernel
theorem dX12_push_111 : decode cX12_push 111 = .ok (.iload 5, 2) := by decide +kernel
theorem dX12_push_113 : decode cX12_push 113 = .ok (.iaload, 1) := by decide +kernel
theorem dX12_push_114 : decode cX12_push 114 = .ok (.aload_n 0, 1) := by decide +kernel
theorem dX12_push_115 : decode cX12_push 115 = .ok (.getfield 22, 3) := by decide +kernel
theorem dX12_push_118 : decode cX12_push 118 = .ok (.iload 5, 2) := by decide +kernel
theorem dX12_push_120 : decode cX12_push 120 = .ok (.iaload, 1) := by decide +kernel
theorem dX12_push_121 : decode cX12_push 121 = .ok (.if_icmp .le 21, 3) := by decide +kernel
theorem dX12_push_124 : decode cX12_push 124 = .ok (.aload_n 0, 1) := by decide +kernel
theorem dX12_push_125 : decode cX12_push 125 = .ok (.getfield 70, 3) := by decide +kernel
theorem dX12_push_128 : decode cX12_push 128 = .ok (.iload 5, 2) := by decide +kernel
theorem dX12_push_130 : decode cX12_push 130 = .ok (.iaload, 1) := by decide +kernel
theorem dX12_push_131 : decode cX12_push 131 = .ok (.aload_n 0, 1) := by decide +kernel
theorem dX12_push_132 : decode cX12_push 132 = .ok (.getfield 22, 3) := by decide +kernel
theorem dX12_push_135 : decode cX12_push 135 = .ok (.iload 5, 2) := by decide +kernel
theorem dX12_push_137 : decode cX12_push 137 = .ok (.iaload, 1) := by decide +kernel
theorem dX12_push_138 : decode cX12_push 138 = .ok (.isub, 1) := by decide +kernel
theorem dX12_push_139 : decode cX12_push 139 = .ok (.goto 4, 3) := by decide +kernel
theorem dX12_push_142 : decode cX12_push 142 = .ok (.iconst 0, 1) := by decide +kernel
theorem dX12_push_143 : decode cX12_push 143 = .ok (.iadd, 1) := by decide +kernel
theorem dX12_push_144 : decode cX12_push 144 = .ok (.istore 7, 2) := by decide +kernel
theorem dX12_push_146 : decode cX12_push 146 = .ok (.aload_n 0, 1) := by decide +kernel
theorem dX12_push_147 : decode cX12_push 147 = .ok (.getfield 40, 3) := by decide +kernel
theorem dX12_push_150 : decode cX12_push 150 = .ok (.iload 6, 2) := by decide +kernel
theorem dX12_push_152 : decode cX12_push 152 = .ok (.iload 7, 2) := by decide +kernel
theorem dX12_push_154 : decode cX12_push 154 = .ok (.sipush 9999, 3) := by decide +kernel
theorem dX12_push_157 : decode cX12_push 157 = .ok (.if_icmp .le 9, 3) := by decide +kernel
theorem dX12_push_160 : decode cX12_push 160 = .ok (.sipush 9999, 3) := by decide +kernel
theorem dX12_push_163 : decode cX12_push 163 = .ok (.goto 5, 3) := by decide +kernel
theorem dX12_push_166 : decode cX12_push 166 = .ok (.iload 7, 2) := by decide +kernel
theorem dX12_push_168 : decode cX12_push 168 = .ok (.iastore, 1) := by decide +kernel
theorem dX12_push_169 : decode cX12_push 169 = .ok (.iinc 5 1, 3) := by decide +kernel
theorem dX12_push_172 : decode cX12_push 172 = .ok (.goto (-115), 3) := by decide +kernel
theorem dX12_push_175 : decode cX12_push 175 = .ok (.iload 4, 2) := by decide +kernel
theorem dX12_push_177 : decode cX12_push 177 = .ok (.ireturn, 1) := by decide +kernel
theorem dX12_release_0 : decode cX12_release 0 = .ok (.aload_n 0, 1) := by decide +kernel
theorem dX12_release_1 : decode cX12_release 1 = .ok (.iload_n 1, 1) := by decide +kernel
theorem dX12_release_2 : decode cX12_release 2 = .ok (.invokevirtual 262, 3) := by decide +kernel
theorem dX12_release_5 : decode cX12_release 5 = .ok (.ifCond .ne 5, 3) := by decide +kernel
theorem dX12_release_8 : decode cX12_release 8 = .ok (.iconst 0, 1) := by decide +kernel
theorem dX12_release_9 : decode cX12_release 9 = .ok (.ireturn, 1) := by decide +kernel
theorem dX12_release_10 : decode cX12_release 10 = .ok (.iconst 0, 1) := by decide +kernel
theorem dX12_release_11 : decode cX12_release 11 = .ok (.istore_n 2, 1) := by decide +kernel
theorem dX12_release_12 : decode cX12_release 12 = .ok (.iload_n 2, 1) := by decide +kernel
theorem dX12_release_13 : decode cX12_release 13 = .ok (.bipush 24, 2) := by decide +kernel
theorem dX12_release_15 : decode cX12_release 15 = .ok (.if_icmp .ge 21, 3) := by decide +kernel
theorem dX12_release_18 : decode cX12_release 18 = .ok (.aload_n 0, 1) := by decide +kernel
theorem dX12_release_19 : decode cX12_release 19 = .ok (.getfield 43, 3) := by decide +kernel
theorem dX12_release_22 : decode cX12_release 22 = .ok (.bipush 24, 2) := by decide +kernel
theorem dX12_release_24 : decode cX12_release 24 = .ok (.iload_n 1, 1) := by decide +kernel
theorem dX12_release_25 : decode cX12_release 25 = .ok (.imul, 1) := by decide +kernel
theorem dX12_release_26 : decode cX12_release 26 = .ok (.iload_n 2, 1) := by decide +kernel
theorem dX12_release_27 : decode cX12_release 27 = .ok (.iadd, 1) := by decide +kernel
theorem dX12_release_28 : decode cX12_release 28 = .ok (.iconst 0, 1) := by decide +kernel
theorem dX12_release_29 : decode cX12_release 29 = .ok (.iastore, 1) := by decide +kernel
theorem dX12_release_30 : decode cX12_release 30 = .ok (.iinc 2 1, 3) := by decide +kernel
theorem dX12_release_33 : decode cX12_release 33 = .ok (.goto (-21), 3) := by decide +kernel
theorem dX12_release_36 : decode cX12_release 36 = .ok (.iconst 1, 1) := by decide +kernel
theorem dX12_release_37 : decode cX12_release 37 = .ok (.ireturn, 1) := by decide +kernel
theorem dX12_isOver_0 : decode cX12_isOver 0 = .ok (.aload_n 0, 1) := by decide +kernel
theorem dX12_isOver_1 : decode cX12_isOver 1 = .ok (.getfield 67, 3) := by decide +kernel
theorem dX12_isOver_4 : decode cX12_isOver 4 = .ok (.aload_n 0, 1) := by decide +kernel
theorem dX12_isOver_5 : decode cX12_isOver 5 = .ok (.getfield 9, 3) := by decide +kernel
theorem dX12_isOver_8 : decode cX12_isOver 8 = .ok (.iload_n 1, 1) := by decide +kernel
theorem dX12_isOver_9 : decode cX12_isOver 9 = .ok (.iaload, 1) := by decide +kernel
theorem dX12_isOver_10 : decode cX12_isOver 10 = .ok (.iconst 5, 1) := by decide +kernel
theorem dX12_isOver_11 : decode cX12_isOver 11 = .ok (.if_icmp .ne 12, 3) := by decide +kernel
theorem dX12_isOver_14 : decode cX12_isOver 14 = .ok (.aload_n 0, 1) := by decide +kernel
theorem dX12_isOver_15 : decode cX12_isOver 15 = .ok (.getfield 13, 3) := by decide +kernel
theorem dX12_isOver_18 : decode cX12_isOver 18 = .ok (.iload_n 1, 1) := by decide +kernel
theorem dX12_isOver_19 : decode cX12_isOver 19 = .ok (.iaload, 1) := by decide +kernel
theorem dX12_isOver_20 : decode cX12_isOver 20 = .ok (.goto 4, 3) := by decide +kernel
theorem dX12_isOver_23 : decode cX12_isOver 23 = .ok (.iload_n 1, 1) := by decide +kernel
theorem dX12_isOver_24 : decode cX12_isOver 24 = .ok (.iaload, 1) := by decide +kernel
theorem dX12_isOver_25 : decode cX12_isOver 25 = .ok (.aload_n 0, 1) := by decide +kernel
theorem dX12_isOver_26 : decode cX12_isOver 26 = .ok (.getfield 55, 3) := by decide +kernel
theorem dX12_isOver_29 : decode cX12_isOver 29 = .ok (.iload_n 1, 1) := by decide +kernel
theorem dX12_isOver_30 : decode cX12_isOver 30 = .ok (.iaload, 1) := by decide +kernel
theorem dX12_isOver_31 : decode cX12_isOver 31 = .ok (.if_icmp .lt 7, 3) := by decide +kernel
theorem dX12_isOver_34 : decode cX12_isOver 34 = .ok (.iconst 1, 1) := by decide +kernel
theorem dX12_isOver_35 : decode cX12_isOver 35 = .ok (.goto 4, 3) := by decide +kernel
theorem dX12_isOver_38 : decode cX12_isOver 38 = .ok (.iconst 0, 1) := by decide +kernel
theorem dX12_isOver_39 : decode cX12_isOver 39 = .ok (.ireturn, 1) := by decide +kernel
theorem dX12_state_0 : decode cX12_state 0 = .ok (.aload_n 0, 1) := by decide +kernel
theorem dX12_state_1 : decode cX12_state 1 = .ok (.iload_n 1, 1) := by decide +kernel
theorem dX12_state_2 : decode cX12_state 2 = .ok (.invokevirtual 262, 3) := by decide +kernel
theorem dX12_state_5 : decode cX12_state 5 = .ok (.ifCond .eq 11, 3) := by decide +kernel
theorem dX12_state_8 : decode cX12_state 8 = .ok (.aload_n 0, 1) := by decide +kernel
theorem dX12_state_9 : decode cX12_state 9 = .ok (.iload_n 2, 1) := by decide +kernel
theorem dX12_state_10 : decode cX12_state 10 = .ok (.invokevirtual 242, 3) := by decide +kernel
theorem dX12_state_13 : decode cX12_state 13 = .ok (.ifCond .ne 7, 3) := by decide +kernel
theorem dX12_state_16 : decode cX12_state 16 = .ok (.sipush (-1000), 3) := by decide +kernel
theorem dX12_state_19 : decode cX12_state 19 = .ok (.ireturn, 1) := by decide +kernel
theorem dX12_state_20 : decode cX12_state 20 = .ok (.bipush 24, 2) := by decide +kernel
theorem dX12_state_22 : decode cX12_state 22 = .ok (.iload_n 1, 1) := by decide +kernel
theorem dX12_state_23 : decode cX12_state 23 = .ok (.imul, 1) := by decide +kernel
theorem dX12_state_24 : decode cX12_state 24 = .ok (.iload_n 2, 1) := by decide +kernel
theorem dX12_state_25 : decode cX12_state 25 = .ok (.iadd, 1) := by decide +kernel
theorem dX12_state_26 : decode cX12_state 26 = .ok (.istore 4, 2) := by decide +kernel
theorem dX12_state_28 : decode cX12_state 28 = .ok (.iload_n 3, 1) := by decide +kernel
theorem dX12_state_29 : decode cX12_state 29 = .ok (.tableswitch 86 0 4 #[35, 43, 51, 59, 67], 35) := by decide +kernel
theorem dX12_state_64 : decode cX12_state 64 = .ok (.aload_n 0, 1) := by decide +kernel
theorem dX12_state_65 : decode cX12_state 65 = .ok (.getfield 43, 3) := by decide +kernel
theorem dX12_state_68 : decode cX12_state 68 = .ok (.iload 4, 2) := by decide +kernel
theorem dX12_state_70 : decode cX12_state 70 = .ok (.iaload, 1) := by decide +kernel
theorem dX12_state_71 : decode cX12_state 71 = .ok (.ireturn, 1) := by decide +kernel
theorem dX12_state_72 : decode cX12_state 72 = .ok (.aload_n 0, 1) := by decide +kernel
theorem dX12_state_73 : decode cX12_state 73 = .ok (.getfield 34, 3) := by decide +kernel
theorem dX12_state_76 : decode cX12_state 76 = .ok (.iload 4, 2) := by decide +kernel
theorem dX12_state_78 : decode cX12_state 78 = .ok (.iaload, 1) := by decide +kernel
theorem dX12_state_79 : decode cX12_state 79 = .ok (.ireturn, 1) := by decide +kernel
theorem dX12_state_80 : decode cX12_state 80 = .ok (.aload_n 0, 1) := by decide +kernel
theorem dX12_state_81 : decode cX12_state 81 = .ok (.getfield 37, 3) := by decide +kernel
theorem dX12_state_84 : decode cX12_state 84 = .ok (.iload 4, 2) := by decide +kernel
theorem dX12_state_86 : decode cX12_state 86 = .ok (.iaload, 1) := by decide +kernel
theorem dX12_state_87 : decode cX12_state 87 = .ok (.ireturn, 1) := by decide +kernel
theorem dX12_state_88 : decode cX12_state 88 = .ok (.aload_n 0, 1) := by decide +kernel
theorem dX12_state_89 : decode cX12_state 89 = .ok (.getfield 40, 3) := by decide +kernel
theorem dX12_state_92 : decode cX12_state 92 = .ok (.iload 4, 2) := by decide +kernel
theorem dX12_state_94 : decode cX12_state 94 = .ok (.iaload, 1) := by decide +kernel
theorem dX12_state_95 : decode cX12_state 95 = .ok (.ireturn, 1) := by decide +kernel
theorem dX12_state_96 : decode cX12_state 96 = .ok (.aload_n 0, 1) := by decide +kernel
theorem dX12_state_97 : decode cX12_state 97 = .ok (.iload_n 1, 1) := by decide +kernel
theorem dX12_state_98 : decode cX12_state 98 = .ok (.invokevirtual 270, 3) := by decide +kernel
theorem dX12_state_101 : decode cX12_state 101 = .ok (.aload_n 0, 1) := by decide +kernel
theorem dX12_state_102 : decode cX12_state 102 = .ok (.iload_n 2, 1) := by decide +kernel
theorem dX12_state_103 : decode cX12_state 103 = .ok (.invokevirtual 278, 3) := by decide +kernel
theorem dX12_state_106 : decode cX12_state 106 = .ok (.ifCond .eq 7, 3) := by decide +kernel
theorem dX12_state_109 : decode cX12_state 109 = .ok (.iconst 1, 1) := by decide +kernel
theorem dX12_state_110 : decode cX12_state 110 = .ok (.goto 4, 3) := by decide +kernel
theorem dX12_state_113 : decode cX12_state 113 = .ok (.iconst 0, 1) := by decide +kernel
theorem dX12_state_114 : decode cX12_state 114 = .ok (.ireturn, 1) := by decide +kernel
theorem dX12_state_115 : decode cX12_state 115 = .ok (.sipush (-1000), 3) := by decide +kernel
theorem dX12_state_118 : decode cX12_state 118 = .ok (.ireturn, 1) := by decide +kernel
theorem dX12_isShut_0 : decode cX12_isShut 0 = .ok (.iconst 0, 1) := by decide +kernel
theorem dX12_isShut_1 : decode cX12_isShut 1 = .ok (.istore_n 1, 1) := by decide +kernel
theorem dX12_isShut_2 : decode cX12_isShut 2 = .ok (.iconst 1, 1) := by decide +kernel
theorem dX12_isShut_3 : decode cX12_isShut 3 = .ok (.istore_n 2, 1) := by decide +kernel
theorem dX12_isShut_4 : decode cX12_isShut 4 = .ok (.iconst 0, 1) := by decide +kernel
theorem dX12_isShut_5 : decode cX12_isShut 5 = .ok (.istore_n 3, 1) := by decide +kernel
theorem dX12_isShut_6 : decode cX12_isShut 6 = .ok (.iload_n 3, 1) := by decide +kernel
theorem dX12_isShut_7 : decode cX12_isShut 7 = .ok (.aload_n 0, 1) := by decide +kernel
theorem dX12_isShut_8 : decode cX12_isShut 8 = .ok (.getfield 236, 3) := by decide +kernel
theorem dX12_isShut_11 : decode cX12_isShut 11 = .ok (.if_icmp .ge 57, 3) := by decide +kernel
theorem dX12_isShut_14 : decode cX12_isShut 14 = .ok (.iload_n 1, 1) := by decide +kernel
theorem dX12_isShut_15 : decode cX12_isShut 15 = .ok (.ifCond .ne 13, 3) := by decide +kernel
theorem dX12_isShut_18 : decode cX12_isShut 18 = .ok (.aload_n 0, 1) := by decide +kernel
theorem dX12_isShut_19 : decode cX12_isShut 19 = .ok (.getfield 9, 3) := by decide +kernel
theorem dX12_isShut_22 : decode cX12_isShut 22 = .ok (.iload_n 3, 1) := by decide +kernel
theorem dX12_isShut_23 : decode cX12_isShut 23 = .ok (.iaload, 1) := by decide +kernel
theorem dX12_isShut_24 : decode cX12_isShut 24 = .ok (.iconst 2, 1) := by decide +kernel
theorem dX12_isShut_25 : decode cX12_isShut 25 = .ok (.if_icmp .ne 7, 3) := by decide +kernel
theorem dX12_isShut_28 : decode cX12_isShut 28 = .ok (.iconst 1, 1) := by decide +kernel
theorem dX12_isShut_29 : decode cX12_isShut 29 = .ok (.goto 4, 3) := by decide +kernel
theorem dX12_isShut_32 : decode cX12_isShut 32 = .ok (.iconst 0, 1) := by decide +kernel
theorem dX12_isShut_33 : decode cX12_isShut 33 = .ok (.istore_n 1, 1) := by decide +kernel
theorem dX12_isShut_34 : decode cX12_isShut 34 = .ok (.iload_n 2, 1) := by decide +kernel
theorem dX12_isShut_35 : decode cX12_isShut 35 = .ok (.ifCond .eq 25, 3) := by decide +kernel
theorem dX12_isShut_38 : decode cX12_isShut 38 = .ok (.aload_n 0, 1) := by decide +kernel
theorem dX12_isShut_39 : decode cX12_isShut 39 = .ok (.getfield 9, 3) := by decide +kernel
theorem dX12_isShut_42 : decode cX12_isShut 42 = .ok (.iload_n 3, 1) := by decide +kernel
theorem dX12_isShut_43 : decode cX12_isShut 43 = .ok (.iaload, 1) := by decide +kernel
theorem dX12_isShut_44 : decode cX12_isShut 44 = .ok (.iconst 2, 1) := by decide +kernel
theorem dX12_isShut_45 : decode cX12_isShut 45 = .ok (.if_icmp .ne 11, 3) := by decide +kernel
theorem dX12_isShut_48 : decode cX12_isShut 48 = .ok (.aload_n 0, 1) := by decide +kernel
theorem dX12_isShut_49 : decode cX12_isShut 49 = .ok (.iload_n 3, 1) := by decide +kernel
theorem dX12_isShut_50 : decode cX12_isShut 50 = .ok (.invokevirtual 278, 3) := by decide +kernel
theorem dX12_isShut_53 : decode cX12_isShut 53 = .ok (.ifCond .eq 7, 3) := by decide +kernel
theorem dX12_isShut_56 : decode cX12_isShut 56 = .ok (.iconst 1, 1) := by decide +kernel
theorem dX12_isShut_57 : decode cX12_isShut 57 = .ok (.goto 4, 3) := by decide +kernel
theorem dX12_isShut_60 : decode cX12_isShut 60 = .ok (.iconst 0, 1) := by decide +kernel
theorem dX12_isShut_61 : decode cX12_isShut 61 = .ok (.istore_n 2, 1) := by decide +kernel
theorem dX12_isShut_62 : decode cX12_isShut 62 = .ok (.iinc 3 1, 3) := by decide +kernel
theorem dX12_isShut_65 : decode cX12_isShut 65 = .ok (.goto (-59), 3) := by decide +kernel
theorem dX12_isShut_68 : decode cX12_isShut 68 = .ok (.iload_n 1, 1) := by decide +kernel
theorem dX12_isShut_69 : decode cX12_isShut 69 = .ok (.ifCond .eq 11, 3) := by decide +kernel
theorem dX12_isShut_72 : decode cX12_isShut 72 = .ok (.iload_n 2, 1) := by decide +kernel
theorem dX12_isShut_73 : decode cX12_isShut 73 = .ok (.ifCond .eq 7, 3) := by decide +kernel
theorem dX12_isShut_76 : decode cX12_isShut 76 = .ok (.iconst 1, 1) := by decide +kernel
theorem dX12_isShut_77 : decode cX12_isShut 77 = .ok (.goto 4, 3) := by decide +kernel
theorem dX12_isShut_80 : decode cX12_isShut 80 = .ok (.iconst 0, 1) := by decide +kernel
theorem dX12_isShut_81 : decode cX12_isShut 81 = .ok (.ireturn, 1) := by decide +kernel
theorem dX12_lookedBy_0 : decode cX12_lookedBy 0 = .ok (.iload_n 0, 1) := by decide +kernel
theorem dX12_lookedBy_1 : decode cX12_lookedBy 1 = .ok (.ifCond .ne 7, 3) := by decide +kernel
theorem dX12_lookedBy_4 : decode cX12_lookedBy 4 = .ok (.iconst 1, 1) := by decide +kernel
theorem dX12_lookedBy_5 : decode cX12_lookedBy 5 = .ok (.goto 32, 3) := by decide +kernel
theorem dX12_lookedBy_8 : decode cX12_lookedBy 8 = .ok (.iload_n 0, 1) := by decide +kernel
theorem dX12_lookedBy_9 : decode cX12_lookedBy 9 = .ok (.iconst 3, 1) := by decide +kernel
theorem dX12_lookedBy_10 : decode cX12_lookedBy 10 = .ok (.if_icmp .ne 7, 3) := by decide +kernel
theorem dX12_lookedBy_13 : decode cX12_lookedBy 13 = .ok (.iconst 2, 1) := by decide +kernel
theorem dX12_lookedBy_14 : decode cX12_lookedBy 14 = .ok (.goto 23, 3) := by decide +kernel
theorem dX12_lookedBy_17 : decode cX12_lookedBy 17 = .ok (.iload_n 0, 1) := by decide +kernel
theorem dX12_lookedBy_18 : decode cX12_lookedBy 18 = .ok (.iconst 4, 1) := by decide +kernel
theorem dX12_lookedBy_19 : decode cX12_lookedBy 19 = .ok (.if_icmp .ne 7, 3) := by decide +kernel
theorem dX12_lookedBy_22 : decode cX12_lookedBy 22 = .ok (.iconst 4, 1) := by decide +kernel
theorem dX12_lookedBy_23 : decode cX12_lookedBy 23 = .ok (.goto 14, 3) := by decide +kernel
theorem dX12_lookedBy_26 : decode cX12_lookedBy 26 = .ok (.iload_n 0, 1) := by decide +kernel
theorem dX12_lookedBy_27 : decode cX12_lookedBy 27 = .ok (.iconst 5, 1) := by decide +kernel
theorem dX12_lookedBy_28 : decode cX12_lookedBy 28 = .ok (.if_icmp .ne 8, 3) := by decide +kernel
theorem dX12_lookedBy_31 : decode cX12_lookedBy 31 = .ok (.bipush 8, 2) := by decide +kernel
theorem dX12_lookedBy_33 : decode cX12_lookedBy 33 = .ok (.goto 4, 3) := by decide +kernel
theorem dX12_lookedBy_36 : decode cX12_lookedBy 36 = .ok (.iconst 0, 1) := by decide +kernel
theorem dX12_lookedBy_37 : decode cX12_lookedBy 37 = .ok (.ireturn, 1) := by decide +kernel
theorem dX12_looksSo_0 : decode cX12_looksSo 0 = .ok (.iconst 1, 1) := by decide +kernel
theorem dX12_looksSo_1 : decode cX12_looksSo 1 = .ok (.istore_n 2, 1) := by decide +kernel
theorem dX12_looksSo_2 : decode cX12_looksSo 2 = .ok (.iconst 0, 1) := by decide +kernel
theorem dX12_looksSo_3 : decode cX12_looksSo 3 = .ok (.istore_n 3, 1) := by decide +kernel
theorem dX12_looksSo_4 : decode cX12_looksSo 4 = .ok (.iload_n 3, 1) := by decide +kernel
theorem dX12_looksSo_5 : decode cX12_looksSo 5 = .ok (.aload_n 0, 1) := by decide +kernel
theorem dX12_looksSo_6 : decode cX12_looksSo 6 = .ok (.getfield 236, 3) := by decide +kernel
theorem dX12_looksSo_9 : decode cX12_looksSo 9 = .ok (.if_icmp .ge 41, 3) := by decide +kernel
theorem dX12_looksSo_12 : decode cX12_looksSo 12 = .ok (.iload_n 2, 1) := by decide +kernel
theorem dX12_looksSo_13 : decode cX12_looksSo 13 = .ok (.ifCond .eq 29, 3) := by decide +kernel
theorem dX12_looksSo_16 : decode cX12_looksSo 16 = .ok (.aload_n 0, 1) := by decide +kernel
theorem dX12_looksSo_17 : decode cX12_looksSo 17 = .ok (.getfield 9, 3) := by decide +kernel
theorem dX12_looksSo_20 : decode cX12_looksSo 20 = .ok (.iload_n 3, 1) := by decide +kernel
theorem dX12_looksSo_21 : decode cX12_looksSo 21 = .ok (.iaload, 1) := by decide +kernel
theorem dX12_looksSo_22 : decode cX12_looksSo 22 = .ok (.invokestatic 281, 3) := by decide +kernel
theorem dX12_looksSo_25 : decode cX12_looksSo 25 = .ok (.iload_n 1, 1) := by decide +kernel
theorem dX12_looksSo_26 : decode cX12_looksSo 26 = .ok (.iand, 1) := by decide +kernel
theorem dX12_looksSo_27 : decode cX12_looksSo 27 = .ok (.ifCond .eq 11, 3) := by decide +kernel
theorem dX12_looksSo_30 : decode cX12_looksSo 30 = .ok (.aload_n 0, 1) := by decide +kernel
theorem dX12_looksSo_31 : decode cX12_looksSo 31 = .ok (.iload_n 3, 1) := by decide +kernel
theorem dX12_looksSo_32 : decode cX12_looksSo 32 = .ok (.invokevirtual 278, 3) := by decide +kernel
theorem dX12_looksSo_35 : decode cX12_looksSo 35 = .ok (.ifCond .eq 7, 3) := by decide +kernel
theorem dX12_looksSo_38 : decode cX12_looksSo 38 = .ok (.iconst 1, 1) := by decide +kernel
theorem dX12_looksSo_39 : decode cX12_looksSo 39 = .ok (.goto 4, 3) := by decide +kernel
theorem dX12_looksSo_42 : decode cX12_looksSo 42 = .ok (.iconst 0, 1) := by decide +kernel
theorem dX12_looksSo_43 : decode cX12_looksSo 43 = .ok (.istore_n 2, 1) := by decide +kernel
theorem dX12_looksSo_44 : decode cX12_looksSo 44 = .ok (.iinc 3 1, 3) := by decide +kernel
theorem dX12_looksSo_47 : decode cX12_looksSo 47 = .ok (.goto (-43), 3) := by decide +kernel
theorem dX12_looksSo_50 : decode cX12_looksSo 50 = .ok (.iload_n 2, 1) := by decide +kernel
theorem dX12_looksSo_51 : decode cX12_looksSo 51 = .ok (.ireturn, 1) := by decide +kernel
theorem dX12_isUnlike_0 : decode cX12_isUnlike 0 = .ok (.aload_n 0, 1) := by decide +kernel
theorem dX12_isUnlike_1 : decode cX12_isUnlike 1 = .ok (.iload_n 1, 1) := by decide +kernel
theorem dX12_isUnlike_2 : decode cX12_isUnlike 2 = .ok (.invokevirtual 285, 3) := by decide +kernel
theorem dX12_isUnlike_5 : decode cX12_isUnlike 5 = .ok (.ifCond .eq 14, 3) := by decide +kernel
theorem dX12_isUnlike_8 : decode cX12_isUnlike 8 = .ok (.aload_n 0, 1) := by decide +kernel
theorem dX12_isUnlike_9 : decode cX12_isUnlike 9 = .ok (.invokevirtual 288, 3) := by decide +kernel
theorem dX12_isUnlike_12 : decode cX12_isUnlike 12 = .ok (.ifCond .ne 7, 3) := by decide +kernel
theorem dX12_isUnlike_15 : decode cX12_isUnlike 15 = .ok (.iconst 1, 1) := by decide +kernel
theorem dX12_isUnlike_16 : decode cX12_isUnlike 16 = .ok (.goto 4, 3) := by decide +kernel
theorem dX12_isUnlike_19 : decode cX12_isUnlike 19 = .ok (.iconst 0, 1) := by decide +kernel
theorem dX12_isUnlike_20 : decode cX12_isUnlike 20 = .ok (.ireturn, 1) := by decide +kernel
theorem dX12_judged_0 : decode cX12_judged 0 = .ok (.aload_n 0, 1) := by decide +kernel
theorem dX12_judged_1 : decode cX12_judged 1 = .ok (.iload_n 1, 1) := by decide +kernel
theorem dX12_judged_2 : decode cX12_judged 2 = .ok (.invokevirtual 262, 3) := by decide +kernel
theorem dX12_judged_5 : decode cX12_judged 5 = .ok (.ifCond .eq 27, 3) := by decide +kernel
theorem dX12_judged_8 : decode cX12_judged 8 = .ok (.iload_n 2, 1) := by decide +kernel
theorem dX12_judged_9 : decode cX12_judged 9 = .ok (.i2l, 1) := by decide +kernel
theorem dX12_judged_10 : decode cX12_judged 10 = .ok (.lconst 0, 1) := by decide +kernel
theorem dX12_judged_11 : decode cX12_judged 11 = .ok (.ldc2_w 292, 3) := by decide +kernel
theorem dX12_judged_14 : decode cX12_judged 14 = .ok (.invokestatic 229, 3) := by decide +kernel
theorem dX12_judged_17 : decode cX12_judged 17 = .ok (.ifCond .eq 15, 3) := by decide +kernel
theorem dX12_judged_20 : decode cX12_judged 20 = .ok (.iload_n 3, 1) := by decide +kernel
theorem dX12_judged_21 : decode cX12_judged 21 = .ok (.i2l, 1) := by decide +kernel
theorem dX12_judged_22 : decode cX12_judged 22 = .ok (.lconst 0, 1) := by decide +kernel
theorem dX12_judged_23 : decode cX12_judged 23 = .ok (.ldc2_w 294, 3) := by decide +kernel
theorem dX12_judged_26 : decode cX12_judged 26 = .ok (.invokestatic 229, 3) := by decide +kernel
theorem dX12_judged_29 : decode cX12_judged 29 = .ok (.ifCond .ne 5, 3) := by decide +kernel
theorem dX12_judged_32 : decode cX12_judged 32 = .ok (.iconst (-1), 1) := by decide +kernel
theorem dX12_judged_33 : decode cX12_judged 33 = .ok (.ireturn, 1) := by decide +kernel
theorem dX12_judged_34 : decode cX12_judged 34 = .ok (.aload_n 0, 1) := by decide +kernel
theorem dX12_judged_35 : decode cX12_judged 35 = .ok (.iload_n 1, 1) := by decide +kernel
theorem dX12_judged_36 : decode cX12_judged 36 = .ok (.invokevirtual 270, 3) := by decide +kernel
theorem dX12_judged_39 : decode cX12_judged 39 = .ok (.iload_n 2, 1) := by decide +kernel
theorem dX12_judged_40 : decode cX12_judged 40 = .ok (.ifCond .ne 10, 3) := by decide +kernel
theorem dX12_judged_43 : decode cX12_judged 43 = .ok (.aload_n 0, 1) := by decide +kernel
theorem dX12_judged_44 : decode cX12_judged 44 = .ok (.invokevirtual 288, 3) := by decide +kernel
theorem dX12_judged_47 : decode cX12_judged 47 = .ok (.goto 21, 3) := by decide +kernel
theorem dX12_judged_50 : decode cX12_judged 50 = .ok (.iload_n 2, 1) := by decide +kernel
theorem dX12_judged_51 : decode cX12_judged 51 = .ok (.iconst 1, 1) := by decide +kernel
theorem dX12_judged_52 : decode cX12_judged 52 = .ok (.if_icmp .ne 11, 3) := by decide +kernel
theorem dX12_judged_55 : decode cX12_judged 55 = .ok (.aload_n 0, 1) := by decide +kernel
theorem dX12_judged_56 : decode cX12_judged 56 = .ok (.iload_n 3, 1) := by decide +kernel
theorem dX12_judged_57 : decode cX12_judged 57 = .ok (.invokevirtual 285, 3) := by decide +kernel
theorem dX12_judged_60 : decode cX12_judged 60 = .ok (.goto 8, 3) := by decide +kernel
theorem dX12_judged_63 : decode cX12_judged 63 = .ok (.aload_n 0, 1) := by decide +kernel
theorem dX12_judged_64 : decode cX12_judged 64 = .ok (.iload_n 3, 1) := by decide +kernel
theorem dX12_judged_65 : decode cX12_judged 65 = .ok (.invokevirtual 296, 3) := by decide +kernel
theorem dX12_judged_68 : decode cX12_judged 68 = .ok (.istore 4, 2) := by decide +kernel
theorem dX12_judged_70 : decode cX12_judged 70 = .ok (.iload 4, 2) := by decide +kernel
theorem dX12_judged_72 : decode cX12_judged 72 = .ok (.ifCond .eq 7, 3) := by decide +kernel
theorem dX12_judged_75 : decode cX12_judged 75 = .ok (.iconst 1, 1) := by decide +kernel
theorem dX12_judged_76 : decode cX12_judged 76 = .ok (.goto 4, 3) := by decide +kernel
theorem dX12_judged_79 : decode cX12_judged 79 = .ok (.iconst 0, 1) := by decide +kernel
theorem dX12_judged_80 : decode cX12_judged 80 = .ok (.ireturn, 1) := by decide +kernel
theorem dX12_alters_0 : decode cX12_alters 0 = .ok (.iconst 0, 1) := by decide +kernel
theorem dX12_alters_1 : decode cX12_alters 1 = .ok (.istore_n 2, 1) := by decide +kernel
theorem dX12_alters_2 : decode cX12_alters 2 = .ok (.iload_n 2, 1) := by decide +kernel
theorem dX12_alters_3 : decode cX12_alters 3 = .ok (.aload_n 0, 1) := by decide +kernel
theorem dX12_alters_4 : decode cX12_alters 4 = .ok (.getfield 299, 3) := by decide +kernel
theorem dX12_alters_7 : decode cX12_alters 7 = .ok (.if_icmp .ge 78, 3) := by decide +kernel
theorem dX12_alters_10 : decode cX12_alters 10 = .ok (.iload_n 1, 1) := by decide +kernel
theorem dX12_alters_11 : decode cX12_alters 11 = .ok (.iload_n 2, 1) := by decide +kernel
theorem dX12_alters_12 : decode cX12_alters 12 = .ok (.ishr, 1) := by decide +kernel
theorem dX12_alters_13 : decode cX12_alters 13 = .ok (.iconst 1, 1) := by decide +kernel
theorem dX12_alters_14 : decode cX12_alters 14 = .ok (.iand, 1) := by decide +kernel
theorem dX12_alters_15 : decode cX12_alters 15 = .ok (.iconst 1, 1) := by decide +kernel
theorem dX12_alters_16 : decode cX12_alters 16 = .ok (.if_icmp .ne 63, 3) := by decide +kernel
theorem dX12_alters_19 : decode cX12_alters 19 = .ok (.aload_n 0, 1) := by decide +kernel
theorem dX12_alters_20 : decode cX12_alters 20 = .ok (.getfield 52, 3) := by decide +kernel
theorem dX12_alters_23 : decode cX12_alters 23 = .ok (.aload_n 0, 1) := by decide +kernel
theorem dX12_alters_24 : decode cX12_alters 24 = .ok (.getfield 73, 3) := by decide +kernel
theorem dX12_alters_27 : decode cX12_alters 27 = .ok (.iload_n 2, 1) := by decide +kernel
theorem dX12_alters_28 : decode cX12_alters 28 = .ok (.iaload, 1) := by decide +kernel
theorem dX12_alters_29 : decode cX12_alters 29 = .ok (.dup2, 1) := by decide +kernel
theorem dX12_alters_30 : decode cX12_alters 30 = .ok (.iaload, 1) := by decide +kernel
theorem dX12_alters_31 : decode cX12_alters 31 = .ok (.aload_n 0, 1) := by decide +kernel
theorem dX12_alters_32 : decode cX12_alters 32 = .ok (.getfield 76, 3) := by decide +kernel
theorem dX12_alters_35 : decode cX12_alters 35 = .ok (.iload_n 2, 1) := by decide +kernel
theorem dX12_alters_36 : decode cX12_alters 36 = .ok (.iaload, 1) := by decide +kernel
theorem dX12_alters_37 : decode cX12_alters 37 = .ok (.isub, 1) := by decide +kernel
theorem dX12_alters_38 : decode cX12_alters 38 = .ok (.iastore, 1) := by decide +kernel
theorem dX12_alters_39 : decode cX12_alters 39 = .ok (.aload_n 0, 1) := by decide +kernel
theorem dX12_alters_40 : decode cX12_alters 40 = .ok (.getfield 55, 3) := by decide +kernel
theorem dX12_alters_43 : decode cX12_alters 43 = .ok (.aload_n 0, 1) := by decide +kernel
theorem dX12_alters_44 : decode cX12_alters 44 = .ok (.getfield 73, 3) := by decide +kernel
theorem dX12_alters_47 : decode cX12_alters 47 = .ok (.iload_n 2, 1) := by decide +kernel
theorem dX12_alters_48 : decode cX12_alters 48 = .ok (.iaload, 1) := by decide +kernel
theorem dX12_alters_49 : decode cX12_alters 49 = .ok (.dup2, 1) := by decide +kernel
theorem dX12_alters_50 : decode cX12_alters 50 = .ok (.iaload, 1) := by decide +kernel
theorem dX12_alters_51 : decode cX12_alters 51 = .ok (.aload_n 0, 1) := by decide +kernel
theorem dX12_alters_52 : decode cX12_alters 52 = .ok (.getfield 79, 3) := by decide +kernel
theorem dX12_alters_55 : decode cX12_alters 55 = .ok (.iload_n 2, 1) := by decide +kernel
theorem dX12_alters_56 : decode cX12_alters 56 = .ok (.iaload, 1) := by decide +kernel
theorem dX12_alters_57 : decode cX12_alters 57 = .ok (.iadd, 1) := by decide +kernel
theorem dX12_alters_58 : decode cX12_alters 58 = .ok (.iastore, 1) := by decide +kernel
theorem dX12_alters_59 : decode cX12_alters 59 = .ok (.aload_n 0, 1) := by decide +kernel
theorem dX12_alters_60 : decode cX12_alters 60 = .ok (.getfield 58, 3) := by decide +kernel
theorem dX12_alters_63 : decode cX12_alters 63 = .ok (.aload_n 0, 1) := by decide +kernel
theorem dX12_alters_64 : decode cX12_alters 64 = .ok (.getfield 73, 3) := by decide +kernel
theorem dX12_alters_67 : decode cX12_alters 67 = .ok (.iload_n 2, 1) := by decide +kernel
theorem dX12_alters_68 : decode cX12_alters 68 = .ok (.iaload, 1) := by decide +kernel
theorem dX12_alters_69 : decode cX12_alters 69 = .ok (.dup2, 1) := by decide +kernel
theorem dX12_alters_70 : decode cX12_alters 70 = .ok (.iaload, 1) := by decide +kernel
theorem dX12_alters_71 : decode cX12_alters 71 = .ok (.aload_n 0, 1) := by decide +kernel
theorem dX12_alters_72 : decode cX12_alters 72 = .ok (.getfield 82, 3) := by decide +kernel
theorem dX12_alters_75 : decode cX12_alters 75 = .ok (.iload_n 2, 1) := by decide +kernel
theorem dX12_alters_76 : decode cX12_alters 76 = .ok (.iaload, 1) := by decide +kernel
theorem dX12_alters_77 : decode cX12_alters 77 = .ok (.iadd, 1) := by decide +kernel
theorem dX12_alters_78 : decode cX12_alters 78 = .ok (.iastore, 1) := by decide +kernel
theorem dX12_alters_79 : decode cX12_alters 79 = .ok (.iinc 2 1, 3) := by decide +kernel
theorem dX12_alters_82 : decode cX12_alters 82 = .ok (.goto (-80), 3) := by decide +kernel
theorem dX12_alters_85 : decode cX12_alters 85 = .ok (.iconst 0, 1) := by decide +kernel
theorem dX12_alters_86 : decode cX12_alters 86 = .ok (.istore_n 2, 1) := by decide +kernel
theorem dX12_alters_87 : decode cX12_alters 87 = .ok (.iload_n 2, 1) := by decide +kernel
theorem dX12_alters_88 : decode cX12_alters 88 = .ok (.aload_n 0, 1) := by decide +kernel
theorem dX12_alters_89 : decode cX12_alters 89 = .ok (.getfield 236, 3) := by decide +kernel
theorem dX12_alters_92 : decode cX12_alters 92 = .ok (.if_icmp .ge 34, 3) := by decide +kernel
theorem dX12_alters_95 : decode cX12_alters 95 = .ok (.aload_n 0, 1) := by decide +kernel
theorem dX12_alters_96 : decode cX12_alters 96 = .ok (.getfield 52, 3) := by decide +kernel
theorem dX12_alters_99 : decode cX12_alters 99 = .ok (.iload_n 2, 1) := by decide +kernel
theorem dX12_alters_100 : decode cX12_alters 100 = .ok (.aload_n 0, 1) := by decide +kernel
theorem dX12_alters_101 : decode cX12_alters 101 = .ok (.getfield 52, 3) := by decide +kernel
theorem dX12_alters_104 : decode cX12_alters 104 = .ok (.iload_n 2, 1) := by decide +kernel
theorem dX12_alters_105 : decode cX12_alters 105 = .ok (.iaload, 1) := by decide +kernel
theorem dX12_alters_106 : decode cX12_alters 106 = .ok (.ifCond .ge 7, 3) := by decide +kernel
theorem dX12_alters_109 : decode cX12_alters 109 = .ok (.iconst 0, 1) := by decide +kernel
theorem dX12_alters_110 : decode cX12_alters 110 = .ok (.goto 9, 3) := by decide +kernel
theorem dX12_alters_113 : decode cX12_alters 113 = .ok (.aload_n 0, 1) := by decide +kernel
theorem dX12_alters_114 : decode cX12_alters 114 = .ok (.getfield 52, 3) := by decide +kernel
theorem dX12_alters_117 : decode cX12_alters 117 = .ok (.iload_n 2, 1) := by decide +kernel
theorem dX12_alters_118 : decode cX12_alters 118 = .ok (.iaload, 1) := by decide +kernel
theorem dX12_alters_119 : decode cX12_alters 119 = .ok (.iastore, 1) := by decide +kernel
theorem dX12_alters_120 : decode cX12_alters 120 = .ok (.iinc 2 1, 3) := by decide +kernel
theorem dX12_alters_123 : decode cX12_alters 123 = .ok (.goto (-36), 3) := by decide +kernel
theorem dX12_alters_126 : decode cX12_alters 126 = .ok (.return_, 1) := by decide +kernel
theorem dX12_unlikes_0 : decode cX12_unlikes 0 = .ok (.aload_n 0, 1) := by decide +kernel
theorem dX12_unlikes_1 : decode cX12_unlikes 1 = .ok (.iload_n 1, 1) := by decide +kernel
theorem dX12_unlikes_2 : decode cX12_unlikes 2 = .ok (.invokevirtual 270, 3) := by decide +kernel
theorem dX12_unlikes_5 : decode cX12_unlikes 5 = .ok (.aload_n 0, 1) := by decide +kernel
theorem dX12_unlikes_6 : decode cX12_unlikes 6 = .ok (.iload 7, 2) := by decide +kernel
theorem dX12_unlikes_8 : decode cX12_unlikes 8 = .ok (.invokevirtual 302, 3) := by decide +kernel
theorem dX12_unlikes_11 : decode cX12_unlikes 11 = .ok (.iconst 0, 1) := by decide +kernel
theorem dX12_unlikes_12 : decode cX12_unlikes 12 = .ok (.istore 9, 2) := by decide +kernel
theorem dX12_unlikes_14 : decode cX12_unlikes 14 = .ok (.iconst 0, 1) := by decide +kernel
theorem dX12_unlikes_15 : decode cX12_unlikes 15 = .ok (.istore 10, 2) := by decide +kernel
theorem dX12_unlikes_17 : decode cX12_unlikes 17 = .ok (.iload 10, 2) := by decide +kernel
theorem dX12_unlikes_19 : decode cX12_unlikes 19 = .ok (.iload 4, 2) := by decide +kernel
theorem dX12_unlikes_21 : decode cX12_unlikes 21 = .ok (.if_icmp .gt 79, 3) := by decide +kernel
theorem dX12_unlikes_24 : decode cX12_unlikes 24 = .ok (.iconst 0, 1) := by decide +kernel
theorem dX12_unlikes_25 : decode cX12_unlikes 25 = .ok (.istore 11, 2) := by decide +kernel
theorem dX12_unlikes_27 : decode cX12_unlikes 27 = .ok (.iload 11, 2) := by decide +kernel
theorem dX12_unlikes_29 : decode cX12_unlikes 29 = .ok (.iload 4, 2) := by decide +kernel
theorem dX12_unlikes_31 : decode cX12_unlikes 31 = .ok (.if_icmp .gt 63, 3) := by decide +kernel
theorem dX12_unlikes_34 : decode cX12_unlikes 34 = .ok (.aload_n 0, 1) := by decide +kernel
theorem dX12_unlikes_35 : decode cX12_unlikes 35 = .ok (.getfield 61, 3) := by decide +kernel
theorem dX12_unlikes_38 : decode cX12_unlikes 38 = .ok (.iload_n 2, 1) := by decide +kernel
theorem dX12_unlikes_39 : decode cX12_unlikes 39 = .ok (.iload 10, 2) := by decide +kernel
theorem dX12_unlikes_41 : decode cX12_unlikes 41 = .ok (.iastore, 1) := by decide +kernel
theorem dX12_unlikes_42 : decode cX12_unlikes 42 = .ok (.aload_n 0, 1) := by decide +kernel
theorem dX12_unlikes_43 : decode cX12_unlikes 43 = .ok (.getfield 61, 3) := by decide +kernel
theorem dX12_unlikes_46 : decode cX12_unlikes 46 = .ok (.iload_n 3, 1) := by decide +kernel
theorem dX12_unlikes_47 : decode cX12_unlikes 47 = .ok (.iload 11, 2) := by decide +kernel
theorem dX12_unlikes_49 : decode cX12_unlikes 49 = .ok (.iastore, 1) := by decide +kernel
theorem dX12_unlikes_50 : decode cX12_unlikes 50 = .ok (.aload_n 0, 1) := by decide +kernel
theorem dX12_unlikes_51 : decode cX12_unlikes 51 = .ok (.sipush 999, 3) := by decide +kernel
theorem dX12_unlikes_54 : decode cX12_unlikes 54 = .ok (.iload 5, 2) := by decide +kernel
theorem dX12_unlikes_56 : decode cX12_unlikes 56 = .ok (.invokevirtual 274, 3) := by decide +kernel
theorem dX12_unlikes_59 : decode cX12_unlikes 59 = .ok (.pop, 1) := by decide +kernel
theorem dX12_unlikes_60 : decode cX12_unlikes 60 = .ok (.aload_n 0, 1) := by decide +kernel
theorem dX12_unlikes_61 : decode cX12_unlikes 61 = .ok (.iload 6, 2) := by decide +kernel
theorem dX12_unlikes_63 : decode cX12_unlikes 63 = .ok (.invokevirtual 296, 3) := by decide +kernel
theorem dX12_unlikes_66 : decode cX12_unlikes 66 = .ok (.ifCond .eq 22, 3) := by decide +kernel
theorem dX12_unlikes_69 : decode cX12_unlikes 69 = .ok (.iload 9, 2) := by decide +kernel
theorem dX12_unlikes_71 : decode cX12_unlikes 71 = .ok (.iload 8, 2) := by decide +kernel
theorem dX12_unlikes_73 : decode cX12_unlikes 73 = .ok (.if_icmp .ne 12, 3) := by decide +kernel
theorem dX12_unlikes_76 : decode cX12_unlikes 76 = .ok (.bipush 16, 2) := by decide +kernel
theorem dX12_unlikes_78 : decode cX12_unlikes 78 = .ok (.iload 10, 2) := by decide +kernel
theorem dX12_unlikes_80 : decode cX12_unlikes 80 = .ok (.imul, 1) := by decide +kernel
theorem dX12_unlikes_81 : decode cX12_unlikes 81 = .ok (.iload 11, 2) := by decide +kernel
theorem dX12_unlikes_83 : decode cX12_unlikes 83 = .ok (.iadd, 1) := by decide +kernel
theorem dX12_unlikes_84 : decode cX12_unlikes 84 = .ok (.ireturn, 1) := by decide +kernel
theorem dX12_unlikes_85 : decode cX12_unlikes 85 = .ok (.iinc 9 1, 3) := by decide +kernel
theorem dX12_unlikes_88 : decode cX12_unlikes 88 = .ok (.iinc 11 1, 3) := by decide +kernel
theorem dX12_unlikes_91 : decode cX12_unlikes 91 = .ok (.goto (-64), 3) := by decide +kernel
theorem dX12_unlikes_94 : decode cX12_unlikes 94 = .ok (.iinc 10 1, 3) := by decide +kernel
theorem dX12_unlikes_97 : decode cX12_unlikes 97 = .ok (.goto (-80), 3) := by decide +kernel
theorem dX12_unlikes_100 : decode cX12_unlikes 100 = .ok (.iload 8, 2) := by decide +kernel
theorem dX12_unlikes_102 : decode cX12_unlikes 102 = .ok (.iconst (-1), 1) := by decide +kernel
theorem dX12_unlikes_103 : decode cX12_unlikes 103 = .ok (.if_icmp .ne 8, 3) := by decide +kernel
theorem dX12_unlikes_106 : decode cX12_unlikes 106 = .ok (.iload 9, 2) := by decide +kernel
theorem dX12_unlikes_108 : decode cX12_unlikes 108 = .ok (.goto 4, 3) := by decide +kernel
theorem dX12_unlikes_111 : decode cX12_unlikes 111 = .ok (.iconst (-1), 1) := by decide +kernel
theorem dX12_unlikes_112 : decode cX12_unlikes 112 = .ok (.ireturn, 1) := by decide +kernel
theorem dX12_isTrial_0 : decode cX12_isTrial 0 = .ok (.aload_n 0, 1) := by decide +kernel
theorem dX12_isTrial_1 : decode cX12_isTrial 1 = .ok (.iload_n 1, 1) := by decide +kernel
theorem dX12_isTrial_2 : decode cX12_isTrial 2 = .ok (.invokevirtual 262, 3) := by decide +kernel
theorem dX12_isTrial_5 : decode cX12_isTrial 5 = .ok (.ifCond .eq 67, 3) := by decide +kernel
theorem dX12_isTrial_8 : decode cX12_isTrial 8 = .ok (.aload_n 0, 1) := by decide +kernel
theorem dX12_isTrial_9 : decode cX12_isTrial 9 = .ok (.iload_n 2, 1) := by decide +kernel
theorem dX12_isTrial_10 : decode cX12_isTrial 10 = .ok (.invokevirtual 242, 3) := by decide +kernel
theorem dX12_isTrial_13 : decode cX12_isTrial 13 = .ok (.ifCond .eq 59, 3) := by decide +kernel
theorem dX12_isTrial_16 : decode cX12_isTrial 16 = .ok (.aload_n 0, 1) := by decide +kernel
theorem dX12_isTrial_17 : decode cX12_isTrial 17 = .ok (.iload_n 3, 1) := by decide +kernel
theorem dX12_isTrial_18 : decode cX12_isTrial 18 = .ok (.invokevirtual 242, 3) := by decide +kernel
theorem dX12_isTrial_21 : decode cX12_isTrial 21 = .ok (.ifCond .eq 51, 3) := by decide +kernel
theorem dX12_isTrial_24 : decode cX12_isTrial 24 = .ok (.iload_n 2, 1) := by decide +kernel
theorem dX12_isTrial_25 : decode cX12_isTrial 25 = .ok (.iload_n 3, 1) := by decide +kernel
theorem dX12_isTrial_26 : decode cX12_isTrial 26 = .ok (.if_icmp .eq 46, 3) := by decide +kernel
theorem dX12_isTrial_29 : decode cX12_isTrial 29 = .ok (.iload 4, 2) := by decide +kernel
theorem dX12_isTrial_31 : decode cX12_isTrial 31 = .ok (.i2l, 1) := by decide +kernel
theorem dX12_isTrial_32 : decode cX12_isTrial 32 = .ok (.lconst 0, 1) := by decide +kernel
theorem dX12_isTrial_33 : decode cX12_isTrial 33 = .ok (.ldc2_w 294, 3) := by decide +kernel
theorem dX12_isTrial_36 : decode cX12_isTrial 36 = .ok (.invokestatic 229, 3) := by decide +kernel
theorem dX12_isTrial_39 : decode cX12_isTrial 39 = .ok (.ifCond .eq 33, 3) := by decide +kernel
theorem dX12_isTrial_42 : decode cX12_isTrial 42 = .ok (.iload 5, 2) := by decide +kernel
theorem dX12_isTrial_44 : decode cX12_isTrial 44 = .ok (.i2l, 1) := by decide +kernel
theorem dX12_isTrial_45 : decode cX12_isTrial 45 = .ok (.lconst 0, 1) := by decide +kernel
theorem dX12_isTrial_46 : decode cX12_isTrial 46 = .ok (.ldc2_w 256, 3) := by decide +kernel
theorem dX12_isTrial_49 : decode cX12_isTrial 49 = .ok (.invokestatic 229, 3) := by decide +kernel
theorem dX12_isTrial_52 : decode cX12_isTrial 52 = .ok (.ifCond .eq 20, 3) := by decide +kernel
theorem dX12_isTrial_55 : decode cX12_isTrial 55 = .ok (.iload 6, 2) := by decide +kernel
theorem dX12_isTrial_57 : decode cX12_isTrial 57 = .ok (.i2l, 1) := by decide +kernel
theorem dX12_isTrial_58 : decode cX12_isTrial 58 = .ok (.lconst 0, 1) := by decide +kernel
theorem dX12_isTrial_59 : decode cX12_isTrial 59 = .ok (.ldc2_w 294, 3) := by decide +kernel
theorem dX12_isTrial_62 : decode cX12_isTrial 62 = .ok (.invokestatic 229, 3) := by decide +kernel
theorem dX12_isTrial_65 : decode cX12_isTrial 65 = .ok (.ifCond .eq 7, 3) := by decide +kernel
theorem dX12_isTrial_68 : decode cX12_isTrial 68 = .ok (.iconst 1, 1) := by decide +kernel
theorem dX12_isTrial_69 : decode cX12_isTrial 69 = .ok (.goto 4, 3) := by decide +kernel
theorem dX12_isTrial_72 : decode cX12_isTrial 72 = .ok (.iconst 0, 1) := by decide +kernel
theorem dX12_isTrial_73 : decode cX12_isTrial 73 = .ok (.ireturn, 1) := by decide +kernel
theorem dX12_tried_0 : decode cX12_tried 0 = .ok (.aload_n 0, 1) := by decide +kernel
theorem dX12_tried_1 : decode cX12_tried 1 = .ok (.iload_n 1, 1) := by decide +kernel
theorem dX12_tried_2 : decode cX12_tried 2 = .ok (.iload_n 2, 1) := by decide +kernel
theorem dX12_tried_3 : decode cX12_tried 3 = .ok (.iload_n 3, 1) := by decide +kernel
theorem dX12_tried_4 : decode cX12_tried 4 = .ok (.iload 4, 2) := by decide +kernel
theorem dX12_tried_6 : decode cX12_tried 6 = .ok (.iload 5, 2) := by decide +kernel
theorem dX12_tried_8 : decode cX12_tried 8 = .ok (.iload 6, 2) := by decide +kernel
theorem dX12_tried_10 : decode cX12_tried 10 = .ok (.invokevirtual 305, 3) := by decide +kernel
theorem dX12_tried_13 : decode cX12_tried 13 = .ok (.ifCond .eq 22, 3) := by decide +kernel
theorem dX12_tried_16 : decode cX12_tried 16 = .ok (.aload_n 0, 1) := by decide +kernel
theorem dX12_tried_17 : decode cX12_tried 17 = .ok (.iload_n 1, 1) := by decide +kernel
theorem dX12_tried_18 : decode cX12_tried 18 = .ok (.iload_n 2, 1) := by decide +kernel
theorem dX12_tried_19 : decode cX12_tried 19 = .ok (.iload_n 3, 1) := by decide +kernel
theorem dX12_tried_20 : decode cX12_tried 20 = .ok (.iload 4, 2) := by decide +kernel
theorem dX12_tried_22 : decode cX12_tried 22 = .ok (.iload 5, 2) := by decide +kernel
theorem dX12_tried_24 : decode cX12_tried 24 = .ok (.iload 6, 2) := by decide +kernel
theorem dX12_tried_26 : decode cX12_tried 26 = .ok (.iconst 0, 1) := by decide +kernel
theorem dX12_tried_27 : decode cX12_tried 27 = .ok (.iload 7, 2) := by decide +kernel
theorem dX12_tried_29 : decode cX12_tried 29 = .ok (.invokevirtual 309, 3) := by decide +kernel
theorem dX12_tried_32 : decode cX12_tried 32 = .ok (.goto 4, 3) := by decide +kernel
theorem dX12_tried_35 : decode cX12_tried 35 = .ok (.iconst (-1), 1) := by decide +kernel
theorem dX12_tried_36 : decode cX12_tried 36 = .ok (.ireturn, 1) := by decide +kernel
theorem dX12_change_0 : decode cX12_change 0 = .ok (.aload_n 0, 1) := by decide +kernel
theorem dX12_change_1 : decode cX12_change 1 = .ok (.getfield 299, 3) := by decide +kernel
theorem dX12_change_4 : decode cX12_change 4 = .ok (.bipush 8, 2) := by decide +kernel
theorem dX12_change_6 : decode cX12_change 6 = .ok (.if_icmp .eq 63, 3) := by decide +kernel
theorem dX12_change_9 : decode cX12_change 9 = .ok (.aload_n 0, 1) := by decide +kernel
theorem dX12_change_10 : decode cX12_change 10 = .ok (.iload_n 1, 1) := by decide +kernel
theorem dX12_change_11 : decode cX12_change 11 = .ok (.invokevirtual 242, 3) := by decide +kernel
theorem dX12_change_14 : decode cX12_change 14 = .ok (.ifCond .eq 55, 3) := by decide +kernel
theorem dX12_change_17 : decode cX12_change 17 = .ok (.iload_n 2, 1) := by decide +kernel
theorem dX12_change_18 : decode cX12_change 18 = .ok (.i2l, 1) := by decide +kernel
theorem dX12_change_19 : decode cX12_change 19 = .ok (.lconst 0, 1) := by decide +kernel
theorem dX12_change_20 : decode cX12_change 20 = .ok (.ldc2_w 252, 3) := by decide +kernel
theorem dX12_change_23 : decode cX12_change 23 = .ok (.invokestatic 229, 3) := by decide +kernel
theorem dX12_change_26 : decode cX12_change 26 = .ok (.ifCond .eq 43, 3) := by decide +kernel
theorem dX12_change_29 : decode cX12_change 29 = .ok (.iload_n 3, 1) := by decide +kernel
theorem dX12_change_30 : decode cX12_change 30 = .ok (.i2l, 1) := by decide +kernel
theorem dX12_change_31 : decode cX12_change 31 = .ok (.ldc2_w 265, 3) := by decide +kernel
theorem dX12_change_34 : decode cX12_change 34 = .ok (.ldc2_w 252, 3) := by decide +kernel
theorem dX12_change_37 : decode cX12_change 37 = .ok (.invokestatic 229, 3) := by decide +kernel
theorem dX12_change_40 : decode cX12_change 40 = .ok (.ifCond .eq 29, 3) := by decide +kernel
theorem dX12_change_43 : decode cX12_change 43 = .ok (.iload 4, 2) := by decide +kernel
theorem dX12_change_45 : decode cX12_change 45 = .ok (.i2l, 1) := by decide +kernel
theorem dX12_change_46 : decode cX12_change 46 = .ok (.lconst 0, 1) := by decide +kernel
theorem dX12_change_47 : decode cX12_change 47 = .ok (.ldc2_w 256, 3) := by decide +kernel
theorem dX12_change_50 : decode cX12_change 50 = .ok (.invokestatic 229, 3) := by decide +kernel
theorem dX12_change_53 : decode cX12_change 53 = .ok (.ifCond .eq 16, 3) := by decide +kernel
theorem dX12_change_56 : decode cX12_change 56 = .ok (.iload 5, 2) := by decide +kernel
theorem dX12_change_58 : decode cX12_change 58 = .ok (.i2l, 1) := by decide +kernel
theorem dX12_change_59 : decode cX12_change 59 = .ok (.lconst 0, 1) := by decide +kernel
theorem dX12_change_60 : decode cX12_change 60 = .ok (.ldc2_w 256, 3) := by decide +kernel
theorem dX12_change_63 : decode cX12_change 63 = .ok (.invokestatic 229, 3) := by decide +kernel
theorem dX12_change_66 : decode cX12_change 66 = .ok (.ifCond .ne 5, 3) := by decide +kernel
theorem dX12_change_69 : decode cX12_change 69 = .ok (.iconst (-1), 1) := by decide +kernel
theorem dX12_change_70 : decode cX12_change 70 = .ok (.ireturn, 1) := by decide +kernel
theorem dX12_change_71 : decode cX12_change 71 = .ok (.aload_n 0, 1) := by decide +kernel
theorem dX12_change_72 : decode cX12_change 72 = .ok (.getfield 73, 3) := by decide +kernel
theorem dX12_change_75 : decode cX12_change 75 = .ok (.aload_n 0, 1) := by decide +kernel
theorem dX12_change_76 : decode cX12_change 76 = .ok (.getfield 299, 3) := by decide +kernel
theorem dX12_change_79 : decode cX12_change 79 = .ok (.iload_n 1, 1) := by decide +kernel
theorem dX12_change_80 : decode cX12_change 80 = .ok (.iastore, 1) := by decide +kernel
theorem dX12_change_81 : decode cX12_change 81 = .ok (.aload_n 0, 1) := by decide +kernel
theorem dX12_change_82 : decode cX12_change 82 = .ok (.getfield 76, 3) := by decide +kernel
theorem dX12_change_85 : decode cX12_change 85 = .ok (.aload_n 0, 1) := by decide +kernel
theorem dX12_change_86 : decode cX12_change 86 = .ok (.getfield 299, 3) := by decide +kernel
theorem dX12_change_89 : decode cX12_change 89 = .ok (.iload_n 2, 1) := by decide +kernel
theorem dX12_change_90 : decode cX12_change 90 = .ok (.iastore, 1) := by decide +kernel
theorem dX12_change_91 : decode cX12_change 91 = .ok (.aload_n 0, 1) := by decide +kernel
theorem dX12_change_92 : decode cX12_change 92 = .ok (.getfield 79, 3) := by decide +kernel
theorem dX12_change_95 : decode cX12_change 95 = .ok (.aload_n 0, 1) := by decide +kernel
theorem dX12_change_96 : decode cX12_change 96 = .ok (.getfield 299, 3) := by decide +kernel
theorem dX12_change_99 : decode cX12_change 99 = .ok (.iload_n 3, 1) := by decide +kernel
theorem dX12_change_100 : decode cX12_change 100 = .ok (.iastore, 1) := by decide +kernel
theorem dX12_change_101 : decode cX12_change 101 = .ok (.aload_n 0, 1) := by decide +kernel
theorem dX12_change_102 : decode cX12_change 102 = .ok (.getfield 82, 3) := by decide +kernel
theorem dX12_change_105 : decode cX12_change 105 = .ok (.aload_n 0, 1) := by decide +kernel
theorem dX12_change_106 : decode cX12_change 106 = .ok (.getfield 299, 3) := by decide +kernel
theorem dX12_change_109 : decode cX12_change 109 = .ok (.iload 4, 2) := by decide +kernel
theorem dX12_change_111 : decode cX12_change 111 = .ok (.iastore, 1) := by decide +kernel
theorem dX12_change_112 : decode cX12_change 112 = .ok (.aload_n 0, 1) := by decide +kernel
theorem dX12_change_113 : decode cX12_change 113 = .ok (.getfield 85, 3) := by decide +kernel
theorem dX12_change_116 : decode cX12_change 116 = .ok (.aload_n 0, 1) := by decide +kernel
theorem dX12_change_117 : decode cX12_change 117 = .ok (.getfield 299, 3) := by decide +kernel
theorem dX12_change_120 : decode cX12_change 120 = .ok (.iload 5, 2) := by decide +kernel
theorem dX12_change_122 : decode cX12_change 122 = .ok (.iastore, 1) := by decide +kernel
theorem dX12_change_123 : decode cX12_change 123 = .ok (.aload_n 0, 1) := by decide +kernel
theorem dX12_change_124 : decode cX12_change 124 = .ok (.dup, 1) := by decide +kernel
theorem dX12_change_125 : decode cX12_change 125 = .ok (.getfield 299, 3) := by decide +kernel
theorem dX12_change_128 : decode cX12_change 128 = .ok (.iconst 1, 1) := by decide +kernel
theorem dX12_change_129 : decode cX12_change 129 = .ok (.iadd, 1) := by decide +kernel
theorem dX12_change_130 : decode cX12_change 130 = .ok (.putfield 299, 3) := by decide +kernel
theorem dX12_change_133 : decode cX12_change 133 = .ok (.aload_n 0, 1) := by decide +kernel
theorem dX12_change_134 : decode cX12_change 134 = .ok (.getfield 299, 3) := by decide +kernel
theorem dX12_change_137 : decode cX12_change 137 = .ok (.iconst 1, 1) := by decide +kernel
theorem dX12_change_138 : decode cX12_change 138 = .ok (.isub, 1) := by decide +kernel
theorem dX12_change_139 : decode cX12_change 139 = .ok (.ireturn, 1) := by decide +kernel
theorem dX12_bits_0 : decode cX12_bits 0 = .ok (.iconst 0, 1) := by decide +kernel
theorem dX12_bits_1 : decode cX12_bits 1 = .ok (.istore_n 1, 1) := by decide +kernel
theorem dX12_bits_2 : decode cX12_bits 2 = .ok (.iload_n 0, 1) := by decide +kernel
theorem dX12_bits_3 : decode cX12_bits 3 = .ok (.istore_n 2, 1) := by decide +kernel
theorem dX12_bits_4 : decode cX12_bits 4 = .ok (.iload_n 2, 1) := by decide +kernel
theorem dX12_bits_5 : decode cX12_bits 5 = .ok (.ifCond .eq 15, 3) := by decide +kernel
theorem dX12_bits_8 : decode cX12_bits 8 = .ok (.iinc 1 1, 3) := by decide +kernel
theorem dX12_bits_11 : decode cX12_bits 11 = .ok (.iload_n 2, 1) := by decide +kernel
theorem dX12_bits_12 : decode cX12_bits 12 = .ok (.iload_n 2, 1) := by decide +kernel
theorem dX12_bits_13 : decode cX12_bits 13 = .ok (.iconst 1, 1) := by decide +kernel
theorem dX12_bits_14 : decode cX12_bits 14 = .ok (.isub, 1) := by decide +kernel
theorem dX12_bits_15 : decode cX12_bits 15 = .ok (.iand, 1) := by decide +kernel
theorem dX12_bits_16 : decode cX12_bits 16 = .ok (.istore_n 2, 1) := by decide +kernel
theorem dX12_bits_17 : decode cX12_bits 17 = .ok (.goto (-13), 3) := by decide +kernel
theorem dX12_bits_20 : decode cX12_bits 20 = .ok (.iload_n 1, 1) := by decide +kernel
theorem dX12_bits_21 : decode cX12_bits 21 = .ok (.ireturn, 1) := by decide +kernel
theorem dX12_cheapest_0 : decode cX12_cheapest 0 = .ok (.aload_n 0, 1) := by decide +kernel
theorem dX12_cheapest_1 : decode cX12_cheapest 1 = .ok (.iload_n 1, 1) := by decide +kernel
theorem dX12_cheapest_2 : decode cX12_cheapest 2 = .ok (.iload_n 2, 1) := by decide +kernel
theorem dX12_cheapest_3 : decode cX12_cheapest 3 = .ok (.iload_n 3, 1) := by decide +kernel
theorem dX12_cheapest_4 : decode cX12_cheapest 4 = .ok (.iload 4, 2) := by decide +kernel
theorem dX12_cheapest_6 : decode cX12_cheapest 6 = .ok (.iload 5, 2) := by decide +kernel
theorem dX12_cheapest_8 : decode cX12_cheapest 8 = .ok (.iload 6, 2) := by decide +kernel
theorem dX12_cheapest_10 : decode cX12_cheapest 10 = .ok (.invokevirtual 305, 3) := by decide +kernel
theorem dX12_cheapest_13 : decode cX12_cheapest 13 = .ok (.ifCond .ne 5, 3) := by decide +kernel
theorem dX12_cheapest_16 : decode cX12_cheapest 16 = .ok (.iconst (-1), 1) := by decide +kernel
theorem dX12_cheapest_17 : decode cX12_cheapest 17 = .ok (.ireturn, 1) := by decide +kernel
theorem dX12_cheapest_18 : decode cX12_cheapest 18 = .ok (.bipush (-2), 2) := by decide +kernel
theorem dX12_cheapest_20 : decode cX12_cheapest 20 = .ok (.istore 7, 2) := by decide +kernel
theorem dX12_cheapest_22 : decode cX12_cheapest 22 = .ok (.iconst 0, 1) := by decide +kernel
theorem dX12_cheapest_23 : decode cX12_cheapest 23 = .ok (.istore 8, 2) := by decide +kernel
theorem dX12_cheapest_25 : decode cX12_cheapest 25 = .ok (.iconst 0, 1) := by decide +kernel
theorem dX12_cheapest_26 : decode cX12_cheapest 26 = .ok (.istore 9, 2) := by decide +kernel
theorem dX12_cheapest_28 : decode cX12_cheapest 28 = .ok (.iload 9, 2) := by decide +kernel
theorem dX12_cheapest_30 : decode cX12_cheapest 30 = .ok (.iconst 1, 1) := by decide +kernel
theorem dX12_cheapest_31 : decode cX12_cheapest 31 = .ok (.aload_n 0, 1) := by decide +kernel
theorem dX12_cheapest_32 : decode cX12_cheapest 32 = .ok (.getfield 299, 3) := by decide +kernel
theorem dX12_cheapest_35 : decode cX12_cheapest 35 = .ok (.ishl, 1) := by decide +kernel
theorem dX12_cheapest_36 : decode cX12_cheapest 36 = .ok (.if_icmp .ge 131, 3) := by decide +kernel
theorem dX12_cheapest_39 : decode cX12_cheapest 39 = .ok (.iconst 0, 1) := by decide +kernel
theorem dX12_cheapest_40 : decode cX12_cheapest 40 = .ok (.istore 10, 2) := by decide +kernel
theorem dX12_cheapest_42 : decode cX12_cheapest 42 = .ok (.iconst 0, 1) := by decide +kernel
theorem dX12_cheapest_43 : decode cX12_cheapest 43 = .ok (.istore 11, 2) := by decide +kernel
theorem dX12_cheapest_45 : decode cX12_cheapest 45 = .ok (.iload 11, 2) := by decide +kernel
theorem dX12_cheapest_47 : decode cX12_cheapest 47 = .ok (.aload_n 0, 1) := by decide +kernel
theorem dX12_cheapest_48 : decode cX12_cheapest 48 = .ok (.getfield 299, 3) := by decide +kernel
theorem dX12_cheapest_51 : decode cX12_cheapest 51 = .ok (.if_icmp .ge 36, 3) := by decide +kernel
theorem dX12_cheapest_54 : decode cX12_cheapest 54 = .ok (.iload 10, 2) := by decide +kernel
theorem dX12_cheapest_56 : decode cX12_cheapest 56 = .ok (.iload 9, 2) := by decide +kernel
theorem dX12_cheapest_58 : decode cX12_cheapest 58 = .ok (.iload 11, 2) := by decide +kernel
theorem dX12_cheapest_60 : decode cX12_cheapest 60 = .ok (.ishr, 1) := by decide +kernel
theorem dX12_cheapest_61 : decode cX12_cheapest 61 = .ok (.iconst 1, 1) := by decide +kernel
theorem dX12_cheapest_62 : decode cX12_cheapest 62 = .ok (.iand, 1) := by decide +kernel
theorem dX12_cheapest_63 : decode cX12_cheapest 63 = .ok (.iconst 1, 1) := by decide +kernel
theorem dX12_cheapest_64 : decode cX12_cheapest 64 = .ok (.if_icmp .ne 13, 3) := by decide +kernel
theorem dX12_cheapest_67 : decode cX12_cheapest 67 = .ok (.aload_n 0, 1) := by decide +kernel
theorem dX12_cheapest_68 : decode cX12_cheapest 68 = .ok (.getfield 85, 3) := by decide +kernel
theorem dX12_cheapest_71 : decode cX12_cheapest 71 = .ok (.iload 11, 2) := by decide +kernel
theorem dX12_cheapest_73 : decode cX12_cheapest 73 = .ok (.iaload, 1) := by decide +kernel
theorem dX12_cheapest_74 : decode cX12_cheapest 74 = .ok (.goto 4, 3) := by decide +kernel
theorem dX12_cheapest_77 : decode cX12_cheapest 77 = .ok (.iconst 0, 1) := by decide +kernel
theorem dX12_cheapest_78 : decode cX12_cheapest 78 = .ok (.iadd, 1) := by decide +kernel
theorem dX12_cheapest_79 : decode cX12_cheapest 79 = .ok (.istore 10, 2) := by decide +kernel
theorem dX12_cheapest_81 : decode cX12_cheapest 81 = .ok (.iinc 11 1, 3) := by decide +kernel
theorem dX12_cheapest_84 : decode cX12_cheapest 84 = .ok (.goto (-39), 3) := by decide +kernel
theorem dX12_cheapest_87 : decode cX12_cheapest 87 = .ok (.iload 7, 2) := by decide +kernel
theorem dX12_cheapest_89 : decode cX12_cheapest 89 = .ok (.bipush (-2), 2) := by decide +kernel
theorem dX12_cheapest_91 : decode cX12_cheapest 91 = .ok (.if_icmp .eq 30, 3) := by decide +kernel
theorem dX12_cheapest_94 : decode cX12_cheapest 94 = .ok (.iload 10, 2) := by decide +kernel
theorem dX12_cheapest_96 : decode cX12_cheapest 96 = .ok (.iload 8, 2) := by decide +kernel
theorem dX12_cheapest_98 : decode cX12_cheapest 98 = .ok (.if_icmp .lt 23, 3) := by decide +kernel
theorem dX12_cheapest_101 : decode cX12_cheapest 101 = .ok (.iload 10, 2) := by decide +kernel
theorem dX12_cheapest_103 : decode cX12_cheapest 103 = .ok (.iload 8, 2) := by decide +kernel
theorem dX12_cheapest_105 : decode cX12_cheapest 105 = .ok (.if_icmp .ne 20, 3) := by decide +kernel
theorem dX12_cheapest_108 : decode cX12_cheapest 108 = .ok (.iload 9, 2) := by decide +kernel
theorem dX12_cheapest_110 : decode cX12_cheapest 110 = .ok (.invokestatic 313, 3) := by decide +kernel
theorem dX12_cheapest_113 : decode cX12_cheapest 113 = .ok (.iload 7, 2) := by decide +kernel
theorem dX12_cheapest_115 : decode cX12_cheapest 115 = .ok (.invokestatic 313, 3) := by decide +kernel
theorem dX12_cheapest_118 : decode cX12_cheapest 118 = .ok (.if_icmp .ge 7, 3) := by decide +kernel
theorem dX12_cheapest_121 : decode cX12_cheapest 121 = .ok (.iconst 1, 1) := by decide +kernel
theorem dX12_cheapest_122 : decode cX12_cheapest 122 = .ok (.goto 4, 3) := by decide +kernel
theorem dX12_cheapest_125 : decode cX12_cheapest 125 = .ok (.iconst 0, 1) := by decide +kernel
theorem dX12_cheapest_126 : decode cX12_cheapest 126 = .ok (.istore 11, 2) := by decide +kernel
theorem dX12_cheapest_128 : decode cX12_cheapest 128 = .ok (.iload 11, 2) := by decide +kernel
theorem dX12_cheapest_130 : decode cX12_cheapest 130 = .ok (.ifCond .eq 31, 3) := by decide +kernel
theorem dX12_cheapest_133 : decode cX12_cheapest 133 = .ok (.aload_n 0, 1) := by decide +kernel
theorem dX12_cheapest_134 : decode cX12_cheapest 134 = .ok (.iload_n 1, 1) := by decide +kernel
theorem dX12_cheapest_135 : decode cX12_cheapest 135 = .ok (.iload_n 2, 1) := by decide +kernel
theorem dX12_cheapest_136 : decode cX12_cheapest 136 = .ok (.iload_n 3, 1) := by decide +kernel
theorem dX12_cheapest_137 : decode cX12_cheapest 137 = .ok (.iload 4, 2) := by decide +kernel
theorem dX12_cheapest_139 : decode cX12_cheapest 139 = .ok (.iload 5, 2) := by decide +kernel
theorem dX12_cheapest_141 : decode cX12_cheapest 141 = .ok (.iload 6, 2) := by decide +kernel
theorem dX12_cheapest_143 : decode cX12_cheapest 143 = .ok (.iload 9, 2) := by decide +kernel
theorem dX12_cheapest_145 : decode cX12_cheapest 145 = .ok (.iconst 0, 1) := by decide +kernel
theorem dX12_cheapest_146 : decode cX12_cheapest 146 = .ok (.invokevirtual 309, 3) := by decide +kernel
theorem dX12_cheapest_149 : decode cX12_cheapest 149 = .ok (.iconst (-1), 1) := by decide +kernel
theorem dX12_cheapest_150 : decode cX12_cheapest 150 = .ok (.if_icmp .ne 11, 3) := by decide +kernel
theorem dX12_cheapest_153 : decode cX12_cheapest 153 = .ok (.iload 9, 2) := by decide +kernel
theorem dX12_cheapest_155 : decode cX12_cheapest 155 = .ok (.istore 7, 2) := by decide +kernel
theorem dX12_cheapest_157 : decode cX12_cheapest 157 = .ok (.iload 10, 2) := by decide +kernel
theorem dX12_cheapest_159 : decode cX12_cheapest 159 = .ok (.istore 8, 2) := by decide +kernel
theorem dX12_cheapest_161 : decode cX12_cheapest 161 = .ok (.iinc 9 1, 3) := by decide +kernel
theorem dX12_cheapest_164 : decode cX12_cheapest 164 = .ok (.goto (-136), 3) := by decide +kernel
theorem dX12_cheapest_167 : decode cX12_cheapest 167 = .ok (.iload 7, 2) := by decide +kernel
theorem dX12_cheapest_169 : decode cX12_cheapest 169 = .ok (.ireturn, 1) := by decide +kernel
theorem dX12_goes_0 : decode cX12_goes 0 = .ok (.aload_n 0, 1) := by decide +kernel
theorem dX12_goes_1 : decode cX12_goes 1 = .ok (.iload_n 1, 1) := by decide +kernel
theorem dX12_goes_2 : decode cX12_goes 2 = .ok (.invokevirtual 262, 3) := by decide +kernel
theorem dX12_goes_5 : decode cX12_goes 5 = .ok (.ifCond .eq 27, 3) := by decide +kernel
theorem dX12_goes_8 : decode cX12_goes 8 = .ok (.iload_n 2, 1) := by decide +kernel
theorem dX12_goes_9 : decode cX12_goes 9 = .ok (.i2l, 1) := by decide +kernel
theorem dX12_goes_10 : decode cX12_goes 10 = .ok (.lconst 1, 1) := by decide +kernel
theorem dX12_goes_11 : decode cX12_goes 11 = .ok (.ldc2_w 252, 3) := by decide +kernel
theorem dX12_goes_14 : decode cX12_goes 14 = .ok (.invokestatic 229, 3) := by decide +kernel
theorem dX12_goes_17 : decode cX12_goes 17 = .ok (.ifCond .eq 15, 3) := by decide +kernel
theorem dX12_goes_20 : decode cX12_goes 20 = .ok (.iload_n 3, 1) := by decide +kernel
theorem dX12_goes_21 : decode cX12_goes 21 = .ok (.i2l, 1) := by decide +kernel
theorem dX12_goes_22 : decode cX12_goes 22 = .ok (.lconst 1, 1) := by decide +kernel
theorem dX12_goes_23 : decode cX12_goes 23 = .ok (.ldc2_w 256, 3) := by decide +kernel
theorem dX12_goes_26 : decode cX12_goes 26 = .ok (.invokestatic 229, 3) := by decide +kernel
theorem dX12_goes_29 : decode cX12_goes 29 = .ok (.ifCond .ne 5, 3) := by decide +kernel
theorem dX12_goes_32 : decode cX12_goes 32 = .ok (.iconst (-1), 1) := by decide +kernel
theorem dX12_goes_33 : decode cX12_goes 33 = .ok (.ireturn, 1) := by decide +kernel
theorem dX12_goes_34 : decode cX12_goes 34 = .ok (.aload_n 0, 1) := by decide +kernel
theorem dX12_goes_35 : decode cX12_goes 35 = .ok (.iload_n 1, 1) := by decide +kernel
theorem dX12_goes_36 : decode cX12_goes 36 = .ok (.invokevirtual 270, 3) := by decide +kernel
theorem dX12_goes_39 : decode cX12_goes 39 = .ok (.iconst 0, 1) := by decide +kernel
theorem dX12_goes_40 : decode cX12_goes 40 = .ok (.istore 4, 2) := by decide +kernel
theorem dX12_goes_42 : decode cX12_goes 42 = .ok (.iconst 0, 1) := by decide +kernel
theorem dX12_goes_43 : decode cX12_goes 43 = .ok (.istore 5, 2) := by decide +kernel
theorem dX12_goes_45 : decode cX12_goes 45 = .ok (.iload 5, 2) := by decide +kernel
theorem dX12_goes_47 : decode cX12_goes 47 = .ok (.aload_n 0, 1) := by decide +kernel
theorem dX12_goes_48 : decode cX12_goes 48 = .ok (.getfield 236, 3) := by decide +kernel
theorem dX12_goes_51 : decode cX12_goes 51 = .ok (.if_icmp .ge 86, 3) := by decide +kernel
theorem dX12_goes_54 : decode cX12_goes 54 = .ok (.aload_n 0, 1) := by decide +kernel
theorem dX12_goes_55 : decode cX12_goes 55 = .ok (.getfield 88, 3) := by decide +kernel
theorem dX12_goes_58 : decode cX12_goes 58 = .ok (.iload 5, 2) := by decide +kernel
theorem dX12_goes_60 : decode cX12_goes 60 = .ok (.aload_n 0, 1) := by decide +kernel
theorem dX12_goes_61 : decode cX12_goes 61 = .ok (.getfield 9, 3) := by decide +kernel
theorem dX12_goes_64 : decode cX12_goes 64 = .ok (.iload 5, 2) := by decide +kernel
theorem dX12_goes_66 : decode cX12_goes 66 = .ok (.iaload, 1) := by decide +kernel
theorem dX12_goes_67 : decode cX12_goes 67 = .ok (.iconst 2, 1) := by decide +kernel
theorem dX12_goes_68 : decode cX12_goes 68 = .ok (.if_icmp .ne 40, 3) := by decide +kernel
theorem dX12_goes_71 : decode cX12_goes 71 = .ok (.aload_n 0, 1) := by decide +kernel
theorem dX12_goes_72 : decode cX12_goes 72 = .ok (.iload 5, 2) := by decide +kernel
theorem dX12_goes_74 : decode cX12_goes 74 = .ok (.invokevirtual 278, 3) := by decide +kernel
theorem dX12_goes_77 : decode cX12_goes 77 = .ok (.ifCond .eq 31, 3) := by decide +kernel
theorem dX12_goes_80 : decode cX12_goes 80 = .ok (.aload_n 0, 1) := by decide +kernel
theorem dX12_goes_81 : decode cX12_goes 81 = .ok (.getfield 25, 3) := by decide +kernel
theorem dX12_goes_84 : decode cX12_goes 84 = .ok (.iload 5, 2) := by decide +kernel
theorem dX12_goes_86 : decode cX12_goes 86 = .ok (.iaload, 1) := by decide +kernel
theorem dX12_goes_87 : decode cX12_goes 87 = .ok (.iconst 5, 1) := by decide +kernel
theorem dX12_goes_88 : decode cX12_goes 88 = .ok (.aload_n 0, 1) := by decide +kernel
theorem dX12_goes_89 : decode cX12_goes 89 = .ok (.getfield 67, 3) := by decide +kernel
theorem dX12_goes_92 : decode cX12_goes 92 = .ok (.iload 5, 2) := by decide +kernel
theorem dX12_goes_94 : decode cX12_goes 94 = .ok (.iaload, 1) := by decide +kernel
theorem dX12_goes_95 : decode cX12_goes 95 = .ok (.aload_n 0, 1) := by decide +kernel
theorem dX12_goes_96 : decode cX12_goes 96 = .ok (.getfield 55, 3) := by decide +kernel
theorem dX12_goes_99 : decode cX12_goes 99 = .ok (.iload 5, 2) := by decide +kernel
theorem dX12_goes_101 : decode cX12_goes 101 = .ok (.iaload, 1) := by decide +kernel
theorem dX12_goes_102 : decode cX12_goes 102 = .ok (.isub, 1) := by decide +kernel
theorem dX12_goes_103 : decode cX12_goes 103 = .ok (.imul, 1) := by decide +kernel
theorem dX12_goes_104 : decode cX12_goes 104 = .ok (.iadd, 1) := by decide +kernel
theorem dX12_goes_105 : decode cX12_goes 105 = .ok (.goto 4, 3) := by decide +kernel
theorem dX12_goes_108 : decode cX12_goes 108 = .ok (.iconst (-1), 1) := by decide +kernel
theorem dX12_goes_109 : decode cX12_goes 109 = .ok (.iastore, 1) := by decide +kernel
theorem dX12_goes_110 : decode cX12_goes 110 = .ok (.iload 4, 2) := by decide +kernel
theorem dX12_goes_112 : decode cX12_goes 112 = .ok (.aload_n 0, 1) := by decide +kernel
theorem dX12_goes_113 : decode cX12_goes 113 = .ok (.getfield 88, 3) := by decide +kernel
theorem dX12_goes_116 : decode cX12_goes 116 = .ok (.iload 5, 2) := by decide +kernel
theorem dX12_goes_118 : decode cX12_goes 118 = .ok (.iaload, 1) := by decide +kernel
theorem dX12_goes_119 : decode cX12_goes 119 = .ok (.iconst (-1), 1) := by decide +kernel
theorem dX12_goes_120 : decode cX12_goes 120 = .ok (.if_icmp .eq 7, 3) := by decide +kernel
theorem dX12_goes_123 : decode cX12_goes 123 = .ok (.iconst 1, 1) := by decide +kernel
theorem dX12_goes_124 : decode cX12_goes 124 = .ok (.goto 4, 3) := by decide +kernel
theorem dX12_goes_127 : decode cX12_goes 127 = .ok (.iconst 0, 1) := by decide +kernel
theorem dX12_goes_128 : decode cX12_goes 128 = .ok (.iadd, 1) := by decide +kernel
theorem dX12_goes_129 : decode cX12_goes 129 = .ok (.istore 4, 2) := by decide +kernel
theorem dX12_goes_131 : decode cX12_goes 131 = .ok (.iinc 5 1, 3) := by decide +kernel
theorem dX12_goes_134 : decode cX12_goes 134 = .ok (.goto (-89), 3) := by decide +kernel
theorem dX12_goes_137 : decode cX12_goes 137 = .ok (.iconst 0, 1) := by decide +kernel
theorem dX12_goes_138 : decode cX12_goes 138 = .ok (.istore 5, 2) := by decide +kernel
theorem dX12_goes_140 : decode cX12_goes 140 = .ok (.iload 5, 2) := by decide +kernel
theorem dX12_goes_142 : decode cX12_goes 142 = .ok (.sipush 400, 3) := by decide +kernel
theorem dX12_goes_145 : decode cX12_goes 145 = .ok (.if_icmp .gt 119, 3) := by decide +kernel
theorem dX12_goes_148 : decode cX12_goes 148 = .ok (.iload 5, 2) := by decide +kernel
theorem dX12_goes_150 : decode cX12_goes 150 = .ok (.iload_n 2, 1) := by decide +kernel
theorem dX12_goes_151 : decode cX12_goes 151 = .ok (.imul, 1) := by decide +kernel
theorem dX12_goes_152 : decode cX12_goes 152 = .ok (.iload_n 3, 1) := by decide +kernel
theorem dX12_goes_153 : decode cX12_goes 153 = .ok (.imul, 1) := by decide +kernel
theorem dX12_goes_154 : decode cX12_goes 154 = .ok (.istore 6, 2) := by decide +kernel
theorem dX12_goes_156 : decode cX12_goes 156 = .ok (.iconst 1, 1) := by decide +kernel
theorem dX12_goes_157 : decode cX12_goes 157 = .ok (.istore 7, 2) := by decide +kernel
theorem dX12_goes_159 : decode cX12_goes 159 = .ok (.iload 7, 2) := by decide +kernel
theorem dX12_goes_161 : decode cX12_goes 161 = .ok (.ifCond .eq 89, 3) := by decide +kernel
theorem dX12_goes_164 : decode cX12_goes 164 = .ok (.iload 4, 2) := by decide +kernel
theorem dX12_goes_166 : decode cX12_goes 166 = .ok (.ifCond .le 84, 3) := by decide +kernel
theorem dX12_goes_169 : decode cX12_goes 169 = .ok (.iload 6, 2) := by decide +kernel
theorem dX12_goes_171 : decode cX12_goes 171 = .ok (.iload 4, 2) := by decide +kernel
theorem dX12_goes_173 : decode cX12_goes 173 = .ok (.iadd, 1) := by decide +kernel
theorem dX12_goes_174 : decode cX12_goes 174 = .ok (.iconst 1, 1) := by decide +kernel
theorem dX12_goes_175 : decode cX12_goes 175 = .ok (.isub, 1) := by decide +kernel
theorem dX12_goes_176 : decode cX12_goes 176 = .ok (.iload 4, 2) := by decide +kernel
theorem dX12_goes_178 : decode cX12_goes 178 = .ok (.idiv, 1) := by decide +kernel
theorem dX12_goes_179 : decode cX12_goes 179 = .ok (.istore 8, 2) := by decide +kernel
theorem dX12_goes_181 : decode cX12_goes 181 = .ok (.iconst 0, 1) := by decide +kernel
theorem dX12_goes_182 : decode cX12_goes 182 = .ok (.istore 7, 2) := by decide +kernel
theorem dX12_goes_184 : decode cX12_goes 184 = .ok (.iload 4, 2) := by decide +kernel
theorem dX12_goes_186 : decode cX12_goes 186 = .ok (.istore 9, 2) := by decide +kernel
theorem dX12_goes_188 : decode cX12_goes 188 = .ok (.iconst 0, 1) := by decide +kernel
theorem dX12_goes_189 : decode cX12_goes 189 = .ok (.istore 10, 2) := by decide +kernel
theorem dX12_goes_191 : decode cX12_goes 191 = .ok (.iload 10, 2) := by decide +kernel
theorem dX12_goes_193 : decode cX12_goes 193 = .ok (.aload_n 0, 1) := by decide +kernel
theorem dX12_goes_194 : decode cX12_goes 194 = .ok (.getfield 236, 3) := by decide +kernel
theorem dX12_goes_197 : decode cX12_goes 197 = .ok (.if_icmp .ge 46, 3) := by decide +kernel
theorem dX12_goes_200 : decode cX12_goes 200 = .ok (.aload_n 0, 1) := by decide +kernel
theorem dX12_goes_201 : decode cX12_goes 201 = .ok (.getfield 88, 3) := by decide +kernel
theorem dX12_goes_204 : decode cX12_goes 204 = .ok (.iload 10, 2) := by decide +kernel
theorem dX12_goes_206 : decode cX12_goes 206 = .ok (.iaload, 1) := by decide +kernel
theorem dX12_goes_207 : decode cX12_goes 207 = .ok (.iconst (-1), 1) := by decide +kernel
theorem dX12_goes_208 : decode cX12_goes 208 = .ok (.if_icmp .eq 29, 3) := by decide +kernel
theorem dX12_goes_211 : decode cX12_goes 211 = .ok (.aload_n 0, 1) := by decide +kernel
theorem dX12_goes_212 : decode cX12_goes 212 = .ok (.getfield 88, 3) := by decide +kernel
theorem dX12_goes_215 : decode cX12_goes 215 = .ok (.iload 10, 2) := by decide +kernel
theorem dX12_goes_217 : decode cX12_goes 217 = .ok (.iaload, 1) := by decide +kernel
theorem dX12_goes_218 : decode cX12_goes 218 = .ok (.iload 8, 2) := by decide +kernel
theorem dX12_goes_220 : decode cX12_goes 220 = .ok (.if_icmp .ge 17, 3) := by decide +kernel
theorem dX12_goes_223 : decode cX12_goes 223 = .ok (.aload_n 0, 1) := by decide +kernel
theorem dX12_goes_224 : decode cX12_goes 224 = .ok (.getfield 88, 3) := by decide +kernel
theorem dX12_goes_227 : decode cX12_goes 227 = .ok (.iload 10, 2) := by decide +kernel
theorem dX12_goes_229 : decode cX12_goes 229 = .ok (.iconst (-1), 1) := by decide +kernel
theorem dX12_goes_230 : decode cX12_goes 230 = .ok (.iastore, 1) := by decide +kernel
theorem dX12_goes_231 : decode cX12_goes 231 = .ok (.iinc 9 (-1), 3) := by decide +kernel
theorem dX12_goes_234 : decode cX12_goes 234 = .ok (.iconst 1, 1) := by decide +kernel
theorem dX12_goes_235 : decode cX12_goes 235 = .ok (.istore 7, 2) := by decide +kernel
theorem dX12_goes_237 : decode cX12_goes 237 = .ok (.iinc 10 1, 3) := by decide +kernel
theorem dX12_goes_240 : decode cX12_goes 240 = .ok (.goto (-49), 3) := by decide +kernel
theorem dX12_goes_243 : decode cX12_goes 243 = .ok (.iload 9, 2) := by decide +kernel
theorem dX12_goes_245 : decode cX12_goes 245 = .ok (.istore 4, 2) := by decide +kernel
theorem dX12_goes_247 : decode cX12_goes 247 = .ok (.goto (-88), 3) := by decide +kernel
theorem dX12_goes_250 : decode cX12_goes 250 = .ok (.iload 4, 2) := by decide +kernel
theorem dX12_goes_252 : decode cX12_goes 252 = .ok (.ifCond .ne 6, 3) := by decide +kernel
theorem dX12_goes_255 : decode cX12_goes 255 = .ok (.iload 5, 2) := by decide +kernel
theorem dX12_goes_257 : decode cX12_goes 257 = .ok (.ireturn, 1) := by decide +kernel
theorem dX12_goes_258 : decode cX12_goes 258 = .ok (.iinc 5 1, 3) := by decide +kernel
theorem dX12_goes_261 : decode cX12_goes 261 = .ok (.goto (-121), 3) := by decide +kernel
theorem dX12_goes_264 : decode cX12_goes 264 = .ok (.bipush (-2), 2) := by decide +kernel
theorem dX12_goes_266 : decode cX12_goes 266 = .ok (.ireturn, 1) := by decide +kernel
theorem dX12_floor_0 : decode cX12_floor 0 = .ok (.iload_n 1, 1) := by decide +kernel
theorem dX12_floor_1 : decode cX12_floor 1 = .ok (.i2l, 1) := by decide +kernel
theorem dX12_floor_2 : decode cX12_floor 2 = .ok (.lconst 0, 1) := by decide +kernel
theorem dX12_floor_3 : decode cX12_floor 3 = .ok (.ldc2_w 316, 3) := by decide +kernel
theorem dX12_floor_6 : decode cX12_floor 6 = .ok (.invokestatic 229, 3) := by decide +kernel
theorem dX12_floor_9 : decode cX12_floor 9 = .ok (.ifCond .eq 77, 3) := by decide +kernel
theorem dX12_floor_12 : decode cX12_floor 12 = .ok (.iload_n 2, 1) := by decide +kernel
theorem dX12_floor_13 : decode cX12_floor 13 = .ok (.i2l, 1) := by decide +kernel
theorem dX12_floor_14 : decode cX12_floor 14 = .ok (.lconst 1, 1) := by decide +kernel
theorem dX12_floor_15 : decode cX12_floor 15 = .ok (.ldc2_w 252, 3) := by decide +kernel
theorem dX12_floor_18 : decode cX12_floor 18 = .ok (.invokestatic 229, 3) := by decide +kernel
theorem dX12_floor_21 : decode cX12_floor 21 = .ok (.ifCond .eq 65, 3) := by decide +kernel
theorem dX12_floor_24 : decode cX12_floor 24 = .ok (.iload_n 3, 1) := by decide +kernel
theorem dX12_floor_25 : decode cX12_floor 25 = .ok (.i2l, 1) := by decide +kernel
theorem dX12_floor_26 : decode cX12_floor 26 = .ok (.lconst 0, 1) := by decide +kernel
theorem dX12_floor_27 : decode cX12_floor 27 = .ok (.ldc2_w 318, 3) := by decide +kernel
theorem dX12_floor_30 : decode cX12_floor 30 = .ok (.invokestatic 229, 3) := by decide +kernel
theorem dX12_floor_33 : decode cX12_floor 33 = .ok (.ifCond .eq 53, 3) := by decide +kernel
theorem dX12_floor_36 : decode cX12_floor 36 = .ok (.iload 4, 2) := by decide +kernel
theorem dX12_floor_38 : decode cX12_floor 38 = .ok (.i2l, 1) := by decide +kernel
theorem dX12_floor_39 : decode cX12_floor 39 = .ok (.lconst 0, 1) := by decide +kernel
theorem dX12_floor_40 : decode cX12_floor 40 = .ok (.ldc2_w 252, 3) := by decide +kernel
theorem dX12_floor_43 : decode cX12_floor 43 = .ok (.invokestatic 229, 3) := by decide +kernel
theorem dX12_floor_46 : decode cX12_floor 46 = .ok (.ifCond .eq 40, 3) := by decide +kernel
theorem dX12_floor_49 : decode cX12_floor 49 = .ok (.iload 5, 2) := by decide +kernel
theorem dX12_floor_51 : decode cX12_floor 51 = .ok (.i2l, 1) := by decide +kernel
theorem dX12_floor_52 : decode cX12_floor 52 = .ok (.lconst 0, 1) := by decide +kernel
theorem dX12_floor_53 : decode cX12_floor 53 = .ok (.ldc2_w 316, 3) := by decide +kernel
theorem dX12_floor_56 : decode cX12_floor 56 = .ok (.invokestatic 229, 3) := by decide +kernel
theorem dX12_floor_59 : decode cX12_floor 59 = .ok (.ifCond .eq 27, 3) := by decide +kernel
theorem dX12_floor_62 : decode cX12_floor 62 = .ok (.iload 6, 2) := by decide +kernel
theorem dX12_floor_64 : decode cX12_floor 64 = .ok (.i2l, 1) := by decide +kernel
theorem dX12_floor_65 : decode cX12_floor 65 = .ok (.lconst 0, 1) := by decide +kernel
theorem dX12_floor_66 : decode cX12_floor 66 = .ok (.ldc2_w 320, 3) := by decide +kernel
theorem dX12_floor_69 : decode cX12_floor 69 = .ok (.invokestatic 229, 3) := by decide +kernel
theorem dX12_floor_72 : decode cX12_floor 72 = .ok (.ifCond .eq 14, 3) := by decide +kernel
theorem dX12_floor_75 : decode cX12_floor 75 = .ok (.iload 7, 2) := by decide +kernel
theorem dX12_floor_77 : decode cX12_floor 77 = .ok (.i2l, 1) := by decide +kernel
theorem dX12_floor_78 : decode cX12_floor 78 = .ok (.lconst 0, 1) := by decide +kernel
theorem dX12_floor_79 : decode cX12_floor 79 = .ok (.lconst 1, 1) := by decide +kernel
theorem dX12_floor_80 : decode cX12_floor 80 = .ok (.invokestatic 229, 3) := by decide +kernel
theorem dX12_floor_83 : decode cX12_floor 83 = .ok (.ifCond .ne 5, 3) := by decide +kernel
theorem dX12_floor_86 : decode cX12_floor 86 = .ok (.iconst (-1), 1) := by decide +kernel
theorem dX12_floor_87 : decode cX12_floor 87 = .ok (.ireturn, 1) := by decide +kernel
theorem dX12_floor_88 : decode cX12_floor 88 = .ok (.iload_n 1, 1) := by decide +kernel
theorem dX12_floor_89 : decode cX12_floor 89 = .ok (.iload_n 2, 1) := by decide +kernel
theorem dX12_floor_90 : decode cX12_floor 90 = .ok (.imul, 1) := by decide +kernel
theorem dX12_floor_91 : decode cX12_floor 91 = .ok (.bipush 10, 2) := by decide +kernel
theorem dX12_floor_93 : decode cX12_floor 93 = .ok (.imul, 1) := by decide +kernel
theorem dX12_floor_94 : decode cX12_floor 94 = .ok (.iload_n 3, 1) := by decide +kernel
theorem dX12_floor_95 : decode cX12_floor 95 = .ok (.bipush 50, 2) := by decide +kernel
theorem dX12_floor_97 : decode cX12_floor 97 = .ok (.iload 4, 2) := by decide +kernel
theorem dX12_floor_99 : decode cX12_floor 99 = .ok (.imul, 1) := by decide +kernel
theorem dX12_floor_100 : decode cX12_floor 100 = .ok (.iadd, 1) := by decide +kernel
theorem dX12_floor_101 : decode cX12_floor 101 = .ok (.bipush 20, 2) := by decide +kernel
theorem dX12_floor_103 : decode cX12_floor 103 = .ok (.iload 5, 2) := by decide +kernel
theorem dX12_floor_105 : decode cX12_floor 105 = .ok (.imul, 1) := by decide +kernel
theorem dX12_floor_106 : decode cX12_floor 106 = .ok (.isub, 1) := by decide +kernel
theorem dX12_floor_107 : decode cX12_floor 107 = .ok (.isub, 1) := by decide +kernel
theorem dX12_floor_108 : decode cX12_floor 108 = .ok (.istore 8, 2) := by decide +kernel
theorem dX12_floor_110 : decode cX12_floor 110 = .ok (.iload 7, 2) := by decide +kernel
theorem dX12_floor_112 : decode cX12_floor 112 = .ok (.ifCond .ne 14, 3) := by decide +kernel
theorem dX12_floor_115 : decode cX12_floor 115 = .ok (.iload 8, 2) := by decide +kernel
theorem dX12_floor_117 : decode cX12_floor 117 = .ok (.ifCond .le 7, 3) := by decide +kernel
theorem dX12_floor_120 : decode cX12_floor 120 = .ok (.iconst 1, 1) := by decide +kernel
theorem dX12_floor_121 : decode cX12_floor 121 = .ok (.goto 4, 3) := by decide +kernel
theorem dX12_floor_124 : decode cX12_floor 124 = .ok (.iconst 0, 1) := by decide +kernel
theorem dX12_floor_125 : decode cX12_floor 125 = .ok (.ireturn, 1) := by decide +kernel
theorem dX12_floor_126 : decode cX12_floor 126 = .ok (.iload 8, 2) := by decide +kernel
theorem dX12_floor_128 : decode cX12_floor 128 = .ok (.ifCond .le 14, 3) := by decide +kernel
theorem dX12_floor_131 : decode cX12_floor 131 = .ok (.iload 8, 2) := by decide +kernel
theorem dX12_floor_133 : decode cX12_floor 133 = .ok (.bipush 99, 2) := by decide +kernel
theorem dX12_floor_135 : decode cX12_floor 135 = .ok (.iadd, 1) := by decide +kernel
theorem dX12_floor_136 : decode cX12_floor 136 = .ok (.bipush 100, 2) := by decide +kernel
theorem dX12_floor_138 : decode cX12_floor 138 = .ok (.idiv, 1) := by decide +kernel
theorem dX12_floor_139 : decode cX12_floor 139 = .ok (.goto 4, 3) := by decide +kernel
theorem dX12_floor_142 : decode cX12_floor 142 = .ok (.iconst 0, 1) := by decide +kernel
theorem dX12_floor_143 : decode cX12_floor 143 = .ok (.istore 9, 2) := by decide +kernel
theorem dX12_floor_145 : decode cX12_floor 145 = .ok (.iload 9, 2) := by decide +kernel
theorem dX12_floor_147 : decode cX12_floor 147 = .ok (.iload 6, 2) := by decide +kernel
theorem dX12_floor_149 : decode cX12_floor 149 = .ok (.if_icmp .ge 8, 3) := by decide +kernel
theorem dX12_floor_152 : decode cX12_floor 152 = .ok (.iload 9, 2) := by decide +kernel
theorem dX12_floor_154 : decode cX12_floor 154 = .ok (.goto 5, 3) := by decide +kernel
theorem dX12_floor_157 : decode cX12_floor 157 = .ok (.iload 6, 2) := by decide +kernel
theorem dX12_floor_159 : decode cX12_floor 159 = .ok (.ireturn, 1) := by decide +kernel
theorem dX12_feed_0 : decode cX12_feed 0 = .ok (.aload_n 0, 1) := by decide +kernel
theorem dX12_feed_1 : decode cX12_feed 1 = .ok (.getfield 322, 3) := by decide +kernel
theorem dX12_feed_4 : decode cX12_feed 4 = .ok (.bipush 20, 2) := by decide +kernel
theorem dX12_feed_6 : decode cX12_feed 6 = .ok (.iadd, 1) := by decide +kernel
theorem dX12_feed_7 : decode cX12_feed 7 = .ok (.sipush 400, 3) := by decide +kernel
theorem dX12_feed_10 : decode cX12_feed 10 = .ok (.if_icmp .le 5, 3) := by decide +kernel
theorem dX12_feed_13 : decode cX12_feed 13 = .ok (.iconst (-1), 1) := by decide +kernel
theorem dX12_feed_14 : decode cX12_feed 14 = .ok (.ireturn, 1) := by decide +kernel
theorem dX12_feed_15 : decode cX12_feed 15 = .ok (.aload_n 0, 1) := by decide +kernel
theorem dX12_feed_16 : decode cX12_feed 16 = .ok (.iload_n 1, 1) := by decide +kernel
theorem dX12_feed_17 : decode cX12_feed 17 = .ok (.invokevirtual 325, 3) := by decide +kernel
theorem dX12_feed_20 : decode cX12_feed 20 = .ok (.aload_n 0, 1) := by decide +kernel
theorem dX12_feed_21 : decode cX12_feed 21 = .ok (.iload_n 2, 1) := by decide +kernel
theorem dX12_feed_22 : decode cX12_feed 22 = .ok (.invokevirtual 325, 3) := by decide +kernel
theorem dX12_feed_25 : decode cX12_feed 25 = .ok (.aload_n 0, 1) := by decide +kernel
theorem dX12_feed_26 : decode cX12_feed 26 = .ok (.iload_n 3, 1) := by decide +kernel
theorem dX12_feed_27 : decode cX12_feed 27 = .ok (.invokevirtual 325, 3) := by decide +kernel
theorem dX12_feed_30 : decode cX12_feed 30 = .ok (.aload_n 0, 1) := by decide +kernel
theorem dX12_feed_31 : decode cX12_feed 31 = .ok (.iload 4, 2) := by decide +kernel
theorem dX12_feed_33 : decode cX12_feed 33 = .ok (.invokevirtual 325, 3) := by decide +kernel
theorem dX12_feed_36 : decode cX12_feed 36 = .ok (.aload_n 0, 1) := by decide +kernel
theorem dX12_feed_37 : decode cX12_feed 37 = .ok (.iload 5, 2) := by decide +kernel
theorem dX12_feed_39 : decode cX12_feed 39 = .ok (.invokevirtual 325, 3) := by decide +kernel
theorem dX12_feed_42 : decode cX12_feed 42 = .ok (.aload_n 0, 1) := by decide +kernel
theorem dX12_feed_43 : decode cX12_feed 43 = .ok (.getfield 322, 3) := by decide +kernel
theorem dX12_feed_46 : decode cX12_feed 46 = .ok (.ireturn, 1) := by decide +kernel
theorem dX12_put_0 : decode cX12_put 0 = .ok (.bipush 24, 2) := by decide +kernel
theorem dX12_put_2 : decode cX12_put 2 = .ok (.istore_n 2, 1) := by decide +kernel
theorem dX12_put_3 : decode cX12_put 3 = .ok (.iload_n 2, 1) := by decide +kernel
theorem dX12_put_4 : decode cX12_put 4 = .ok (.ifCond .lt 32, 3) := by decide +kernel
theorem dX12_put_7 : decode cX12_put 7 = .ok (.aload_n 0, 1) := by decide +kernel
theorem dX12_put_8 : decode cX12_put 8 = .ok (.getfield 91, 3) := by decide +kernel
theorem dX12_put_11 : decode cX12_put 11 = .ok (.aload_n 0, 1) := by decide +kernel
theorem dX12_put_12 : decode cX12_put 12 = .ok (.getfield 322, 3) := by decide +kernel
theorem dX12_put_15 : decode cX12_put 15 = .ok (.iload_n 1, 1) := by decide +kernel
theorem dX12_put_16 : decode cX12_put 16 = .ok (.iload_n 2, 1) := by decide +kernel
theorem dX12_put_17 : decode cX12_put 17 = .ok (.ishr, 1) := by decide +kernel
theorem dX12_put_18 : decode cX12_put 18 = .ok (.i2b, 1) := by decide +kernel
theorem dX12_put_19 : decode cX12_put 19 = .ok (.bastore, 1) := by decide +kernel
theorem dX12_put_20 : decode cX12_put 20 = .ok (.aload_n 0, 1) := by decide +kernel
theorem dX12_put_21 : decode cX12_put 21 = .ok (.dup, 1) := by decide +kernel
theorem dX12_put_22 : decode cX12_put 22 = .ok (.getfield 322, 3) := by decide +kernel
theorem dX12_put_25 : decode cX12_put 25 = .ok (.iconst 1, 1) := by decide +kernel
theorem dX12_put_26 : decode cX12_put 26 = .ok (.iadd, 1) := by decide +kernel
theorem dX12_put_27 : decode cX12_put 27 = .ok (.putfield 322, 3) := by decide +kernel
theorem dX12_put_30 : decode cX12_put 30 = .ok (.iinc 2 (-8), 3) := by decide +kernel
theorem dX12_put_33 : decode cX12_put 33 = .ok (.goto (-30), 3) := by decide +kernel
theorem dX12_put_36 : decode cX12_put 36 = .ok (.return_, 1) := by decide +kernel
theorem dX12_end_0 : decode cX12_end 0 = .ok (.iload_n 1, 1) := by decide +kernel
theorem dX12_end_1 : decode cX12_end 1 = .ok (.ifCond .lt 11, 3) := by decide +kernel
theorem dX12_end_4 : decode cX12_end 4 = .ok (.iload_n 1, 1) := by decide +kernel
theorem dX12_end_5 : decode cX12_end 5 = .ok (.aload_n 0, 1) := by decide +kernel
theorem dX12_end_6 : decode cX12_end 6 = .ok (.getfield 322, 3) := by decide +kernel
theorem dX12_end_9 : decode cX12_end 9 = .ok (.if_icmp .le 5, 3) := by decide +kernel
theorem dX12_end_12 : decode cX12_end 12 = .ok (.iconst (-1), 1) := by decide +kernel
theorem dX12_end_13 : decode cX12_end 13 = .ok (.ireturn, 1) := by decide +kernel
theorem dX12_end_14 : decode cX12_end 14 = .ok (.aload_n 0, 1) := by decide +kernel
theorem dX12_end_15 : decode cX12_end 15 = .ok (.iload_n 1, 1) := by decide +kernel
theorem dX12_end_16 : decode cX12_end 16 = .ok (.putfield 322, 3) := by decide +kernel
theorem dX12_end_19 : decode cX12_end 19 = .ok (.iload_n 1, 1) := by decide +kernel
theorem dX12_end_20 : decode cX12_end 20 = .ok (.ireturn, 1) := by decide +kernel
theorem dX12_wordOf_0 : decode cX12_wordOf 0 = .ok (.iload_n 0, 1) := by decide +kernel
theorem dX12_wordOf_1 : decode cX12_wordOf 1 = .ok (.tableswitch 63 0 5 #[39, 43, 47, 51, 55, 59], 39) := by decide +kernel
theorem dX12_wordOf_40 : decode cX12_wordOf 40 = .ok (.ldc_w 328, 3) := by decide +kernel
theorem dX12_wordOf_43 : decode cX12_wordOf 43 = .ok (.areturn, 1) := by decide +kernel
theorem dX12_wordOf_44 : decode cX12_wordOf 44 = .ok (.ldc_w 330, 3) := by decide +kernel
theorem dX12_wordOf_47 : decode cX12_wordOf 47 = .ok (.areturn, 1) := by decide +kernel
theorem dX12_wordOf_48 : decode cX12_wordOf 48 = .ok (.ldc_w 332, 3) := by decide +kernel
theorem dX12_wordOf_51 : decode cX12_wordOf 51 = .ok (.areturn, 1) := by decide +kernel
theorem dX12_wordOf_52 : decode cX12_wordOf 52 = .ok (.ldc_w 333, 3) := by decide +kernel
theorem dX12_wordOf_55 : decode cX12_wordOf 55 = .ok (.areturn, 1) := by decide +kernel
theorem dX12_wordOf_56 : decode cX12_wordOf 56 = .ok (.ldc_w 334, 3) := by decide +kernel
theorem dX12_wordOf_59 : decode cX12_wordOf 59 = .ok (.areturn, 1) := by decide +kernel
theorem dX12_wordOf_60 : decode cX12_wordOf 60 = .ok (.ldc_w 335, 3) := by decide +kernel
theorem dX12_wordOf_63 : decode cX12_wordOf 63 = .ok (.areturn, 1) := by decide +kernel
theorem dX12_wordOf_64 : decode cX12_wordOf 64 = .ok (.ldc_w 337, 3) := by decide +kernel
theorem dX12_wordOf_67 : decode cX12_wordOf 67 = .ok (.areturn, 1) := by decide +kernel
theorem dX12_clauseOf_0 : decode cX12_clauseOf 0 = .ok (.iload_n 0, 1) := by decide +kernel
theorem dX12_clauseOf_1 : decode cX12_clauseOf 1 = .ok (.ifCond .ne 9, 3) := by decide +kernel
theorem dX12_clauseOf_4 : decode cX12_clauseOf 4 = .ok (.ldc_w 339, 3) := by decide +kernel
theorem dX12_clauseOf_7 : decode cX12_clauseOf 7 = .ok (.goto 28, 3) := by decide +kernel
theorem dX12_clauseOf_10 : decode cX12_clauseOf 10 = .ok (.iload_n 0, 1) := by decide +kernel
theorem dX12_clauseOf_11 : decode cX12_clauseOf 11 = .ok (.iconst 1, 1) := by decide +kernel
theorem dX12_clauseOf_12 : decode cX12_clauseOf 12 = .ok (.if_icmp .ne 9, 3) := by decide +kernel
theorem dX12_clauseOf_15 : decode cX12_clauseOf 15 = .ok (.ldc_w 341, 3) := by decide +kernel
theorem dX12_clauseOf_18 : decode cX12_clauseOf 18 = .ok (.goto 17, 3) := by decide +kernel
theorem dX12_clauseOf_21 : decode cX12_clauseOf 21 = .ok (.iload_n 0, 1) := by decide +kernel
theorem dX12_clauseOf_22 : decode cX12_clauseOf 22 = .ok (.iconst 2, 1) := by decide +kernel
theorem dX12_clauseOf_23 : decode cX12_clauseOf 23 = .ok (.if_icmp .ne 9, 3) := by decide +kernel
theorem dX12_clauseOf_26 : decode cX12_clauseOf 26 = .ok (.ldc_w 343, 3) := by decide +kernel
theorem dX12_clauseOf_29 : decode cX12_clauseOf 29 = .ok (.goto 6, 3) := by decide +kernel
theorem dX12_clauseOf_32 : decode cX12_clauseOf 32 = .ok (.ldc_w 345, 3) := by decide +kernel
theorem dX12_clauseOf_35 : decode cX12_clauseOf 35 = .ok (.areturn, 1) := by decide +kernel
theorem dX12_thingOf_0 : decode cX12_thingOf 0 = .ok (.iload_n 0, 1) := by decide +kernel
theorem dX12_thingOf_1 : decode cX12_thingOf 1 = .ok (.ifCond .ne 9, 3) := by decide +kernel
theorem dX12_thingOf_4 : decode cX12_thingOf 4 = .ok (.ldc_w 347, 3) := by decide +kernel
theorem dX12_thingOf_7 : decode cX12_thingOf 7 = .ok (.goto 28, 3) := by decide +kernel
theorem dX12_thingOf_10 : decode cX12_thingOf 10 = .ok (.iload_n 0, 1) := by decide +kernel
theorem dX12_thingOf_11 : decode cX12_thingOf 11 = .ok (.iconst 1, 1) := by decide +kernel
theorem dX12_thingOf_12 : decode cX12_thingOf 12 = .ok (.if_icmp .ne 9, 3) := by decide +kernel
theorem dX12_thingOf_15 : decode cX12_thingOf 15 = .ok (.ldc_w 349, 3) := by decide +kernel
theorem dX12_thingOf_18 : decode cX12_thingOf 18 = .ok (.goto 17, 3) := by decide +kernel
theorem dX12_thingOf_21 : decode cX12_thingOf 21 = .ok (.iload_n 0, 1) := by decide +kernel
theorem dX12_thingOf_22 : decode cX12_thingOf 22 = .ok (.iconst 2, 1) := by decide +kernel
theorem dX12_thingOf_23 : decode cX12_thingOf 23 = .ok (.if_icmp .ne 9, 3) := by decide +kernel
theorem dX12_thingOf_26 : decode cX12_thingOf 26 = .ok (.ldc_w 351, 3) := by decide +kernel
theorem dX12_thingOf_29 : decode cX12_thingOf 29 = .ok (.goto 6, 3) := by decide +kernel
theorem dX12_thingOf_32 : decode cX12_thingOf 32 = .ok (.ldc_w 353, 3) := by decide +kernel
theorem dX12_thingOf_35 : decode cX12_thingOf 35 = .ok (.areturn, 1) := by decide +kernel
theorem dX12_fails_0 : decode cX12_fails 0 = .ok (.aload_n 0, 1) := by decide +kernel
theorem dX12_fails_1 : decode cX12_fails 1 = .ok (.aload_n 0, 1) := by decide +kernel
theorem dX12_fails_2 : decode cX12_fails 2 = .ok (.getfield 355, 3) := by decide +kernel
theorem dX12_fails_5 : decode cX12_fails 5 = .ok (.ifCond .ne 14, 3) := by decide +kernel
theorem dX12_fails_8 : decode cX12_fails 8 = .ok (.iconst 1, 1) := by decide +kernel
theorem dX12_fails_9 : decode cX12_fails 9 = .ok (.bipush 8, 2) := by decide +kernel
theorem dX12_fails_11 : decode cX12_fails 11 = .ok (.iload_n 2, 1) := by decide +kernel
theorem dX12_fails_12 : decode cX12_fails 12 = .ok (.imul, 1) := by decide +kernel
theorem dX12_fails_13 : decode cX12_fails 13 = .ok (.iadd, 1) := by decide +kernel
theorem dX12_fails_14 : decode cX12_fails 14 = .ok (.iload_n 1, 1) := by decide +kernel
theorem dX12_fails_15 : decode cX12_fails 15 = .ok (.iadd, 1) := by decide +kernel
theorem dX12_fails_16 : decode cX12_fails 16 = .ok (.goto 7, 3) := by decide +kernel
theorem dX12_fails_19 : decode cX12_fails 19 = .ok (.aload_n 0, 1) := by decide +kernel
theorem dX12_fails_20 : decode cX12_fails 20 = .ok (.getfield 355, 3) := by decide +kernel
theorem dX12_fails_23 : decode cX12_fails 23 = .ok (.putfield 355, 3) := by decide +kernel
theorem dX12_fails_26 : decode cX12_fails 26 = .ok (.return_, 1) := by decide +kernel
theorem dX12_sign_0 : decode cX12_sign 0 = .ok (.aload_n 0, 1) := by decide +kernel
theorem dX12_sign_1 : decode cX12_sign 1 = .ok (.getfield 358, 3) := by decide +kernel
theorem dX12_sign_4 : decode cX12_sign 4 = .ok (.aload_n 0, 1) := by decide +kernel
theorem dX12_sign_5 : decode cX12_sign 5 = .ok (.getfield 322, 3) := by decide +kernel
theorem dX12_sign_8 : decode cX12_sign 8 = .ok (.if_icmp .ge 19, 3) := by decide +kernel
theorem dX12_sign_11 : decode cX12_sign 11 = .ok (.aload_n 0, 1) := by decide +kernel
theorem dX12_sign_12 : decode cX12_sign 12 = .ok (.getfield 91, 3) := by decide +kernel
theorem dX12_sign_15 : decode cX12_sign 15 = .ok (.aload_n 0, 1) := by decide +kernel
theorem dX12_sign_16 : decode cX12_sign 16 = .ok (.getfield 358, 3) := by decide +kernel
theorem dX12_sign_19 : decode cX12_sign 19 = .ok (.baload, 1) := by decide +kernel
theorem dX12_sign_20 : decode cX12_sign 20 = .ok (.sipush 255, 3) := by decide +kernel
theorem dX12_sign_23 : decode cX12_sign 23 = .ok (.iand, 1) := by decide +kernel
theorem dX12_sign_24 : decode cX12_sign 24 = .ok (.goto 4, 3) := by decide +kernel
theorem dX12_sign_27 : decode cX12_sign 27 = .ok (.iconst (-1), 1) := by decide +kernel
theorem dX12_sign_28 : decode cX12_sign 28 = .ok (.ireturn, 1) := by decide +kernel
theorem dX12_blanks_0 : decode cX12_blanks 0 = .ok (.aload_n 0, 1) := by decide +kernel
theorem dX12_blanks_1 : decode cX12_blanks 1 = .ok (.invokevirtual 361, 3) := by decide +kernel
theorem dX12_blanks_4 : decode cX12_blanks 4 = .ok (.bipush 32, 2) := by decide +kernel
theorem dX12_blanks_6 : decode cX12_blanks 6 = .ok (.if_icmp .ne 16, 3) := by decide +kernel
theorem dX12_blanks_9 : decode cX12_blanks 9 = .ok (.aload_n 0, 1) := by decide +kernel
theorem dX12_blanks_10 : decode cX12_blanks 10 = .ok (.dup, 1) := by decide +kernel
theorem dX12_blanks_11 : decode cX12_blanks 11 = .ok (.getfield 358, 3) := by decide +kernel
theorem dX12_blanks_14 : decode cX12_blanks 14 = .ok (.iconst 1, 1) := by decide +kernel
theorem dX12_blanks_15 : decode cX12_blanks 15 = .ok (.iadd, 1) := by decide +kernel
theorem dX12_blanks_16 : decode cX12_blanks 16 = .ok (.putfield 358, 3) := by decide +kernel
theorem dX12_blanks_19 : decode cX12_blanks 19 = .ok (.goto (-19), 3) := by decide +kernel
theorem dX12_blanks_22 : decode cX12_blanks 22 = .ok (.return_, 1) := by decide +kernel
theorem dX12_isDigit_0 : decode cX12_isDigit 0 = .ok (.aload_n 0, 1) := by decide +kernel
theorem dX12_isDigit_1 : decode cX12_isDigit 1 = .ok (.invokevirtual 361, 3) := by decide +kernel
theorem dX12_isDigit_4 : decode cX12_isDigit 4 = .ok (.i2l, 1) := by decide +kernel
theorem dX12_isDigit_5 : decode cX12_isDigit 5 = .ok (.ldc2_w 365, 3) := by decide +kernel
theorem dX12_isDigit_8 : decode cX12_isDigit 8 = .ok (.ldc2_w 367, 3) := by decide +kernel
theorem dX12_isDigit_11 : decode cX12_isDigit 11 = .ok (.invokestatic 229, 3) := by decide +kernel
theorem dX12_isDigit_14 : decode cX12_isDigit 14 = .ok (.ireturn, 1) := by decide +kernel
theorem dX12_stands_0 : decode cX12_stands 0 = .ok (.aload_n 0, 1) := by decide +kernel
theorem dX12_stands_1 : decode cX12_stands 1 = .ok (.getfield 358, 3) := by decide +kernel
theorem dX12_stands_4 : decode cX12_stands 4 = .ok (.istore_n 2, 1) := by decide +kernel
theorem dX12_stands_5 : decode cX12_stands 5 = .ok (.iload_n 2, 1) := by decide +kernel
theorem dX12_stands_6 : decode cX12_stands 6 = .ok (.aload_n 0, 1) := by decide +kernel
theorem dX12_stands_7 : decode cX12_stands 7 = .ok (.getfield 322, 3) := by decide +kernel
theorem dX12_stands_10 : decode cX12_stands 10 = .ok (.if_icmp .ge 31, 3) := by decide +kernel
theorem dX12_stands_13 : decode cX12_stands 13 = .ok (.aload_n 0, 1) := by decide +kernel
theorem dX12_stands_14 : decode cX12_stands 14 = .ok (.getfield 91, 3) := by decide +kernel
theorem dX12_stands_17 : decode cX12_stands 17 = .ok (.iload_n 2, 1) := by decide +kernel
theorem dX12_stands_18 : decode cX12_stands 18 = .ok (.baload, 1) := by decide +kernel
theorem dX12_stands_19 : decode cX12_stands 19 = .ok (.bipush 97, 2) := by decide +kernel
theorem dX12_stands_21 : decode cX12_stands 21 = .ok (.if_icmp .lt 20, 3) := by decide +kernel
theorem dX12_stands_24 : decode cX12_stands 24 = .ok (.aload_n 0, 1) := by decide +kernel
theorem dX12_stands_25 : decode cX12_stands 25 = .ok (.getfield 91, 3) := by decide +kernel
theorem dX12_stands_28 : decode cX12_stands 28 = .ok (.iload_n 2, 1) := by decide +kernel
theorem dX12_stands_29 : decode cX12_stands 29 = .ok (.baload, 1) := by decide +kernel
theorem dX12_stands_30 : decode cX12_stands 30 = .ok (.bipush 122, 2) := by decide +kernel
theorem dX12_stands_32 : decode cX12_stands 32 = .ok (.if_icmp .gt 9, 3) := by decide +kernel
theorem dX12_stands_35 : decode cX12_stands 35 = .ok (.iinc 2 1, 3) := by decide +kernel
theorem dX12_stands_38 : decode cX12_stands 38 = .ok (.goto (-33), 3) := by decide +kernel
theorem dX12_stands_41 : decode cX12_stands 41 = .ok (.iload_n 2, 1) := by decide +kernel
theorem dX12_stands_42 : decode cX12_stands 42 = .ok (.aload_n 0, 1) := by decide +kernel
theorem dX12_stands_43 : decode cX12_stands 43 = .ok (.getfield 358, 3) := by decide +kernel
theorem dX12_stands_46 : decode cX12_stands 46 = .ok (.isub, 1) := by decide +kernel
theorem dX12_stands_47 : decode cX12_stands 47 = .ok (.aload_n 1, 1) := by decide +kernel
theorem dX12_stands_48 : decode cX12_stands 48 = .ok (.invokevirtual 369, 3) := by decide +kernel
theorem dX12_stands_51 : decode cX12_stands 51 = .ok (.if_icmp .ne 7, 3) := by decide +kernel
theorem dX12_stands_54 : decode cX12_stands 54 = .ok (.iconst 1, 1) := by decide +kernel
theorem dX12_stands_55 : decode cX12_stands 55 = .ok (.goto 4, 3) := by decide +kernel
theorem dX12_stands_58 : decode cX12_stands 58 = .ok (.iconst 0, 1) := by decide +kernel
theorem dX12_stands_59 : decode cX12_stands 59 = .ok (.istore_n 3, 1) := by decide +kernel
theorem dX12_stands_60 : decode cX12_stands 60 = .ok (.iconst 0, 1) := by decide +kernel
theorem dX12_stands_61 : decode cX12_stands 61 = .ok (.istore 4, 2) := by decide +kernel
theorem dX12_stands_63 : decode cX12_stands 63 = .ok (.iload 4, 2) := by decide +kernel
theorem dX12_stands_65 : decode cX12_stands 65 = .ok (.aload_n 1, 1) := by decide +kernel
theorem dX12_stands_66 : decode cX12_stands 66 = .ok (.invokevirtual 369, 3) := by decide +kernel
theorem dX12_stands_69 : decode cX12_stands 69 = .ok (.if_icmp .ge 40, 3) := by decide +kernel
theorem dX12_stands_72 : decode cX12_stands 72 = .ok (.iload_n 3, 1) := by decide +kernel
theorem dX12_stands_73 : decode cX12_stands 73 = .ok (.ifCond .eq 36, 3) := by decide +kernel
theorem dX12_stands_76 : decode cX12_stands 76 = .ok (.aload_n 0, 1) := by decide +kernel
theorem dX12_stands_77 : decode cX12_stands 77 = .ok (.getfield 91, 3) := by decide +kernel
theorem dX12_stands_80 : decode cX12_stands 80 = .ok (.aload_n 0, 1) := by decide +kernel
theorem dX12_stands_81 : decode cX12_stands 81 = .ok (.getfield 358, 3) := by decide +kernel
theorem dX12_stands_84 : decode cX12_stands 84 = .ok (.iload 4, 2) := by decide +kernel
theorem dX12_stands_86 : decode cX12_stands 86 = .ok (.iadd, 1) := by decide +kernel
theorem dX12_stands_87 : decode cX12_stands 87 = .ok (.baload, 1) := by decide +kernel
theorem dX12_stands_88 : decode cX12_stands 88 = .ok (.aload_n 1, 1) := by decide +kernel
theorem dX12_stands_89 : decode cX12_stands 89 = .ok (.iload 4, 2) := by decide +kernel
theorem dX12_stands_91 : decode cX12_stands 91 = .ok (.invokevirtual 374, 3) := by decide +kernel
theorem dX12_stands_94 : decode cX12_stands 94 = .ok (.if_icmp .ne 7, 3) := by decide +kernel
theorem dX12_stands_97 : decode cX12_stands 97 = .ok (.iconst 1, 1) := by decide +kernel
theorem dX12_stands_98 : decode cX12_stands 98 = .ok (.goto 4, 3) := by decide +kernel
theorem dX12_stands_101 : decode cX12_stands 101 = .ok (.iconst 0, 1) := by decide +kernel
theorem dX12_stands_102 : decode cX12_stands 102 = .ok (.istore_n 3, 1) := by decide +kernel
theorem dX12_stands_103 : decode cX12_stands 103 = .ok (.iinc 4 1, 3) := by decide +kernel
theorem dX12_stands_106 : decode cX12_stands 106 = .ok (.goto (-43), 3) := by decide +kernel
theorem dX12_stands_109 : decode cX12_stands 109 = .ok (.iload_n 3, 1) := by decide +kernel
theorem dX12_stands_110 : decode cX12_stands 110 = .ok (.ireturn, 1) := by decide +kernel
theorem dX12_takes__0 : decode cX12_takes_ 0 = .ok (.aload_n 0, 1) := by decide +kernel
theorem dX12_takes__1 : decode cX12_takes_ 1 = .ok (.invokevirtual 378, 3) := by decide +kernel
theorem dX12_takes__4 : decode cX12_takes_ 4 = .ok (.aload_n 0, 1) := by decide +kernel
theorem dX12_takes__5 : decode cX12_takes_ 5 = .ok (.aload_n 1, 1) := by decide +kernel
theorem dX12_takes__6 : decode cX12_takes_ 6 = .ok (.invokevirtual 381, 3) := by decide +kernel
theorem dX12_takes__9 : decode cX12_takes_ 9 = .ok (.istore_n 2, 1) := by decide +kernel
theorem dX12_takes__10 : decode cX12_takes_ 10 = .ok (.aload_n 0, 1) := by decide +kernel
theorem dX12_takes__11 : decode cX12_takes_ 11 = .ok (.dup, 1) := by decide +kernel
theorem dX12_takes__12 : decode cX12_takes_ 12 = .ok (.getfield 358, 3) := by decide +kernel
theorem dX12_takes__15 : decode cX12_takes_ 15 = .ok (.iload_n 2, 1) := by decide +kernel
theorem dX12_takes__16 : decode cX12_takes_ 16 = .ok (.ifCond .eq 10, 3) := by decide +kernel
theorem dX12_takes__19 : decode cX12_takes_ 19 = .ok (.aload_n 1, 1) := by decide +kernel
theorem dX12_takes__20 : decode cX12_takes_ 20 = .ok (.invokevirtual 369, 3) := by decide +kernel
theorem dX12_takes__23 : decode cX12_takes_ 23 = .ok (.goto 4, 3) := by decide +kernel
theorem dX12_takes__26 : decode cX12_takes_ 26 = .ok (.iconst 0, 1) := by decide +kernel
theorem dX12_takes__27 : decode cX12_takes_ 27 = .ok (.iadd, 1) := by decide +kernel
theorem dX12_takes__28 : decode cX12_takes_ 28 = .ok (.putfield 358, 3) := by decide +kernel
theorem dX12_takes__31 : decode cX12_takes_ 31 = .ok (.iload_n 2, 1) := by decide +kernel
theorem dX12_takes__32 : decode cX12_takes_ 32 = .ok (.ireturn, 1) := by decide +kernel
theorem dX12_entry_0 : decode cX12_entry 0 = .ok (.aload_n 0, 1) := by decide +kernel
theorem dX12_entry_1 : decode cX12_entry 1 = .ok (.getfield 355, 3) := by decide +kernel
theorem dX12_entry_4 : decode cX12_entry 4 = .ok (.ifCond .ne 51, 3) := by decide +kernel
theorem dX12_entry_7 : decode cX12_entry 7 = .ok (.aload_n 0, 1) := by decide +kernel
theorem dX12_entry_8 : decode cX12_entry 8 = .ok (.getfield 95, 3) := by decide +kernel
theorem dX12_entry_11 : decode cX12_entry 11 = .ok (.sipush 300, 3) := by decide +kernel
theorem dX12_entry_14 : decode cX12_entry 14 = .ok (.aload_n 0, 1) := by decide +kernel
theorem dX12_entry_15 : decode cX12_entry 15 = .ok (.getfield 385, 3) := by decide +kernel
theorem dX12_entry_18 : decode cX12_entry 18 = .ok (.imul, 1) := by decide +kernel
theorem dX12_entry_19 : decode cX12_entry 19 = .ok (.aload_n 0, 1) := by decide +kernel
theorem dX12_entry_20 : decode cX12_entry 20 = .ok (.getfield 388, 3) := by decide +kernel
theorem dX12_entry_23 : decode cX12_entry 23 = .ok (.iadd, 1) := by decide +kernel
theorem dX12_entry_24 : decode cX12_entry 24 = .ok (.iload_n 1, 1) := by decide +kernel
theorem dX12_entry_25 : decode cX12_entry 25 = .ok (.iastore, 1) := by decide +kernel
theorem dX12_entry_26 : decode cX12_entry 26 = .ok (.aload_n 0, 1) := by decide +kernel
theorem dX12_entry_27 : decode cX12_entry 27 = .ok (.getfield 98, 3) := by decide +kernel
theorem dX12_entry_30 : decode cX12_entry 30 = .ok (.sipush 300, 3) := by decide +kernel
theorem dX12_entry_33 : decode cX12_entry 33 = .ok (.aload_n 0, 1) := by decide +kernel
theorem dX12_entry_34 : decode cX12_entry 34 = .ok (.getfield 385, 3) := by decide +kernel
theorem dX12_entry_37 : decode cX12_entry 37 = .ok (.imul, 1) := by decide +kernel
theorem dX12_entry_38 : decode cX12_entry 38 = .ok (.aload_n 0, 1) := by decide +kernel
theorem dX12_entry_39 : decode cX12_entry 39 = .ok (.getfield 388, 3) := by decide +kernel
theorem dX12_entry_42 : decode cX12_entry 42 = .ok (.iadd, 1) := by decide +kernel
theorem dX12_entry_43 : decode cX12_entry 43 = .ok (.iload_n 2, 1) := by decide +kernel
theorem dX12_entry_44 : decode cX12_entry 44 = .ok (.iastore, 1) := by decide +kernel
theorem dX12_entry_45 : decode cX12_entry 45 = .ok (.aload_n 0, 1) := by decide +kernel
theorem dX12_entry_46 : decode cX12_entry 46 = .ok (.dup, 1) := by decide +kernel
theorem dX12_entry_47 : decode cX12_entry 47 = .ok (.getfield 388, 3) := by decide +kernel
theorem dX12_entry_50 : decode cX12_entry 50 = .ok (.iconst 1, 1) := by decide +kernel
theorem dX12_entry_51 : decode cX12_entry 51 = .ok (.iadd, 1) := by decide +kernel
theorem dX12_entry_52 : decode cX12_entry 52 = .ok (.putfield 388, 3) := by decide +kernel
theorem dX12_entry_55 : decode cX12_entry 55 = .ok (.return_, 1) := by decide +kernel
theorem dX12_isCounted_0 : decode cX12_isCounted 0 = .ok (.aload_n 0, 1) := by decide +kernel
theorem dX12_isCounted_1 : decode cX12_isCounted 1 = .ok (.getfield 391, 3) := by decide +kernel
theorem dX12_isCounted_4 : decode cX12_isCounted 4 = .ok (.bipush 60, 2) := by decide +kernel
theorem dX12_isCounted_6 : decode cX12_isCounted 6 = .ok (.if_icmp .ne 9, 3) := by decide +kernel
theorem dX12_isCounted_9 : decode cX12_isCounted 9 = .ok (.aload_n 0, 1) := by decide +kernel
theorem dX12_isCounted_10 : decode cX12_isCounted 10 = .ok (.iconst 3, 1) := by decide +kernel
theorem dX12_isCounted_11 : decode cX12_isCounted 11 = .ok (.iload_n 1, 1) := by decide +kernel
theorem dX12_isCounted_12 : decode cX12_isCounted 12 = .ok (.invokevirtual 394, 3) := by decide +kernel
theorem dX12_isCounted_15 : decode cX12_isCounted 15 = .ok (.aload_n 0, 1) := by decide +kernel
theorem dX12_isCounted_16 : decode cX12_isCounted 16 = .ok (.dup, 1) := by decide +kernel
theorem dX12_isCounted_17 : decode cX12_isCounted 17 = .ok (.getfield 391, 3) := by decide +kernel
theorem dX12_isCounted_20 : decode cX12_isCounted 20 = .ok (.iconst 1, 1) := by decide +kernel
theorem dX12_isCounted_21 : decode cX12_isCounted 21 = .ok (.iadd, 1) := by decide +kernel
theorem dX12_isCounted_22 : decode cX12_isCounted 22 = .ok (.putfield 391, 3) := by decide +kernel
theorem dX12_isCounted_25 : decode cX12_isCounted 25 = .ok (.return_, 1) := by decide +kernel
theorem dX12_digits_0 : decode cX12_digits 0 = .ok (.aload_n 0, 1) := by decide +kernel
theorem dX12_digits_1 : decode cX12_digits 1 = .ok (.invokevirtual 397, 3) := by decide +kernel
theorem dX12_digits_4 : decode cX12_digits 4 = .ok (.ifCond .ne 14, 3) := by decide +kernel
theorem dX12_digits_7 : decode cX12_digits 7 = .ok (.aload_n 0, 1) := by decide +kernel
theorem dX12_digits_8 : decode cX12_digits 8 = .ok (.iconst 0, 1) := by decide +kernel
theorem dX12_digits_9 : decode cX12_digits 9 = .ok (.aload_n 0, 1) := by decide +kernel
theorem dX12_digits_10 : decode cX12_digits 10 = .ok (.getfield 358, 3) := by decide +kernel
theorem dX12_digits_13 : decode cX12_digits 13 = .ok (.invokevirtual 394, 3) := by decide +kernel
theorem dX12_digits_16 : decode cX12_digits 16 = .ok (.iconst 0, 1) := by decide +kernel
theorem dX12_digits_17 : decode cX12_digits 17 = .ok (.ireturn, 1) := by decide +kernel
theorem dX12_digits_18 : decode cX12_digits 18 = .ok (.aload_n 0, 1) := by decide +kernel
theorem dX12_digits_19 : decode cX12_digits 19 = .ok (.getfield 358, 3) := by decide +kernel
theorem dX12_digits_22 : decode cX12_digits 22 = .ok (.istore_n 2, 1) := by decide +kernel
theorem dX12_digits_23 : decode cX12_digits 23 = .ok (.iconst 0, 1) := by decide +kernel
theorem dX12_digits_24 : decode cX12_digits 24 = .ok (.istore_n 3, 1) := by decide +kernel
theorem dX12_digits_25 : decode cX12_digits 25 = .ok (.aload_n 0, 1) := by decide +kernel
theorem dX12_digits_26 : decode cX12_digits 26 = .ok (.invokevirtual 397, 3) := by decide +kernel
theorem dX12_digits_29 : decode cX12_digits 29 = .ok (.ifCond .eq 43, 3) := by decide +kernel
theorem dX12_digits_32 : decode cX12_digits 32 = .ok (.aload_n 0, 1) := by decide +kernel
theorem dX12_digits_33 : decode cX12_digits 33 = .ok (.getfield 358, 3) := by decide +kernel
theorem dX12_digits_36 : decode cX12_digits 36 = .ok (.iload_n 2, 1) := by decide +kernel
theorem dX12_digits_37 : decode cX12_digits 37 = .ok (.isub, 1) := by decide +kernel
theorem dX12_digits_38 : decode cX12_digits 38 = .ok (.iconst 5, 1) := by decide +kernel
theorem dX12_digits_39 : decode cX12_digits 39 = .ok (.if_icmp .ge 18, 3) := by decide +kernel
theorem dX12_digits_42 : decode cX12_digits 42 = .ok (.bipush 10, 2) := by decide +kernel
theorem dX12_digits_44 : decode cX12_digits 44 = .ok (.iload_n 3, 1) := by decide +kernel
theorem dX12_digits_45 : decode cX12_digits 45 = .ok (.imul, 1) := by decide +kernel
theorem dX12_digits_46 : decode cX12_digits 46 = .ok (.aload_n 0, 1) := by decide +kernel
theorem dX12_digits_47 : decode cX12_digits 47 = .ok (.invokevirtual 361, 3) := by decide +kernel
theorem dX12_digits_50 : decode cX12_digits 50 = .ok (.iadd, 1) := by decide +kernel
theorem dX12_digits_51 : decode cX12_digits 51 = .ok (.bipush 48, 2) := by decide +kernel
theorem dX12_digits_53 : decode cX12_digits 53 = .ok (.isub, 1) := by decide +kernel
theorem dX12_digits_54 : decode cX12_digits 54 = .ok (.goto 4, 3) := by decide +kernel
theorem dX12_digits_57 : decode cX12_digits 57 = .ok (.iload_n 3, 1) := by decide +kernel
theorem dX12_digits_58 : decode cX12_digits 58 = .ok (.istore_n 3, 1) := by decide +kernel
theorem dX12_digits_59 : decode cX12_digits 59 = .ok (.aload_n 0, 1) := by decide +kernel
theorem dX12_digits_60 : decode cX12_digits 60 = .ok (.dup, 1) := by decide +kernel
theorem dX12_digits_61 : decode cX12_digits 61 = .ok (.getfield 358, 3) := by decide +kernel
theorem dX12_digits_64 : decode cX12_digits 64 = .ok (.iconst 1, 1) := by decide +kernel
theorem dX12_digits_65 : decode cX12_digits 65 = .ok (.iadd, 1) := by decide +kernel
theorem dX12_digits_66 : decode cX12_digits 66 = .ok (.putfield 358, 3) := by decide +kernel
theorem dX12_digits_69 : decode cX12_digits 69 = .ok (.goto (-44), 3) := by decide +kernel
theorem dX12_digits_72 : decode cX12_digits 72 = .ok (.aload_n 0, 1) := by decide +kernel
theorem dX12_digits_73 : decode cX12_digits 73 = .ok (.getfield 358, 3) := by decide +kernel
theorem dX12_digits_76 : decode cX12_digits 76 = .ok (.iload_n 2, 1) := by decide +kernel
theorem dX12_digits_77 : decode cX12_digits 77 = .ok (.isub, 1) := by decide +kernel
theorem dX12_digits_78 : decode cX12_digits 78 = .ok (.iconst 5, 1) := by decide +kernel
theorem dX12_digits_79 : decode cX12_digits 79 = .ok (.if_icmp .gt 8, 3) := by decide +kernel
theorem dX12_digits_82 : decode cX12_digits 82 = .ok (.iload_n 3, 1) := by decide +kernel
theorem dX12_digits_83 : decode cX12_digits 83 = .ok (.iload_n 1, 1) := by decide +kernel
theorem dX12_digits_84 : decode cX12_digits 84 = .ok (.if_icmp .le 9, 3) := by decide +kernel
theorem dX12_digits_87 : decode cX12_digits 87 = .ok (.aload_n 0, 1) := by decide +kernel
theorem dX12_digits_88 : decode cX12_digits 88 = .ok (.iconst 1, 1) := by decide +kernel
theorem dX12_digits_89 : decode cX12_digits 89 = .ok (.iload_n 2, 1) := by decide +kernel
theorem dX12_digits_90 : decode cX12_digits 90 = .ok (.invokevirtual 394, 3) := by decide +kernel
theorem dX12_digits_93 : decode cX12_digits 93 = .ok (.iload_n 3, 1) := by decide +kernel
theorem dX12_digits_94 : decode cX12_digits 94 = .ok (.ireturn, 1) := by decide +kernel
theorem dX12_value_0 : decode cX12_value 0 = .ok (.aload_n 0, 1) := by decide +kernel
theorem dX12_value_1 : decode cX12_value 1 = .ok (.invokevirtual 378, 3) := by decide +kernel
theorem dX12_value_4 : decode cX12_value 4 = .ok (.aload_n 0, 1) := by decide +kernel
theorem dX12_value_5 : decode cX12_value 5 = .ok (.getfield 358, 3) := by decide +kernel
theorem dX12_value_8 : decode cX12_value 8 = .ok (.istore_n 1, 1) := by decide +kernel
theorem dX12_value_9 : decode cX12_value 9 = .ok (.aload_n 0, 1) := by decide +kernel
theorem dX12_value_10 : decode cX12_value 10 = .ok (.invokevirtual 397, 3) := by decide +kernel
theorem dX12_value_13 : decode cX12_value 13 = .ok (.ifCond .eq 23, 3) := by decide +kernel
theorem dX12_value_16 : decode cX12_value 16 = .ok (.aload_n 0, 1) := by decide +kernel
theorem dX12_value_17 : decode cX12_value 17 = .ok (.ldc_w 400, 3) := by decide +kernel
theorem dX12_value_20 : decode cX12_value 20 = .ok (.invokevirtual 401, 3) := by decide +kernel
theorem dX12_value_23 : decode cX12_value 23 = .ok (.istore_n 2, 1) := by decide +kernel
theorem dX12_value_24 : decode cX12_value 24 = .ok (.aload_n 0, 1) := by decide +kernel
theorem dX12_value_25 : decode cX12_value 25 = .ok (.iload_n 1, 1) := by decide +kernel
theorem dX12_value_26 : decode cX12_value 26 = .ok (.invokevirtual 404, 3) := by decide +kernel
theorem dX12_value_29 : decode cX12_value 29 = .ok (.aload_n 0, 1) := by decide +kernel
theorem dX12_value_30 : decode cX12_value 30 = .ok (.iconst 0, 1) := by decide +kernel
theorem dX12_value_31 : decode cX12_value 31 = .ok (.iload_n 2, 1) := by decide +kernel
theorem dX12_value_32 : decode cX12_value 32 = .ok (.invokevirtual 407, 3) := by decide +kernel
theorem dX12_value_35 : decode cX12_value 35 = .ok (.return_, 1) := by decide +kernel
theorem dX12_value_36 : decode cX12_value 36 = .ok (.iconst 0, 1) := by decide +kernel
theorem dX12_value_37 : decode cX12_value 37 = .ok (.istore_n 2, 1) := by decide +kernel
theorem dX12_value_38 : decode cX12_value 38 = .ok (.iload_n 2, 1) := by decide +kernel
theorem dX12_value_39 : decode cX12_value 39 = .ok (.bipush 7, 2) := by decide +kernel
theorem dX12_value_41 : decode cX12_value 41 = .ok (.if_icmp .ge 20, 3) := by decide +kernel
theorem dX12_value_44 : decode cX12_value 44 = .ok (.aload_n 0, 1) := by decide +kernel
theorem dX12_value_45 : decode cX12_value 45 = .ok (.iload_n 2, 1) := by decide +kernel
theorem dX12_value_46 : decode cX12_value 46 = .ok (.invokestatic 410, 3) := by decide +kernel
theorem dX12_value_49 : decode cX12_value 49 = .ok (.invokevirtual 381, 3) := by decide +kernel
theorem dX12_value_52 : decode cX12_value 52 = .ok (.ifCond .ne 9, 3) := by decide +kernel
theorem dX12_value_55 : decode cX12_value 55 = .ok (.iinc 2 1, 3) := by decide +kernel
theorem dX12_value_58 : decode cX12_value 58 = .ok (.goto (-20), 3) := by decide +kernel
theorem dX12_value_61 : decode cX12_value 61 = .ok (.iload_n 2, 1) := by decide +kernel
theorem dX12_value_62 : decode cX12_value 62 = .ok (.bipush 7, 2) := by decide +kernel
theorem dX12_value_64 : decode cX12_value 64 = .ok (.if_icmp .ne 10, 3) := by decide +kernel
theorem dX12_value_67 : decode cX12_value 67 = .ok (.aload_n 0, 1) := by decide +kernel
theorem dX12_value_68 : decode cX12_value 68 = .ok (.iconst 0, 1) := by decide +kernel
theorem dX12_value_69 : decode cX12_value 69 = .ok (.iload_n 1, 1) := by decide +kernel
theorem dX12_value_70 : decode cX12_value 70 = .ok (.invokevirtual 394, 3) := by decide +kernel
theorem dX12_value_73 : decode cX12_value 73 = .ok (.return_, 1) := by decide +kernel
theorem dX12_value_74 : decode cX12_value 74 = .ok (.aload_n 0, 1) := by decide +kernel
theorem dX12_value_75 : decode cX12_value 75 = .ok (.iload_n 1, 1) := by decide +kernel
theorem dX12_value_76 : decode cX12_value 76 = .ok (.invokevirtual 404, 3) := by decide +kernel
theorem dX12_value_79 : decode cX12_value 79 = .ok (.aload_n 0, 1) := by decide +kernel
theorem dX12_value_80 : decode cX12_value 80 = .ok (.dup, 1) := by decide +kernel
theorem dX12_value_81 : decode cX12_value 81 = .ok (.getfield 358, 3) := by decide +kernel
theorem dX12_value_84 : decode cX12_value 84 = .ok (.iload_n 2, 1) := by decide +kernel
theorem dX12_value_85 : decode cX12_value 85 = .ok (.invokestatic 410, 3) := by decide +kernel
theorem dX12_value_88 : decode cX12_value 88 = .ok (.invokevirtual 369, 3) := by decide +kernel
theorem dX12_value_91 : decode cX12_value 91 = .ok (.iadd, 1) := by decide +kernel
theorem dX12_value_92 : decode cX12_value 92 = .ok (.putfield 358, 3) := by decide +kernel
theorem dX12_value_95 : decode cX12_value 95 = .ok (.aload_n 0, 1) := by decide +kernel
theorem dX12_value_96 : decode cX12_value 96 = .ok (.iconst 1, 1) := by decide +kernel
theorem dX12_value_97 : decode cX12_value 97 = .ok (.iload_n 2, 1) := by decide +kernel
theorem dX12_value_98 : decode cX12_value 98 = .ok (.invokevirtual 407, 3) := by decide +kernel
theorem dX12_value_101 : decode cX12_value 101 = .ok (.return_, 1) := by decide +kernel
theorem dX12_sum_0 : decode cX12_sum 0 = .ok (.aload_n 0, 1) := by decide +kernel
theorem dX12_sum_1 : decode cX12_sum 1 = .ok (.invokevirtual 414, 3) := by decide +kernel
theorem dX12_sum_4 : decode cX12_sum 4 = .ok (.aload_n 0, 1) := by decide +kernel
theorem dX12_sum_5 : decode cX12_sum 5 = .ok (.invokevirtual 378, 3) := by decide +kernel
theorem dX12_sum_8 : decode cX12_sum 8 = .ok (.aload_n 0, 1) := by decide +kernel
theorem dX12_sum_9 : decode cX12_sum 9 = .ok (.getfield 355, 3) := by decide +kernel
theorem dX12_sum_12 : decode cX12_sum 12 = .ok (.ifCond .ne 63, 3) := by decide +kernel
theorem dX12_sum_15 : decode cX12_sum 15 = .ok (.aload_n 0, 1) := by decide +kernel
theorem dX12_sum_16 : decode cX12_sum 16 = .ok (.invokevirtual 361, 3) := by decide +kernel
theorem dX12_sum_19 : decode cX12_sum 19 = .ok (.bipush 43, 2) := by decide +kernel
theorem dX12_sum_21 : decode cX12_sum 21 = .ok (.if_icmp .eq 12, 3) := by decide +kernel
theorem dX12_sum_24 : decode cX12_sum 24 = .ok (.aload_n 0, 1) := by decide +kernel
theorem dX12_sum_25 : decode cX12_sum 25 = .ok (.invokevirtual 361, 3) := by decide +kernel
theorem dX12_sum_28 : decode cX12_sum 28 = .ok (.bipush 45, 2) := by decide +kernel
theorem dX12_sum_30 : decode cX12_sum 30 = .ok (.if_icmp .ne 45, 3) := by decide +kernel
theorem dX12_sum_33 : decode cX12_sum 33 = .ok (.aload_n 0, 1) := by decide +kernel
theorem dX12_sum_34 : decode cX12_sum 34 = .ok (.invokevirtual 361, 3) := by decide +kernel
theorem dX12_sum_37 : decode cX12_sum 37 = .ok (.bipush 43, 2) := by decide +kernel
theorem dX12_sum_39 : decode cX12_sum 39 = .ok (.if_icmp .ne 7, 3) := by decide +kernel
theorem dX12_sum_42 : decode cX12_sum 42 = .ok (.iconst 2, 1) := by decide +kernel
theorem dX12_sum_43 : decode cX12_sum 43 = .ok (.goto 4, 3) := by decide +kernel
theorem dX12_sum_46 : decode cX12_sum 46 = .ok (.iconst 3, 1) := by decide +kernel
theorem dX12_sum_47 : decode cX12_sum 47 = .ok (.istore_n 1, 1) := by decide +kernel
theorem dX12_sum_48 : decode cX12_sum 48 = .ok (.aload_n 0, 1) := by decide +kernel
theorem dX12_sum_49 : decode cX12_sum 49 = .ok (.dup, 1) := by decide +kernel
theorem dX12_sum_50 : decode cX12_sum 50 = .ok (.getfield 358, 3) := by decide +kernel
theorem dX12_sum_53 : decode cX12_sum 53 = .ok (.iconst 1, 1) := by decide +kernel
theorem dX12_sum_54 : decode cX12_sum 54 = .ok (.iadd, 1) := by decide +kernel
theorem dX12_sum_55 : decode cX12_sum 55 = .ok (.putfield 358, 3) := by decide +kernel
theorem dX12_sum_58 : decode cX12_sum 58 = .ok (.aload_n 0, 1) := by decide +kernel
theorem dX12_sum_59 : decode cX12_sum 59 = .ok (.invokevirtual 414, 3) := by decide +kernel
theorem dX12_sum_62 : decode cX12_sum 62 = .ok (.aload_n 0, 1) := by decide +kernel
theorem dX12_sum_63 : decode cX12_sum 63 = .ok (.iload_n 1, 1) := by decide +kernel
theorem dX12_sum_64 : decode cX12_sum 64 = .ok (.iconst 0, 1) := by decide +kernel
theorem dX12_sum_65 : decode cX12_sum 65 = .ok (.invokevirtual 407, 3) := by decide +kernel
theorem dX12_sum_68 : decode cX12_sum 68 = .ok (.aload_n 0, 1) := by decide +kernel
theorem dX12_sum_69 : decode cX12_sum 69 = .ok (.invokevirtual 378, 3) := by decide +kernel
theorem dX12_sum_72 : decode cX12_sum 72 = .ok (.goto (-64), 3) := by decide +kernel
theorem dX12_sum_75 : decode cX12_sum 75 = .ok (.return_, 1) := by decide +kernel
theorem dX12_compared_0 : decode cX12_compared 0 = .ok (.aload_n 0, 1) := by decide +kernel
theorem dX12_compared_1 : decode cX12_compared 1 = .ok (.invokevirtual 417, 3) := by decide +kernel
theorem dX12_compared_4 : decode cX12_compared 4 = .ok (.aload_n 0, 1) := by decide +kernel
theorem dX12_compared_5 : decode cX12_compared 5 = .ok (.invokevirtual 361, 3) := by decide +kernel
theorem dX12_compared_8 : decode cX12_compared 8 = .ok (.istore_n 1, 1) := by decide +kernel
theorem dX12_compared_9 : decode cX12_compared 9 = .ok (.iload_n 1, 1) := by decide +kernel
theorem dX12_compared_10 : decode cX12_compared 10 = .ok (.bipush 60, 2) := by decide +kernel
theorem dX12_compared_12 : decode cX12_compared 12 = .ok (.if_icmp .eq 25, 3) := by decide +kernel
theorem dX12_compared_15 : decode cX12_compared 15 = .ok (.iload_n 1, 1) := by decide +kernel
theorem dX12_compared_16 : decode cX12_compared 16 = .ok (.bipush 61, 2) := by decide +kernel
theorem dX12_compared_18 : decode cX12_compared 18 = .ok (.if_icmp .eq 19, 3) := by decide +kernel
theorem dX12_compared_21 : decode cX12_compared 21 = .ok (.iload_n 1, 1) := by decide +kernel
theorem dX12_compared_22 : decode cX12_compared 22 = .ok (.bipush 62, 2) := by decide +kernel
theorem dX12_compared_24 : decode cX12_compared 24 = .ok (.if_icmp .eq 13, 3) := by decide +kernel
theorem dX12_compared_27 : decode cX12_compared 27 = .ok (.aload_n 0, 1) := by decide +kernel
theorem dX12_compared_28 : decode cX12_compared 28 = .ok (.iconst 0, 1) := by decide +kernel
theorem dX12_compared_29 : decode cX12_compared 29 = .ok (.aload_n 0, 1) := by decide +kernel
theorem dX12_compared_30 : decode cX12_compared 30 = .ok (.getfield 358, 3) := by decide +kernel
theorem dX12_compared_33 : decode cX12_compared 33 = .ok (.invokevirtual 394, 3) := by decide +kernel
theorem dX12_compared_36 : decode cX12_compared 36 = .ok (.return_, 1) := by decide +kernel
theorem dX12_compared_37 : decode cX12_compared 37 = .ok (.aload_n 0, 1) := by decide +kernel
theorem dX12_compared_38 : decode cX12_compared 38 = .ok (.aload_n 0, 1) := by decide +kernel
theorem dX12_compared_39 : decode cX12_compared 39 = .ok (.getfield 358, 3) := by decide +kernel
theorem dX12_compared_42 : decode cX12_compared 42 = .ok (.invokevirtual 404, 3) := by decide +kernel
theorem dX12_compared_45 : decode cX12_compared 45 = .ok (.aload_n 0, 1) := by decide +kernel
theorem dX12_compared_46 : decode cX12_compared 46 = .ok (.dup, 1) := by decide +kernel
theorem dX12_compared_47 : decode cX12_compared 47 = .ok (.getfield 358, 3) := by decide +kernel
theorem dX12_compared_50 : decode cX12_compared 50 = .ok (.iconst 1, 1) := by decide +kernel
theorem dX12_compared_51 : decode cX12_compared 51 = .ok (.iadd, 1) := by decide +kernel
theorem dX12_compared_52 : decode cX12_compared 52 = .ok (.putfield 358, 3) := by decide +kernel
theorem dX12_compared_55 : decode cX12_compared 55 = .ok (.iload_n 1, 1) := by decide +kernel
theorem dX12_compared_56 : decode cX12_compared 56 = .ok (.bipush 61, 2) := by decide +kernel
theorem dX12_compared_58 : decode cX12_compared 58 = .ok (.if_icmp .eq 16, 3) := by decide +kernel
theorem dX12_compared_61 : decode cX12_compared 61 = .ok (.aload_n 0, 1) := by decide +kernel
theorem dX12_compared_62 : decode cX12_compared 62 = .ok (.invokevirtual 361, 3) := by decide +kernel
theorem dX12_compared_65 : decode cX12_compared 65 = .ok (.bipush 61, 2) := by decide +kernel
theorem dX12_compared_67 : decode cX12_compared 67 = .ok (.if_icmp .ne 7, 3) := by decide +kernel
theorem dX12_compared_70 : decode cX12_compared 70 = .ok (.iconst 1, 1) := by decide +kernel
theorem dX12_compared_71 : decode cX12_compared 71 = .ok (.goto 4, 3) := by decide +kernel
theorem dX12_compared_74 : decode cX12_compared 74 = .ok (.iconst 0, 1) := by decide +kernel
theorem dX12_compared_75 : decode cX12_compared 75 = .ok (.istore_n 2, 1) := by decide +kernel
theorem dX12_compared_76 : decode cX12_compared 76 = .ok (.aload_n 0, 1) := by decide +kernel
theorem dX12_compared_77 : decode cX12_compared 77 = .ok (.dup, 1) := by decide +kernel
theorem dX12_compared_78 : decode cX12_compared 78 = .ok (.getfield 358, 3) := by decide +kernel
theorem dX12_compared_81 : decode cX12_compared 81 = .ok (.iload_n 2, 1) := by decide +kernel
theorem dX12_compared_82 : decode cX12_compared 82 = .ok (.ifCond .eq 7, 3) := by decide +kernel
theorem dX12_compared_85 : decode cX12_compared 85 = .ok (.iconst 1, 1) := by decide +kernel
theorem dX12_compared_86 : decode cX12_compared 86 = .ok (.goto 4, 3) := by decide +kernel
theorem dX12_compared_89 : decode cX12_compared 89 = .ok (.iconst 0, 1) := by decide +kernel
theorem dX12_compared_90 : decode cX12_compared 90 = .ok (.iadd, 1) := by decide +kernel
theorem dX12_compared_91 : decode cX12_compared 91 = .ok (.putfield 358, 3) := by decide +kernel
theorem dX12_compared_94 : decode cX12_compared 94 = .ok (.aload_n 0, 1) := by decide +kernel
theorem dX12_compared_95 : decode cX12_compared 95 = .ok (.invokevirtual 417, 3) := by decide +kernel
theorem dX12_compared_98 : decode cX12_compared 98 = .ok (.aload_n 0, 1) := by decide +kernel
theorem dX12_compared_99 : decode cX12_compared 99 = .ok (.iload_n 1, 1) := by decide +kernel
theorem dX12_compared_100 : decode cX12_compared 100 = .ok (.bipush 61, 2) := by decide +kernel
theorem dX12_compared_102 : decode cX12_compared 102 = .ok (.if_icmp .ne 8, 3) := by decide +kernel
theorem dX12_compared_105 : decode cX12_compared 105 = .ok (.bipush 6, 2) := by decide +kernel
theorem dX12_compared_107 : decode cX12_compared 107 = .ok (.goto 32, 3) := by decide +kernel
theorem dX12_compared_110 : decode cX12_compared 110 = .ok (.iload_n 1, 1) := by decide +kernel
theorem dX12_compared_111 : decode cX12_compared 111 = .ok (.bipush 60, 2) := by decide +kernel
theorem dX12_compared_113 : decode cX12_compared 113 = .ok (.if_icmp .ne 15, 3) := by decide +kernel
theorem dX12_compared_116 : decode cX12_compared 116 = .ok (.iload_n 2, 1) := by decide +kernel
theorem dX12_compared_117 : decode cX12_compared 117 = .ok (.ifCond .eq 7, 3) := by decide +kernel
theorem dX12_compared_120 : decode cX12_compared 120 = .ok (.iconst 5, 1) := by decide +kernel
theorem dX12_compared_121 : decode cX12_compared 121 = .ok (.goto 18, 3) := by decide +kernel
theorem dX12_compared_124 : decode cX12_compared 124 = .ok (.iconst 4, 1) := by decide +kernel
theorem dX12_compared_125 : decode cX12_compared 125 = .ok (.goto 14, 3) := by decide +kernel
theorem dX12_compared_128 : decode cX12_compared 128 = .ok (.iload_n 2, 1) := by decide +kernel
theorem dX12_compared_129 : decode cX12_compared 129 = .ok (.ifCond .eq 8, 3) := by decide +kernel
theorem dX12_compared_132 : decode cX12_compared 132 = .ok (.bipush 7, 2) := by decide +kernel
theorem dX12_compared_134 : decode cX12_compared 134 = .ok (.goto 5, 3) := by decide +kernel
theorem dX12_compared_137 : decode cX12_compared 137 = .ok (.bipush 8, 2) := by decide +kernel
theorem dX12_compared_139 : decode cX12_compared 139 = .ok (.iconst 0, 1) := by decide +kernel
theorem dX12_compared_140 : decode cX12_compared 140 = .ok (.invokevirtual 407, 3) := by decide +kernel
theorem dX12_compared_143 : decode cX12_compared 143 = .ok (.return_, 1) := by decide +kernel
theorem dX12_top_0 : decode cX12_top 0 = .ok (.aload_n 0, 1) := by decide +kernel
theorem dX12_top_1 : decode cX12_top 1 = .ok (.getfield 420, 3) := by decide +kernel
theorem dX12_top_4 : decode cX12_top 4 = .ok (.ifCond .ne 7, 3) := by decide +kernel
theorem dX12_top_7 : decode cX12_top 7 = .ok (.iconst (-1), 1) := by decide +kernel
theorem dX12_top_8 : decode cX12_top 8 = .ok (.goto 14, 3) := by decide +kernel
theorem dX12_top_11 : decode cX12_top 11 = .ok (.aload_n 0, 1) := by decide +kernel
theorem dX12_top_12 : decode cX12_top 12 = .ok (.getfield 128, 3) := by decide +kernel
theorem dX12_top_15 : decode cX12_top 15 = .ok (.aload_n 0, 1) := by decide +kernel
theorem dX12_top_16 : decode cX12_top 16 = .ok (.getfield 420, 3) := by decide +kernel
theorem dX12_top_19 : decode cX12_top 19 = .ok (.iconst 1, 1) := by decide +kernel
theorem dX12_top_20 : decode cX12_top 20 = .ok (.isub, 1) := by decide +kernel
theorem dX12_top_21 : decode cX12_top 21 = .ok (.iaload, 1) := by decide +kernel
theorem dX12_top_22 : decode cX12_top 22 = .ok (.ireturn, 1) := by decide +kernel
theorem dX12_opens_0 : decode cX12_opens 0 = .ok (.iload_n 1, 1) := by decide +kernel
theorem dX12_opens_1 : decode cX12_opens 1 = .ok (.bipush 9, 2) := by decide +kernel
theorem dX12_opens_3 : decode cX12_opens 3 = .ok (.if_icmp .eq 9, 3) := by decide +kernel
theorem dX12_opens_6 : decode cX12_opens 6 = .ok (.iload_n 1, 1) := by decide +kernel
theorem dX12_opens_7 : decode cX12_opens 7 = .ok (.bipush 12, 2) := by decide +kernel
theorem dX12_opens_9 : decode cX12_opens 9 = .ok (.if_icmp .ne 31, 3) := by decide +kernel
theorem dX12_opens_12 : decode cX12_opens 12 = .ok (.aload_n 0, 1) := by decide +kernel
theorem dX12_opens_13 : decode cX12_opens 13 = .ok (.getfield 423, 3) := by decide +kernel
theorem dX12_opens_16 : decode cX12_opens 16 = .ok (.bipush 10, 2) := by decide +kernel
theorem dX12_opens_18 : decode cX12_opens 18 = .ok (.if_icmp .ne 12, 3) := by decide +kernel
theorem dX12_opens_21 : decode cX12_opens 21 = .ok (.aload_n 0, 1) := by decide +kernel
theorem dX12_opens_22 : decode cX12_opens 22 = .ok (.iconst 2, 1) := by decide +kernel
theorem dX12_opens_23 : decode cX12_opens 23 = .ok (.aload_n 0, 1) := by decide +kernel
theorem dX12_opens_24 : decode cX12_opens 24 = .ok (.getfield 358, 3) := by decide +kernel
theorem dX12_opens_27 : decode cX12_opens 27 = .ok (.invokevirtual 394, 3) := by decide +kernel
theorem dX12_opens_30 : decode cX12_opens 30 = .ok (.aload_n 0, 1) := by decide +kernel
theorem dX12_opens_31 : decode cX12_opens 31 = .ok (.dup, 1) := by decide +kernel
theorem dX12_opens_32 : decode cX12_opens 32 = .ok (.getfield 423, 3) := by decide +kernel
theorem dX12_opens_35 : decode cX12_opens 35 = .ok (.iconst 1, 1) := by decide +kernel
theorem dX12_opens_36 : decode cX12_opens 36 = .ok (.iadd, 1) := by decide +kernel
theorem dX12_opens_37 : decode cX12_opens 37 = .ok (.putfield 423, 3) := by decide +kernel
theorem dX12_opens_40 : decode cX12_opens 40 = .ok (.aload_n 0, 1) := by decide +kernel
theorem dX12_opens_41 : decode cX12_opens 41 = .ok (.getfield 128, 3) := by decide +kernel
theorem dX12_opens_44 : decode cX12_opens 44 = .ok (.aload_n 0, 1) := by decide +kernel
theorem dX12_opens_45 : decode cX12_opens 45 = .ok (.getfield 420, 3) := by decide +kernel
theorem dX12_opens_48 : decode cX12_opens 48 = .ok (.iload_n 1, 1) := by decide +kernel
theorem dX12_opens_49 : decode cX12_opens 49 = .ok (.iastore, 1) := by decide +kernel
theorem dX12_opens_50 : decode cX12_opens 50 = .ok (.aload_n 0, 1) := by decide +kernel
theorem dX12_opens_51 : decode cX12_opens 51 = .ok (.dup, 1) := by decide +kernel
theorem dX12_opens_52 : decode cX12_opens 52 = .ok (.getfield 420, 3) := by decide +kernel
theorem dX12_opens_55 : decode cX12_opens 55 = .ok (.iconst 1, 1) := by decide +kernel
theorem dX12_opens_56 : decode cX12_opens 56 = .ok (.iadd, 1) := by decide +kernel
theorem dX12_opens_57 : decode cX12_opens 57 = .ok (.putfield 420, 3) := by decide +kernel
theorem dX12_opens_60 : decode cX12_opens 60 = .ok (.return_, 1) := by decide +kernel
theorem dX12_answers_0 : decode cX12_answers 0 = .ok (.aload_n 0, 1) := by decide +kernel
theorem dX12_answers_1 : decode cX12_answers 1 = .ok (.invokevirtual 426, 3) := by decide +kernel
theorem dX12_answers_4 : decode cX12_answers 4 = .ok (.iload_n 1, 1) := by decide +kernel
theorem dX12_answers_5 : decode cX12_answers 5 = .ok (.if_icmp .ne 49, 3) := by decide +kernel
theorem dX12_answers_8 : decode cX12_answers 8 = .ok (.aload_n 0, 1) := by decide +kernel
theorem dX12_answers_9 : decode cX12_answers 9 = .ok (.getfield 355, 3) := by decide +kernel
theorem dX12_answers_12 : decode cX12_answers 12 = .ok (.ifCond .ne 42, 3) := by decide +kernel
theorem dX12_answers_15 : decode cX12_answers 15 = .ok (.aload_n 0, 1) := by decide +kernel
theorem dX12_answers_16 : decode cX12_answers 16 = .ok (.iload_n 1, 1) := by decide +kernel
theorem dX12_answers_17 : decode cX12_answers 17 = .ok (.iconst 0, 1) := by decide +kernel
theorem dX12_answers_18 : decode cX12_answers 18 = .ok (.invokevirtual 407, 3) := by decide +kernel
theorem dX12_answers_21 : decode cX12_answers 21 = .ok (.aload_n 0, 1) := by decide +kernel
theorem dX12_answers_22 : decode cX12_answers 22 = .ok (.dup, 1) := by decide +kernel
theorem dX12_answers_23 : decode cX12_answers 23 = .ok (.getfield 420, 3) := by decide +kernel
theorem dX12_answers_26 : decode cX12_answers 26 = .ok (.iconst 1, 1) := by decide +kernel
theorem dX12_answers_27 : decode cX12_answers 27 = .ok (.isub, 1) := by decide +kernel
theorem dX12_answers_28 : decode cX12_answers 28 = .ok (.putfield 420, 3) := by decide +kernel
theorem dX12_answers_31 : decode cX12_answers 31 = .ok (.aload_n 0, 1) := by decide +kernel
theorem dX12_answers_32 : decode cX12_answers 32 = .ok (.dup, 1) := by decide +kernel
theorem dX12_answers_33 : decode cX12_answers 33 = .ok (.getfield 423, 3) := by decide +kernel
theorem dX12_answers_36 : decode cX12_answers 36 = .ok (.iload_n 1, 1) := by decide +kernel
theorem dX12_answers_37 : decode cX12_answers 37 = .ok (.bipush 9, 2) := by decide +kernel
theorem dX12_answers_39 : decode cX12_answers 39 = .ok (.if_icmp .ne 7, 3) := by decide +kernel
theorem dX12_answers_42 : decode cX12_answers 42 = .ok (.iconst 1, 1) := by decide +kernel
theorem dX12_answers_43 : decode cX12_answers 43 = .ok (.goto 4, 3) := by decide +kernel
theorem dX12_answers_46 : decode cX12_answers 46 = .ok (.iconst 0, 1) := by decide +kernel
theorem dX12_answers_47 : decode cX12_answers 47 = .ok (.isub, 1) := by decide +kernel
theorem dX12_answers_48 : decode cX12_answers 48 = .ok (.putfield 423, 3) := by decide +kernel
theorem dX12_answers_51 : decode cX12_answers 51 = .ok (.goto (-51), 3) := by decide +kernel
theorem dX12_answers_54 : decode cX12_answers 54 = .ok (.return_, 1) := by decide +kernel
theorem dX12_fact_0 : decode cX12_fact 0 = .ok (.aload_n 0, 1) := by decide +kernel
theorem dX12_fact_1 : decode cX12_fact 1 = .ok (.invokevirtual 378, 3) := by decide +kernel
theorem dX12_fact_4 : decode cX12_fact 4 = .ok (.aload_n 0, 1) := by decide +kernel
theorem dX12_fact_5 : decode cX12_fact 5 = .ok (.ldc_w 429, 3) := by decide +kernel
theorem dX12_fact_8 : decode cX12_fact 8 = .ok (.invokevirtual 381, 3) := by decide +kernel
theorem dX12_fact_11 : decode cX12_fact 11 = .ok (.ifCond .eq 21, 3) := by decide +kernel
theorem dX12_fact_14 : decode cX12_fact 14 = .ok (.aload_n 0, 1) := by decide +kernel
theorem dX12_fact_15 : decode cX12_fact 15 = .ok (.bipush 9, 2) := by decide +kernel
theorem dX12_fact_17 : decode cX12_fact 17 = .ok (.invokevirtual 431, 3) := by decide +kernel
theorem dX12_fact_20 : decode cX12_fact 20 = .ok (.aload_n 0, 1) := by decide +kernel
theorem dX12_fact_21 : decode cX12_fact 21 = .ok (.dup, 1) := by decide +kernel
theorem dX12_fact_22 : decode cX12_fact 22 = .ok (.getfield 358, 3) := by decide +kernel
theorem dX12_fact_25 : decode cX12_fact 25 = .ok (.iconst 3, 1) := by decide +kernel
theorem dX12_fact_26 : decode cX12_fact 26 = .ok (.iadd, 1) := by decide +kernel
theorem dX12_fact_27 : decode cX12_fact 27 = .ok (.putfield 358, 3) := by decide +kernel
theorem dX12_fact_30 : decode cX12_fact 30 = .ok (.iconst 0, 1) := by decide +kernel
theorem dX12_fact_31 : decode cX12_fact 31 = .ok (.ireturn, 1) := by decide +kernel
theorem dX12_fact_32 : decode cX12_fact 32 = .ok (.aload_n 0, 1) := by decide +kernel
theorem dX12_fact_33 : decode cX12_fact 33 = .ok (.invokevirtual 361, 3) := by decide +kernel
theorem dX12_fact_36 : decode cX12_fact 36 = .ok (.bipush 91, 2) := by decide +kernel
theorem dX12_fact_38 : decode cX12_fact 38 = .ok (.if_icmp .ne 21, 3) := by decide +kernel
theorem dX12_fact_41 : decode cX12_fact 41 = .ok (.aload_n 0, 1) := by decide +kernel
theorem dX12_fact_42 : decode cX12_fact 42 = .ok (.bipush 12, 2) := by decide +kernel
theorem dX12_fact_44 : decode cX12_fact 44 = .ok (.invokevirtual 431, 3) := by decide +kernel
theorem dX12_fact_47 : decode cX12_fact 47 = .ok (.aload_n 0, 1) := by decide +kernel
theorem dX12_fact_48 : decode cX12_fact 48 = .ok (.dup, 1) := by decide +kernel
theorem dX12_fact_49 : decode cX12_fact 49 = .ok (.getfield 358, 3) := by decide +kernel
theorem dX12_fact_52 : decode cX12_fact 52 = .ok (.iconst 1, 1) := by decide +kernel
theorem dX12_fact_53 : decode cX12_fact 53 = .ok (.iadd, 1) := by decide +kernel
theorem dX12_fact_54 : decode cX12_fact 54 = .ok (.putfield 358, 3) := by decide +kernel
theorem dX12_fact_57 : decode cX12_fact 57 = .ok (.iconst 0, 1) := by decide +kernel
theorem dX12_fact_58 : decode cX12_fact 58 = .ok (.ireturn, 1) := by decide +kernel
theorem dX12_fact_59 : decode cX12_fact 59 = .ok (.aload_n 0, 1) := by decide +kernel
theorem dX12_fact_60 : decode cX12_fact 60 = .ok (.invokevirtual 434, 3) := by decide +kernel
theorem dX12_fact_63 : decode cX12_fact 63 = .ok (.iconst 1, 1) := by decide +kernel
theorem dX12_fact_64 : decode cX12_fact 64 = .ok (.ireturn, 1) := by decide +kernel
theorem dX12_test_0 : decode cX12_test 0 = .ok (.aload_n 0, 1) := by decide +kernel
theorem dX12_test_1 : decode cX12_test 1 = .ok (.iconst 0, 1) := by decide +kernel
theorem dX12_test_2 : decode cX12_test 2 = .ok (.putfield 420, 3) := by decide +kernel
theorem dX12_test_5 : decode cX12_test 5 = .ok (.iconst 1, 1) := by decide +kernel
theorem dX12_test_6 : decode cX12_test 6 = .ok (.istore_n 1, 1) := by decide +kernel
theorem dX12_test_7 : decode cX12_test 7 = .ok (.iconst 1, 1) := by decide +kernel
theorem dX12_test_8 : decode cX12_test 8 = .ok (.istore_n 2, 1) := by decide +kernel
theorem dX12_test_9 : decode cX12_test 9 = .ok (.iload_n 2, 1) := by decide +kernel
theorem dX12_test_10 : decode cX12_test 10 = .ok (.ifCond .eq 192, 3) := by decide +kernel
theorem dX12_test_13 : decode cX12_test 13 = .ok (.aload_n 0, 1) := by decide +kernel
theorem dX12_test_14 : decode cX12_test 14 = .ok (.getfield 355, 3) := by decide +kernel
theorem dX12_test_17 : decode cX12_test 17 = .ok (.ifCond .ne 185, 3) := by decide +kernel
theorem dX12_test_20 : decode cX12_test 20 = .ok (.iload_n 1, 1) := by decide +kernel
theorem dX12_test_21 : decode cX12_test 21 = .ok (.ifCond .eq 19, 3) := by decide +kernel
theorem dX12_test_24 : decode cX12_test 24 = .ok (.aload_n 0, 1) := by decide +kernel
theorem dX12_test_25 : decode cX12_test 25 = .ok (.invokevirtual 437, 3) := by decide +kernel
theorem dX12_test_28 : decode cX12_test 28 = .ok (.ifCond .ne 7, 3) := by decide +kernel
theorem dX12_test_31 : decode cX12_test 31 = .ok (.iconst 1, 1) := by decide +kernel
theorem dX12_test_32 : decode cX12_test 32 = .ok (.goto 4, 3) := by decide +kernel
theorem dX12_test_35 : decode cX12_test 35 = .ok (.iconst 0, 1) := by decide +kernel
theorem dX12_test_36 : decode cX12_test 36 = .ok (.istore_n 1, 1) := by decide +kernel
theorem dX12_test_37 : decode cX12_test 37 = .ok (.goto (-28), 3) := by decide +kernel
theorem dX12_test_40 : decode cX12_test 40 = .ok (.aload_n 0, 1) := by decide +kernel
theorem dX12_test_41 : decode cX12_test 41 = .ok (.bipush 9, 2) := by decide +kernel
theorem dX12_test_43 : decode cX12_test 43 = .ok (.invokevirtual 440, 3) := by decide +kernel
theorem dX12_test_46 : decode cX12_test 46 = .ok (.aload_n 0, 1) := by decide +kernel
theorem dX12_test_47 : decode cX12_test 47 = .ok (.invokevirtual 378, 3) := by decide +kernel
theorem dX12_test_50 : decode cX12_test 50 = .ok (.aload_n 0, 1) := by decide +kernel
theorem dX12_test_51 : decode cX12_test 51 = .ok (.ldc_w 443, 3) := by decide +kernel
theorem dX12_test_54 : decode cX12_test 54 = .ok (.invokevirtual 381, 3) := by decide +kernel
theorem dX12_test_57 : decode cX12_test 57 = .ok (.istore_n 3, 1) := by decide +kernel
theorem dX12_test_58 : decode cX12_test 58 = .ok (.aload_n 0, 1) := by decide +kernel
theorem dX12_test_59 : decode cX12_test 59 = .ok (.ldc_w 445, 3) := by decide +kernel
theorem dX12_test_62 : decode cX12_test 62 = .ok (.invokevirtual 381, 3) := by decide +kernel
theorem dX12_test_65 : decode cX12_test 65 = .ok (.istore 4, 2) := by decide +kernel
theorem dX12_test_67 : decode cX12_test 67 = .ok (.aload_n 0, 1) := by decide +kernel
theorem dX12_test_68 : decode cX12_test 68 = .ok (.bipush 10, 2) := by decide +kernel
theorem dX12_test_70 : decode cX12_test 70 = .ok (.invokevirtual 440, 3) := by decide +kernel
theorem dX12_test_73 : decode cX12_test 73 = .ok (.iload_n 3, 1) := by decide +kernel
theorem dX12_test_74 : decode cX12_test 74 = .ok (.ifCond .ne 8, 3) := by decide +kernel
theorem dX12_test_77 : decode cX12_test 77 = .ok (.iload 4, 2) := by decide +kernel
theorem dX12_test_79 : decode cX12_test 79 = .ok (.ifCond .eq 52, 3) := by decide +kernel
theorem dX12_test_82 : decode cX12_test 82 = .ok (.iload 4, 2) := by decide +kernel
theorem dX12_test_84 : decode cX12_test 84 = .ok (.ifCond .eq 9, 3) := by decide +kernel
theorem dX12_test_87 : decode cX12_test 87 = .ok (.aload_n 0, 1) := by decide +kernel
theorem dX12_test_88 : decode cX12_test 88 = .ok (.bipush 11, 2) := by decide +kernel
theorem dX12_test_90 : decode cX12_test 90 = .ok (.invokevirtual 440, 3) := by decide +kernel
theorem dX12_test_93 : decode cX12_test 93 = .ok (.aload_n 0, 1) := by decide +kernel
theorem dX12_test_94 : decode cX12_test 94 = .ok (.iload_n 3, 1) := by decide +kernel
theorem dX12_test_95 : decode cX12_test 95 = .ok (.ifCond .eq 8, 3) := by decide +kernel
theorem dX12_test_98 : decode cX12_test 98 = .ok (.bipush 10, 2) := by decide +kernel
theorem dX12_test_100 : decode cX12_test 100 = .ok (.goto 5, 3) := by decide +kernel
theorem dX12_test_103 : decode cX12_test 103 = .ok (.bipush 11, 2) := by decide +kernel
theorem dX12_test_105 : decode cX12_test 105 = .ok (.invokevirtual 431, 3) := by decide +kernel
theorem dX12_test_108 : decode cX12_test 108 = .ok (.aload_n 0, 1) := by decide +kernel
theorem dX12_test_109 : decode cX12_test 109 = .ok (.dup, 1) := by decide +kernel
theorem dX12_test_110 : decode cX12_test 110 = .ok (.getfield 358, 3) := by decide +kernel
theorem dX12_test_113 : decode cX12_test 113 = .ok (.iload_n 3, 1) := by decide +kernel
theorem dX12_test_114 : decode cX12_test 114 = .ok (.ifCond .eq 7, 3) := by decide +kernel
theorem dX12_test_117 : decode cX12_test 117 = .ok (.iconst 3, 1) := by decide +kernel
theorem dX12_test_118 : decode cX12_test 118 = .ok (.goto 4, 3) := by decide +kernel
theorem dX12_test_121 : decode cX12_test 121 = .ok (.iconst 2, 1) := by decide +kernel
theorem dX12_test_122 : decode cX12_test 122 = .ok (.iadd, 1) := by decide +kernel
theorem dX12_test_123 : decode cX12_test 123 = .ok (.putfield 358, 3) := by decide +kernel
theorem dX12_test_126 : decode cX12_test 126 = .ok (.iconst 1, 1) := by decide +kernel
theorem dX12_test_127 : decode cX12_test 127 = .ok (.istore_n 1, 1) := by decide +kernel
theorem dX12_test_128 : decode cX12_test 128 = .ok (.goto 71, 3) := by decide +kernel
theorem dX12_test_131 : decode cX12_test 131 = .ok (.aload_n 0, 1) := by decide +kernel
theorem dX12_test_132 : decode cX12_test 132 = .ok (.bipush 11, 2) := by decide +kernel
theorem dX12_test_134 : decode cX12_test 134 = .ok (.invokevirtual 440, 3) := by decide +kernel
theorem dX12_test_137 : decode cX12_test 137 = .ok (.aload_n 0, 1) := by decide +kernel
theorem dX12_test_138 : decode cX12_test 138 = .ok (.invokevirtual 426, 3) := by decide +kernel
theorem dX12_test_141 : decode cX12_test 141 = .ok (.bipush 12, 2) := by decide +kernel
theorem dX12_test_143 : decode cX12_test 143 = .ok (.if_icmp .ne 54, 3) := by decide +kernel
theorem dX12_test_146 : decode cX12_test 146 = .ok (.aload_n 0, 1) := by decide +kernel
theorem dX12_test_147 : decode cX12_test 147 = .ok (.invokevirtual 361, 3) := by decide +kernel
theorem dX12_test_150 : decode cX12_test 150 = .ok (.bipush 93, 2) := by decide +kernel
theorem dX12_test_152 : decode cX12_test 152 = .ok (.if_icmp .eq 12, 3) := by decide +kernel
theorem dX12_test_155 : decode cX12_test 155 = .ok (.aload_n 0, 1) := by decide +kernel
theorem dX12_test_156 : decode cX12_test 156 = .ok (.iconst 0, 1) := by decide +kernel
theorem dX12_test_157 : decode cX12_test 157 = .ok (.aload_n 0, 1) := by decide +kernel
theorem dX12_test_158 : decode cX12_test 158 = .ok (.getfield 358, 3) := by decide +kernel
theorem dX12_test_161 : decode cX12_test 161 = .ok (.invokevirtual 394, 3) := by decide +kernel
theorem dX12_test_164 : decode cX12_test 164 = .ok (.aload_n 0, 1) := by decide +kernel
theorem dX12_test_165 : decode cX12_test 165 = .ok (.dup, 1) := by decide +kernel
theorem dX12_test_166 : decode cX12_test 166 = .ok (.getfield 358, 3) := by decide +kernel
theorem dX12_test_169 : decode cX12_test 169 = .ok (.iconst 1, 1) := by decide +kernel
theorem dX12_test_170 : decode cX12_test 170 = .ok (.iadd, 1) := by decide +kernel
theorem dX12_test_171 : decode cX12_test 171 = .ok (.putfield 358, 3) := by decide +kernel
theorem dX12_test_174 : decode cX12_test 174 = .ok (.aload_n 0, 1) := by decide +kernel
theorem dX12_test_175 : decode cX12_test 175 = .ok (.dup, 1) := by decide +kernel
theorem dX12_test_176 : decode cX12_test 176 = .ok (.getfield 420, 3) := by decide +kernel
theorem dX12_test_179 : decode cX12_test 179 = .ok (.iconst 1, 1) := by decide +kernel
theorem dX12_test_180 : decode cX12_test 180 = .ok (.isub, 1) := by decide +kernel
theorem dX12_test_181 : decode cX12_test 181 = .ok (.putfield 420, 3) := by decide +kernel
theorem dX12_test_184 : decode cX12_test 184 = .ok (.aload_n 0, 1) := by decide +kernel
theorem dX12_test_185 : decode cX12_test 185 = .ok (.dup, 1) := by decide +kernel
theorem dX12_test_186 : decode cX12_test 186 = .ok (.getfield 423, 3) := by decide +kernel
theorem dX12_test_189 : decode cX12_test 189 = .ok (.iconst 1, 1) := by decide +kernel
theorem dX12_test_190 : decode cX12_test 190 = .ok (.isub, 1) := by decide +kernel
theorem dX12_test_191 : decode cX12_test 191 = .ok (.putfield 423, 3) := by decide +kernel
theorem dX12_test_194 : decode cX12_test 194 = .ok (.goto 5, 3) := by decide +kernel
theorem dX12_test_197 : decode cX12_test 197 = .ok (.iconst 0, 1) := by decide +kernel
theorem dX12_test_198 : decode cX12_test 198 = .ok (.istore_n 2, 1) := by decide +kernel
theorem dX12_test_199 : decode cX12_test 199 = .ok (.goto (-190), 3) := by decide +kernel
theorem dX12_test_202 : decode cX12_test 202 = .ok (.return_, 1) := by decide +kernel
theorem dX12_clause_0 : decode cX12_clause 0 = .ok (.aload_n 0, 1) := by decide +kernel
theorem dX12_clause_1 : decode cX12_clause 1 = .ok (.invokevirtual 378, 3) := by decide +kernel
theorem dX12_clause_4 : decode cX12_clause 4 = .ok (.aload_n 0, 1) := by decide +kernel
theorem dX12_clause_5 : decode cX12_clause 5 = .ok (.getfield 358, 3) := by decide +kernel
theorem dX12_clause_8 : decode cX12_clause 8 = .ok (.istore_n 2, 1) := by decide +kernel
theorem dX12_clause_9 : decode cX12_clause 9 = .ok (.iconst 0, 1) := by decide +kernel
theorem dX12_clause_10 : decode cX12_clause 10 = .ok (.istore_n 3, 1) := by decide +kernel
theorem dX12_clause_11 : decode cX12_clause 11 = .ok (.iload_n 3, 1) := by decide +kernel
theorem dX12_clause_12 : decode cX12_clause 12 = .ok (.iconst 4, 1) := by decide +kernel
theorem dX12_clause_13 : decode cX12_clause 13 = .ok (.if_icmp .ge 20, 3) := by decide +kernel
theorem dX12_clause_16 : decode cX12_clause 16 = .ok (.aload_n 0, 1) := by decide +kernel
theorem dX12_clause_17 : decode cX12_clause 17 = .ok (.iload_n 3, 1) := by decide +kernel
theorem dX12_clause_18 : decode cX12_clause 18 = .ok (.invokestatic 447, 3) := by decide +kernel
theorem dX12_clause_21 : decode cX12_clause 21 = .ok (.invokevirtual 381, 3) := by decide +kernel
theorem dX12_clause_24 : decode cX12_clause 24 = .ok (.ifCond .ne 9, 3) := by decide +kernel
theorem dX12_clause_27 : decode cX12_clause 27 = .ok (.iinc 3 1, 3) := by decide +kernel
theorem dX12_clause_30 : decode cX12_clause 30 = .ok (.goto (-19), 3) := by decide +kernel
theorem dX12_clause_33 : decode cX12_clause 33 = .ok (.iload_n 3, 1) := by decide +kernel
theorem dX12_clause_34 : decode cX12_clause 34 = .ok (.iconst 4, 1) := by decide +kernel
theorem dX12_clause_35 : decode cX12_clause 35 = .ok (.if_icmp .ne 10, 3) := by decide +kernel
theorem dX12_clause_38 : decode cX12_clause 38 = .ok (.aload_n 0, 1) := by decide +kernel
theorem dX12_clause_39 : decode cX12_clause 39 = .ok (.iconst 0, 1) := by decide +kernel
theorem dX12_clause_40 : decode cX12_clause 40 = .ok (.iload_n 2, 1) := by decide +kernel
theorem dX12_clause_41 : decode cX12_clause 41 = .ok (.invokevirtual 394, 3) := by decide +kernel
theorem dX12_clause_44 : decode cX12_clause 44 = .ok (.return_, 1) := by decide +kernel
theorem dX12_clause_45 : decode cX12_clause 45 = .ok (.iload_n 1, 1) := by decide +kernel
theorem dX12_clause_46 : decode cX12_clause 46 = .ok (.bipush 12, 2) := by decide +kernel
theorem dX12_clause_48 : decode cX12_clause 48 = .ok (.if_icmp .ne 10, 3) := by decide +kernel
theorem dX12_clause_51 : decode cX12_clause 51 = .ok (.aload_n 0, 1) := by decide +kernel
theorem dX12_clause_52 : decode cX12_clause 52 = .ok (.iconst 4, 1) := by decide +kernel
theorem dX12_clause_53 : decode cX12_clause 53 = .ok (.iload_n 2, 1) := by decide +kernel
theorem dX12_clause_54 : decode cX12_clause 54 = .ok (.invokevirtual 394, 3) := by decide +kernel
theorem dX12_clause_57 : decode cX12_clause 57 = .ok (.return_, 1) := by decide +kernel
theorem dX12_clause_58 : decode cX12_clause 58 = .ok (.aload_n 0, 1) := by decide +kernel
theorem dX12_clause_59 : decode cX12_clause 59 = .ok (.dup, 1) := by decide +kernel
theorem dX12_clause_60 : decode cX12_clause 60 = .ok (.getfield 358, 3) := by decide +kernel
theorem dX12_clause_63 : decode cX12_clause 63 = .ok (.iload_n 3, 1) := by decide +kernel
theorem dX12_clause_64 : decode cX12_clause 64 = .ok (.invokestatic 447, 3) := by decide +kernel
theorem dX12_clause_67 : decode cX12_clause 67 = .ok (.invokevirtual 369, 3) := by decide +kernel
theorem dX12_clause_70 : decode cX12_clause 70 = .ok (.iadd, 1) := by decide +kernel
theorem dX12_clause_71 : decode cX12_clause 71 = .ok (.putfield 358, 3) := by decide +kernel
theorem dX12_clause_74 : decode cX12_clause 74 = .ok (.bipush 12, 2) := by decide +kernel
theorem dX12_clause_76 : decode cX12_clause 76 = .ok (.aload_n 0, 1) := by decide +kernel
theorem dX12_clause_77 : decode cX12_clause 77 = .ok (.getfield 385, 3) := by decide +kernel
theorem dX12_clause_80 : decode cX12_clause 80 = .ok (.imul, 1) := by decide +kernel
theorem dX12_clause_81 : decode cX12_clause 81 = .ok (.iload_n 1, 1) := by decide +kernel
theorem dX12_clause_82 : decode cX12_clause 82 = .ok (.iadd, 1) := by decide +kernel
theorem dX12_clause_83 : decode cX12_clause 83 = .ok (.istore 4, 2) := by decide +kernel
theorem dX12_clause_85 : decode cX12_clause 85 = .ok (.aload_n 0, 1) := by decide +kernel
theorem dX12_clause_86 : decode cX12_clause 86 = .ok (.getfield 110, 3) := by decide +kernel
theorem dX12_clause_89 : decode cX12_clause 89 = .ok (.iload 4, 2) := by decide +kernel
theorem dX12_clause_91 : decode cX12_clause 91 = .ok (.iload_n 3, 1) := by decide +kernel
theorem dX12_clause_92 : decode cX12_clause 92 = .ok (.iastore, 1) := by decide +kernel
theorem dX12_clause_93 : decode cX12_clause 93 = .ok (.aload_n 0, 1) := by decide +kernel
theorem dX12_clause_94 : decode cX12_clause 94 = .ok (.getfield 119, 3) := by decide +kernel
theorem dX12_clause_97 : decode cX12_clause 97 = .ok (.iload 4, 2) := by decide +kernel
theorem dX12_clause_99 : decode cX12_clause 99 = .ok (.aload_n 0, 1) := by decide +kernel
theorem dX12_clause_100 : decode cX12_clause 100 = .ok (.getfield 388, 3) := by decide +kernel
theorem dX12_clause_103 : decode cX12_clause 103 = .ok (.iastore, 1) := by decide +kernel
theorem dX12_clause_104 : decode cX12_clause 104 = .ok (.aload_n 0, 1) := by decide +kernel
theorem dX12_clause_105 : decode cX12_clause 105 = .ok (.invokevirtual 378, 3) := by decide +kernel
theorem dX12_clause_108 : decode cX12_clause 108 = .ok (.iload_n 3, 1) := by decide +kernel
theorem dX12_clause_109 : decode cX12_clause 109 = .ok (.ifCond .ne 78, 3) := by decide +kernel
theorem dX12_clause_112 : decode cX12_clause 112 = .ok (.aload_n 0, 1) := by decide +kernel
theorem dX12_clause_113 : decode cX12_clause 113 = .ok (.getfield 113, 3) := by decide +kernel
theorem dX12_clause_116 : decode cX12_clause 116 = .ok (.iload 4, 2) := by decide +kernel
theorem dX12_clause_118 : decode cX12_clause 118 = .ok (.aload_n 0, 1) := by decide +kernel
theorem dX12_clause_119 : decode cX12_clause 119 = .ok (.bipush 9, 2) := by decide +kernel
theorem dX12_clause_121 : decode cX12_clause 121 = .ok (.invokevirtual 401, 3) := by decide +kernel
theorem dX12_clause_124 : decode cX12_clause 124 = .ok (.iastore, 1) := by decide +kernel
theorem dX12_clause_125 : decode cX12_clause 125 = .ok (.aload_n 0, 1) := by decide +kernel
theorem dX12_clause_126 : decode cX12_clause 126 = .ok (.invokevirtual 378, 3) := by decide +kernel
theorem dX12_clause_129 : decode cX12_clause 129 = .ok (.aload_n 0, 1) := by decide +kernel
theorem dX12_clause_130 : decode cX12_clause 130 = .ok (.getfield 355, 3) := by decide +kernel
theorem dX12_clause_133 : decode cX12_clause 133 = .ok (.ifCond .ne 22, 3) := by decide +kernel
theorem dX12_clause_136 : decode cX12_clause 136 = .ok (.aload_n 0, 1) := by decide +kernel
theorem dX12_clause_137 : decode cX12_clause 137 = .ok (.ldc_w 450, 3) := by decide +kernel
theorem dX12_clause_140 : decode cX12_clause 140 = .ok (.invokevirtual 452, 3) := by decide +kernel
theorem dX12_clause_143 : decode cX12_clause 143 = .ok (.ifCond .ne 12, 3) := by decide +kernel
theorem dX12_clause_146 : decode cX12_clause 146 = .ok (.aload_n 0, 1) := by decide +kernel
theorem dX12_clause_147 : decode cX12_clause 147 = .ok (.iconst 0, 1) := by decide +kernel
theorem dX12_clause_148 : decode cX12_clause 148 = .ok (.aload_n 0, 1) := by decide +kernel
theorem dX12_clause_149 : decode cX12_clause 149 = .ok (.getfield 358, 3) := by decide +kernel
theorem dX12_clause_152 : decode cX12_clause 152 = .ok (.invokevirtual 394, 3) := by decide +kernel
theorem dX12_clause_155 : decode cX12_clause 155 = .ok (.aload_n 0, 1) := by decide +kernel
theorem dX12_clause_156 : decode cX12_clause 156 = .ok (.invokevirtual 378, 3) := by decide +kernel
theorem dX12_clause_159 : decode cX12_clause 159 = .ok (.aload_n 0, 1) := by decide +kernel
theorem dX12_clause_160 : decode cX12_clause 160 = .ok (.getfield 116, 3) := by decide +kernel
theorem dX12_clause_163 : decode cX12_clause 163 = .ok (.iload 4, 2) := by decide +kernel
theorem dX12_clause_165 : decode cX12_clause 165 = .ok (.aload_n 0, 1) := by decide +kernel
theorem dX12_clause_166 : decode cX12_clause 166 = .ok (.getfield 355, 3) := by decide +kernel
theorem dX12_clause_169 : decode cX12_clause 169 = .ok (.ifCond .ne 13, 3) := by decide +kernel
theorem dX12_clause_172 : decode cX12_clause 172 = .ok (.aload_n 0, 1) := by decide +kernel
theorem dX12_clause_173 : decode cX12_clause 173 = .ok (.sipush 999, 3) := by decide +kernel
theorem dX12_clause_176 : decode cX12_clause 176 = .ok (.invokevirtual 401, 3) := by decide +kernel
theorem dX12_clause_179 : decode cX12_clause 179 = .ok (.goto 4, 3) := by decide +kernel
theorem dX12_clause_182 : decode cX12_clause 182 = .ok (.iconst 0, 1) := by decide +kernel
theorem dX12_clause_183 : decode cX12_clause 183 = .ok (.iastore, 1) := by decide +kernel
theorem dX12_clause_184 : decode cX12_clause 184 = .ok (.goto 93, 3) := by decide +kernel
theorem dX12_clause_187 : decode cX12_clause 187 = .ok (.iload_n 3, 1) := by decide +kernel
theorem dX12_clause_188 : decode cX12_clause 188 = .ok (.iconst 1, 1) := by decide +kernel
theorem dX12_clause_189 : decode cX12_clause 189 = .ok (.if_icmp .ne 10, 3) := by decide +kernel
theorem dX12_clause_192 : decode cX12_clause 192 = .ok (.aload_n 0, 1) := by decide +kernel
theorem dX12_clause_193 : decode cX12_clause 193 = .ok (.invokevirtual 417, 3) := by decide +kernel
theorem dX12_clause_196 : decode cX12_clause 196 = .ok (.goto 81, 3) := by decide +kernel
theorem dX12_clause_199 : decode cX12_clause 199 = .ok (.iload_n 3, 1) := by decide +kernel
theorem dX12_clause_200 : decode cX12_clause 200 = .ok (.iconst 2, 1) := by decide +kernel
theorem dX12_clause_201 : decode cX12_clause 201 = .ok (.if_icmp .ne 76, 3) := by decide +kernel
theorem dX12_clause_204 : decode cX12_clause 204 = .ok (.iconst 0, 1) := by decide +kernel
theorem dX12_clause_205 : decode cX12_clause 205 = .ok (.istore 5, 2) := by decide +kernel
theorem dX12_clause_207 : decode cX12_clause 207 = .ok (.iload 5, 2) := by decide +kernel
theorem dX12_clause_209 : decode cX12_clause 209 = .ok (.iconst 4, 1) := by decide +kernel
theorem dX12_clause_210 : decode cX12_clause 210 = .ok (.if_icmp .ge 21, 3) := by decide +kernel
theorem dX12_clause_213 : decode cX12_clause 213 = .ok (.aload_n 0, 1) := by decide +kernel
theorem dX12_clause_214 : decode cX12_clause 214 = .ok (.iload 5, 2) := by decide +kernel
theorem dX12_clause_216 : decode cX12_clause 216 = .ok (.invokestatic 454, 3) := by decide +kernel
theorem dX12_clause_219 : decode cX12_clause 219 = .ok (.invokevirtual 381, 3) := by decide +kernel
theorem dX12_clause_222 : decode cX12_clause 222 = .ok (.ifCond .ne 9, 3) := by decide +kernel
theorem dX12_clause_225 : decode cX12_clause 225 = .ok (.iinc 5 1, 3) := by decide +kernel
theorem dX12_clause_228 : decode cX12_clause 228 = .ok (.goto (-21), 3) := by decide +kernel
theorem dX12_clause_231 : decode cX12_clause 231 = .ok (.iload 5, 2) := by decide +kernel
theorem dX12_clause_233 : decode cX12_clause 233 = .ok (.iconst 4, 1) := by decide +kernel
theorem dX12_clause_234 : decode cX12_clause 234 = .ok (.if_icmp .ne 15, 3) := by decide +kernel
theorem dX12_clause_237 : decode cX12_clause 237 = .ok (.aload_n 0, 1) := by decide +kernel
theorem dX12_clause_238 : decode cX12_clause 238 = .ok (.iconst 0, 1) := by decide +kernel
theorem dX12_clause_239 : decode cX12_clause 239 = .ok (.aload_n 0, 1) := by decide +kernel
theorem dX12_clause_240 : decode cX12_clause 240 = .ok (.getfield 358, 3) := by decide +kernel
theorem dX12_clause_243 : decode cX12_clause 243 = .ok (.invokevirtual 394, 3) := by decide +kernel
theorem dX12_clause_246 : decode cX12_clause 246 = .ok (.goto 31, 3) := by decide +kernel
theorem dX12_clause_249 : decode cX12_clause 249 = .ok (.aload_n 0, 1) := by decide +kernel
theorem dX12_clause_250 : decode cX12_clause 250 = .ok (.getfield 113, 3) := by decide +kernel
theorem dX12_clause_253 : decode cX12_clause 253 = .ok (.iload 4, 2) := by decide +kernel
theorem dX12_clause_255 : decode cX12_clause 255 = .ok (.iconst 1, 1) := by decide +kernel
theorem dX12_clause_256 : decode cX12_clause 256 = .ok (.iload 5, 2) := by decide +kernel
theorem dX12_clause_258 : decode cX12_clause 258 = .ok (.ishl, 1) := by decide +kernel
theorem dX12_clause_259 : decode cX12_clause 259 = .ok (.iastore, 1) := by decide +kernel
theorem dX12_clause_260 : decode cX12_clause 260 = .ok (.aload_n 0, 1) := by decide +kernel
theorem dX12_clause_261 : decode cX12_clause 261 = .ok (.dup, 1) := by decide +kernel
theorem dX12_clause_262 : decode cX12_clause 262 = .ok (.getfield 358, 3) := by decide +kernel
theorem dX12_clause_265 : decode cX12_clause 265 = .ok (.iload 5, 2) := by decide +kernel
theorem dX12_clause_267 : decode cX12_clause 267 = .ok (.invokestatic 454, 3) := by decide +kernel
theorem dX12_clause_270 : decode cX12_clause 270 = .ok (.invokevirtual 369, 3) := by decide +kernel
theorem dX12_clause_273 : decode cX12_clause 273 = .ok (.iadd, 1) := by decide +kernel
theorem dX12_clause_274 : decode cX12_clause 274 = .ok (.putfield 358, 3) := by decide +kernel
theorem dX12_clause_277 : decode cX12_clause 277 = .ok (.aload_n 0, 1) := by decide +kernel
theorem dX12_clause_278 : decode cX12_clause 278 = .ok (.getfield 122, 3) := by decide +kernel
theorem dX12_clause_281 : decode cX12_clause 281 = .ok (.iload 4, 2) := by decide +kernel
theorem dX12_clause_283 : decode cX12_clause 283 = .ok (.aload_n 0, 1) := by decide +kernel
theorem dX12_clause_284 : decode cX12_clause 284 = .ok (.getfield 388, 3) := by decide +kernel
theorem dX12_clause_287 : decode cX12_clause 287 = .ok (.iastore, 1) := by decide +kernel
theorem dX12_clause_288 : decode cX12_clause 288 = .ok (.aload_n 0, 1) := by decide +kernel
theorem dX12_clause_289 : decode cX12_clause 289 = .ok (.getfield 355, 3) := by decide +kernel
theorem dX12_clause_292 : decode cX12_clause 292 = .ok (.ifCond .ne 17, 3) := by decide +kernel
theorem dX12_clause_295 : decode cX12_clause 295 = .ok (.aload_n 0, 1) := by decide +kernel
theorem dX12_clause_296 : decode cX12_clause 296 = .ok (.ldc_w 457, 3) := by decide +kernel
theorem dX12_clause_299 : decode cX12_clause 299 = .ok (.invokevirtual 452, 3) := by decide +kernel
theorem dX12_clause_302 : decode cX12_clause 302 = .ok (.ifCond .eq 7, 3) := by decide +kernel
theorem dX12_clause_305 : decode cX12_clause 305 = .ok (.aload_n 0, 1) := by decide +kernel
theorem dX12_clause_306 : decode cX12_clause 306 = .ok (.invokevirtual 459, 3) := by decide +kernel
theorem dX12_clause_309 : decode cX12_clause 309 = .ok (.aload_n 0, 1) := by decide +kernel
theorem dX12_clause_310 : decode cX12_clause 310 = .ok (.getfield 125, 3) := by decide +kernel
theorem dX12_clause_313 : decode cX12_clause 313 = .ok (.iload 4, 2) := by decide +kernel
theorem dX12_clause_315 : decode cX12_clause 315 = .ok (.aload_n 0, 1) := by decide +kernel
theorem dX12_clause_316 : decode cX12_clause 316 = .ok (.getfield 388, 3) := by decide +kernel
theorem dX12_clause_319 : decode cX12_clause 319 = .ok (.iastore, 1) := by decide +kernel
theorem dX12_clause_320 : decode cX12_clause 320 = .ok (.return_, 1) := by decide +kernel
theorem dX12_order_0 : decode cX12_order 0 = .ok (.aload_n 0, 1) := by decide +kernel
theorem dX12_order_1 : decode cX12_order 1 = .ok (.getfield 385, 3) := by decide +kernel
theorem dX12_order_4 : decode cX12_order 4 = .ok (.bipush 12, 2) := by decide +kernel
theorem dX12_order_6 : decode cX12_order 6 = .ok (.if_icmp .eq 31, 3) := by decide +kernel
theorem dX12_order_9 : decode cX12_order 9 = .ok (.iload_n 1, 1) := by decide +kernel
theorem dX12_order_10 : decode cX12_order 10 = .ok (.i2l, 1) := by decide +kernel
theorem dX12_order_11 : decode cX12_order 11 = .ok (.lconst 0, 1) := by decide +kernel
theorem dX12_order_12 : decode cX12_order 12 = .ok (.ldc2_w 292, 3) := by decide +kernel
theorem dX12_order_15 : decode cX12_order 15 = .ok (.invokestatic 229, 3) := by decide +kernel
theorem dX12_order_18 : decode cX12_order 18 = .ok (.ifCond .eq 19, 3) := by decide +kernel
theorem dX12_order_21 : decode cX12_order 21 = .ok (.iload_n 2, 1) := by decide +kernel
theorem dX12_order_22 : decode cX12_order 22 = .ok (.i2l, 1) := by decide +kernel
theorem dX12_order_23 : decode cX12_order 23 = .ok (.aload_n 0, 1) := by decide +kernel
theorem dX12_order_24 : decode cX12_order 24 = .ok (.getfield 233, 3) := by decide +kernel
theorem dX12_order_27 : decode cX12_order 27 = .ok (.i2l, 1) := by decide +kernel
theorem dX12_order_28 : decode cX12_order 28 = .ok (.ldc2_w 227, 3) := by decide +kernel
theorem dX12_order_31 : decode cX12_order 31 = .ok (.invokestatic 229, 3) := by decide +kernel
theorem dX12_order_34 : decode cX12_order 34 = .ok (.ifCond .ne 5, 3) := by decide +kernel
theorem dX12_order_37 : decode cX12_order 37 = .ok (.iconst (-1), 1) := by decide +kernel
theorem dX12_order_38 : decode cX12_order 38 = .ok (.ireturn, 1) := by decide +kernel
theorem dX12_order_39 : decode cX12_order 39 = .ok (.aload_n 0, 1) := by decide +kernel
theorem dX12_order_40 : decode cX12_order 40 = .ok (.iconst 0, 1) := by decide +kernel
theorem dX12_order_41 : decode cX12_order 41 = .ok (.putfield 358, 3) := by decide +kernel
theorem dX12_order_44 : decode cX12_order 44 = .ok (.aload_n 0, 1) := by decide +kernel
theorem dX12_order_45 : decode cX12_order 45 = .ok (.iconst 0, 1) := by decide +kernel
theorem dX12_order_46 : decode cX12_order 46 = .ok (.putfield 355, 3) := by decide +kernel
theorem dX12_order_49 : decode cX12_order 49 = .ok (.aload_n 0, 1) := by decide +kernel
theorem dX12_order_50 : decode cX12_order 50 = .ok (.iconst 0, 1) := by decide +kernel
theorem dX12_order_51 : decode cX12_order 51 = .ok (.putfield 388, 3) := by decide +kernel
theorem dX12_order_54 : decode cX12_order 54 = .ok (.aload_n 0, 1) := by decide +kernel
theorem dX12_order_55 : decode cX12_order 55 = .ok (.iconst 0, 1) := by decide +kernel
theorem dX12_order_56 : decode cX12_order 56 = .ok (.putfield 423, 3) := by decide +kernel
theorem dX12_order_59 : decode cX12_order 59 = .ok (.aload_n 0, 1) := by decide +kernel
theorem dX12_order_60 : decode cX12_order 60 = .ok (.iconst 0, 1) := by decide +kernel
theorem dX12_order_61 : decode cX12_order 61 = .ok (.putfield 391, 3) := by decide +kernel
theorem dX12_order_64 : decode cX12_order 64 = .ok (.iconst 0, 1) := by decide +kernel
theorem dX12_order_65 : decode cX12_order 65 = .ok (.istore_n 3, 1) := by decide +kernel
theorem dX12_order_66 : decode cX12_order 66 = .ok (.iconst 1, 1) := by decide +kernel
theorem dX12_order_67 : decode cX12_order 67 = .ok (.istore 4, 2) := by decide +kernel
theorem dX12_order_69 : decode cX12_order 69 = .ok (.iload 4, 2) := by decide +kernel
theorem dX12_order_71 : decode cX12_order 71 = .ok (.ifCond .eq 89, 3) := by decide +kernel
theorem dX12_order_74 : decode cX12_order 74 = .ok (.aload_n 0, 1) := by decide +kernel
theorem dX12_order_75 : decode cX12_order 75 = .ok (.iload_n 3, 1) := by decide +kernel
theorem dX12_order_76 : decode cX12_order 76 = .ok (.invokevirtual 462, 3) := by decide +kernel
theorem dX12_order_79 : decode cX12_order 79 = .ok (.iinc 3 1, 3) := by decide +kernel
theorem dX12_order_82 : decode cX12_order 82 = .ok (.aload_n 0, 1) := by decide +kernel
theorem dX12_order_83 : decode cX12_order 83 = .ok (.invokevirtual 378, 3) := by decide +kernel
theorem dX12_order_86 : decode cX12_order 86 = .ok (.aload_n 0, 1) := by decide +kernel
theorem dX12_order_87 : decode cX12_order 87 = .ok (.getfield 355, 3) := by decide +kernel
theorem dX12_order_90 : decode cX12_order 90 = .ok (.ifCond .ne 32, 3) := by decide +kernel
theorem dX12_order_93 : decode cX12_order 93 = .ok (.aload_n 0, 1) := by decide +kernel
theorem dX12_order_94 : decode cX12_order 94 = .ok (.getfield 358, 3) := by decide +kernel
theorem dX12_order_97 : decode cX12_order 97 = .ok (.aload_n 0, 1) := by decide +kernel
theorem dX12_order_98 : decode cX12_order 98 = .ok (.getfield 322, 3) := by decide +kernel
theorem dX12_order_101 : decode cX12_order 101 = .ok (.if_icmp .ge 21, 3) := by decide +kernel
theorem dX12_order_104 : decode cX12_order 104 = .ok (.aload_n 0, 1) := by decide +kernel
theorem dX12_order_105 : decode cX12_order 105 = .ok (.invokevirtual 361, 3) := by decide +kernel
theorem dX12_order_108 : decode cX12_order 108 = .ok (.bipush 59, 2) := by decide +kernel
theorem dX12_order_110 : decode cX12_order 110 = .ok (.if_icmp .eq 12, 3) := by decide +kernel
theorem dX12_order_113 : decode cX12_order 113 = .ok (.aload_n 0, 1) := by decide +kernel
theorem dX12_order_114 : decode cX12_order 114 = .ok (.iconst 0, 1) := by decide +kernel
theorem dX12_order_115 : decode cX12_order 115 = .ok (.aload_n 0, 1) := by decide +kernel
theorem dX12_order_116 : decode cX12_order 116 = .ok (.getfield 358, 3) := by decide +kernel
theorem dX12_order_119 : decode cX12_order 119 = .ok (.invokevirtual 394, 3) := by decide +kernel
theorem dX12_order_122 : decode cX12_order 122 = .ok (.aload_n 0, 1) := by decide +kernel
theorem dX12_order_123 : decode cX12_order 123 = .ok (.getfield 355, 3) := by decide +kernel
theorem dX12_order_126 : decode cX12_order 126 = .ok (.ifCond .ne 18, 3) := by decide +kernel
theorem dX12_order_129 : decode cX12_order 129 = .ok (.aload_n 0, 1) := by decide +kernel
theorem dX12_order_130 : decode cX12_order 130 = .ok (.getfield 358, 3) := by decide +kernel
theorem dX12_order_133 : decode cX12_order 133 = .ok (.aload_n 0, 1) := by decide +kernel
theorem dX12_order_134 : decode cX12_order 134 = .ok (.getfield 322, 3) := by decide +kernel
theorem dX12_order_137 : decode cX12_order 137 = .ok (.if_icmp .ge 7, 3) := by decide +kernel
theorem dX12_order_140 : decode cX12_order 140 = .ok (.iconst 1, 1) := by decide +kernel
theorem dX12_order_141 : decode cX12_order 141 = .ok (.goto 4, 3) := by decide +kernel
theorem dX12_order_144 : decode cX12_order 144 = .ok (.iconst 0, 1) := by decide +kernel
theorem dX12_order_145 : decode cX12_order 145 = .ok (.istore 4, 2) := by decide +kernel
theorem dX12_order_147 : decode cX12_order 147 = .ok (.aload_n 0, 1) := by decide +kernel
theorem dX12_order_148 : decode cX12_order 148 = .ok (.dup, 1) := by decide +kernel
theorem dX12_order_149 : decode cX12_order 149 = .ok (.getfield 358, 3) := by decide +kernel
theorem dX12_order_152 : decode cX12_order 152 = .ok (.iconst 1, 1) := by decide +kernel
theorem dX12_order_153 : decode cX12_order 153 = .ok (.iadd, 1) := by decide +kernel
theorem dX12_order_154 : decode cX12_order 154 = .ok (.putfield 358, 3) := by decide +kernel
theorem dX12_order_157 : decode cX12_order 157 = .ok (.goto (-88), 3) := by decide +kernel
theorem dX12_order_160 : decode cX12_order 160 = .ok (.aload_n 0, 1) := by decide +kernel
theorem dX12_order_161 : decode cX12_order 161 = .ok (.iconst 0, 1) := by decide +kernel
theorem dX12_order_162 : decode cX12_order 162 = .ok (.putfield 322, 3) := by decide +kernel
theorem dX12_order_165 : decode cX12_order 165 = .ok (.aload_n 0, 1) := by decide +kernel
theorem dX12_order_166 : decode cX12_order 166 = .ok (.getfield 355, 3) := by decide +kernel
theorem dX12_order_169 : decode cX12_order 169 = .ok (.ifCond .le 11, 3) := by decide +kernel
theorem dX12_order_172 : decode cX12_order 172 = .ok (.bipush (-2), 2) := by decide +kernel
theorem dX12_order_174 : decode cX12_order 174 = .ok (.aload_n 0, 1) := by decide +kernel
theorem dX12_order_175 : decode cX12_order 175 = .ok (.getfield 355, 3) := by decide +kernel
theorem dX12_order_178 : decode cX12_order 178 = .ok (.isub, 1) := by decide +kernel
theorem dX12_order_179 : decode cX12_order 179 = .ok (.ireturn, 1) := by decide +kernel
theorem dX12_order_180 : decode cX12_order 180 = .ok (.aload_n 0, 1) := by decide +kernel
theorem dX12_order_181 : decode cX12_order 181 = .ok (.getfield 101, 3) := by decide +kernel
theorem dX12_order_184 : decode cX12_order 184 = .ok (.aload_n 0, 1) := by decide +kernel
theorem dX12_order_185 : decode cX12_order 185 = .ok (.getfield 385, 3) := by decide +kernel
theorem dX12_order_188 : decode cX12_order 188 = .ok (.iload_n 1, 1) := by decide +kernel
theorem dX12_order_189 : decode cX12_order 189 = .ok (.iastore, 1) := by decide +kernel
theorem dX12_order_190 : decode cX12_order 190 = .ok (.aload_n 0, 1) := by decide +kernel
theorem dX12_order_191 : decode cX12_order 191 = .ok (.getfield 104, 3) := by decide +kernel
theorem dX12_order_194 : decode cX12_order 194 = .ok (.aload_n 0, 1) := by decide +kernel
theorem dX12_order_195 : decode cX12_order 195 = .ok (.getfield 385, 3) := by decide +kernel
theorem dX12_order_198 : decode cX12_order 198 = .ok (.iload_n 2, 1) := by decide +kernel
theorem dX12_order_199 : decode cX12_order 199 = .ok (.iastore, 1) := by decide +kernel
theorem dX12_order_200 : decode cX12_order 200 = .ok (.aload_n 0, 1) := by decide +kernel
theorem dX12_order_201 : decode cX12_order 201 = .ok (.getfield 107, 3) := by decide +kernel
theorem dX12_order_204 : decode cX12_order 204 = .ok (.aload_n 0, 1) := by decide +kernel
theorem dX12_order_205 : decode cX12_order 205 = .ok (.getfield 385, 3) := by decide +kernel
theorem dX12_order_208 : decode cX12_order 208 = .ok (.iload_n 3, 1) := by decide +kernel
theorem dX12_order_209 : decode cX12_order 209 = .ok (.iastore, 1) := by decide +kernel
theorem dX12_order_210 : decode cX12_order 210 = .ok (.aload_n 0, 1) := by decide +kernel
theorem dX12_order_211 : decode cX12_order 211 = .ok (.dup, 1) := by decide +kernel
theorem dX12_order_212 : decode cX12_order 212 = .ok (.getfield 385, 3) := by decide +kernel
theorem dX12_order_215 : decode cX12_order 215 = .ok (.iconst 1, 1) := by decide +kernel
theorem dX12_order_216 : decode cX12_order 216 = .ok (.iadd, 1) := by decide +kernel
theorem dX12_order_217 : decode cX12_order 217 = .ok (.putfield 385, 3) := by decide +kernel
theorem dX12_order_220 : decode cX12_order 220 = .ok (.aload_n 0, 1) := by decide +kernel
theorem dX12_order_221 : decode cX12_order 221 = .ok (.getfield 385, 3) := by decide +kernel
theorem dX12_order_224 : decode cX12_order 224 = .ok (.iconst 1, 1) := by decide +kernel
theorem dX12_order_225 : decode cX12_order 225 = .ok (.isub, 1) := by decide +kernel
theorem dX12_order_226 : decode cX12_order 226 = .ok (.ireturn, 1) := by decide +kernel
theorem dX12_takes___0 : decode cX12_takes__ 0 = .ok (.aload_n 0, 1) := by decide +kernel
theorem dX12_takes___1 : decode cX12_takes__ 1 = .ok (.iload_n 1, 1) := by decide +kernel
theorem dX12_takes___2 : decode cX12_takes__ 2 = .ok (.invokevirtual 262, 3) := by decide +kernel
theorem dX12_takes___5 : decode cX12_takes__ 5 = .ok (.ifCond .eq 52, 3) := by decide +kernel
theorem dX12_takes___8 : decode cX12_takes__ 8 = .ok (.iload_n 2, 1) := by decide +kernel
theorem dX12_takes___9 : decode cX12_takes__ 9 = .ok (.i2l, 1) := by decide +kernel
theorem dX12_takes___10 : decode cX12_takes__ 10 = .ok (.lconst 0, 1) := by decide +kernel
theorem dX12_takes___11 : decode cX12_takes__ 11 = .ok (.aload_n 0, 1) := by decide +kernel
theorem dX12_takes___12 : decode cX12_takes__ 12 = .ok (.getfield 385, 3) := by decide +kernel
theorem dX12_takes___15 : decode cX12_takes__ 15 = .ok (.iconst 1, 1) := by decide +kernel
theorem dX12_takes___16 : decode cX12_takes__ 16 = .ok (.isub, 1) := by decide +kernel
theorem dX12_takes___17 : decode cX12_takes__ 17 = .ok (.i2l, 1) := by decide +kernel
theorem dX12_takes___18 : decode cX12_takes__ 18 = .ok (.invokestatic 229, 3) := by decide +kernel
theorem dX12_takes___21 : decode cX12_takes__ 21 = .ok (.ifCond .eq 36, 3) := by decide +kernel
theorem dX12_takes___24 : decode cX12_takes__ 24 = .ok (.aload_n 0, 1) := by decide +kernel
theorem dX12_takes___25 : decode cX12_takes__ 25 = .ok (.getfield 101, 3) := by decide +kernel
theorem dX12_takes___28 : decode cX12_takes__ 28 = .ok (.iload_n 2, 1) := by decide +kernel
theorem dX12_takes___29 : decode cX12_takes__ 29 = .ok (.iaload, 1) := by decide +kernel
theorem dX12_takes___30 : decode cX12_takes__ 30 = .ok (.iconst 1, 1) := by decide +kernel
theorem dX12_takes___31 : decode cX12_takes__ 31 = .ok (.if_icmp .ne 26, 3) := by decide +kernel
theorem dX12_takes___34 : decode cX12_takes__ 34 = .ok (.aload_n 0, 1) := by decide +kernel
theorem dX12_takes___35 : decode cX12_takes__ 35 = .ok (.getfield 49, 3) := by decide +kernel
theorem dX12_takes___38 : decode cX12_takes__ 38 = .ok (.iload_n 1, 1) := by decide +kernel
theorem dX12_takes___39 : decode cX12_takes__ 39 = .ok (.iaload, 1) := by decide +kernel
theorem dX12_takes___40 : decode cX12_takes__ 40 = .ok (.iload_n 2, 1) := by decide +kernel
theorem dX12_takes___41 : decode cX12_takes__ 41 = .ok (.ishr, 1) := by decide +kernel
theorem dX12_takes___42 : decode cX12_takes__ 42 = .ok (.iconst 1, 1) := by decide +kernel
theorem dX12_takes___43 : decode cX12_takes__ 43 = .ok (.iand, 1) := by decide +kernel
theorem dX12_takes___44 : decode cX12_takes__ 44 = .ok (.iconst 1, 1) := by decide +kernel
theorem dX12_takes___45 : decode cX12_takes__ 45 = .ok (.if_icmp .ne 7, 3) := by decide +kernel
theorem dX12_takes___48 : decode cX12_takes__ 48 = .ok (.iconst 1, 1) := by decide +kernel
theorem dX12_takes___49 : decode cX12_takes__ 49 = .ok (.goto 4, 3) := by decide +kernel
theorem dX12_takes___52 : decode cX12_takes__ 52 = .ok (.iconst 0, 1) := by decide +kernel
theorem dX12_takes___53 : decode cX12_takes__ 53 = .ok (.iload_n 3, 1) := by decide +kernel
theorem dX12_takes___54 : decode cX12_takes__ 54 = .ok (.if_icmp .ne 5, 3) := by decide +kernel
theorem dX12_takes___57 : decode cX12_takes__ 57 = .ok (.iconst 0, 1) := by decide +kernel
theorem dX12_takes___58 : decode cX12_takes__ 58 = .ok (.ireturn, 1) := by decide +kernel
theorem dX12_takes___59 : decode cX12_takes__ 59 = .ok (.aload_n 0, 1) := by decide +kernel
theorem dX12_takes___60 : decode cX12_takes__ 60 = .ok (.getfield 49, 3) := by decide +kernel
theorem dX12_takes___63 : decode cX12_takes__ 63 = .ok (.iload_n 1, 1) := by decide +kernel
theorem dX12_takes___64 : decode cX12_takes__ 64 = .ok (.dup2, 1) := by decide +kernel
theorem dX12_takes___65 : decode cX12_takes__ 65 = .ok (.iaload, 1) := by decide +kernel
theorem dX12_takes___66 : decode cX12_takes__ 66 = .ok (.iconst 1, 1) := by decide +kernel
theorem dX12_takes___67 : decode cX12_takes__ 67 = .ok (.iload_n 2, 1) := by decide +kernel
theorem dX12_takes___68 : decode cX12_takes__ 68 = .ok (.ishl, 1) := by decide +kernel
theorem dX12_takes___69 : decode cX12_takes__ 69 = .ok (.ixor, 1) := by decide +kernel
theorem dX12_takes___70 : decode cX12_takes__ 70 = .ok (.iastore, 1) := by decide +kernel
theorem dX12_takes___71 : decode cX12_takes__ 71 = .ok (.iconst 1, 1) := by decide +kernel
theorem dX12_takes___72 : decode cX12_takes__ 72 = .ok (.ireturn, 1) := by decide +kernel
theorem dX12_truth_0 : decode cX12_truth 0 = .ok (.iload_n 0, 1) := by decide +kernel
theorem dX12_truth_1 : decode cX12_truth 1 = .ok (.ifCond .eq 7, 3) := by decide +kernel
theorem dX12_truth_4 : decode cX12_truth 4 = .ok (.lconst 1, 1) := by decide +kernel
theorem dX12_truth_5 : decode cX12_truth 5 = .ok (.goto 4, 3) := by decide +kernel
theorem dX12_truth_8 : decode cX12_truth 8 = .ok (.lconst 0, 1) := by decide +kernel
theorem dX12_truth_9 : decode cX12_truth 9 = .ok (.lreturn, 1) := by decide +kernel
theorem dX12_both_0 : decode cX12_both 0 = .ok (.iload_n 0, 1) := by decide +kernel
theorem dX12_both_1 : decode cX12_both 1 = .ok (.tableswitch 138 2 10 #[51, 55, 59, 74, 89, 104, 119, 138, 134], 51) := by decide +kernel
theorem dX12_both_52 : decode cX12_both 52 = .ok (.lload_n 1, 1) := by decide +kernel
theorem dX12_both_53 : decode cX12_both 53 = .ok (.lload_n 3, 1) := by decide +kernel
theorem dX12_both_54 : decode cX12_both 54 = .ok (.ladd, 1) := by decide +kernel
theorem dX12_both_55 : decode cX12_both 55 = .ok (.lreturn, 1) := by decide +kernel
theorem dX12_both_56 : decode cX12_both 56 = .ok (.lload_n 1, 1) := by decide +kernel
theorem dX12_both_57 : decode cX12_both 57 = .ok (.lload_n 3, 1) := by decide +kernel
theorem dX12_both_58 : decode cX12_both 58 = .ok (.lsub, 1) := by decide +kernel
theorem dX12_both_59 : decode cX12_both 59 = .ok (.lreturn, 1) := by decide +kernel
theorem dX12_both_60 : decode cX12_both 60 = .ok (.lload_n 1, 1) := by decide +kernel
theorem dX12_both_61 : decode cX12_both 61 = .ok (.lload_n 3, 1) := by decide +kernel
theorem dX12_both_62 : decode cX12_both 62 = .ok (.lcmp, 1) := by decide +kernel
theorem dX12_both_63 : decode cX12_both 63 = .ok (.ifCond .ge 7, 3) := by decide +kernel
theorem dX12_both_66 : decode cX12_both 66 = .ok (.iconst 1, 1) := by decide +kernel
theorem dX12_both_67 : decode cX12_both 67 = .ok (.goto 4, 3) := by decide +kernel
theorem dX12_both_70 : decode cX12_both 70 = .ok (.iconst 0, 1) := by decide +kernel
theorem dX12_both_71 : decode cX12_both 71 = .ok (.invokestatic 465, 3) := by decide +kernel
theorem dX12_both_74 : decode cX12_both 74 = .ok (.lreturn, 1) := by decide +kernel
theorem dX12_both_75 : decode cX12_both 75 = .ok (.lload_n 1, 1) := by decide +kernel
theorem dX12_both_76 : decode cX12_both 76 = .ok (.lload_n 3, 1) := by decide +kernel
theorem dX12_both_77 : decode cX12_both 77 = .ok (.lcmp, 1) := by decide +kernel
theorem dX12_both_78 : decode cX12_both 78 = .ok (.ifCond .gt 7, 3) := by decide +kernel
theorem dX12_both_81 : decode cX12_both 81 = .ok (.iconst 1, 1) := by decide +kernel
theorem dX12_both_82 : decode cX12_both 82 = .ok (.goto 4, 3) := by decide +kernel
theorem dX12_both_85 : decode cX12_both 85 = .ok (.iconst 0, 1) := by decide +kernel
theorem dX12_both_86 : decode cX12_both 86 = .ok (.invokestatic 465, 3) := by decide +kernel
theorem dX12_both_89 : decode cX12_both 89 = .ok (.lreturn, 1) := by decide +kernel
theorem dX12_both_90 : decode cX12_both 90 = .ok (.lload_n 1, 1) := by decide +kernel
theorem dX12_both_91 : decode cX12_both 91 = .ok (.lload_n 3, 1) := by decide +kernel
theorem dX12_both_92 : decode cX12_both 92 = .ok (.lcmp, 1) := by decide +kernel
theorem dX12_both_93 : decode cX12_both 93 = .ok (.ifCond .ne 7, 3) := by decide +kernel
theorem dX12_both_96 : decode cX12_both 96 = .ok (.iconst 1, 1) := by decide +kernel
theorem dX12_both_97 : decode cX12_both 97 = .ok (.goto 4, 3) := by decide +kernel
theorem dX12_both_100 : decode cX12_both 100 = .ok (.iconst 0, 1) := by decide +kernel
theorem dX12_both_101 : decode cX12_both 101 = .ok (.invokestatic 465, 3) := by decide +kernel
theorem dX12_both_104 : decode cX12_both 104 = .ok (.lreturn, 1) := by decide +kernel
theorem dX12_both_105 : decode cX12_both 105 = .ok (.lload_n 1, 1) := by decide +kernel
theorem dX12_both_106 : decode cX12_both 106 = .ok (.lload_n 3, 1) := by decide +kernel
theorem dX12_both_107 : decode cX12_both 107 = .ok (.lcmp, 1) := by decide +kernel
theorem dX12_both_108 : decode cX12_both 108 = .ok (.ifCond .lt 7, 3) := by decide +kernel
theorem dX12_both_111 : decode cX12_both 111 = .ok (.iconst 1, 1) := by decide +kernel
theorem dX12_both_112 : decode cX12_both 112 = .ok (.goto 4, 3) := by decide +kernel
theorem dX12_both_115 : decode cX12_both 115 = .ok (.iconst 0, 1) := by decide +kernel
theorem dX12_both_116 : decode cX12_both 116 = .ok (.invokestatic 465, 3) := by decide +kernel
theorem dX12_both_119 : decode cX12_both 119 = .ok (.lreturn, 1) := by decide +kernel
theorem dX12_both_120 : decode cX12_both 120 = .ok (.lload_n 1, 1) := by decide +kernel
theorem dX12_both_121 : decode cX12_both 121 = .ok (.lload_n 3, 1) := by decide +kernel
theorem dX12_both_122 : decode cX12_both 122 = .ok (.lcmp, 1) := by decide +kernel
theorem dX12_both_123 : decode cX12_both 123 = .ok (.ifCond .le 7, 3) := by decide +kernel
theorem dX12_both_126 : decode cX12_both 126 = .ok (.iconst 1, 1) := by decide +kernel
theorem dX12_both_127 : decode cX12_both 127 = .ok (.goto 4, 3) := by decide +kernel
theorem dX12_both_130 : decode cX12_both 130 = .ok (.iconst 0, 1) := by decide +kernel
theorem dX12_both_131 : decode cX12_both 131 = .ok (.invokestatic 465, 3) := by decide +kernel
theorem dX12_both_134 : decode cX12_both 134 = .ok (.lreturn, 1) := by decide +kernel
theorem dX12_both_135 : decode cX12_both 135 = .ok (.lload_n 1, 1) := by decide +kernel
theorem dX12_both_136 : decode cX12_both 136 = .ok (.lload_n 3, 1) := by decide +kernel
theorem dX12_both_137 : decode cX12_both 137 = .ok (.land, 1) := by decide +kernel
theorem dX12_both_138 : decode cX12_both 138 = .ok (.lreturn, 1) := by decide +kernel
theorem dX12_both_139 : decode cX12_both 139 = .ok (.lload_n 1, 1) := by decide +kernel
theorem dX12_both_140 : decode cX12_both 140 = .ok (.lload_n 3, 1) := by decide +kernel
theorem dX12_both_141 : decode cX12_both 141 = .ok (.lor, 1) := by decide +kernel
theorem dX12_both_142 : decode cX12_both 142 = .ok (.lreturn, 1) := by decide +kernel
theorem dX12_answer_0 : decode cX12_answer 0 = .ok (.iconst 0, 1) := by decide +kernel
theorem dX12_answer_1 : decode cX12_answer 1 = .ok (.istore 4, 2) := by decide +kernel
theorem dX12_answer_3 : decode cX12_answer 3 = .ok (.iload_n 2, 1) := by decide +kernel
theorem dX12_answer_4 : decode cX12_answer 4 = .ok (.istore 5, 2) := by decide +kernel
theorem dX12_answer_6 : decode cX12_answer 6 = .ok (.iload 5, 2) := by decide +kernel
theorem dX12_answer_8 : decode cX12_answer 8 = .ok (.iload_n 3, 1) := by decide +kernel
theorem dX12_answer_9 : decode cX12_answer 9 = .ok (.if_icmp .ge 144, 3) := by decide +kernel
theorem dX12_answer_12 : decode cX12_answer 12 = .ok (.aload_n 0, 1) := by decide +kernel
theorem dX12_answer_13 : decode cX12_answer 13 = .ok (.getfield 95, 3) := by decide +kernel
theorem dX12_answer_16 : decode cX12_answer 16 = .ok (.sipush 300, 3) := by decide +kernel
theorem dX12_answer_19 : decode cX12_answer 19 = .ok (.iload_n 1, 1) := by decide +kernel
theorem dX12_answer_20 : decode cX12_answer 20 = .ok (.imul, 1) := by decide +kernel
theorem dX12_answer_21 : decode cX12_answer 21 = .ok (.iload 5, 2) := by decide +kernel
theorem dX12_answer_23 : decode cX12_answer 23 = .ok (.iadd, 1) := by decide +kernel
theorem dX12_answer_24 : decode cX12_answer 24 = .ok (.iaload, 1) := by decide +kernel
theorem dX12_answer_25 : decode cX12_answer 25 = .ok (.istore 6, 2) := by decide +kernel
theorem dX12_answer_27 : decode cX12_answer 27 = .ok (.aload_n 0, 1) := by decide +kernel
theorem dX12_answer_28 : decode cX12_answer 28 = .ok (.getfield 98, 3) := by decide +kernel
theorem dX12_answer_31 : decode cX12_answer 31 = .ok (.sipush 300, 3) := by decide +kernel
theorem dX12_answer_34 : decode cX12_answer 34 = .ok (.iload_n 1, 1) := by decide +kernel
theorem dX12_answer_35 : decode cX12_answer 35 = .ok (.imul, 1) := by decide +kernel
theorem dX12_answer_36 : decode cX12_answer 36 = .ok (.iload 5, 2) := by decide +kernel
theorem dX12_answer_38 : decode cX12_answer 38 = .ok (.iadd, 1) := by decide +kernel
theorem dX12_answer_39 : decode cX12_answer 39 = .ok (.iaload, 1) := by decide +kernel
theorem dX12_answer_40 : decode cX12_answer 40 = .ok (.istore 7, 2) := by decide +kernel
theorem dX12_answer_42 : decode cX12_answer 42 = .ok (.iload 6, 2) := by decide +kernel
theorem dX12_answer_44 : decode cX12_answer 44 = .ok (.ifCond .eq 9, 3) := by decide +kernel
theorem dX12_answer_47 : decode cX12_answer 47 = .ok (.iload 6, 2) := by decide +kernel
theorem dX12_answer_49 : decode cX12_answer 49 = .ok (.iconst 1, 1) := by decide +kernel
theorem dX12_answer_50 : decode cX12_answer 50 = .ok (.if_icmp .ne 34, 3) := by decide +kernel
theorem dX12_answer_53 : decode cX12_answer 53 = .ok (.aload_n 0, 1) := by decide +kernel
theorem dX12_answer_54 : decode cX12_answer 54 = .ok (.getfield 135, 3) := by decide +kernel
theorem dX12_answer_57 : decode cX12_answer 57 = .ok (.iload 4, 2) := by decide +kernel
theorem dX12_answer_59 : decode cX12_answer 59 = .ok (.iload 6, 2) := by decide +kernel
theorem dX12_answer_61 : decode cX12_answer 61 = .ok (.ifCond .ne 9, 3) := by decide +kernel
theorem dX12_answer_64 : decode cX12_answer 64 = .ok (.iload 7, 2) := by decide +kernel
theorem dX12_answer_66 : decode cX12_answer 66 = .ok (.i2l, 1) := by decide +kernel
theorem dX12_answer_67 : decode cX12_answer 67 = .ok (.goto 10, 3) := by decide +kernel
theorem dX12_answer_70 : decode cX12_answer 70 = .ok (.aload_n 0, 1) := by decide +kernel
theorem dX12_answer_71 : decode cX12_answer 71 = .ok (.getfield 131, 3) := by decide +kernel
theorem dX12_answer_74 : decode cX12_answer 74 = .ok (.iload 7, 2) := by decide +kernel
theorem dX12_answer_76 : decode cX12_answer 76 = .ok (.laload, 1) := by decide +kernel
theorem dX12_answer_77 : decode cX12_answer 77 = .ok (.lastore, 1) := by decide +kernel
theorem dX12_answer_78 : decode cX12_answer 78 = .ok (.iinc 4 1, 3) := by decide +kernel
theorem dX12_answer_81 : decode cX12_answer 81 = .ok (.goto 66, 3) := by decide +kernel
theorem dX12_answer_84 : decode cX12_answer 84 = .ok (.iload 6, 2) := by decide +kernel
theorem dX12_answer_86 : decode cX12_answer 86 = .ok (.bipush 9, 2) := by decide +kernel
theorem dX12_answer_88 : decode cX12_answer 88 = .ok (.if_icmp .ne 26, 3) := by decide +kernel
theorem dX12_answer_91 : decode cX12_answer 91 = .ok (.aload_n 0, 1) := by decide +kernel
theorem dX12_answer_92 : decode cX12_answer 92 = .ok (.getfield 135, 3) := by decide +kernel
theorem dX12_answer_95 : decode cX12_answer 95 = .ok (.iload 4, 2) := by decide +kernel
theorem dX12_answer_97 : decode cX12_answer 97 = .ok (.iconst 1, 1) := by decide +kernel
theorem dX12_answer_98 : decode cX12_answer 98 = .ok (.isub, 1) := by decide +kernel
theorem dX12_answer_99 : decode cX12_answer 99 = .ok (.lconst 1, 1) := by decide +kernel
theorem dX12_answer_100 : decode cX12_answer 100 = .ok (.aload_n 0, 1) := by decide +kernel
theorem dX12_answer_101 : decode cX12_answer 101 = .ok (.getfield 135, 3) := by decide +kernel
theorem dX12_answer_104 : decode cX12_answer 104 = .ok (.iload 4, 2) := by decide +kernel
theorem dX12_answer_106 : decode cX12_answer 106 = .ok (.iconst 1, 1) := by decide +kernel
theorem dX12_answer_107 : decode cX12_answer 107 = .ok (.isub, 1) := by decide +kernel
theorem dX12_answer_108 : decode cX12_answer 108 = .ok (.laload, 1) := by decide +kernel
theorem dX12_answer_109 : decode cX12_answer 109 = .ok (.lsub, 1) := by decide +kernel
theorem dX12_answer_110 : decode cX12_answer 110 = .ok (.lastore, 1) := by decide +kernel
theorem dX12_answer_111 : decode cX12_answer 111 = .ok (.goto 36, 3) := by decide +kernel
theorem dX12_answer_114 : decode cX12_answer 114 = .ok (.iinc 4 (-1), 3) := by decide +kernel
theorem dX12_answer_117 : decode cX12_answer 117 = .ok (.aload_n 0, 1) := by decide +kernel
theorem dX12_answer_118 : decode cX12_answer 118 = .ok (.getfield 135, 3) := by decide +kernel
theorem dX12_answer_121 : decode cX12_answer 121 = .ok (.iload 4, 2) := by decide +kernel
theorem dX12_answer_123 : decode cX12_answer 123 = .ok (.iconst 1, 1) := by decide +kernel
theorem dX12_answer_124 : decode cX12_answer 124 = .ok (.isub, 1) := by decide +kernel
theorem dX12_answer_125 : decode cX12_answer 125 = .ok (.iload 6, 2) := by decide +kernel
theorem dX12_answer_127 : decode cX12_answer 127 = .ok (.aload_n 0, 1) := by decide +kernel
theorem dX12_answer_128 : decode cX12_answer 128 = .ok (.getfield 135, 3) := by decide +kernel
theorem dX12_answer_131 : decode cX12_answer 131 = .ok (.iload 4, 2) := by decide +kernel
theorem dX12_answer_133 : decode cX12_answer 133 = .ok (.iconst 1, 1) := by decide +kernel
theorem dX12_answer_134 : decode cX12_answer 134 = .ok (.isub, 1) := by decide +kernel
theorem dX12_answer_135 : decode cX12_answer 135 = .ok (.laload, 1) := by decide +kernel
theorem dX12_answer_136 : decode cX12_answer 136 = .ok (.aload_n 0, 1) := by decide +kernel
theorem dX12_answer_137 : decode cX12_answer 137 = .ok (.getfield 135, 3) := by decide +kernel
theorem dX12_answer_140 : decode cX12_answer 140 = .ok (.iload 4, 2) := by decide +kernel
theorem dX12_answer_142 : decode cX12_answer 142 = .ok (.laload, 1) := by decide +kernel
theorem dX12_answer_143 : decode cX12_answer 143 = .ok (.invokestatic 469, 3) := by decide +kernel
theorem dX12_answer_146 : decode cX12_answer 146 = .ok (.lastore, 1) := by decide +kernel
theorem dX12_answer_147 : decode cX12_answer 147 = .ok (.iinc 5 1, 3) := by decide +kernel
theorem dX12_answer_150 : decode cX12_answer 150 = .ok (.goto (-144), 3) := by decide +kernel
theorem dX12_answer_153 : decode cX12_answer 153 = .ok (.aload_n 0, 1) := by decide +kernel
theorem dX12_answer_154 : decode cX12_answer 154 = .ok (.getfield 135, 3) := by decide +kernel
theorem dX12_answer_157 : decode cX12_answer 157 = .ok (.iconst 0, 1) := by decide +kernel
theorem dX12_answer_158 : decode cX12_answer 158 = .ok (.laload, 1) := by decide +kernel
theorem dX12_answer_159 : decode cX12_answer 159 = .ok (.lreturn, 1) := by decide +kernel
theorem dX12_doneOf_0 : decode cX12_doneOf 0 = .ok (.iconst 0, 1) := by decide +kernel
theorem dX12_doneOf_1 : decode cX12_doneOf 1 = .ok (.istore_n 2, 1) := by decide +kernel
theorem dX12_doneOf_2 : decode cX12_doneOf 2 = .ok (.iconst 0, 1) := by decide +kernel
theorem dX12_doneOf_3 : decode cX12_doneOf 3 = .ok (.istore_n 3, 1) := by decide +kernel
theorem dX12_doneOf_4 : decode cX12_doneOf 4 = .ok (.iload_n 3, 1) := by decide +kernel
theorem dX12_doneOf_5 : decode cX12_doneOf 5 = .ok (.aload_n 0, 1) := by decide +kernel
theorem dX12_doneOf_6 : decode cX12_doneOf 6 = .ok (.getfield 473, 3) := by decide +kernel
theorem dX12_doneOf_9 : decode cX12_doneOf 9 = .ok (.if_icmp .ge 34, 3) := by decide +kernel
theorem dX12_doneOf_12 : decode cX12_doneOf 12 = .ok (.iload_n 2, 1) := by decide +kernel
theorem dX12_doneOf_13 : decode cX12_doneOf 13 = .ok (.aload_n 0, 1) := by decide +kernel
theorem dX12_doneOf_14 : decode cX12_doneOf 14 = .ok (.getfield 138, 3) := by decide +kernel
theorem dX12_doneOf_17 : decode cX12_doneOf 17 = .ok (.iload_n 3, 1) := by decide +kernel
theorem dX12_doneOf_18 : decode cX12_doneOf 18 = .ok (.iaload, 1) := by decide +kernel
theorem dX12_doneOf_19 : decode cX12_doneOf 19 = .ok (.iload_n 1, 1) := by decide +kernel
theorem dX12_doneOf_20 : decode cX12_doneOf 20 = .ok (.if_icmp .ne 14, 3) := by decide +kernel
theorem dX12_doneOf_23 : decode cX12_doneOf 23 = .ok (.iconst 1, 1) := by decide +kernel
theorem dX12_doneOf_24 : decode cX12_doneOf 24 = .ok (.aload_n 0, 1) := by decide +kernel
theorem dX12_doneOf_25 : decode cX12_doneOf 25 = .ok (.getfield 141, 3) := by decide +kernel
theorem dX12_doneOf_28 : decode cX12_doneOf 28 = .ok (.iload_n 3, 1) := by decide +kernel
theorem dX12_doneOf_29 : decode cX12_doneOf 29 = .ok (.iaload, 1) := by decide +kernel
theorem dX12_doneOf_30 : decode cX12_doneOf 30 = .ok (.ishl, 1) := by decide +kernel
theorem dX12_doneOf_31 : decode cX12_doneOf 31 = .ok (.goto 4, 3) := by decide +kernel
theorem dX12_doneOf_34 : decode cX12_doneOf 34 = .ok (.iconst 0, 1) := by decide +kernel
theorem dX12_doneOf_35 : decode cX12_doneOf 35 = .ok (.ior, 1) := by decide +kernel
theorem dX12_doneOf_36 : decode cX12_doneOf 36 = .ok (.istore_n 2, 1) := by decide +kernel
theorem dX12_doneOf_37 : decode cX12_doneOf 37 = .ok (.iinc 3 1, 3) := by decide +kernel
theorem dX12_doneOf_40 : decode cX12_doneOf 40 = .ok (.goto (-36), 3) := by decide +kernel
theorem dX12_doneOf_43 : decode cX12_doneOf 43 = .ok (.iload_n 2, 1) := by decide +kernel
theorem dX12_doneOf_44 : decode cX12_doneOf 44 = .ok (.ireturn, 1) := by decide +kernel
theorem dX12_binds_0 : decode cX12_binds 0 = .ok (.aload_n 0, 1) := by decide +kernel
theorem dX12_binds_1 : decode cX12_binds 1 = .ok (.iload_n 1, 1) := by decide +kernel
theorem dX12_binds_2 : decode cX12_binds 2 = .ok (.invokevirtual 476, 3) := by decide +kernel
theorem dX12_binds_5 : decode cX12_binds 5 = .ok (.istore_n 2, 1) := by decide +kernel
theorem dX12_binds_6 : decode cX12_binds 6 = .ok (.aload_n 0, 1) := by decide +kernel
theorem dX12_binds_7 : decode cX12_binds 7 = .ok (.getfield 131, 3) := by decide +kernel
theorem dX12_binds_10 : decode cX12_binds 10 = .ok (.iconst 0, 1) := by decide +kernel
theorem dX12_binds_11 : decode cX12_binds 11 = .ok (.aload_n 0, 1) := by decide +kernel
theorem dX12_binds_12 : decode cX12_binds 12 = .ok (.getfield 233, 3) := by decide +kernel
theorem dX12_binds_15 : decode cX12_binds 15 = .ok (.i2l, 1) := by decide +kernel
theorem dX12_binds_16 : decode cX12_binds 16 = .ok (.lastore, 1) := by decide +kernel
theorem dX12_binds_17 : decode cX12_binds 17 = .ok (.aload_n 0, 1) := by decide +kernel
theorem dX12_binds_18 : decode cX12_binds 18 = .ok (.getfield 131, 3) := by decide +kernel
theorem dX12_binds_21 : decode cX12_binds 21 = .ok (.iconst 1, 1) := by decide +kernel
theorem dX12_binds_22 : decode cX12_binds 22 = .ok (.iload_n 1, 1) := by decide +kernel
theorem dX12_binds_23 : decode cX12_binds 23 = .ok (.i2l, 1) := by decide +kernel
theorem dX12_binds_24 : decode cX12_binds 24 = .ok (.lastore, 1) := by decide +kernel
theorem dX12_binds_25 : decode cX12_binds 25 = .ok (.aload_n 0, 1) := by decide +kernel
theorem dX12_binds_26 : decode cX12_binds 26 = .ok (.getfield 131, 3) := by decide +kernel
theorem dX12_binds_29 : decode cX12_binds 29 = .ok (.iconst 2, 1) := by decide +kernel
theorem dX12_binds_30 : decode cX12_binds 30 = .ok (.aload_n 0, 1) := by decide +kernel
theorem dX12_binds_31 : decode cX12_binds 31 = .ok (.getfield 46, 3) := by decide +kernel
theorem dX12_binds_34 : decode cX12_binds 34 = .ok (.iload_n 1, 1) := by decide +kernel
theorem dX12_binds_35 : decode cX12_binds 35 = .ok (.iaload, 1) := by decide +kernel
theorem dX12_binds_36 : decode cX12_binds 36 = .ok (.i2l, 1) := by decide +kernel
theorem dX12_binds_37 : decode cX12_binds 37 = .ok (.lastore, 1) := by decide +kernel
theorem dX12_binds_38 : decode cX12_binds 38 = .ok (.aload_n 0, 1) := by decide +kernel
theorem dX12_binds_39 : decode cX12_binds 39 = .ok (.getfield 131, 3) := by decide +kernel
theorem dX12_binds_42 : decode cX12_binds 42 = .ok (.iconst 3, 1) := by decide +kernel
theorem dX12_binds_43 : decode cX12_binds 43 = .ok (.lconst 0, 1) := by decide +kernel
theorem dX12_binds_44 : decode cX12_binds 44 = .ok (.lastore, 1) := by decide +kernel
theorem dX12_binds_45 : decode cX12_binds 45 = .ok (.aload_n 0, 1) := by decide +kernel
theorem dX12_binds_46 : decode cX12_binds 46 = .ok (.getfield 131, 3) := by decide +kernel
theorem dX12_binds_49 : decode cX12_binds 49 = .ok (.iconst 4, 1) := by decide +kernel
theorem dX12_binds_50 : decode cX12_binds 50 = .ok (.lconst 0, 1) := by decide +kernel
theorem dX12_binds_51 : decode cX12_binds 51 = .ok (.lastore, 1) := by decide +kernel
theorem dX12_binds_52 : decode cX12_binds 52 = .ok (.aload_n 0, 1) := by decide +kernel
theorem dX12_binds_53 : decode cX12_binds 53 = .ok (.getfield 131, 3) := by decide +kernel
theorem dX12_binds_56 : decode cX12_binds 56 = .ok (.iconst 5, 1) := by decide +kernel
theorem dX12_binds_57 : decode cX12_binds 57 = .ok (.iload_n 2, 1) := by decide +kernel
theorem dX12_binds_58 : decode cX12_binds 58 = .ok (.invokestatic 313, 3) := by decide +kernel
theorem dX12_binds_61 : decode cX12_binds 61 = .ok (.i2l, 1) := by decide +kernel
theorem dX12_binds_62 : decode cX12_binds 62 = .ok (.lastore, 1) := by decide +kernel
theorem dX12_binds_63 : decode cX12_binds 63 = .ok (.iconst 0, 1) := by decide +kernel
theorem dX12_binds_64 : decode cX12_binds 64 = .ok (.istore_n 3, 1) := by decide +kernel
theorem dX12_binds_65 : decode cX12_binds 65 = .ok (.iload_n 3, 1) := by decide +kernel
theorem dX12_binds_66 : decode cX12_binds 66 = .ok (.aload_n 0, 1) := by decide +kernel
theorem dX12_binds_67 : decode cX12_binds 67 = .ok (.getfield 236, 3) := by decide +kernel
theorem dX12_binds_70 : decode cX12_binds 70 = .ok (.if_icmp .ge 51, 3) := by decide +kernel
theorem dX12_binds_73 : decode cX12_binds 73 = .ok (.aload_n 0, 1) := by decide +kernel
theorem dX12_binds_74 : decode cX12_binds 74 = .ok (.getfield 131, 3) := by decide +kernel
theorem dX12_binds_77 : decode cX12_binds 77 = .ok (.iconst 3, 1) := by decide +kernel
theorem dX12_binds_78 : decode cX12_binds 78 = .ok (.dup2, 1) := by decide +kernel
theorem dX12_binds_79 : decode cX12_binds 79 = .ok (.laload, 1) := by decide +kernel
theorem dX12_binds_80 : decode cX12_binds 80 = .ok (.aload_n 0, 1) := by decide +kernel
theorem dX12_binds_81 : decode cX12_binds 81 = .ok (.getfield 40, 3) := by decide +kernel
theorem dX12_binds_84 : decode cX12_binds 84 = .ok (.bipush 24, 2) := by decide +kernel
theorem dX12_binds_86 : decode cX12_binds 86 = .ok (.iload_n 1, 1) := by decide +kernel
theorem dX12_binds_87 : decode cX12_binds 87 = .ok (.imul, 1) := by decide +kernel
theorem dX12_binds_88 : decode cX12_binds 88 = .ok (.iload_n 3, 1) := by decide +kernel
theorem dX12_binds_89 : decode cX12_binds 89 = .ok (.iadd, 1) := by decide +kernel
theorem dX12_binds_90 : decode cX12_binds 90 = .ok (.iaload, 1) := by decide +kernel
theorem dX12_binds_91 : decode cX12_binds 91 = .ok (.i2l, 1) := by decide +kernel
theorem dX12_binds_92 : decode cX12_binds 92 = .ok (.ladd, 1) := by decide +kernel
theorem dX12_binds_93 : decode cX12_binds 93 = .ok (.lastore, 1) := by decide +kernel
theorem dX12_binds_94 : decode cX12_binds 94 = .ok (.aload_n 0, 1) := by decide +kernel
theorem dX12_binds_95 : decode cX12_binds 95 = .ok (.getfield 131, 3) := by decide +kernel
theorem dX12_binds_98 : decode cX12_binds 98 = .ok (.iconst 4, 1) := by decide +kernel
theorem dX12_binds_99 : decode cX12_binds 99 = .ok (.dup2, 1) := by decide +kernel
theorem dX12_binds_100 : decode cX12_binds 100 = .ok (.laload, 1) := by decide +kernel
theorem dX12_binds_101 : decode cX12_binds 101 = .ok (.aload_n 0, 1) := by decide +kernel
theorem dX12_binds_102 : decode cX12_binds 102 = .ok (.getfield 34, 3) := by decide +kernel
theorem dX12_binds_105 : decode cX12_binds 105 = .ok (.bipush 24, 2) := by decide +kernel
theorem dX12_binds_107 : decode cX12_binds 107 = .ok (.iload_n 1, 1) := by decide +kernel
theorem dX12_binds_108 : decode cX12_binds 108 = .ok (.imul, 1) := by decide +kernel
theorem dX12_binds_109 : decode cX12_binds 109 = .ok (.iload_n 3, 1) := by decide +kernel
theorem dX12_binds_110 : decode cX12_binds 110 = .ok (.iadd, 1) := by decide +kernel
theorem dX12_binds_111 : decode cX12_binds 111 = .ok (.iaload, 1) := by decide +kernel
theorem dX12_binds_112 : decode cX12_binds 112 = .ok (.i2l, 1) := by decide +kernel
theorem dX12_binds_113 : decode cX12_binds 113 = .ok (.ladd, 1) := by decide +kernel
theorem dX12_binds_114 : decode cX12_binds 114 = .ok (.lastore, 1) := by decide +kernel
theorem dX12_binds_115 : decode cX12_binds 115 = .ok (.iinc 3 1, 3) := by decide +kernel
theorem dX12_binds_118 : decode cX12_binds 118 = .ok (.goto (-53), 3) := by decide +kernel
theorem dX12_binds_121 : decode cX12_binds 121 = .ok (.aload_n 0, 1) := by decide +kernel
theorem dX12_binds_122 : decode cX12_binds 122 = .ok (.iconst 0, 1) := by decide +kernel
theorem dX12_binds_123 : decode cX12_binds 123 = .ok (.putfield 479, 3) := by decide +kernel
theorem dX12_binds_126 : decode cX12_binds 126 = .ok (.aload_n 0, 1) := by decide +kernel
theorem dX12_binds_127 : decode cX12_binds 127 = .ok (.iconst 0, 1) := by decide +kernel
theorem dX12_binds_128 : decode cX12_binds 128 = .ok (.putfield 482, 3) := by decide +kernel
theorem dX12_binds_131 : decode cX12_binds 131 = .ok (.aload_n 0, 1) := by decide +kernel
theorem dX12_binds_132 : decode cX12_binds 132 = .ok (.sipush 999, 3) := by decide +kernel
theorem dX12_binds_135 : decode cX12_binds 135 = .ok (.putfield 485, 3) := by decide +kernel
theorem dX12_binds_138 : decode cX12_binds 138 = .ok (.aload_n 0, 1) := by decide +kernel
theorem dX12_binds_139 : decode cX12_binds 139 = .ok (.iconst 0, 1) := by decide +kernel
theorem dX12_binds_140 : decode cX12_binds 140 = .ok (.putfield 487, 3) := by decide +kernel
theorem dX12_binds_143 : decode cX12_binds 143 = .ok (.aload_n 0, 1) := by decide +kernel
theorem dX12_binds_144 : decode cX12_binds 144 = .ok (.iconst 0, 1) := by decide +kernel
theorem dX12_binds_145 : decode cX12_binds 145 = .ok (.putfield 489, 3) := by decide +kernel
theorem dX12_binds_148 : decode cX12_binds 148 = .ok (.iconst 0, 1) := by decide +kernel
theorem dX12_binds_149 : decode cX12_binds 149 = .ok (.istore_n 3, 1) := by decide +kernel
theorem dX12_binds_150 : decode cX12_binds 150 = .ok (.iload_n 3, 1) := by decide +kernel
theorem dX12_binds_151 : decode cX12_binds 151 = .ok (.aload_n 0, 1) := by decide +kernel
theorem dX12_binds_152 : decode cX12_binds 152 = .ok (.getfield 385, 3) := by decide +kernel
theorem dX12_binds_155 : decode cX12_binds 155 = .ok (.if_icmp .ge 163, 3) := by decide +kernel
theorem dX12_binds_158 : decode cX12_binds 158 = .ok (.aload_n 0, 1) := by decide +kernel
theorem dX12_binds_159 : decode cX12_binds 159 = .ok (.getfield 104, 3) := by decide +kernel
theorem dX12_binds_162 : decode cX12_binds 162 = .ok (.iload_n 3, 1) := by decide +kernel
theorem dX12_binds_163 : decode cX12_binds 163 = .ok (.iaload, 1) := by decide +kernel
theorem dX12_binds_164 : decode cX12_binds 164 = .ok (.aload_n 0, 1) := by decide +kernel
theorem dX12_binds_165 : decode cX12_binds 165 = .ok (.getfield 233, 3) := by decide +kernel
theorem dX12_binds_168 : decode cX12_binds 168 = .ok (.if_icmp .gt 40, 3) := by decide +kernel
theorem dX12_binds_171 : decode cX12_binds 171 = .ok (.aload_n 0, 1) := by decide +kernel
theorem dX12_binds_172 : decode cX12_binds 172 = .ok (.getfield 101, 3) := by decide +kernel
theorem dX12_binds_175 : decode cX12_binds 175 = .ok (.iload_n 3, 1) := by decide +kernel
theorem dX12_binds_176 : decode cX12_binds 176 = .ok (.iaload, 1) := by decide +kernel
theorem dX12_binds_177 : decode cX12_binds 177 = .ok (.ifCond .eq 27, 3) := by decide +kernel
theorem dX12_binds_180 : decode cX12_binds 180 = .ok (.aload_n 0, 1) := by decide +kernel
theorem dX12_binds_181 : decode cX12_binds 181 = .ok (.getfield 101, 3) := by decide +kernel
theorem dX12_binds_184 : decode cX12_binds 184 = .ok (.iload_n 3, 1) := by decide +kernel
theorem dX12_binds_185 : decode cX12_binds 185 = .ok (.iaload, 1) := by decide +kernel
theorem dX12_binds_186 : decode cX12_binds 186 = .ok (.iconst 1, 1) := by decide +kernel
theorem dX12_binds_187 : decode cX12_binds 187 = .ok (.if_icmp .ne 21, 3) := by decide +kernel
theorem dX12_binds_190 : decode cX12_binds 190 = .ok (.aload_n 0, 1) := by decide +kernel
theorem dX12_binds_191 : decode cX12_binds 191 = .ok (.getfield 49, 3) := by decide +kernel
theorem dX12_binds_194 : decode cX12_binds 194 = .ok (.iload_n 1, 1) := by decide +kernel
theorem dX12_binds_195 : decode cX12_binds 195 = .ok (.iaload, 1) := by decide +kernel
theorem dX12_binds_196 : decode cX12_binds 196 = .ok (.iload_n 3, 1) := by decide +kernel
theorem dX12_binds_197 : decode cX12_binds 197 = .ok (.ishr, 1) := by decide +kernel
theorem dX12_binds_198 : decode cX12_binds 198 = .ok (.iconst 1, 1) := by decide +kernel
theorem dX12_binds_199 : decode cX12_binds 199 = .ok (.iand, 1) := by decide +kernel
theorem dX12_binds_200 : decode cX12_binds 200 = .ok (.iconst 1, 1) := by decide +kernel
theorem dX12_binds_201 : decode cX12_binds 201 = .ok (.if_icmp .ne 7, 3) := by decide +kernel
theorem dX12_binds_204 : decode cX12_binds 204 = .ok (.iconst 1, 1) := by decide +kernel
theorem dX12_binds_205 : decode cX12_binds 205 = .ok (.goto 4, 3) := by decide +kernel
theorem dX12_binds_208 : decode cX12_binds 208 = .ok (.iconst 0, 1) := by decide +kernel
theorem dX12_binds_209 : decode cX12_binds 209 = .ok (.istore 4, 2) := by decide +kernel
theorem dX12_binds_211 : decode cX12_binds 211 = .ok (.aload_n 0, 1) := by decide +kernel
theorem dX12_binds_212 : decode cX12_binds 212 = .ok (.getfield 131, 3) := by decide +kernel
theorem dX12_binds_215 : decode cX12_binds 215 = .ok (.bipush 6, 2) := by decide +kernel
theorem dX12_binds_217 : decode cX12_binds 217 = .ok (.aload_n 0, 1) := by decide +kernel
theorem dX12_binds_218 : decode cX12_binds 218 = .ok (.getfield 233, 3) := by decide +kernel
theorem dX12_binds_221 : decode cX12_binds 221 = .ok (.aload_n 0, 1) := by decide +kernel
theorem dX12_binds_222 : decode cX12_binds 222 = .ok (.getfield 104, 3) := by decide +kernel
theorem dX12_binds_225 : decode cX12_binds 225 = .ok (.iload_n 3, 1) := by decide +kernel
theorem dX12_binds_226 : decode cX12_binds 226 = .ok (.iaload, 1) := by decide +kernel
theorem dX12_binds_227 : decode cX12_binds 227 = .ok (.isub, 1) := by decide +kernel
theorem dX12_binds_228 : decode cX12_binds 228 = .ok (.i2l, 1) := by decide +kernel
theorem dX12_binds_229 : decode cX12_binds 229 = .ok (.lastore, 1) := by decide +kernel
theorem dX12_binds_230 : decode cX12_binds 230 = .ok (.bipush 12, 2) := by decide +kernel
theorem dX12_binds_232 : decode cX12_binds 232 = .ok (.iload_n 3, 1) := by decide +kernel
theorem dX12_binds_233 : decode cX12_binds 233 = .ok (.imul, 1) := by decide +kernel
theorem dX12_binds_234 : decode cX12_binds 234 = .ok (.istore 5, 2) := by decide +kernel
theorem dX12_binds_236 : decode cX12_binds 236 = .ok (.iload 5, 2) := by decide +kernel
theorem dX12_binds_238 : decode cX12_binds 238 = .ok (.bipush 12, 2) := by decide +kernel
theorem dX12_binds_240 : decode cX12_binds 240 = .ok (.iload_n 3, 1) := by decide +kernel
theorem dX12_binds_241 : decode cX12_binds 241 = .ok (.imul, 1) := by decide +kernel
theorem dX12_binds_242 : decode cX12_binds 242 = .ok (.aload_n 0, 1) := by decide +kernel
theorem dX12_binds_243 : decode cX12_binds 243 = .ok (.getfield 107, 3) := by decide +kernel
theorem dX12_binds_246 : decode cX12_binds 246 = .ok (.iload_n 3, 1) := by decide +kernel
theorem dX12_binds_247 : decode cX12_binds 247 = .ok (.iaload, 1) := by decide +kernel
theorem dX12_binds_248 : decode cX12_binds 248 = .ok (.iadd, 1) := by decide +kernel
theorem dX12_binds_249 : decode cX12_binds 249 = .ok (.if_icmp .ge 63, 3) := by decide +kernel
theorem dX12_binds_252 : decode cX12_binds 252 = .ok (.iload 4, 2) := by decide +kernel
theorem dX12_binds_254 : decode cX12_binds 254 = .ok (.ifCond .eq 58, 3) := by decide +kernel
theorem dX12_binds_257 : decode cX12_binds 257 = .ok (.aload_n 0, 1) := by decide +kernel
theorem dX12_binds_258 : decode cX12_binds 258 = .ok (.getfield 122, 3) := by decide +kernel
theorem dX12_binds_261 : decode cX12_binds 261 = .ok (.iload 5, 2) := by decide +kernel
theorem dX12_binds_263 : decode cX12_binds 263 = .ok (.iaload, 1) := by decide +kernel
theorem dX12_binds_264 : decode cX12_binds 264 = .ok (.aload_n 0, 1) := by decide +kernel
theorem dX12_binds_265 : decode cX12_binds 265 = .ok (.getfield 125, 3) := by decide +kernel
theorem dX12_binds_268 : decode cX12_binds 268 = .ok (.iload 5, 2) := by decide +kernel
theorem dX12_binds_270 : decode cX12_binds 270 = .ok (.iaload, 1) := by decide +kernel
theorem dX12_binds_271 : decode cX12_binds 271 = .ok (.if_icmp .eq 27, 3) := by decide +kernel
theorem dX12_binds_274 : decode cX12_binds 274 = .ok (.aload_n 0, 1) := by decide +kernel
theorem dX12_binds_275 : decode cX12_binds 275 = .ok (.iload_n 3, 1) := by decide +kernel
theorem dX12_binds_276 : decode cX12_binds 276 = .ok (.aload_n 0, 1) := by decide +kernel
theorem dX12_binds_277 : decode cX12_binds 277 = .ok (.getfield 122, 3) := by decide +kernel
theorem dX12_binds_280 : decode cX12_binds 280 = .ok (.iload 5, 2) := by decide +kernel
theorem dX12_binds_282 : decode cX12_binds 282 = .ok (.iaload, 1) := by decide +kernel
theorem dX12_binds_283 : decode cX12_binds 283 = .ok (.aload_n 0, 1) := by decide +kernel
theorem dX12_binds_284 : decode cX12_binds 284 = .ok (.getfield 125, 3) := by decide +kernel
theorem dX12_binds_287 : decode cX12_binds 287 = .ok (.iload 5, 2) := by decide +kernel
theorem dX12_binds_289 : decode cX12_binds 289 = .ok (.iaload, 1) := by decide +kernel
theorem dX12_binds_290 : decode cX12_binds 290 = .ok (.invokevirtual 493, 3) := by decide +kernel
theorem dX12_binds_293 : decode cX12_binds 293 = .ok (.lconst 1, 1) := by decide +kernel
theorem dX12_binds_294 : decode cX12_binds 294 = .ok (.lcmp, 1) := by decide +kernel
theorem dX12_binds_295 : decode cX12_binds 295 = .ok (.ifCond .ne 11, 3) := by decide +kernel
theorem dX12_binds_298 : decode cX12_binds 298 = .ok (.aload_n 0, 1) := by decide +kernel
theorem dX12_binds_299 : decode cX12_binds 299 = .ok (.iload_n 3, 1) := by decide +kernel
theorem dX12_binds_300 : decode cX12_binds 300 = .ok (.iload 5, 2) := by decide +kernel
theorem dX12_binds_302 : decode cX12_binds 302 = .ok (.iload_n 2, 1) := by decide +kernel
theorem dX12_binds_303 : decode cX12_binds 303 = .ok (.invokevirtual 497, 3) := by decide +kernel
theorem dX12_binds_306 : decode cX12_binds 306 = .ok (.iinc 5 1, 3) := by decide +kernel
theorem dX12_binds_309 : decode cX12_binds 309 = .ok (.goto (-73), 3) := by decide +kernel
theorem dX12_binds_312 : decode cX12_binds 312 = .ok (.iinc 3 1, 3) := by decide +kernel
theorem dX12_binds_315 : decode cX12_binds 315 = .ok (.goto (-165), 3) := by decide +kernel
theorem dX12_binds_318 : decode cX12_binds 318 = .ok (.aload_n 0, 1) := by decide +kernel
theorem dX12_binds_319 : decode cX12_binds 319 = .ok (.aload_n 0, 1) := by decide +kernel
theorem dX12_binds_320 : decode cX12_binds 320 = .ok (.getfield 489, 3) := by decide +kernel
theorem dX12_binds_323 : decode cX12_binds 323 = .ok (.ifCond .ne 10, 3) := by decide +kernel
theorem dX12_binds_326 : decode cX12_binds 326 = .ok (.aload_n 0, 1) := by decide +kernel
theorem dX12_binds_327 : decode cX12_binds 327 = .ok (.getfield 482, 3) := by decide +kernel
theorem dX12_binds_330 : decode cX12_binds 330 = .ok (.ifCond .eq 7, 3) := by decide +kernel
theorem dX12_binds_333 : decode cX12_binds 333 = .ok (.iconst 1, 1) := by decide +kernel
theorem dX12_binds_334 : decode cX12_binds 334 = .ok (.goto 4, 3) := by decide +kernel
theorem dX12_binds_337 : decode cX12_binds 337 = .ok (.iconst 0, 1) := by decide +kernel
theorem dX12_binds_338 : decode cX12_binds 338 = .ok (.putfield 489, 3) := by decide +kernel
theorem dX12_binds_341 : decode cX12_binds 341 = .ok (.return_, 1) := by decide +kernel
theorem dX12_binds__0 : decode cX12_binds_ 0 = .ok (.aload_n 0, 1) := by decide +kernel
theorem dX12_binds__1 : decode cX12_binds_ 1 = .ok (.getfield 110, 3) := by decide +kernel
theorem dX12_binds__4 : decode cX12_binds_ 4 = .ok (.iload_n 2, 1) := by decide +kernel
theorem dX12_binds__5 : decode cX12_binds_ 5 = .ok (.iaload, 1) := by decide +kernel
theorem dX12_binds__6 : decode cX12_binds_ 6 = .ok (.ifCond .ne 80, 3) := by decide +kernel
theorem dX12_binds__9 : decode cX12_binds_ 9 = .ok (.iload_n 3, 1) := by decide +kernel
theorem dX12_binds__10 : decode cX12_binds_ 10 = .ok (.aload_n 0, 1) := by decide +kernel
theorem dX12_binds__11 : decode cX12_binds_ 11 = .ok (.getfield 113, 3) := by decide +kernel
theorem dX12_binds__14 : decode cX12_binds_ 14 = .ok (.iload_n 2, 1) := by decide +kernel
theorem dX12_binds__15 : decode cX12_binds_ 15 = .ok (.iaload, 1) := by decide +kernel
theorem dX12_binds__16 : decode cX12_binds_ 16 = .ok (.ishr, 1) := by decide +kernel
theorem dX12_binds__17 : decode cX12_binds_ 17 = .ok (.iconst 1, 1) := by decide +kernel
theorem dX12_binds__18 : decode cX12_binds_ 18 = .ok (.iand, 1) := by decide +kernel
theorem dX12_binds__19 : decode cX12_binds_ 19 = .ok (.iconst 1, 1) := by decide +kernel
theorem dX12_binds__20 : decode cX12_binds_ 20 = .ok (.if_icmp .ne 7, 3) := by decide +kernel
theorem dX12_binds__23 : decode cX12_binds_ 23 = .ok (.iconst 0, 1) := by decide +kernel
theorem dX12_binds__24 : decode cX12_binds_ 24 = .ok (.goto 11, 3) := by decide +kernel
theorem dX12_binds__27 : decode cX12_binds_ 27 = .ok (.iconst 1, 1) := by decide +kernel
theorem dX12_binds__28 : decode cX12_binds_ 28 = .ok (.aload_n 0, 1) := by decide +kernel
theorem dX12_binds__29 : decode cX12_binds_ 29 = .ok (.getfield 113, 3) := by decide +kernel
theorem dX12_binds__32 : decode cX12_binds_ 32 = .ok (.iload_n 2, 1) := by decide +kernel
theorem dX12_binds__33 : decode cX12_binds_ 33 = .ok (.iaload, 1) := by decide +kernel
theorem dX12_binds__34 : decode cX12_binds_ 34 = .ok (.ishl, 1) := by decide +kernel
theorem dX12_binds__35 : decode cX12_binds_ 35 = .ok (.istore 4, 2) := by decide +kernel
theorem dX12_binds__37 : decode cX12_binds_ 37 = .ok (.aload_n 0, 1) := by decide +kernel
theorem dX12_binds__38 : decode cX12_binds_ 38 = .ok (.dup, 1) := by decide +kernel
theorem dX12_binds__39 : decode cX12_binds_ 39 = .ok (.getfield 479, 3) := by decide +kernel
theorem dX12_binds__42 : decode cX12_binds_ 42 = .ok (.iload 4, 2) := by decide +kernel
theorem dX12_binds__44 : decode cX12_binds_ 44 = .ok (.ior, 1) := by decide +kernel
theorem dX12_binds__45 : decode cX12_binds_ 45 = .ok (.putfield 479, 3) := by decide +kernel
theorem dX12_binds__48 : decode cX12_binds_ 48 = .ok (.aload_n 0, 1) := by decide +kernel
theorem dX12_binds__49 : decode cX12_binds_ 49 = .ok (.dup, 1) := by decide +kernel
theorem dX12_binds__50 : decode cX12_binds_ 50 = .ok (.getfield 482, 3) := by decide +kernel
theorem dX12_binds__53 : decode cX12_binds_ 53 = .ok (.aload_n 0, 1) := by decide +kernel
theorem dX12_binds__54 : decode cX12_binds_ 54 = .ok (.getfield 233, 3) := by decide +kernel
theorem dX12_binds__57 : decode cX12_binds_ 57 = .ok (.aload_n 0, 1) := by decide +kernel
theorem dX12_binds__58 : decode cX12_binds_ 58 = .ok (.getfield 104, 3) := by decide +kernel
theorem dX12_binds__61 : decode cX12_binds_ 61 = .ok (.iload_n 1, 1) := by decide +kernel
theorem dX12_binds__62 : decode cX12_binds_ 62 = .ok (.iaload, 1) := by decide +kernel
theorem dX12_binds__63 : decode cX12_binds_ 63 = .ok (.isub, 1) := by decide +kernel
theorem dX12_binds__64 : decode cX12_binds_ 64 = .ok (.aload_n 0, 1) := by decide +kernel
theorem dX12_binds__65 : decode cX12_binds_ 65 = .ok (.getfield 116, 3) := by decide +kernel
theorem dX12_binds__68 : decode cX12_binds_ 68 = .ok (.iload_n 2, 1) := by decide +kernel
theorem dX12_binds__69 : decode cX12_binds_ 69 = .ok (.iaload, 1) := by decide +kernel
theorem dX12_binds__70 : decode cX12_binds_ 70 = .ok (.if_icmp .le 8, 3) := by decide +kernel
theorem dX12_binds__73 : decode cX12_binds_ 73 = .ok (.iload 4, 2) := by decide +kernel
theorem dX12_binds__75 : decode cX12_binds_ 75 = .ok (.goto 4, 3) := by decide +kernel
theorem dX12_binds__78 : decode cX12_binds_ 78 = .ok (.iconst 0, 1) := by decide +kernel
theorem dX12_binds__79 : decode cX12_binds_ 79 = .ok (.ior, 1) := by decide +kernel
theorem dX12_binds__80 : decode cX12_binds_ 80 = .ok (.putfield 482, 3) := by decide +kernel
theorem dX12_binds__83 : decode cX12_binds_ 83 = .ok (.goto 121, 3) := by decide +kernel
theorem dX12_binds__86 : decode cX12_binds_ 86 = .ok (.aload_n 0, 1) := by decide +kernel
theorem dX12_binds__87 : decode cX12_binds_ 87 = .ok (.getfield 110, 3) := by decide +kernel
theorem dX12_binds__90 : decode cX12_binds_ 90 = .ok (.iload_n 2, 1) := by decide +kernel
theorem dX12_binds__91 : decode cX12_binds_ 91 = .ok (.iaload, 1) := by decide +kernel
theorem dX12_binds__92 : decode cX12_binds_ 92 = .ok (.iconst 1, 1) := by decide +kernel
theorem dX12_binds__93 : decode cX12_binds_ 93 = .ok (.if_icmp .ne 78, 3) := by decide +kernel
theorem dX12_binds__96 : decode cX12_binds_ 96 = .ok (.aload_n 0, 1) := by decide +kernel
theorem dX12_binds__97 : decode cX12_binds_ 97 = .ok (.iload_n 1, 1) := by decide +kernel
theorem dX12_binds__98 : decode cX12_binds_ 98 = .ok (.aload_n 0, 1) := by decide +kernel
theorem dX12_binds__99 : decode cX12_binds_ 99 = .ok (.getfield 119, 3) := by decide +kernel
theorem dX12_binds__102 : decode cX12_binds_ 102 = .ok (.iload_n 2, 1) := by decide +kernel
theorem dX12_binds__103 : decode cX12_binds_ 103 = .ok (.iaload, 1) := by decide +kernel
theorem dX12_binds__104 : decode cX12_binds_ 104 = .ok (.aload_n 0, 1) := by decide +kernel
theorem dX12_binds__105 : decode cX12_binds_ 105 = .ok (.getfield 122, 3) := by decide +kernel
theorem dX12_binds__108 : decode cX12_binds_ 108 = .ok (.iload_n 2, 1) := by decide +kernel
theorem dX12_binds__109 : decode cX12_binds_ 109 = .ok (.iaload, 1) := by decide +kernel
theorem dX12_binds__110 : decode cX12_binds_ 110 = .ok (.invokevirtual 493, 3) := by decide +kernel
theorem dX12_binds__113 : decode cX12_binds_ 113 = .ok (.lstore 4, 2) := by decide +kernel
theorem dX12_binds__115 : decode cX12_binds_ 115 = .ok (.lload 4, 2) := by decide +kernel
theorem dX12_binds__117 : decode cX12_binds_ 117 = .ok (.lconst 0, 1) := by decide +kernel
theorem dX12_binds__118 : decode cX12_binds_ 118 = .ok (.lcmp, 1) := by decide +kernel
theorem dX12_binds__119 : decode cX12_binds_ 119 = .ok (.ifCond .ge 7, 3) := by decide +kernel
theorem dX12_binds__122 : decode cX12_binds_ 122 = .ok (.lconst 0, 1) := by decide +kernel
theorem dX12_binds__123 : decode cX12_binds_ 123 = .ok (.goto 20, 3) := by decide +kernel
theorem dX12_binds__126 : decode cX12_binds_ 126 = .ok (.lload 4, 2) := by decide +kernel
theorem dX12_binds__128 : decode cX12_binds_ 128 = .ok (.ldc2_w 256, 3) := by decide +kernel
theorem dX12_binds__131 : decode cX12_binds_ 131 = .ok (.lcmp, 1) := by decide +kernel
theorem dX12_binds__132 : decode cX12_binds_ 132 = .ok (.ifCond .le 9, 3) := by decide +kernel
theorem dX12_binds__135 : decode cX12_binds_ 135 = .ok (.ldc2_w 256, 3) := by decide +kernel
theorem dX12_binds__138 : decode cX12_binds_ 138 = .ok (.goto 5, 3) := by decide +kernel
theorem dX12_binds__141 : decode cX12_binds_ 141 = .ok (.lload 4, 2) := by decide +kernel
theorem dX12_binds__143 : decode cX12_binds_ 143 = .ok (.l2i, 1) := by decide +kernel
theorem dX12_binds__144 : decode cX12_binds_ 144 = .ok (.istore 6, 2) := by decide +kernel
theorem dX12_binds__146 : decode cX12_binds_ 146 = .ok (.aload_n 0, 1) := by decide +kernel
theorem dX12_binds__147 : decode cX12_binds_ 147 = .ok (.iload 6, 2) := by decide +kernel
theorem dX12_binds__149 : decode cX12_binds_ 149 = .ok (.aload_n 0, 1) := by decide +kernel
theorem dX12_binds__150 : decode cX12_binds_ 150 = .ok (.getfield 485, 3) := by decide +kernel
theorem dX12_binds__153 : decode cX12_binds_ 153 = .ok (.if_icmp .ge 8, 3) := by decide +kernel
theorem dX12_binds__156 : decode cX12_binds_ 156 = .ok (.iload 6, 2) := by decide +kernel
theorem dX12_binds__158 : decode cX12_binds_ 158 = .ok (.goto 7, 3) := by decide +kernel
theorem dX12_binds__161 : decode cX12_binds_ 161 = .ok (.aload_n 0, 1) := by decide +kernel
theorem dX12_binds__162 : decode cX12_binds_ 162 = .ok (.getfield 485, 3) := by decide +kernel
theorem dX12_binds__165 : decode cX12_binds_ 165 = .ok (.putfield 485, 3) := by decide +kernel
theorem dX12_binds__168 : decode cX12_binds_ 168 = .ok (.goto 36, 3) := by decide +kernel
theorem dX12_binds__171 : decode cX12_binds_ 171 = .ok (.aload_n 0, 1) := by decide +kernel
theorem dX12_binds__172 : decode cX12_binds_ 172 = .ok (.getfield 110, 3) := by decide +kernel
theorem dX12_binds__175 : decode cX12_binds_ 175 = .ok (.iload_n 2, 1) := by decide +kernel
theorem dX12_binds__176 : decode cX12_binds_ 176 = .ok (.iaload, 1) := by decide +kernel
theorem dX12_binds__177 : decode cX12_binds_ 177 = .ok (.iconst 2, 1) := by decide +kernel
theorem dX12_binds__178 : decode cX12_binds_ 178 = .ok (.if_icmp .ne 21, 3) := by decide +kernel
theorem dX12_binds__181 : decode cX12_binds_ 181 = .ok (.aload_n 0, 1) := by decide +kernel
theorem dX12_binds__182 : decode cX12_binds_ 182 = .ok (.dup, 1) := by decide +kernel
theorem dX12_binds__183 : decode cX12_binds_ 183 = .ok (.getfield 487, 3) := by decide +kernel
theorem dX12_binds__186 : decode cX12_binds_ 186 = .ok (.aload_n 0, 1) := by decide +kernel
theorem dX12_binds__187 : decode cX12_binds_ 187 = .ok (.getfield 113, 3) := by decide +kernel
theorem dX12_binds__190 : decode cX12_binds_ 190 = .ok (.iload_n 2, 1) := by decide +kernel
theorem dX12_binds__191 : decode cX12_binds_ 191 = .ok (.iaload, 1) := by decide +kernel
theorem dX12_binds__192 : decode cX12_binds_ 192 = .ok (.ior, 1) := by decide +kernel
theorem dX12_binds__193 : decode cX12_binds_ 193 = .ok (.putfield 487, 3) := by decide +kernel
theorem dX12_binds__196 : decode cX12_binds_ 196 = .ok (.goto 8, 3) := by decide +kernel
theorem dX12_binds__199 : decode cX12_binds_ 199 = .ok (.aload_n 0, 1) := by decide +kernel
theorem dX12_binds__200 : decode cX12_binds_ 200 = .ok (.iconst 1, 1) := by decide +kernel
theorem dX12_binds__201 : decode cX12_binds_ 201 = .ok (.putfield 489, 3) := by decide +kernel
theorem dX12_binds__204 : decode cX12_binds_ 204 = .ok (.return_, 1) := by decide +kernel
theorem dX12_bound_0 : decode cX12_bound 0 = .ok (.aload_n 0, 1) := by decide +kernel
theorem dX12_bound_1 : decode cX12_bound 1 = .ok (.iload_n 1, 1) := by decide +kernel
theorem dX12_bound_2 : decode cX12_bound 2 = .ok (.invokevirtual 262, 3) := by decide +kernel
theorem dX12_bound_5 : decode cX12_bound 5 = .ok (.ifCond .eq 15, 3) := by decide +kernel
theorem dX12_bound_8 : decode cX12_bound 8 = .ok (.iload_n 2, 1) := by decide +kernel
theorem dX12_bound_9 : decode cX12_bound 9 = .ok (.i2l, 1) := by decide +kernel
theorem dX12_bound_10 : decode cX12_bound 10 = .ok (.lconst 0, 1) := by decide +kernel
theorem dX12_bound_11 : decode cX12_bound 11 = .ok (.ldc2_w 500, 3) := by decide +kernel
theorem dX12_bound_14 : decode cX12_bound 14 = .ok (.invokestatic 229, 3) := by decide +kernel
theorem dX12_bound_17 : decode cX12_bound 17 = .ok (.ifCond .ne 5, 3) := by decide +kernel
theorem dX12_bound_20 : decode cX12_bound 20 = .ok (.iconst (-1), 1) := by decide +kernel
theorem dX12_bound_21 : decode cX12_bound 21 = .ok (.ireturn, 1) := by decide +kernel
theorem dX12_bound_22 : decode cX12_bound 22 = .ok (.aload_n 0, 1) := by decide +kernel
theorem dX12_bound_23 : decode cX12_bound 23 = .ok (.iload_n 1, 1) := by decide +kernel
theorem dX12_bound_24 : decode cX12_bound 24 = .ok (.invokevirtual 502, 3) := by decide +kernel
theorem dX12_bound_27 : decode cX12_bound 27 = .ok (.iload_n 2, 1) := by decide +kernel
theorem dX12_bound_28 : decode cX12_bound 28 = .ok (.ifCond .ne 10, 3) := by decide +kernel
theorem dX12_bound_31 : decode cX12_bound 31 = .ok (.aload_n 0, 1) := by decide +kernel
theorem dX12_bound_32 : decode cX12_bound 32 = .ok (.getfield 479, 3) := by decide +kernel
theorem dX12_bound_35 : decode cX12_bound 35 = .ok (.goto 51, 3) := by decide +kernel
theorem dX12_bound_38 : decode cX12_bound 38 = .ok (.iload_n 2, 1) := by decide +kernel
theorem dX12_bound_39 : decode cX12_bound 39 = .ok (.iconst 1, 1) := by decide +kernel
theorem dX12_bound_40 : decode cX12_bound 40 = .ok (.if_icmp .ne 10, 3) := by decide +kernel
theorem dX12_bound_43 : decode cX12_bound 43 = .ok (.aload_n 0, 1) := by decide +kernel
theorem dX12_bound_44 : decode cX12_bound 44 = .ok (.getfield 482, 3) := by decide +kernel
theorem dX12_bound_47 : decode cX12_bound 47 = .ok (.goto 39, 3) := by decide +kernel
theorem dX12_bound_50 : decode cX12_bound 50 = .ok (.iload_n 2, 1) := by decide +kernel
theorem dX12_bound_51 : decode cX12_bound 51 = .ok (.iconst 2, 1) := by decide +kernel
theorem dX12_bound_52 : decode cX12_bound 52 = .ok (.if_icmp .ne 10, 3) := by decide +kernel
theorem dX12_bound_55 : decode cX12_bound 55 = .ok (.aload_n 0, 1) := by decide +kernel
theorem dX12_bound_56 : decode cX12_bound 56 = .ok (.getfield 485, 3) := by decide +kernel
theorem dX12_bound_59 : decode cX12_bound 59 = .ok (.goto 27, 3) := by decide +kernel
theorem dX12_bound_62 : decode cX12_bound 62 = .ok (.iload_n 2, 1) := by decide +kernel
theorem dX12_bound_63 : decode cX12_bound 63 = .ok (.iconst 3, 1) := by decide +kernel
theorem dX12_bound_64 : decode cX12_bound 64 = .ok (.if_icmp .ne 10, 3) := by decide +kernel
theorem dX12_bound_67 : decode cX12_bound 67 = .ok (.aload_n 0, 1) := by decide +kernel
theorem dX12_bound_68 : decode cX12_bound 68 = .ok (.getfield 487, 3) := by decide +kernel
theorem dX12_bound_71 : decode cX12_bound 71 = .ok (.goto 15, 3) := by decide +kernel
theorem dX12_bound_74 : decode cX12_bound 74 = .ok (.aload_n 0, 1) := by decide +kernel
theorem dX12_bound_75 : decode cX12_bound 75 = .ok (.getfield 489, 3) := by decide +kernel
theorem dX12_bound_78 : decode cX12_bound 78 = .ok (.ifCond .eq 7, 3) := by decide +kernel
theorem dX12_bound_81 : decode cX12_bound 81 = .ok (.iconst 1, 1) := by decide +kernel
theorem dX12_bound_82 : decode cX12_bound 82 = .ok (.goto 4, 3) := by decide +kernel
theorem dX12_bound_85 : decode cX12_bound 85 = .ok (.iconst 0, 1) := by decide +kernel
theorem dX12_bound_86 : decode cX12_bound 86 = .ok (.ireturn, 1) := by decide +kernel
theorem dX12_stamp_0 : decode cX12_stamp 0 = .ok (.aload_n 0, 1) := by decide +kernel
theorem dX12_stamp_1 : decode cX12_stamp 1 = .ok (.getfield 473, 3) := by decide +kernel
theorem dX12_stamp_4 : decode cX12_stamp 4 = .ok (.sipush 200, 3) := by decide +kernel
theorem dX12_stamp_7 : decode cX12_stamp 7 = .ok (.if_icmp .eq 50, 3) := by decide +kernel
theorem dX12_stamp_10 : decode cX12_stamp 10 = .ok (.aload_n 0, 1) := by decide +kernel
theorem dX12_stamp_11 : decode cX12_stamp 11 = .ok (.iload_n 1, 1) := by decide +kernel
theorem dX12_stamp_12 : decode cX12_stamp 12 = .ok (.invokevirtual 262, 3) := by decide +kernel
theorem dX12_stamp_15 : decode cX12_stamp 15 = .ok (.ifCond .eq 42, 3) := by decide +kernel
theorem dX12_stamp_18 : decode cX12_stamp 18 = .ok (.iload_n 2, 1) := by decide +kernel
theorem dX12_stamp_19 : decode cX12_stamp 19 = .ok (.i2l, 1) := by decide +kernel
theorem dX12_stamp_20 : decode cX12_stamp 20 = .ok (.lconst 0, 1) := by decide +kernel
theorem dX12_stamp_21 : decode cX12_stamp 21 = .ok (.ldc2_w 504, 3) := by decide +kernel
theorem dX12_stamp_24 : decode cX12_stamp 24 = .ok (.invokestatic 229, 3) := by decide +kernel
theorem dX12_stamp_27 : decode cX12_stamp 27 = .ok (.ifCond .eq 30, 3) := by decide +kernel
theorem dX12_stamp_30 : decode cX12_stamp 30 = .ok (.iload_n 3, 1) := by decide +kernel
theorem dX12_stamp_31 : decode cX12_stamp 31 = .ok (.i2l, 1) := by decide +kernel
theorem dX12_stamp_32 : decode cX12_stamp 32 = .ok (.lconst 0, 1) := by decide +kernel
theorem dX12_stamp_33 : decode cX12_stamp 33 = .ok (.ldc2_w 294, 3) := by decide +kernel
theorem dX12_stamp_36 : decode cX12_stamp 36 = .ok (.invokestatic 229, 3) := by decide +kernel
theorem dX12_stamp_39 : decode cX12_stamp 39 = .ok (.ifCond .eq 18, 3) := by decide +kernel
theorem dX12_stamp_42 : decode cX12_stamp 42 = .ok (.iload 4, 2) := by decide +kernel
theorem dX12_stamp_44 : decode cX12_stamp 44 = .ok (.i2l, 1) := by decide +kernel
theorem dX12_stamp_45 : decode cX12_stamp 45 = .ok (.lconst 0, 1) := by decide +kernel
theorem dX12_stamp_46 : decode cX12_stamp 46 = .ok (.aload_n 0, 1) := by decide +kernel
theorem dX12_stamp_47 : decode cX12_stamp 47 = .ok (.getfield 233, 3) := by decide +kernel
theorem dX12_stamp_50 : decode cX12_stamp 50 = .ok (.i2l, 1) := by decide +kernel
theorem dX12_stamp_51 : decode cX12_stamp 51 = .ok (.invokestatic 229, 3) := by decide +kernel
theorem dX12_stamp_54 : decode cX12_stamp 54 = .ok (.ifCond .ne 5, 3) := by decide +kernel
theorem dX12_stamp_57 : decode cX12_stamp 57 = .ok (.iconst (-1), 1) := by decide +kernel
theorem dX12_stamp_58 : decode cX12_stamp 58 = .ok (.ireturn, 1) := by decide +kernel
theorem dX12_stamp_59 : decode cX12_stamp 59 = .ok (.aload_n 0, 1) := by decide +kernel
theorem dX12_stamp_60 : decode cX12_stamp 60 = .ok (.getfield 138, 3) := by decide +kernel
theorem dX12_stamp_63 : decode cX12_stamp 63 = .ok (.aload_n 0, 1) := by decide +kernel
theorem dX12_stamp_64 : decode cX12_stamp 64 = .ok (.getfield 473, 3) := by decide +kernel
theorem dX12_stamp_67 : decode cX12_stamp 67 = .ok (.iload_n 1, 1) := by decide +kernel
theorem dX12_stamp_68 : decode cX12_stamp 68 = .ok (.iastore, 1) := by decide +kernel
theorem dX12_stamp_69 : decode cX12_stamp 69 = .ok (.aload_n 0, 1) := by decide +kernel
theorem dX12_stamp_70 : decode cX12_stamp 70 = .ok (.getfield 141, 3) := by decide +kernel
theorem dX12_stamp_73 : decode cX12_stamp 73 = .ok (.aload_n 0, 1) := by decide +kernel
theorem dX12_stamp_74 : decode cX12_stamp 74 = .ok (.getfield 473, 3) := by decide +kernel
theorem dX12_stamp_77 : decode cX12_stamp 77 = .ok (.iload_n 2, 1) := by decide +kernel
theorem dX12_stamp_78 : decode cX12_stamp 78 = .ok (.iastore, 1) := by decide +kernel
theorem dX12_stamp_79 : decode cX12_stamp 79 = .ok (.aload_n 0, 1) := by decide +kernel
theorem dX12_stamp_80 : decode cX12_stamp 80 = .ok (.getfield 144, 3) := by decide +kernel
theorem dX12_stamp_83 : decode cX12_stamp 83 = .ok (.aload_n 0, 1) := by decide +kernel
theorem dX12_stamp_84 : decode cX12_stamp 84 = .ok (.getfield 473, 3) := by decide +kernel
theorem dX12_stamp_87 : decode cX12_stamp 87 = .ok (.iload_n 3, 1) := by decide +kernel
theorem dX12_stamp_88 : decode cX12_stamp 88 = .ok (.iastore, 1) := by decide +kernel
theorem dX12_stamp_89 : decode cX12_stamp 89 = .ok (.aload_n 0, 1) := by decide +kernel
theorem dX12_stamp_90 : decode cX12_stamp 90 = .ok (.getfield 147, 3) := by decide +kernel
theorem dX12_stamp_93 : decode cX12_stamp 93 = .ok (.aload_n 0, 1) := by decide +kernel
theorem dX12_stamp_94 : decode cX12_stamp 94 = .ok (.getfield 473, 3) := by decide +kernel
theorem dX12_stamp_97 : decode cX12_stamp 97 = .ok (.iload 4, 2) := by decide +kernel
theorem dX12_stamp_99 : decode cX12_stamp 99 = .ok (.iastore, 1) := by decide +kernel
theorem dX12_stamp_100 : decode cX12_stamp 100 = .ok (.aload_n 0, 1) := by decide +kernel
theorem dX12_stamp_101 : decode cX12_stamp 101 = .ok (.dup, 1) := by decide +kernel
theorem dX12_stamp_102 : decode cX12_stamp 102 = .ok (.getfield 473, 3) := by decide +kernel
theorem dX12_stamp_105 : decode cX12_stamp 105 = .ok (.iconst 1, 1) := by decide +kernel
theorem dX12_stamp_106 : decode cX12_stamp 106 = .ok (.iadd, 1) := by decide +kernel
theorem dX12_stamp_107 : decode cX12_stamp 107 = .ok (.putfield 473, 3) := by decide +kernel
theorem dX12_stamp_110 : decode cX12_stamp 110 = .ok (.aload_n 0, 1) := by decide +kernel
theorem dX12_stamp_111 : decode cX12_stamp 111 = .ok (.getfield 473, 3) := by decide +kernel
theorem dX12_stamp_114 : decode cX12_stamp 114 = .ok (.iconst 1, 1) := by decide +kernel
theorem dX12_stamp_115 : decode cX12_stamp 115 = .ok (.isub, 1) := by decide +kernel
theorem dX12_stamp_116 : decode cX12_stamp 116 = .ok (.ireturn, 1) := by decide +kernel
theorem dX12_see_0 : decode cX12_see 0 = .ok (.aload_n 0, 1) := by decide +kernel
theorem dX12_see_1 : decode cX12_see 1 = .ok (.getfield 506, 3) := by decide +kernel
theorem dX12_see_4 : decode cX12_see 4 = .ok (.bipush 100, 2) := by decide +kernel
theorem dX12_see_6 : decode cX12_see 6 = .ok (.if_icmp .eq 37, 3) := by decide +kernel
theorem dX12_see_9 : decode cX12_see 9 = .ok (.aload_n 0, 1) := by decide +kernel
theorem dX12_see_10 : decode cX12_see 10 = .ok (.iload_n 1, 1) := by decide +kernel
theorem dX12_see_11 : decode cX12_see 11 = .ok (.invokevirtual 262, 3) := by decide +kernel
theorem dX12_see_14 : decode cX12_see 14 = .ok (.ifCond .eq 29, 3) := by decide +kernel
theorem dX12_see_17 : decode cX12_see 17 = .ok (.iload_n 2, 1) := by decide +kernel
theorem dX12_see_18 : decode cX12_see 18 = .ok (.i2l, 1) := by decide +kernel
theorem dX12_see_19 : decode cX12_see 19 = .ok (.lconst 0, 1) := by decide +kernel
theorem dX12_see_20 : decode cX12_see 20 = .ok (.ldc2_w 504, 3) := by decide +kernel
theorem dX12_see_23 : decode cX12_see 23 = .ok (.invokestatic 229, 3) := by decide +kernel
theorem dX12_see_26 : decode cX12_see 26 = .ok (.ifCond .eq 17, 3) := by decide +kernel
theorem dX12_see_29 : decode cX12_see 29 = .ok (.iload_n 3, 1) := by decide +kernel
theorem dX12_see_30 : decode cX12_see 30 = .ok (.i2l, 1) := by decide +kernel
theorem dX12_see_31 : decode cX12_see 31 = .ok (.lconst 0, 1) := by decide +kernel
theorem dX12_see_32 : decode cX12_see 32 = .ok (.aload_n 0, 1) := by decide +kernel
theorem dX12_see_33 : decode cX12_see 33 = .ok (.getfield 233, 3) := by decide +kernel
theorem dX12_see_36 : decode cX12_see 36 = .ok (.i2l, 1) := by decide +kernel
theorem dX12_see_37 : decode cX12_see 37 = .ok (.invokestatic 229, 3) := by decide +kernel
theorem dX12_see_40 : decode cX12_see 40 = .ok (.ifCond .ne 5, 3) := by decide +kernel
theorem dX12_see_43 : decode cX12_see 43 = .ok (.iconst (-1), 1) := by decide +kernel
theorem dX12_see_44 : decode cX12_see 44 = .ok (.ireturn, 1) := by decide +kernel
theorem dX12_see_45 : decode cX12_see 45 = .ok (.aload_n 0, 1) := by decide +kernel
theorem dX12_see_46 : decode cX12_see 46 = .ok (.getfield 156, 3) := by decide +kernel
theorem dX12_see_49 : decode cX12_see 49 = .ok (.aload_n 0, 1) := by decide +kernel
theorem dX12_see_50 : decode cX12_see 50 = .ok (.getfield 506, 3) := by decide +kernel
theorem dX12_see_53 : decode cX12_see 53 = .ok (.iload_n 1, 1) := by decide +kernel
theorem dX12_see_54 : decode cX12_see 54 = .ok (.iastore, 1) := by decide +kernel
theorem dX12_see_55 : decode cX12_see 55 = .ok (.aload_n 0, 1) := by decide +kernel
theorem dX12_see_56 : decode cX12_see 56 = .ok (.getfield 159, 3) := by decide +kernel
theorem dX12_see_59 : decode cX12_see 59 = .ok (.aload_n 0, 1) := by decide +kernel
theorem dX12_see_60 : decode cX12_see 60 = .ok (.getfield 506, 3) := by decide +kernel
theorem dX12_see_63 : decode cX12_see 63 = .ok (.iload_n 2, 1) := by decide +kernel
theorem dX12_see_64 : decode cX12_see 64 = .ok (.iastore, 1) := by decide +kernel
theorem dX12_see_65 : decode cX12_see 65 = .ok (.aload_n 0, 1) := by decide +kernel
theorem dX12_see_66 : decode cX12_see 66 = .ok (.getfield 162, 3) := by decide +kernel
theorem dX12_see_69 : decode cX12_see 69 = .ok (.aload_n 0, 1) := by decide +kernel
theorem dX12_see_70 : decode cX12_see 70 = .ok (.getfield 506, 3) := by decide +kernel
theorem dX12_see_73 : decode cX12_see 73 = .ok (.iload_n 3, 1) := by decide +kernel
theorem dX12_see_74 : decode cX12_see 74 = .ok (.iastore, 1) := by decide +kernel
theorem dX12_see_75 : decode cX12_see 75 = .ok (.aload_n 0, 1) := by decide +kernel
theorem dX12_see_76 : decode cX12_see 76 = .ok (.getfield 165, 3) := by decide +kernel
theorem dX12_see_79 : decode cX12_see 79 = .ok (.aload_n 0, 1) := by decide +kernel
theorem dX12_see_80 : decode cX12_see 80 = .ok (.getfield 506, 3) := by decide +kernel
theorem dX12_see_83 : decode cX12_see 83 = .ok (.iload 4, 2) := by decide +kernel
theorem dX12_see_85 : decode cX12_see 85 = .ok (.bastore, 1) := by decide +kernel
theorem dX12_see_86 : decode cX12_see 86 = .ok (.aload_n 0, 1) := by decide +kernel
theorem dX12_see_87 : decode cX12_see 87 = .ok (.dup, 1) := by decide +kernel
theorem dX12_see_88 : decode cX12_see 88 = .ok (.getfield 506, 3) := by decide +kernel
theorem dX12_see_91 : decode cX12_see 91 = .ok (.iconst 1, 1) := by decide +kernel
theorem dX12_see_92 : decode cX12_see 92 = .ok (.iadd, 1) := by decide +kernel
theorem dX12_see_93 : decode cX12_see 93 = .ok (.putfield 506, 3) := by decide +kernel
theorem dX12_see_96 : decode cX12_see 96 = .ok (.aload_n 0, 1) := by decide +kernel
theorem dX12_see_97 : decode cX12_see 97 = .ok (.getfield 506, 3) := by decide +kernel
theorem dX12_see_100 : decode cX12_see 100 = .ok (.ireturn, 1) := by decide +kernel
theorem dX12_needOf_0 : decode cX12_needOf 0 = .ok (.bipush 10, 2) := by decide +kernel
theorem dX12_needOf_2 : decode cX12_needOf 2 = .ok (.aload_n 0, 1) := by decide +kernel
theorem dX12_needOf_3 : decode cX12_needOf 3 = .ok (.getfield 138, 3) := by decide +kernel
theorem dX12_needOf_6 : decode cX12_needOf 6 = .ok (.iload_n 1, 1) := by decide +kernel
theorem dX12_needOf_7 : decode cX12_needOf 7 = .ok (.iaload, 1) := by decide +kernel
theorem dX12_needOf_8 : decode cX12_needOf 8 = .ok (.imul, 1) := by decide +kernel
theorem dX12_needOf_9 : decode cX12_needOf 9 = .ok (.aload_n 0, 1) := by decide +kernel
theorem dX12_needOf_10 : decode cX12_needOf 10 = .ok (.getfield 141, 3) := by decide +kernel
theorem dX12_needOf_13 : decode cX12_needOf 13 = .ok (.iload_n 1, 1) := by decide +kernel
theorem dX12_needOf_14 : decode cX12_needOf 14 = .ok (.iaload, 1) := by decide +kernel
theorem dX12_needOf_15 : decode cX12_needOf 15 = .ok (.iadd, 1) := by decide +kernel
theorem dX12_needOf_16 : decode cX12_needOf 16 = .ok (.ireturn, 1) := by decide +kernel
theorem dX12_looks_0 : decode cX12_looks 0 = .ok (.iconst 0, 1) := by decide +kernel
theorem dX12_looks_1 : decode cX12_looks 1 = .ok (.istore_n 1, 1) := by decide +kernel
theorem dX12_looks_2 : decode cX12_looks 2 = .ok (.iload_n 1, 1) := by decide +kernel
theorem dX12_looks_3 : decode cX12_looks 3 = .ok (.sipush 200, 3) := by decide +kernel
theorem dX12_looks_6 : decode cX12_looks 6 = .ok (.if_icmp .ge 23, 3) := by decide +kernel
theorem dX12_looks_9 : decode cX12_looks 9 = .ok (.aload_n 0, 1) := by decide +kernel
theorem dX12_looks_10 : decode cX12_looks 10 = .ok (.getfield 175, 3) := by decide +kernel
theorem dX12_looks_13 : decode cX12_looks 13 = .ok (.iload_n 1, 1) := by decide +kernel
theorem dX12_looks_14 : decode cX12_looks 14 = .ok (.iconst (-1), 1) := by decide +kernel
theorem dX12_looks_15 : decode cX12_looks 15 = .ok (.iastore, 1) := by decide +kernel
theorem dX12_looks_16 : decode cX12_looks 16 = .ok (.aload_n 0, 1) := by decide +kernel
theorem dX12_looks_17 : decode cX12_looks 17 = .ok (.getfield 178, 3) := by decide +kernel
theorem dX12_looks_20 : decode cX12_looks 20 = .ok (.iload_n 1, 1) := by decide +kernel
theorem dX12_looks_21 : decode cX12_looks 21 = .ok (.iconst (-1), 1) := by decide +kernel
theorem dX12_looks_22 : decode cX12_looks 22 = .ok (.iastore, 1) := by decide +kernel
theorem dX12_looks_23 : decode cX12_looks 23 = .ok (.iinc 1 1, 3) := by decide +kernel
theorem dX12_looks_26 : decode cX12_looks 26 = .ok (.goto (-24), 3) := by decide +kernel
theorem dX12_looks_29 : decode cX12_looks 29 = .ok (.iconst 0, 1) := by decide +kernel
theorem dX12_looks_30 : decode cX12_looks 30 = .ok (.istore_n 1, 1) := by decide +kernel
theorem dX12_looks_31 : decode cX12_looks 31 = .ok (.iload_n 1, 1) := by decide +kernel
theorem dX12_looks_32 : decode cX12_looks 32 = .ok (.aload_n 0, 1) := by decide +kernel
theorem dX12_looks_33 : decode cX12_looks 33 = .ok (.getfield 506, 3) := by decide +kernel
theorem dX12_looks_36 : decode cX12_looks 36 = .ok (.if_icmp .ge 107, 3) := by decide +kernel
theorem dX12_looks_39 : decode cX12_looks 39 = .ok (.bipush 10, 2) := by decide +kernel
theorem dX12_looks_41 : decode cX12_looks 41 = .ok (.aload_n 0, 1) := by decide +kernel
theorem dX12_looks_42 : decode cX12_looks 42 = .ok (.getfield 156, 3) := by decide +kernel
theorem dX12_looks_45 : decode cX12_looks 45 = .ok (.iload_n 1, 1) := by decide +kernel
theorem dX12_looks_46 : decode cX12_looks 46 = .ok (.iaload, 1) := by decide +kernel
theorem dX12_looks_47 : decode cX12_looks 47 = .ok (.imul, 1) := by decide +kernel
theorem dX12_looks_48 : decode cX12_looks 48 = .ok (.aload_n 0, 1) := by decide +kernel
theorem dX12_looks_49 : decode cX12_looks 49 = .ok (.getfield 159, 3) := by decide +kernel
theorem dX12_looks_52 : decode cX12_looks 52 = .ok (.iload_n 1, 1) := by decide +kernel
theorem dX12_looks_53 : decode cX12_looks 53 = .ok (.iaload, 1) := by decide +kernel
theorem dX12_looks_54 : decode cX12_looks 54 = .ok (.iadd, 1) := by decide +kernel
theorem dX12_looks_55 : decode cX12_looks 55 = .ok (.istore_n 2, 1) := by decide +kernel
theorem dX12_looks_56 : decode cX12_looks 56 = .ok (.aload_n 0, 1) := by decide +kernel
theorem dX12_looks_57 : decode cX12_looks 57 = .ok (.getfield 162, 3) := by decide +kernel
theorem dX12_looks_60 : decode cX12_looks 60 = .ok (.iload_n 1, 1) := by decide +kernel
theorem dX12_looks_61 : decode cX12_looks 61 = .ok (.iaload, 1) := by decide +kernel
theorem dX12_looks_62 : decode cX12_looks 62 = .ok (.istore_n 3, 1) := by decide +kernel
theorem dX12_looks_63 : decode cX12_looks 63 = .ok (.aload_n 0, 1) := by decide +kernel
theorem dX12_looks_64 : decode cX12_looks 64 = .ok (.getfield 165, 3) := by decide +kernel
theorem dX12_looks_67 : decode cX12_looks 67 = .ok (.iload_n 1, 1) := by decide +kernel
theorem dX12_looks_68 : decode cX12_looks 68 = .ok (.baload, 1) := by decide +kernel
theorem dX12_looks_69 : decode cX12_looks 69 = .ok (.ifCond .eq 42, 3) := by decide +kernel
theorem dX12_looks_72 : decode cX12_looks 72 = .ok (.aload_n 0, 1) := by decide +kernel
theorem dX12_looks_73 : decode cX12_looks 73 = .ok (.getfield 175, 3) := by decide +kernel
theorem dX12_looks_76 : decode cX12_looks 76 = .ok (.iload_n 2, 1) := by decide +kernel
theorem dX12_looks_77 : decode cX12_looks 77 = .ok (.aload_n 0, 1) := by decide +kernel
theorem dX12_looks_78 : decode cX12_looks 78 = .ok (.getfield 175, 3) := by decide +kernel
theorem dX12_looks_81 : decode cX12_looks 81 = .ok (.iload_n 2, 1) := by decide +kernel
theorem dX12_looks_82 : decode cX12_looks 82 = .ok (.iaload, 1) := by decide +kernel
theorem dX12_looks_83 : decode cX12_looks 83 = .ok (.iconst (-1), 1) := by decide +kernel
theorem dX12_looks_84 : decode cX12_looks 84 = .ok (.if_icmp .eq 13, 3) := by decide +kernel
theorem dX12_looks_87 : decode cX12_looks 87 = .ok (.iload_n 3, 1) := by decide +kernel
theorem dX12_looks_88 : decode cX12_looks 88 = .ok (.aload_n 0, 1) := by decide +kernel
theorem dX12_looks_89 : decode cX12_looks 89 = .ok (.getfield 175, 3) := by decide +kernel
theorem dX12_looks_92 : decode cX12_looks 92 = .ok (.iload_n 2, 1) := by decide +kernel
theorem dX12_looks_93 : decode cX12_looks 93 = .ok (.iaload, 1) := by decide +kernel
theorem dX12_looks_94 : decode cX12_looks 94 = .ok (.if_icmp .ge 7, 3) := by decide +kernel
theorem dX12_looks_97 : decode cX12_looks 97 = .ok (.iload_n 3, 1) := by decide +kernel
theorem dX12_looks_98 : decode cX12_looks 98 = .ok (.goto 9, 3) := by decide +kernel
theorem dX12_looks_101 : decode cX12_looks 101 = .ok (.aload_n 0, 1) := by decide +kernel
theorem dX12_looks_102 : decode cX12_looks 102 = .ok (.getfield 175, 3) := by decide +kernel
theorem dX12_looks_105 : decode cX12_looks 105 = .ok (.iload_n 2, 1) := by decide +kernel
theorem dX12_looks_106 : decode cX12_looks 106 = .ok (.iaload, 1) := by decide +kernel
theorem dX12_looks_107 : decode cX12_looks 107 = .ok (.iastore, 1) := by decide +kernel
theorem dX12_looks_108 : decode cX12_looks 108 = .ok (.goto 29, 3) := by decide +kernel
theorem dX12_looks_111 : decode cX12_looks 111 = .ok (.aload_n 0, 1) := by decide +kernel
theorem dX12_looks_112 : decode cX12_looks 112 = .ok (.getfield 178, 3) := by decide +kernel
theorem dX12_looks_115 : decode cX12_looks 115 = .ok (.iload_n 2, 1) := by decide +kernel
theorem dX12_looks_116 : decode cX12_looks 116 = .ok (.iload_n 3, 1) := by decide +kernel
theorem dX12_looks_117 : decode cX12_looks 117 = .ok (.aload_n 0, 1) := by decide +kernel
theorem dX12_looks_118 : decode cX12_looks 118 = .ok (.getfield 178, 3) := by decide +kernel
theorem dX12_looks_121 : decode cX12_looks 121 = .ok (.iload_n 2, 1) := by decide +kernel
theorem dX12_looks_122 : decode cX12_looks 122 = .ok (.iaload, 1) := by decide +kernel
theorem dX12_looks_123 : decode cX12_looks 123 = .ok (.if_icmp .le 7, 3) := by decide +kernel
theorem dX12_looks_126 : decode cX12_looks 126 = .ok (.iload_n 3, 1) := by decide +kernel
theorem dX12_looks_127 : decode cX12_looks 127 = .ok (.goto 9, 3) := by decide +kernel
theorem dX12_looks_130 : decode cX12_looks 130 = .ok (.aload_n 0, 1) := by decide +kernel
theorem dX12_looks_131 : decode cX12_looks 131 = .ok (.getfield 178, 3) := by decide +kernel
theorem dX12_looks_134 : decode cX12_looks 134 = .ok (.iload_n 2, 1) := by decide +kernel
theorem dX12_looks_135 : decode cX12_looks 135 = .ok (.iaload, 1) := by decide +kernel
theorem dX12_looks_136 : decode cX12_looks 136 = .ok (.iastore, 1) := by decide +kernel
theorem dX12_looks_137 : decode cX12_looks 137 = .ok (.iinc 1 1, 3) := by decide +kernel
theorem dX12_looks_140 : decode cX12_looks 140 = .ok (.goto (-109), 3) := by decide +kernel
theorem dX12_looks_143 : decode cX12_looks 143 = .ok (.iconst 0, 1) := by decide +kernel
theorem dX12_looks_144 : decode cX12_looks 144 = .ok (.istore_n 1, 1) := by decide +kernel
theorem dX12_looks_145 : decode cX12_looks 145 = .ok (.iload_n 1, 1) := by decide +kernel
theorem dX12_looks_146 : decode cX12_looks 146 = .ok (.aload_n 0, 1) := by decide +kernel
theorem dX12_looks_147 : decode cX12_looks 147 = .ok (.getfield 473, 3) := by decide +kernel
theorem dX12_looks_150 : decode cX12_looks 150 = .ok (.if_icmp .ge 84, 3) := by decide +kernel
theorem dX12_looks_153 : decode cX12_looks 153 = .ok (.aload_n 0, 1) := by decide +kernel
theorem dX12_looks_154 : decode cX12_looks 154 = .ok (.getfield 169, 3) := by decide +kernel
theorem dX12_looks_157 : decode cX12_looks 157 = .ok (.iload_n 1, 1) := by decide +kernel
theorem dX12_looks_158 : decode cX12_looks 158 = .ok (.aload_n 0, 1) := by decide +kernel
theorem dX12_looks_159 : decode cX12_looks 159 = .ok (.getfield 147, 3) := by decide +kernel
theorem dX12_looks_162 : decode cX12_looks 162 = .ok (.iload_n 1, 1) := by decide +kernel
theorem dX12_looks_163 : decode cX12_looks 163 = .ok (.iaload, 1) := by decide +kernel
theorem dX12_looks_164 : decode cX12_looks 164 = .ok (.aload_n 0, 1) := by decide +kernel
theorem dX12_looks_165 : decode cX12_looks 165 = .ok (.getfield 178, 3) := by decide +kernel
theorem dX12_looks_168 : decode cX12_looks 168 = .ok (.aload_n 0, 1) := by decide +kernel
theorem dX12_looks_169 : decode cX12_looks 169 = .ok (.iload_n 1, 1) := by decide +kernel
theorem dX12_looks_170 : decode cX12_looks 170 = .ok (.invokevirtual 509, 3) := by decide +kernel
theorem dX12_looks_173 : decode cX12_looks 173 = .ok (.iaload, 1) := by decide +kernel
theorem dX12_looks_174 : decode cX12_looks 174 = .ok (.if_icmp .le 7, 3) := by decide +kernel
theorem dX12_looks_177 : decode cX12_looks 177 = .ok (.iconst 1, 1) := by decide +kernel
theorem dX12_looks_178 : decode cX12_looks 178 = .ok (.goto 4, 3) := by decide +kernel
theorem dX12_looks_181 : decode cX12_looks 181 = .ok (.iconst 0, 1) := by decide +kernel
theorem dX12_looks_182 : decode cX12_looks 182 = .ok (.bastore, 1) := by decide +kernel
theorem dX12_looks_183 : decode cX12_looks 183 = .ok (.iconst 0, 1) := by decide +kernel
theorem dX12_looks_184 : decode cX12_looks 184 = .ok (.istore_n 2, 1) := by decide +kernel
theorem dX12_looks_185 : decode cX12_looks 185 = .ok (.aload_n 0, 1) := by decide +kernel
theorem dX12_looks_186 : decode cX12_looks 186 = .ok (.getfield 144, 3) := by decide +kernel
theorem dX12_looks_189 : decode cX12_looks 189 = .ok (.iload_n 2, 1) := by decide +kernel
theorem dX12_looks_190 : decode cX12_looks 190 = .ok (.iaload, 1) := by decide +kernel
theorem dX12_looks_191 : decode cX12_looks 191 = .ok (.aload_n 0, 1) := by decide +kernel
theorem dX12_looks_192 : decode cX12_looks 192 = .ok (.getfield 144, 3) := by decide +kernel
theorem dX12_looks_195 : decode cX12_looks 195 = .ok (.iload_n 1, 1) := by decide +kernel
