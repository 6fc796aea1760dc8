theorem dX9_splitNumber_22 : decode cX9_splitNumber 22 = .ok (.ifCond .eq 45, 3) := by decide +kernel
theorem dX9_splitNumber_25 : decode cX9_splitNumber 25 = .ok (.iload_n 2, 1) := by decide +kernel
theorem dX9_splitNumber_26 : decode cX9_splitNumber 26 = .ok (.iconst 5, 1) := by decide +kernel
theorem dX9_splitNumber_27 : decode cX9_splitNumber 27 = .ok (.if_icmp .ge 22, 3) := by decide +kernel
theorem dX9_splitNumber_30 : decode cX9_splitNumber 30 = .ok (.iload_n 1, 1) := by decide +kernel
theorem dX9_splitNumber_31 : decode cX9_splitNumber 31 = .ok (.bipush 10, 2) := by decide +kernel
theorem dX9_splitNumber_33 : decode cX9_splitNumber 33 = .ok (.imul, 1) := by decide +kernel
theorem dX9_splitNumber_34 : decode cX9_splitNumber 34 = .ok (.aload_n 0, 1) := by decide +kernel
theorem dX9_splitNumber_35 : decode cX9_splitNumber 35 = .ok (.aload_n 0, 1) := by decide +kernel
theorem dX9_splitNumber_36 : decode cX9_splitNumber 36 = .ok (.getfield 18, 3) := by decide +kernel
theorem dX9_splitNumber_39 : decode cX9_splitNumber 39 = .ok (.invokevirtual 41, 3) := by decide +kernel
theorem dX9_splitNumber_42 : decode cX9_splitNumber 42 = .ok (.iadd, 1) := by decide +kernel
theorem dX9_splitNumber_43 : decode cX9_splitNumber 43 = .ok (.bipush 48, 2) := by decide +kernel
theorem dX9_splitNumber_45 : decode cX9_splitNumber 45 = .ok (.isub, 1) := by decide +kernel
theorem dX9_splitNumber_46 : decode cX9_splitNumber 46 = .ok (.goto 4, 3) := by decide +kernel
theorem dX9_splitNumber_49 : decode cX9_splitNumber 49 = .ok (.iconst (-1), 1) := by decide +kernel
theorem dX9_splitNumber_50 : decode cX9_splitNumber 50 = .ok (.istore_n 1, 1) := by decide +kernel
theorem dX9_splitNumber_51 : decode cX9_splitNumber 51 = .ok (.aload_n 0, 1) := by decide +kernel
theorem dX9_splitNumber_52 : decode cX9_splitNumber 52 = .ok (.dup, 1) := by decide +kernel
theorem dX9_splitNumber_53 : decode cX9_splitNumber 53 = .ok (.getfield 18, 3) := by decide +kernel
theorem dX9_splitNumber_56 : decode cX9_splitNumber 56 = .ok (.iconst 1, 1) := by decide +kernel
theorem dX9_splitNumber_57 : decode cX9_splitNumber 57 = .ok (.iadd, 1) := by decide +kernel
theorem dX9_splitNumber_58 : decode cX9_splitNumber 58 = .ok (.putfield 18, 3) := by decide +kernel
theorem dX9_splitNumber_61 : decode cX9_splitNumber 61 = .ok (.iinc 2 1, 3) := by decide +kernel
theorem dX9_splitNumber_64 : decode cX9_splitNumber 64 = .ok (.goto (-60), 3) := by decide +kernel
theorem dX9_splitNumber_67 : decode cX9_splitNumber 67 = .ok (.iload_n 1, 1) := by decide +kernel
theorem dX9_splitNumber_68 : decode cX9_splitNumber 68 = .ok (.ireturn, 1) := by decide +kernel
theorem dX9_splitWord_0 : decode cX9_splitWord 0 = .ok (.aload_n 0, 1) := by decide +kernel
theorem dX9_splitWord_1 : decode cX9_splitWord 1 = .ok (.getfield 18, 3) := by decide +kernel
theorem dX9_splitWord_4 : decode cX9_splitWord 4 = .ok (.istore_n 1, 1) := by decide +kernel
theorem dX9_splitWord_5 : decode cX9_splitWord 5 = .ok (.iconst 0, 1) := by decide +kernel
theorem dX9_splitWord_6 : decode cX9_splitWord 6 = .ok (.istore_n 2, 1) := by decide +kernel
theorem dX9_splitWord_7 : decode cX9_splitWord 7 = .ok (.iload_n 2, 1) := by decide +kernel
theorem dX9_splitWord_8 : decode cX9_splitWord 8 = .ok (.sipush 400, 3) := by decide +kernel
theorem dX9_splitWord_11 : decode cX9_splitWord 11 = .ok (.if_icmp .ge 33, 3) := by decide +kernel
theorem dX9_splitWord_14 : decode cX9_splitWord 14 = .ok (.aload_n 0, 1) := by decide +kernel
theorem dX9_splitWord_15 : decode cX9_splitWord 15 = .ok (.aload_n 0, 1) := by decide +kernel
theorem dX9_splitWord_16 : decode cX9_splitWord 16 = .ok (.getfield 18, 3) := by decide +kernel
theorem dX9_splitWord_19 : decode cX9_splitWord 19 = .ok (.invokevirtual 41, 3) := by decide +kernel
theorem dX9_splitWord_22 : decode cX9_splitWord 22 = .ok (.invokestatic 52, 3) := by decide +kernel
theorem dX9_splitWord_25 : decode cX9_splitWord 25 = .ok (.ifCond .eq 19, 3) := by decide +kernel
theorem dX9_splitWord_28 : decode cX9_splitWord 28 = .ok (.aload_n 0, 1) := by decide +kernel
theorem dX9_splitWord_29 : decode cX9_splitWord 29 = .ok (.dup, 1) := by decide +kernel
theorem dX9_splitWord_30 : decode cX9_splitWord 30 = .ok (.getfield 18, 3) := by decide +kernel
theorem dX9_splitWord_33 : decode cX9_splitWord 33 = .ok (.iconst 1, 1) := by decide +kernel
theorem dX9_splitWord_34 : decode cX9_splitWord 34 = .ok (.iadd, 1) := by decide +kernel
theorem dX9_splitWord_35 : decode cX9_splitWord 35 = .ok (.putfield 18, 3) := by decide +kernel
theorem dX9_splitWord_38 : decode cX9_splitWord 38 = .ok (.iinc 2 1, 3) := by decide +kernel
theorem dX9_splitWord_41 : decode cX9_splitWord 41 = .ok (.goto (-34), 3) := by decide +kernel
theorem dX9_splitWord_44 : decode cX9_splitWord 44 = .ok (.iconst 0, 1) := by decide +kernel
theorem dX9_splitWord_45 : decode cX9_splitWord 45 = .ok (.istore_n 2, 1) := by decide +kernel
theorem dX9_splitWord_46 : decode cX9_splitWord 46 = .ok (.iconst 0, 1) := by decide +kernel
theorem dX9_splitWord_47 : decode cX9_splitWord 47 = .ok (.istore_n 3, 1) := by decide +kernel
theorem dX9_splitWord_48 : decode cX9_splitWord 48 = .ok (.iconst 0, 1) := by decide +kernel
theorem dX9_splitWord_49 : decode cX9_splitWord 49 = .ok (.istore 4, 2) := by decide +kernel
theorem dX9_splitWord_51 : decode cX9_splitWord 51 = .ok (.iload 4, 2) := by decide +kernel
theorem dX9_splitWord_53 : decode cX9_splitWord 53 = .ok (.ldc 58, 2) := by decide +kernel
theorem dX9_splitWord_55 : decode cX9_splitWord 55 = .ok (.invokevirtual 60, 3) := by decide +kernel
theorem dX9_splitWord_58 : decode cX9_splitWord 58 = .ok (.if_icmp .ge 57, 3) := by decide +kernel
theorem dX9_splitWord_61 : decode cX9_splitWord 61 = .ok (.ldc 58, 2) := by decide +kernel
theorem dX9_splitWord_63 : decode cX9_splitWord 63 = .ok (.iload 4, 2) := by decide +kernel
theorem dX9_splitWord_65 : decode cX9_splitWord 65 = .ok (.invokevirtual 64, 3) := by decide +kernel
theorem dX9_splitWord_68 : decode cX9_splitWord 68 = .ok (.bipush 32, 2) := by decide +kernel
theorem dX9_splitWord_70 : decode cX9_splitWord 70 = .ok (.if_icmp .ne 39, 3) := by decide +kernel
theorem dX9_splitWord_73 : decode cX9_splitWord 73 = .ok (.iload 4, 2) := by decide +kernel
theorem dX9_splitWord_75 : decode cX9_splitWord 75 = .ok (.iload_n 3, 1) := by decide +kernel
theorem dX9_splitWord_76 : decode cX9_splitWord 76 = .ok (.isub, 1) := by decide +kernel
theorem dX9_splitWord_77 : decode cX9_splitWord 77 = .ok (.aload_n 0, 1) := by decide +kernel
theorem dX9_splitWord_78 : decode cX9_splitWord 78 = .ok (.getfield 18, 3) := by decide +kernel
theorem dX9_splitWord_81 : decode cX9_splitWord 81 = .ok (.iload_n 1, 1) := by decide +kernel
theorem dX9_splitWord_82 : decode cX9_splitWord 82 = .ok (.isub, 1) := by decide +kernel
theorem dX9_splitWord_83 : decode cX9_splitWord 83 = .ok (.if_icmp .ne 18, 3) := by decide +kernel
theorem dX9_splitWord_86 : decode cX9_splitWord 86 = .ok (.aload_n 0, 1) := by decide +kernel
theorem dX9_splitWord_87 : decode cX9_splitWord 87 = .ok (.iload_n 3, 1) := by decide +kernel
theorem dX9_splitWord_88 : decode cX9_splitWord 88 = .ok (.iload_n 1, 1) := by decide +kernel
theorem dX9_splitWord_89 : decode cX9_splitWord 89 = .ok (.invokevirtual 68, 3) := by decide +kernel
theorem dX9_splitWord_92 : decode cX9_splitWord 92 = .ok (.ifCond .eq 9, 3) := by decide +kernel
theorem dX9_splitWord_95 : decode cX9_splitWord 95 = .ok (.sipush 260, 3) := by decide +kernel
theorem dX9_splitWord_98 : decode cX9_splitWord 98 = .ok (.iload_n 2, 1) := by decide +kernel
theorem dX9_splitWord_99 : decode cX9_splitWord 99 = .ok (.iadd, 1) := by decide +kernel
theorem dX9_splitWord_100 : decode cX9_splitWord 100 = .ok (.ireturn, 1) := by decide +kernel
theorem dX9_splitWord_101 : decode cX9_splitWord 101 = .ok (.iinc 2 1, 3) := by decide +kernel
theorem dX9_splitWord_104 : decode cX9_splitWord 104 = .ok (.iload 4, 2) := by decide +kernel
theorem dX9_splitWord_106 : decode cX9_splitWord 106 = .ok (.iconst 1, 1) := by decide +kernel
theorem dX9_splitWord_107 : decode cX9_splitWord 107 = .ok (.iadd, 1) := by decide +kernel
theorem dX9_splitWord_108 : decode cX9_splitWord 108 = .ok (.istore_n 3, 1) := by decide +kernel
theorem dX9_splitWord_109 : decode cX9_splitWord 109 = .ok (.iinc 4 1, 3) := by decide +kernel
theorem dX9_splitWord_112 : decode cX9_splitWord 112 = .ok (.goto (-61), 3) := by decide +kernel
theorem dX9_splitWord_115 : decode cX9_splitWord 115 = .ok (.sipush 259, 3) := by decide +kernel
theorem dX9_splitWord_118 : decode cX9_splitWord 118 = .ok (.ireturn, 1) := by decide +kernel
theorem dX9_isSame_0 : decode cX9_isSame 0 = .ok (.iload_n 2, 1) := by decide +kernel
theorem dX9_isSame_1 : decode cX9_isSame 1 = .ok (.istore_n 3, 1) := by decide +kernel
theorem dX9_isSame_2 : decode cX9_isSame 2 = .ok (.iload_n 3, 1) := by decide +kernel
theorem dX9_isSame_3 : decode cX9_isSame 3 = .ok (.aload_n 0, 1) := by decide +kernel
theorem dX9_isSame_4 : decode cX9_isSame 4 = .ok (.getfield 18, 3) := by decide +kernel
theorem dX9_isSame_7 : decode cX9_isSame 7 = .ok (.if_icmp .ge 43, 3) := by decide +kernel
theorem dX9_isSame_10 : decode cX9_isSame 10 = .ok (.iload_n 1, 1) := by decide +kernel
theorem dX9_isSame_11 : decode cX9_isSame 11 = .ok (.iload_n 3, 1) := by decide +kernel
theorem dX9_isSame_12 : decode cX9_isSame 12 = .ok (.iadd, 1) := by decide +kernel
theorem dX9_isSame_13 : decode cX9_isSame 13 = .ok (.iload_n 2, 1) := by decide +kernel
theorem dX9_isSame_14 : decode cX9_isSame 14 = .ok (.isub, 1) := by decide +kernel
theorem dX9_isSame_15 : decode cX9_isSame 15 = .ok (.istore 4, 2) := by decide +kernel
theorem dX9_isSame_17 : decode cX9_isSame 17 = .ok (.iload 4, 2) := by decide +kernel
theorem dX9_isSame_19 : decode cX9_isSame 19 = .ok (.ldc 58, 2) := by decide +kernel
theorem dX9_isSame_21 : decode cX9_isSame 21 = .ok (.invokevirtual 60, 3) := by decide +kernel
theorem dX9_isSame_24 : decode cX9_isSame 24 = .ok (.if_icmp .ge 18, 3) := by decide +kernel
theorem dX9_isSame_27 : decode cX9_isSame 27 = .ok (.ldc 58, 2) := by decide +kernel
theorem dX9_isSame_29 : decode cX9_isSame 29 = .ok (.iload 4, 2) := by decide +kernel
theorem dX9_isSame_31 : decode cX9_isSame 31 = .ok (.invokevirtual 64, 3) := by decide +kernel
theorem dX9_isSame_34 : decode cX9_isSame 34 = .ok (.aload_n 0, 1) := by decide +kernel
theorem dX9_isSame_35 : decode cX9_isSame 35 = .ok (.iload_n 3, 1) := by decide +kernel
theorem dX9_isSame_36 : decode cX9_isSame 36 = .ok (.invokevirtual 41, 3) := by decide +kernel
theorem dX9_isSame_39 : decode cX9_isSame 39 = .ok (.if_icmp .eq 5, 3) := by decide +kernel
theorem dX9_isSame_42 : decode cX9_isSame 42 = .ok (.iconst 0, 1) := by decide +kernel
theorem dX9_isSame_43 : decode cX9_isSame 43 = .ok (.ireturn, 1) := by decide +kernel
theorem dX9_isSame_44 : decode cX9_isSame 44 = .ok (.iinc 3 1, 3) := by decide +kernel
theorem dX9_isSame_47 : decode cX9_isSame 47 = .ok (.goto (-45), 3) := by decide +kernel
theorem dX9_isSame_50 : decode cX9_isSame 50 = .ok (.iconst 1, 1) := by decide +kernel
theorem dX9_isSame_51 : decode cX9_isSame 51 = .ok (.ireturn, 1) := by decide +kernel
theorem dX9_isDigit_0 : decode cX9_isDigit 0 = .ok (.iload_n 0, 1) := by decide +kernel
theorem dX9_isDigit_1 : decode cX9_isDigit 1 = .ok (.bipush 48, 2) := by decide +kernel
theorem dX9_isDigit_3 : decode cX9_isDigit 3 = .ok (.if_icmp .lt 13, 3) := by decide +kernel
theorem dX9_isDigit_6 : decode cX9_isDigit 6 = .ok (.iload_n 0, 1) := by decide +kernel
theorem dX9_isDigit_7 : decode cX9_isDigit 7 = .ok (.bipush 57, 2) := by decide +kernel
theorem dX9_isDigit_9 : decode cX9_isDigit 9 = .ok (.if_icmp .gt 7, 3) := by decide +kernel
theorem dX9_isDigit_12 : decode cX9_isDigit 12 = .ok (.iconst 1, 1) := by decide +kernel
theorem dX9_isDigit_13 : decode cX9_isDigit 13 = .ok (.goto 4, 3) := by decide +kernel
theorem dX9_isDigit_16 : decode cX9_isDigit 16 = .ok (.iconst 0, 1) := by decide +kernel
theorem dX9_isDigit_17 : decode cX9_isDigit 17 = .ok (.ireturn, 1) := by decide +kernel
theorem dX9_isLetter_0 : decode cX9_isLetter 0 = .ok (.iload_n 0, 1) := by decide +kernel
theorem dX9_isLetter_1 : decode cX9_isLetter 1 = .ok (.bipush 97, 2) := by decide +kernel
theorem dX9_isLetter_3 : decode cX9_isLetter 3 = .ok (.if_icmp .lt 13, 3) := by decide +kernel
theorem dX9_isLetter_6 : decode cX9_isLetter 6 = .ok (.iload_n 0, 1) := by decide +kernel
theorem dX9_isLetter_7 : decode cX9_isLetter 7 = .ok (.bipush 122, 2) := by decide +kernel
theorem dX9_isLetter_9 : decode cX9_isLetter 9 = .ok (.if_icmp .gt 7, 3) := by decide +kernel
theorem dX9_isLetter_12 : decode cX9_isLetter 12 = .ok (.iconst 1, 1) := by decide +kernel
theorem dX9_isLetter_13 : decode cX9_isLetter 13 = .ok (.goto 4, 3) := by decide +kernel
theorem dX9_isLetter_16 : decode cX9_isLetter 16 = .ok (.iconst 0, 1) := by decide +kernel
theorem dX9_isLetter_17 : decode cX9_isLetter 17 = .ok (.ireturn, 1) := by decide +kernel
theorem dX10_init_0 : decode cX10_init 0 = .ok (.aload_n 0, 1) := by decide +kernel
theorem dX10_init_1 : decode cX10_init 1 = .ok (.invokespecial 3, 3) := by decide +kernel
theorem dX10_init_4 : decode cX10_init 4 = .ok (.aload_n 0, 1) := by decide +kernel
theorem dX10_init_5 : decode cX10_init 5 = .ok (.iconst (-1), 1) := by decide +kernel
theorem dX10_init_6 : decode cX10_init 6 = .ok (.putfield 9, 3) := by decide +kernel
theorem dX10_init_9 : decode cX10_init 9 = .ok (.aload_n 0, 1) := by decide +kernel
theorem dX10_init_10 : decode cX10_init 10 = .ok (.sipush 200, 3) := by decide +kernel
theorem dX10_init_13 : decode cX10_init 13 = .ok (.newarray .int, 2) := by decide +kernel
theorem dX10_init_15 : decode cX10_init 15 = .ok (.putfield 17, 3) := by decide +kernel
theorem dX10_init_18 : decode cX10_init 18 = .ok (.aload_n 0, 1) := by decide +kernel
theorem dX10_init_19 : decode cX10_init 19 = .ok (.sipush 200, 3) := by decide +kernel
theorem dX10_init_22 : decode cX10_init 22 = .ok (.newarray .int, 2) := by decide +kernel
theorem dX10_init_24 : decode cX10_init 24 = .ok (.putfield 21, 3) := by decide +kernel
theorem dX10_init_27 : decode cX10_init 27 = .ok (.aload_n 0, 1) := by decide +kernel
theorem dX10_init_28 : decode cX10_init 28 = .ok (.sipush 200, 3) := by decide +kernel
theorem dX10_init_31 : decode cX10_init 31 = .ok (.newarray .int, 2) := by decide +kernel
theorem dX10_init_33 : decode cX10_init 33 = .ok (.putfield 24, 3) := by decide +kernel
theorem dX10_init_36 : decode cX10_init 36 = .ok (.aload_n 0, 1) := by decide +kernel
theorem dX10_init_37 : decode cX10_init 37 = .ok (.sipush 200, 3) := by decide +kernel
theorem dX10_init_40 : decode cX10_init 40 = .ok (.newarray .int, 2) := by decide +kernel
theorem dX10_init_42 : decode cX10_init 42 = .ok (.putfield 27, 3) := by decide +kernel
theorem dX10_init_45 : decode cX10_init 45 = .ok (.aload_n 0, 1) := by decide +kernel
theorem dX10_init_46 : decode cX10_init 46 = .ok (.sipush 200, 3) := by decide +kernel
theorem dX10_init_49 : decode cX10_init 49 = .ok (.newarray .int, 2) := by decide +kernel
theorem dX10_init_51 : decode cX10_init 51 = .ok (.putfield 30, 3) := by decide +kernel
theorem dX10_init_54 : decode cX10_init 54 = .ok (.aload_n 0, 1) := by decide +kernel
theorem dX10_init_55 : decode cX10_init 55 = .ok (.sipush 200, 3) := by decide +kernel
theorem dX10_init_58 : decode cX10_init 58 = .ok (.newarray .int, 2) := by decide +kernel
theorem dX10_init_60 : decode cX10_init 60 = .ok (.putfield 33, 3) := by decide +kernel
theorem dX10_init_63 : decode cX10_init 63 = .ok (.return_, 1) := by decide +kernel
theorem dX10_learn_0 : decode cX10_learn 0 = .ok (.aload_n 0, 1) := by decide +kernel
theorem dX10_learn_1 : decode cX10_learn 1 = .ok (.getfield 17, 3) := by decide +kernel
theorem dX10_learn_4 : decode cX10_learn 4 = .ok (.iconst (-1), 1) := by decide +kernel
theorem dX10_learn_5 : decode cX10_learn 5 = .ok (.invokestatic 36, 3) := by decide +kernel
theorem dX10_learn_8 : decode cX10_learn 8 = .ok (.aload_n 0, 1) := by decide +kernel
theorem dX10_learn_9 : decode cX10_learn 9 = .ok (.getfield 21, 3) := by decide +kernel
theorem dX10_learn_12 : decode cX10_learn 12 = .ok (.sipush 10000, 3) := by decide +kernel
theorem dX10_learn_15 : decode cX10_learn 15 = .ok (.invokestatic 36, 3) := by decide +kernel
theorem dX10_learn_18 : decode cX10_learn 18 = .ok (.iconst 0, 1) := by decide +kernel
theorem dX10_learn_19 : decode cX10_learn 19 = .ok (.istore_n 2, 1) := by decide +kernel
theorem dX10_learn_20 : decode cX10_learn 20 = .ok (.iload_n 2, 1) := by decide +kernel
theorem dX10_learn_21 : decode cX10_learn 21 = .ok (.aload_n 1, 1) := by decide +kernel
theorem dX10_learn_22 : decode cX10_learn 22 = .ok (.getfield 42, 3) := by decide +kernel
theorem dX10_learn_25 : decode cX10_learn 25 = .ok (.if_icmp .ge 90, 3) := by decide +kernel
theorem dX10_learn_28 : decode cX10_learn 28 = .ok (.iload_n 2, 1) := by decide +kernel
theorem dX10_learn_29 : decode cX10_learn 29 = .ok (.bipush 100, 2) := by decide +kernel
theorem dX10_learn_31 : decode cX10_learn 31 = .ok (.if_icmp .ge 84, 3) := by decide +kernel
theorem dX10_learn_34 : decode cX10_learn 34 = .ok (.aload_n 1, 1) := by decide +kernel
theorem dX10_learn_35 : decode cX10_learn 35 = .ok (.getfield 45, 3) := by decide +kernel
theorem dX10_learn_38 : decode cX10_learn 38 = .ok (.iload_n 2, 1) := by decide +kernel
theorem dX10_learn_39 : decode cX10_learn 39 = .ok (.iaload, 1) := by decide +kernel
theorem dX10_learn_40 : decode cX10_learn 40 = .ok (.istore_n 3, 1) := by decide +kernel
theorem dX10_learn_41 : decode cX10_learn 41 = .ok (.aload_n 1, 1) := by decide +kernel
theorem dX10_learn_42 : decode cX10_learn 42 = .ok (.getfield 48, 3) := by decide +kernel
theorem dX10_learn_45 : decode cX10_learn 45 = .ok (.iload_n 2, 1) := by decide +kernel
theorem dX10_learn_46 : decode cX10_learn 46 = .ok (.iaload, 1) := by decide +kernel
theorem dX10_learn_47 : decode cX10_learn 47 = .ok (.istore 4, 2) := by decide +kernel
theorem dX10_learn_49 : decode cX10_learn 49 = .ok (.iload_n 3, 1) := by decide +kernel
theorem dX10_learn_50 : decode cX10_learn 50 = .ok (.iconst 0, 1) := by decide +kernel
theorem dX10_learn_51 : decode cX10_learn 51 = .ok (.sipush 199, 3) := by decide +kernel
theorem dX10_learn_54 : decode cX10_learn 54 = .ok (.invokestatic 51, 3) := by decide +kernel
theorem dX10_learn_57 : decode cX10_learn 57 = .ok (.ifCond .ne 6, 3) := by decide +kernel
theorem dX10_learn_60 : decode cX10_learn 60 = .ok (.goto 49, 3) := by decide +kernel
theorem dX10_learn_63 : decode cX10_learn 63 = .ok (.aload_n 1, 1) := by decide +kernel
theorem dX10_learn_64 : decode cX10_learn 64 = .ok (.getfield 55, 3) := by decide +kernel
theorem dX10_learn_67 : decode cX10_learn 67 = .ok (.iload_n 2, 1) := by decide +kernel
theorem dX10_learn_68 : decode cX10_learn 68 = .ok (.baload, 1) := by decide +kernel
theorem dX10_learn_69 : decode cX10_learn 69 = .ok (.ifCond .eq 23, 3) := by decide +kernel
theorem dX10_learn_72 : decode cX10_learn 72 = .ok (.aload_n 0, 1) := by decide +kernel
theorem dX10_learn_73 : decode cX10_learn 73 = .ok (.getfield 21, 3) := by decide +kernel
theorem dX10_learn_76 : decode cX10_learn 76 = .ok (.iload_n 3, 1) := by decide +kernel
theorem dX10_learn_77 : decode cX10_learn 77 = .ok (.aload_n 0, 1) := by decide +kernel
theorem dX10_learn_78 : decode cX10_learn 78 = .ok (.getfield 21, 3) := by decide +kernel
theorem dX10_learn_81 : decode cX10_learn 81 = .ok (.iload_n 3, 1) := by decide +kernel
theorem dX10_learn_82 : decode cX10_learn 82 = .ok (.iaload, 1) := by decide +kernel
theorem dX10_learn_83 : decode cX10_learn 83 = .ok (.iload 4, 2) := by decide +kernel
theorem dX10_learn_85 : decode cX10_learn 85 = .ok (.invokestatic 59, 3) := by decide +kernel
theorem dX10_learn_88 : decode cX10_learn 88 = .ok (.iastore, 1) := by decide +kernel
theorem dX10_learn_89 : decode cX10_learn 89 = .ok (.goto 20, 3) := by decide +kernel
theorem dX10_learn_92 : decode cX10_learn 92 = .ok (.aload_n 0, 1) := by decide +kernel
theorem dX10_learn_93 : decode cX10_learn 93 = .ok (.getfield 17, 3) := by decide +kernel
theorem dX10_learn_96 : decode cX10_learn 96 = .ok (.iload_n 3, 1) := by decide +kernel
theorem dX10_learn_97 : decode cX10_learn 97 = .ok (.aload_n 0, 1) := by decide +kernel
theorem dX10_learn_98 : decode cX10_learn 98 = .ok (.getfield 17, 3) := by decide +kernel
theorem dX10_learn_101 : decode cX10_learn 101 = .ok (.iload_n 3, 1) := by decide +kernel
theorem dX10_learn_102 : decode cX10_learn 102 = .ok (.iaload, 1) := by decide +kernel
theorem dX10_learn_103 : decode cX10_learn 103 = .ok (.iload 4, 2) := by decide +kernel
theorem dX10_learn_105 : decode cX10_learn 105 = .ok (.invokestatic 65, 3) := by decide +kernel
theorem dX10_learn_108 : decode cX10_learn 108 = .ok (.iastore, 1) := by decide +kernel
theorem dX10_learn_109 : decode cX10_learn 109 = .ok (.iinc 2 1, 3) := by decide +kernel
theorem dX10_learn_112 : decode cX10_learn 112 = .ok (.goto (-92), 3) := by decide +kernel
theorem dX10_learn_115 : decode cX10_learn 115 = .ok (.return_, 1) := by decide +kernel
theorem dX10_mayBeTrue_0 : decode cX10_mayBeTrue 0 = .ok (.iload_n 2, 1) := by decide +kernel
theorem dX10_mayBeTrue_1 : decode cX10_mayBeTrue 1 = .ok (.iconst 0, 1) := by decide +kernel
theorem dX10_mayBeTrue_2 : decode cX10_mayBeTrue 2 = .ok (.sipush 199, 3) := by decide +kernel
theorem dX10_mayBeTrue_5 : decode cX10_mayBeTrue 5 = .ok (.invokestatic 51, 3) := by decide +kernel
theorem dX10_mayBeTrue_8 : decode cX10_mayBeTrue 8 = .ok (.ifCond .eq 27, 3) := by decide +kernel
theorem dX10_mayBeTrue_11 : decode cX10_mayBeTrue 11 = .ok (.aload_n 1, 1) := by decide +kernel
theorem dX10_mayBeTrue_12 : decode cX10_mayBeTrue 12 = .ok (.getfield 68, 3) := by decide +kernel
theorem dX10_mayBeTrue_15 : decode cX10_mayBeTrue 15 = .ok (.iload_n 2, 1) := by decide +kernel
theorem dX10_mayBeTrue_16 : decode cX10_mayBeTrue 16 = .ok (.iaload, 1) := by decide +kernel
theorem dX10_mayBeTrue_17 : decode cX10_mayBeTrue 17 = .ok (.aload_n 0, 1) := by decide +kernel
theorem dX10_mayBeTrue_18 : decode cX10_mayBeTrue 18 = .ok (.getfield 17, 3) := by decide +kernel
theorem dX10_mayBeTrue_21 : decode cX10_mayBeTrue 21 = .ok (.aload_n 1, 1) := by decide +kernel
theorem dX10_mayBeTrue_22 : decode cX10_mayBeTrue 22 = .ok (.getfield 71, 3) := by decide +kernel
theorem dX10_mayBeTrue_25 : decode cX10_mayBeTrue 25 = .ok (.iload_n 2, 1) := by decide +kernel
theorem dX10_mayBeTrue_26 : decode cX10_mayBeTrue 26 = .ok (.iaload, 1) := by decide +kernel
theorem dX10_mayBeTrue_27 : decode cX10_mayBeTrue 27 = .ok (.iaload, 1) := by decide +kernel
theorem dX10_mayBeTrue_28 : decode cX10_mayBeTrue 28 = .ok (.if_icmp .le 7, 3) := by decide +kernel
theorem dX10_mayBeTrue_31 : decode cX10_mayBeTrue 31 = .ok (.iconst 1, 1) := by decide +kernel
theorem dX10_mayBeTrue_32 : decode cX10_mayBeTrue 32 = .ok (.goto 4, 3) := by decide +kernel
theorem dX10_mayBeTrue_35 : decode cX10_mayBeTrue 35 = .ok (.iconst 0, 1) := by decide +kernel
theorem dX10_mayBeTrue_36 : decode cX10_mayBeTrue 36 = .ok (.ireturn, 1) := by decide +kernel
theorem dX10_serves_0 : decode cX10_serves 0 = .ok (.aload_n 0, 1) := by decide +kernel
theorem dX10_serves_1 : decode cX10_serves 1 = .ok (.aload_n 1, 1) := by decide +kernel
theorem dX10_serves_2 : decode cX10_serves 2 = .ok (.iload_n 2, 1) := by decide +kernel
theorem dX10_serves_3 : decode cX10_serves 3 = .ok (.invokevirtual 74, 3) := by decide +kernel
theorem dX10_serves_6 : decode cX10_serves 6 = .ok (.ifCond .ne 5, 3) := by decide +kernel
theorem dX10_serves_9 : decode cX10_serves 9 = .ok (.iconst 0, 1) := by decide +kernel
theorem dX10_serves_10 : decode cX10_serves 10 = .ok (.ireturn, 1) := by decide +kernel
theorem dX10_serves_11 : decode cX10_serves 11 = .ok (.aload_n 0, 1) := by decide +kernel
theorem dX10_serves_12 : decode cX10_serves 12 = .ok (.getfield 21, 3) := by decide +kernel
theorem dX10_serves_15 : decode cX10_serves 15 = .ok (.aload_n 1, 1) := by decide +kernel
theorem dX10_serves_16 : decode cX10_serves 16 = .ok (.getfield 71, 3) := by decide +kernel
theorem dX10_serves_19 : decode cX10_serves 19 = .ok (.iload_n 2, 1) := by decide +kernel
theorem dX10_serves_20 : decode cX10_serves 20 = .ok (.iaload, 1) := by decide +kernel
theorem dX10_serves_21 : decode cX10_serves 21 = .ok (.iaload, 1) := by decide +kernel
theorem dX10_serves_22 : decode cX10_serves 22 = .ok (.istore_n 3, 1) := by decide +kernel
theorem dX10_serves_23 : decode cX10_serves 23 = .ok (.iload_n 3, 1) := by decide +kernel
theorem dX10_serves_24 : decode cX10_serves 24 = .ok (.sipush 10000, 3) := by decide +kernel
theorem dX10_serves_27 : decode cX10_serves 27 = .ok (.if_icmp .eq 17, 3) := by decide +kernel
theorem dX10_serves_30 : decode cX10_serves 30 = .ok (.aload_n 1, 1) := by decide +kernel
theorem dX10_serves_31 : decode cX10_serves 31 = .ok (.getfield 68, 3) := by decide +kernel
theorem dX10_serves_34 : decode cX10_serves 34 = .ok (.iload_n 2, 1) := by decide +kernel
theorem dX10_serves_35 : decode cX10_serves 35 = .ok (.iaload, 1) := by decide +kernel
theorem dX10_serves_36 : decode cX10_serves 36 = .ok (.iload_n 3, 1) := by decide +kernel
theorem dX10_serves_37 : decode cX10_serves 37 = .ok (.if_icmp .gt 7, 3) := by decide +kernel
theorem dX10_serves_40 : decode cX10_serves 40 = .ok (.iconst 1, 1) := by decide +kernel
theorem dX10_serves_41 : decode cX10_serves 41 = .ok (.goto 4, 3) := by decide +kernel
theorem dX10_serves_44 : decode cX10_serves 44 = .ok (.iconst 0, 1) := by decide +kernel
theorem dX10_serves_45 : decode cX10_serves 45 = .ok (.ireturn, 1) := by decide +kernel
theorem dX10_leastFalse_0 : decode cX10_leastFalse 0 = .ok (.aload_n 0, 1) := by decide +kernel
theorem dX10_leastFalse_1 : decode cX10_leastFalse 1 = .ok (.getfield 30, 3) := by decide +kernel
theorem dX10_leastFalse_4 : decode cX10_leastFalse 4 = .ok (.iconst 0, 1) := by decide +kernel
theorem dX10_leastFalse_5 : decode cX10_leastFalse 5 = .ok (.invokestatic 36, 3) := by decide +kernel
theorem dX10_leastFalse_8 : decode cX10_leastFalse 8 = .ok (.iconst 0, 1) := by decide +kernel
theorem dX10_leastFalse_9 : decode cX10_leastFalse 9 = .ok (.istore_n 2, 1) := by decide +kernel
theorem dX10_leastFalse_10 : decode cX10_leastFalse 10 = .ok (.iconst 0, 1) := by decide +kernel
theorem dX10_leastFalse_11 : decode cX10_leastFalse 11 = .ok (.istore_n 3, 1) := by decide +kernel
theorem dX10_leastFalse_12 : decode cX10_leastFalse 12 = .ok (.iload_n 3, 1) := by decide +kernel
theorem dX10_leastFalse_13 : decode cX10_leastFalse 13 = .ok (.aload_n 1, 1) := by decide +kernel
theorem dX10_leastFalse_14 : decode cX10_leastFalse 14 = .ok (.getfield 78, 3) := by decide +kernel
theorem dX10_leastFalse_17 : decode cX10_leastFalse 17 = .ok (.if_icmp .ge 54, 3) := by decide +kernel
theorem dX10_leastFalse_20 : decode cX10_leastFalse 20 = .ok (.aload_n 1, 1) := by decide +kernel
theorem dX10_leastFalse_21 : decode cX10_leastFalse 21 = .ok (.getfield 81, 3) := by decide +kernel
theorem dX10_leastFalse_24 : decode cX10_leastFalse 24 = .ok (.iload_n 3, 1) := by decide +kernel
theorem dX10_leastFalse_25 : decode cX10_leastFalse 25 = .ok (.iaload, 1) := by decide +kernel
theorem dX10_leastFalse_26 : decode cX10_leastFalse 26 = .ok (.istore 4, 2) := by decide +kernel
theorem dX10_leastFalse_28 : decode cX10_leastFalse 28 = .ok (.aload_n 0, 1) := by decide +kernel
theorem dX10_leastFalse_29 : decode cX10_leastFalse 29 = .ok (.aload_n 1, 1) := by decide +kernel
theorem dX10_leastFalse_30 : decode cX10_leastFalse 30 = .ok (.iload_n 3, 1) := by decide +kernel
theorem dX10_leastFalse_31 : decode cX10_leastFalse 31 = .ok (.invokevirtual 74, 3) := by decide +kernel
theorem dX10_leastFalse_34 : decode cX10_leastFalse 34 = .ok (.ifCond .eq 28, 3) := by decide +kernel
theorem dX10_leastFalse_37 : decode cX10_leastFalse 37 = .ok (.aload_n 0, 1) := by decide +kernel
theorem dX10_leastFalse_38 : decode cX10_leastFalse 38 = .ok (.getfield 30, 3) := by decide +kernel
theorem dX10_leastFalse_41 : decode cX10_leastFalse 41 = .ok (.iload 4, 2) := by decide +kernel
theorem dX10_leastFalse_43 : decode cX10_leastFalse 43 = .ok (.iaload, 1) := by decide +kernel
theorem dX10_leastFalse_44 : decode cX10_leastFalse 44 = .ok (.iconst 2, 1) := by decide +kernel
theorem dX10_leastFalse_45 : decode cX10_leastFalse 45 = .ok (.if_icmp .ge 17, 3) := by decide +kernel
theorem dX10_leastFalse_48 : decode cX10_leastFalse 48 = .ok (.aload_n 0, 1) := by decide +kernel
theorem dX10_leastFalse_49 : decode cX10_leastFalse 49 = .ok (.getfield 30, 3) := by decide +kernel
theorem dX10_leastFalse_52 : decode cX10_leastFalse 52 = .ok (.iload 4, 2) := by decide +kernel
theorem dX10_leastFalse_54 : decode cX10_leastFalse 54 = .ok (.dup2, 1) := by decide +kernel
theorem dX10_leastFalse_55 : decode cX10_leastFalse 55 = .ok (.iaload, 1) := by decide +kernel
theorem dX10_leastFalse_56 : decode cX10_leastFalse 56 = .ok (.iconst 1, 1) := by decide +kernel
theorem dX10_leastFalse_57 : decode cX10_leastFalse 57 = .ok (.iadd, 1) := by decide +kernel
theorem dX10_leastFalse_58 : decode cX10_leastFalse 58 = .ok (.iastore, 1) := by decide +kernel
theorem dX10_leastFalse_59 : decode cX10_leastFalse 59 = .ok (.goto 6, 3) := by decide +kernel
theorem dX10_leastFalse_62 : decode cX10_leastFalse 62 = .ok (.iinc 2 1, 3) := by decide +kernel
theorem dX10_leastFalse_65 : decode cX10_leastFalse 65 = .ok (.iinc 3 1, 3) := by decide +kernel
theorem dX10_leastFalse_68 : decode cX10_leastFalse 68 = .ok (.goto (-56), 3) := by decide +kernel
theorem dX10_leastFalse_71 : decode cX10_leastFalse 71 = .ok (.iload_n 2, 1) := by decide +kernel
theorem dX10_leastFalse_72 : decode cX10_leastFalse 72 = .ok (.ireturn, 1) := by decide +kernel
theorem dX10_canBe_0 : decode cX10_canBe 0 = .ok (.aload_n 0, 1) := by decide +kernel
theorem dX10_canBe_1 : decode cX10_canBe 1 = .ok (.getfield 24, 3) := by decide +kernel
theorem dX10_canBe_4 : decode cX10_canBe 4 = .ok (.iconst (-1), 1) := by decide +kernel
theorem dX10_canBe_5 : decode cX10_canBe 5 = .ok (.invokestatic 36, 3) := by decide +kernel
theorem dX10_canBe_8 : decode cX10_canBe 8 = .ok (.aload_n 0, 1) := by decide +kernel
theorem dX10_canBe_9 : decode cX10_canBe 9 = .ok (.getfield 30, 3) := by decide +kernel
theorem dX10_canBe_12 : decode cX10_canBe 12 = .ok (.iconst 0, 1) := by decide +kernel
theorem dX10_canBe_13 : decode cX10_canBe 13 = .ok (.invokestatic 36, 3) := by decide +kernel
theorem dX10_canBe_16 : decode cX10_canBe 16 = .ok (.aload_n 0, 1) := by decide +kernel
theorem dX10_canBe_17 : decode cX10_canBe 17 = .ok (.iload_n 2, 1) := by decide +kernel
theorem dX10_canBe_18 : decode cX10_canBe 18 = .ok (.putfield 9, 3) := by decide +kernel
theorem dX10_canBe_21 : decode cX10_canBe 21 = .ok (.iconst (-1), 1) := by decide +kernel
theorem dX10_canBe_22 : decode cX10_canBe 22 = .ok (.istore 4, 2) := by decide +kernel
theorem dX10_canBe_24 : decode cX10_canBe 24 = .ok (.iload_n 3, 1) := by decide +kernel
theorem dX10_canBe_25 : decode cX10_canBe 25 = .ok (.iconst 0, 1) := by decide +kernel
theorem dX10_canBe_26 : decode cX10_canBe 26 = .ok (.sipush 199, 3) := by decide +kernel
theorem dX10_canBe_29 : decode cX10_canBe 29 = .ok (.invokestatic 51, 3) := by decide +kernel
theorem dX10_canBe_32 : decode cX10_canBe 32 = .ok (.ifCond .eq 36, 3) := by decide +kernel
theorem dX10_canBe_35 : decode cX10_canBe 35 = .ok (.aload_n 0, 1) := by decide +kernel
theorem dX10_canBe_36 : decode cX10_canBe 36 = .ok (.getfield 30, 3) := by decide +kernel
theorem dX10_canBe_39 : decode cX10_canBe 39 = .ok (.aload_n 1, 1) := by decide +kernel
theorem dX10_canBe_40 : decode cX10_canBe 40 = .ok (.getfield 81, 3) := by decide +kernel
theorem dX10_canBe_43 : decode cX10_canBe 43 = .ok (.iload_n 3, 1) := by decide +kernel
theorem dX10_canBe_44 : decode cX10_canBe 44 = .ok (.iaload, 1) := by decide +kernel
theorem dX10_canBe_45 : decode cX10_canBe 45 = .ok (.iconst 1, 1) := by decide +kernel
theorem dX10_canBe_46 : decode cX10_canBe 46 = .ok (.iastore, 1) := by decide +kernel
theorem dX10_canBe_47 : decode cX10_canBe 47 = .ok (.aload_n 0, 1) := by decide +kernel
theorem dX10_canBe_48 : decode cX10_canBe 48 = .ok (.aload_n 1, 1) := by decide +kernel
theorem dX10_canBe_49 : decode cX10_canBe 49 = .ok (.iload_n 3, 1) := by decide +kernel
theorem dX10_canBe_50 : decode cX10_canBe 50 = .ok (.invokevirtual 84, 3) := by decide +kernel
theorem dX10_canBe_53 : decode cX10_canBe 53 = .ok (.ifCond .eq 12, 3) := by decide +kernel
theorem dX10_canBe_56 : decode cX10_canBe 56 = .ok (.aload_n 1, 1) := by decide +kernel
theorem dX10_canBe_57 : decode cX10_canBe 57 = .ok (.getfield 71, 3) := by decide +kernel
theorem dX10_canBe_60 : decode cX10_canBe 60 = .ok (.iload_n 3, 1) := by decide +kernel
theorem dX10_canBe_61 : decode cX10_canBe 61 = .ok (.iaload, 1) := by decide +kernel
theorem dX10_canBe_62 : decode cX10_canBe 62 = .ok (.goto 4, 3) := by decide +kernel
theorem dX10_canBe_65 : decode cX10_canBe 65 = .ok (.iconst (-1), 1) := by decide +kernel
theorem dX10_canBe_66 : decode cX10_canBe 66 = .ok (.istore 4, 2) := by decide +kernel
theorem dX10_canBe_68 : decode cX10_canBe 68 = .ok (.iconst 0, 1) := by decide +kernel
theorem dX10_canBe_69 : decode cX10_canBe 69 = .ok (.istore 5, 2) := by decide +kernel
theorem dX10_canBe_71 : decode cX10_canBe 71 = .ok (.iload 5, 2) := by decide +kernel
theorem dX10_canBe_73 : decode cX10_canBe 73 = .ok (.sipush 200, 3) := by decide +kernel
theorem dX10_canBe_76 : decode cX10_canBe 76 = .ok (.if_icmp .ge 41, 3) := by decide +kernel
theorem dX10_canBe_79 : decode cX10_canBe 79 = .ok (.aload_n 0, 1) := by decide +kernel
theorem dX10_canBe_80 : decode cX10_canBe 80 = .ok (.getfield 21, 3) := by decide +kernel
theorem dX10_canBe_83 : decode cX10_canBe 83 = .ok (.iload 5, 2) := by decide +kernel
theorem dX10_canBe_85 : decode cX10_canBe 85 = .ok (.iaload, 1) := by decide +kernel
theorem dX10_canBe_86 : decode cX10_canBe 86 = .ok (.sipush 10000, 3) := by decide +kernel
theorem dX10_canBe_89 : decode cX10_canBe 89 = .ok (.if_icmp .eq 22, 3) := by decide +kernel
theorem dX10_canBe_92 : decode cX10_canBe 92 = .ok (.iload 5, 2) := by decide +kernel
theorem dX10_canBe_94 : decode cX10_canBe 94 = .ok (.iload 4, 2) := by decide +kernel
theorem dX10_canBe_96 : decode cX10_canBe 96 = .ok (.if_icmp .eq 15, 3) := by decide +kernel
theorem dX10_canBe_99 : decode cX10_canBe 99 = .ok (.aload_n 0, 1) := by decide +kernel
theorem dX10_canBe_100 : decode cX10_canBe 100 = .ok (.aload_n 1, 1) := by decide +kernel
theorem dX10_canBe_101 : decode cX10_canBe 101 = .ok (.iload 5, 2) := by decide +kernel
theorem dX10_canBe_103 : decode cX10_canBe 103 = .ok (.invokevirtual 87, 3) := by decide +kernel
theorem dX10_canBe_106 : decode cX10_canBe 106 = .ok (.ifCond .ne 5, 3) := by decide +kernel
theorem dX10_canBe_109 : decode cX10_canBe 109 = .ok (.iconst 0, 1) := by decide +kernel
theorem dX10_canBe_110 : decode cX10_canBe 110 = .ok (.ireturn, 1) := by decide +kernel
theorem dX10_canBe_111 : decode cX10_canBe 111 = .ok (.iinc 5 1, 3) := by decide +kernel
theorem dX10_canBe_114 : decode cX10_canBe 114 = .ok (.goto (-43), 3) := by decide +kernel
theorem dX10_canBe_117 : decode cX10_canBe 117 = .ok (.iconst 1, 1) := by decide +kernel
theorem dX10_canBe_118 : decode cX10_canBe 118 = .ok (.ireturn, 1) := by decide +kernel
theorem dX10_choose_0 : decode cX10_choose 0 = .ok (.aload_n 0, 1) := by decide +kernel
theorem dX10_choose_1 : decode cX10_choose 1 = .ok (.getfield 33, 3) := by decide +kernel
theorem dX10_choose_4 : decode cX10_choose 4 = .ok (.iconst (-1), 1) := by decide +kernel
theorem dX10_choose_5 : decode cX10_choose 5 = .ok (.invokestatic 36, 3) := by decide +kernel
theorem dX10_choose_8 : decode cX10_choose 8 = .ok (.aload_n 0, 1) := by decide +kernel
theorem dX10_choose_9 : decode cX10_choose 9 = .ok (.getfield 27, 3) := by decide +kernel
theorem dX10_choose_12 : decode cX10_choose 12 = .ok (.iconst 0, 1) := by decide +kernel
theorem dX10_choose_13 : decode cX10_choose 13 = .ok (.iload_n 2, 1) := by decide +kernel
theorem dX10_choose_14 : decode cX10_choose 14 = .ok (.iastore, 1) := by decide +kernel
theorem dX10_choose_15 : decode cX10_choose 15 = .ok (.iconst 1, 1) := by decide +kernel
theorem dX10_choose_16 : decode cX10_choose 16 = .ok (.istore_n 3, 1) := by decide +kernel
theorem dX10_choose_17 : decode cX10_choose 17 = .ok (.iconst 0, 1) := by decide +kernel
theorem dX10_choose_18 : decode cX10_choose 18 = .ok (.istore 4, 2) := by decide +kernel
theorem dX10_choose_20 : decode cX10_choose 20 = .ok (.iload 4, 2) := by decide +kernel
theorem dX10_choose_22 : decode cX10_choose 22 = .ok (.iload_n 3, 1) := by decide +kernel
theorem dX10_choose_23 : decode cX10_choose 23 = .ok (.if_icmp .ge 141, 3) := by decide +kernel
theorem dX10_choose_26 : decode cX10_choose 26 = .ok (.iload 4, 2) := by decide +kernel
theorem dX10_choose_28 : decode cX10_choose 28 = .ok (.aload_n 0, 1) := by decide +kernel
theorem dX10_choose_29 : decode cX10_choose 29 = .ok (.getfield 27, 3) := by decide +kernel
theorem dX10_choose_32 : decode cX10_choose 32 = .ok (.arraylength, 1) := by decide +kernel
theorem dX10_choose_33 : decode cX10_choose 33 = .ok (.if_icmp .ge 131, 3) := by decide +kernel
theorem dX10_choose_36 : decode cX10_choose 36 = .ok (.aload_n 1, 1) := by decide +kernel
theorem dX10_choose_37 : decode cX10_choose 37 = .ok (.getfield 90, 3) := by decide +kernel
theorem dX10_choose_40 : decode cX10_choose 40 = .ok (.aload_n 0, 1) := by decide +kernel
theorem dX10_choose_41 : decode cX10_choose 41 = .ok (.getfield 27, 3) := by decide +kernel
theorem dX10_choose_44 : decode cX10_choose 44 = .ok (.iload 4, 2) := by decide +kernel
theorem dX10_choose_46 : decode cX10_choose 46 = .ok (.iaload, 1) := by decide +kernel
theorem dX10_choose_47 : decode cX10_choose 47 = .ok (.iaload, 1) := by decide +kernel
theorem dX10_choose_48 : decode cX10_choose 48 = .ok (.istore 5, 2) := by decide +kernel
theorem dX10_choose_50 : decode cX10_choose 50 = .ok (.iconst 0, 1) := by decide +kernel
theorem dX10_choose_51 : decode cX10_choose 51 = .ok (.istore 6, 2) := by decide +kernel
theorem dX10_choose_53 : decode cX10_choose 53 = .ok (.iload 6, 2) := by decide +kernel
theorem dX10_choose_55 : decode cX10_choose 55 = .ok (.sipush 200, 3) := by decide +kernel
theorem dX10_choose_58 : decode cX10_choose 58 = .ok (.if_icmp .ge 100, 3) := by decide +kernel
theorem dX10_choose_61 : decode cX10_choose 61 = .ok (.iload 5, 2) := by decide +kernel
theorem dX10_choose_63 : decode cX10_choose 63 = .ok (.ifCond .lt 95, 3) := by decide +kernel
theorem dX10_choose_66 : decode cX10_choose 66 = .ok (.aload_n 1, 1) := by decide +kernel
theorem dX10_choose_67 : decode cX10_choose 67 = .ok (.getfield 81, 3) := by decide +kernel
theorem dX10_choose_70 : decode cX10_choose 70 = .ok (.iload 5, 2) := by decide +kernel
theorem dX10_choose_72 : decode cX10_choose 72 = .ok (.iaload, 1) := by decide +kernel
theorem dX10_choose_73 : decode cX10_choose 73 = .ok (.istore 7, 2) := by decide +kernel
theorem dX10_choose_75 : decode cX10_choose 75 = .ok (.iload 5, 2) := by decide +kernel
theorem dX10_choose_77 : decode cX10_choose 77 = .ok (.aload_n 0, 1) := by decide +kernel
theorem dX10_choose_78 : decode cX10_choose 78 = .ok (.getfield 9, 3) := by decide +kernel
theorem dX10_choose_81 : decode cX10_choose 81 = .ok (.if_icmp .eq 62, 3) := by decide +kernel
theorem dX10_choose_84 : decode cX10_choose 84 = .ok (.aload_n 0, 1) := by decide +kernel
theorem dX10_choose_85 : decode cX10_choose 85 = .ok (.getfield 33, 3) := by decide +kernel
theorem dX10_choose_88 : decode cX10_choose 88 = .ok (.iload 7, 2) := by decide +kernel
theorem dX10_choose_90 : decode cX10_choose 90 = .ok (.iaload, 1) := by decide +kernel
theorem dX10_choose_91 : decode cX10_choose 91 = .ok (.iconst (-1), 1) := by decide +kernel
theorem dX10_choose_92 : decode cX10_choose 92 = .ok (.if_icmp .ne 51, 3) := by decide +kernel
theorem dX10_choose_95 : decode cX10_choose 95 = .ok (.aload_n 0, 1) := by decide +kernel
theorem dX10_choose_96 : decode cX10_choose 96 = .ok (.aload_n 1, 1) := by decide +kernel
theorem dX10_choose_97 : decode cX10_choose 97 = .ok (.iload 5, 2) := by decide +kernel
theorem dX10_choose_99 : decode cX10_choose 99 = .ok (.invokevirtual 84, 3) := by decide +kernel
theorem dX10_choose_102 : decode cX10_choose 102 = .ok (.ifCond .eq 41, 3) := by decide +kernel
theorem dX10_choose_105 : decode cX10_choose 105 = .ok (.aload_n 0, 1) := by decide +kernel
theorem dX10_choose_106 : decode cX10_choose 106 = .ok (.getfield 33, 3) := by decide +kernel
theorem dX10_choose_109 : decode cX10_choose 109 = .ok (.iload 7, 2) := by decide +kernel
theorem dX10_choose_111 : decode cX10_choose 111 = .ok (.iload 5, 2) := by decide +kernel
theorem dX10_choose_113 : decode cX10_choose 113 = .ok (.iastore, 1) := by decide +kernel
theorem dX10_choose_114 : decode cX10_choose 114 = .ok (.aload_n 0, 1) := by decide +kernel
theorem dX10_choose_115 : decode cX10_choose 115 = .ok (.getfield 30, 3) := by decide +kernel
theorem dX10_choose_118 : decode cX10_choose 118 = .ok (.iload 7, 2) := by decide +kernel
theorem dX10_choose_120 : decode cX10_choose 120 = .ok (.iaload, 1) := by decide +kernel
theorem dX10_choose_121 : decode cX10_choose 121 = .ok (.iconst 2, 1) := by decide +kernel
theorem dX10_choose_122 : decode cX10_choose 122 = .ok (.if_icmp .ge 12, 3) := by decide +kernel
theorem dX10_choose_125 : decode cX10_choose 125 = .ok (.aload_n 0, 1) := by decide +kernel
theorem dX10_choose_126 : decode cX10_choose 126 = .ok (.aload_n 1, 1) := by decide +kernel
theorem dX10_choose_127 : decode cX10_choose 127 = .ok (.iload 7, 2) := by decide +kernel
theorem dX10_choose_129 : decode cX10_choose 129 = .ok (.invokevirtual 93, 3) := by decide +kernel
theorem dX10_choose_132 : decode cX10_choose 132 = .ok (.iconst 1, 1) := by decide +kernel
theorem dX10_choose_133 : decode cX10_choose 133 = .ok (.ireturn, 1) := by decide +kernel
theorem dX10_choose_134 : decode cX10_choose 134 = .ok (.aload_n 0, 1) := by decide +kernel
theorem dX10_choose_135 : decode cX10_choose 135 = .ok (.aload_n 1, 1) := by decide +kernel
theorem dX10_choose_136 : decode cX10_choose 136 = .ok (.iload 7, 2) := by decide +kernel
theorem dX10_choose_138 : decode cX10_choose 138 = .ok (.iload_n 3, 1) := by decide +kernel
theorem dX10_choose_139 : decode cX10_choose 139 = .ok (.invokevirtual 97, 3) := by decide +kernel
theorem dX10_choose_142 : decode cX10_choose 142 = .ok (.istore_n 3, 1) := by decide +kernel
theorem dX10_choose_143 : decode cX10_choose 143 = .ok (.aload_n 1, 1) := by decide +kernel
theorem dX10_choose_144 : decode cX10_choose 144 = .ok (.getfield 101, 3) := by decide +kernel
theorem dX10_choose_147 : decode cX10_choose 147 = .ok (.iload 5, 2) := by decide +kernel
theorem dX10_choose_149 : decode cX10_choose 149 = .ok (.iaload, 1) := by decide +kernel
theorem dX10_choose_150 : decode cX10_choose 150 = .ok (.istore 5, 2) := by decide +kernel
theorem dX10_choose_152 : decode cX10_choose 152 = .ok (.iinc 6 1, 3) := by decide +kernel
theorem dX10_choose_155 : decode cX10_choose 155 = .ok (.goto (-102), 3) := by decide +kernel
theorem dX10_choose_158 : decode cX10_choose 158 = .ok (.iinc 4 1, 3) := by decide +kernel
theorem dX10_choose_161 : decode cX10_choose 161 = .ok (.goto (-141), 3) := by decide +kernel
theorem dX10_choose_164 : decode cX10_choose 164 = .ok (.iconst 0, 1) := by decide +kernel
theorem dX10_choose_165 : decode cX10_choose 165 = .ok (.ireturn, 1) := by decide +kernel
theorem dX10_queueHolders_0 : decode cX10_queueHolders 0 = .ok (.iload_n 3, 1) := by decide +kernel
theorem dX10_queueHolders_1 : decode cX10_queueHolders 1 = .ok (.istore 4, 2) := by decide +kernel
theorem dX10_queueHolders_3 : decode cX10_queueHolders 3 = .ok (.aload_n 1, 1) := by decide +kernel
theorem dX10_queueHolders_4 : decode cX10_queueHolders 4 = .ok (.getfield 104, 3) := by decide +kernel
theorem dX10_queueHolders_7 : decode cX10_queueHolders 7 = .ok (.iload_n 2, 1) := by decide +kernel
theorem dX10_queueHolders_8 : decode cX10_queueHolders 8 = .ok (.iaload, 1) := by decide +kernel
theorem dX10_queueHolders_9 : decode cX10_queueHolders 9 = .ok (.istore 5, 2) := by decide +kernel
theorem dX10_queueHolders_11 : decode cX10_queueHolders 11 = .ok (.iconst 0, 1) := by decide +kernel
theorem dX10_queueHolders_12 : decode cX10_queueHolders 12 = .ok (.istore 6, 2) := by decide +kernel
theorem dX10_queueHolders_14 : decode cX10_queueHolders 14 = .ok (.iload 6, 2) := by decide +kernel
theorem dX10_queueHolders_16 : decode cX10_queueHolders 16 = .ok (.sipush 200, 3) := by decide +kernel
theorem dX10_queueHolders_19 : decode cX10_queueHolders 19 = .ok (.if_icmp .ge 66, 3) := by decide +kernel
theorem dX10_queueHolders_22 : decode cX10_queueHolders 22 = .ok (.iload 5, 2) := by decide +kernel
theorem dX10_queueHolders_24 : decode cX10_queueHolders 24 = .ok (.ifCond .lt 61, 3) := by decide +kernel
theorem dX10_queueHolders_27 : decode cX10_queueHolders 27 = .ok (.aload_n 1, 1) := by decide +kernel
theorem dX10_queueHolders_28 : decode cX10_queueHolders 28 = .ok (.getfield 71, 3) := by decide +kernel
theorem dX10_queueHolders_31 : decode cX10_queueHolders 31 = .ok (.iload 5, 2) := by decide +kernel
theorem dX10_queueHolders_33 : decode cX10_queueHolders 33 = .ok (.iaload, 1) := by decide +kernel
theorem dX10_queueHolders_34 : decode cX10_queueHolders 34 = .ok (.istore 7, 2) := by decide +kernel
theorem dX10_queueHolders_36 : decode cX10_queueHolders 36 = .ok (.aload_n 0, 1) := by decide +kernel
theorem dX10_queueHolders_37 : decode cX10_queueHolders 37 = .ok (.getfield 24, 3) := by decide +kernel
theorem dX10_queueHolders_40 : decode cX10_queueHolders 40 = .ok (.iload 7, 2) := by decide +kernel
theorem dX10_queueHolders_42 : decode cX10_queueHolders 42 = .ok (.iaload, 1) := by decide +kernel
theorem dX10_queueHolders_43 : decode cX10_queueHolders 43 = .ok (.iload 5, 2) := by decide +kernel
theorem dX10_queueHolders_45 : decode cX10_queueHolders 45 = .ok (.if_icmp .ne 25, 3) := by decide +kernel
theorem dX10_queueHolders_48 : decode cX10_queueHolders 48 = .ok (.iload 4, 2) := by decide +kernel
theorem dX10_queueHolders_50 : decode cX10_queueHolders 50 = .ok (.aload_n 0, 1) := by decide +kernel
theorem dX10_queueHolders_51 : decode cX10_queueHolders 51 = .ok (.getfield 27, 3) := by decide +kernel
theorem dX10_queueHolders_54 : decode cX10_queueHolders 54 = .ok (.arraylength, 1) := by decide +kernel
theorem dX10_queueHolders_55 : decode cX10_queueHolders 55 = .ok (.if_icmp .ge 15, 3) := by decide +kernel
theorem dX10_queueHolders_58 : decode cX10_queueHolders 58 = .ok (.aload_n 0, 1) := by decide +kernel
theorem dX10_queueHolders_59 : decode cX10_queueHolders 59 = .ok (.getfield 27, 3) := by decide +kernel
theorem dX10_queueHolders_62 : decode cX10_queueHolders 62 = .ok (.iload 4, 2) := by decide +kernel
theorem dX10_queueHolders_64 : decode cX10_queueHolders 64 = .ok (.iload 7, 2) := by decide +kernel
theorem dX10_queueHolders_66 : decode cX10_queueHolders 66 = .ok (.iastore, 1) := by decide +kernel
theorem dX10_queueHolders_67 : decode cX10_queueHolders 67 = .ok (.iinc 4 1, 3) := by decide +kernel
theorem dX10_queueHolders_70 : decode cX10_queueHolders 70 = .ok (.aload_n 1, 1) := by decide +kernel
theorem dX10_queueHolders_71 : decode cX10_queueHolders 71 = .ok (.getfield 107, 3) := by decide +kernel
theorem dX10_queueHolders_74 : decode cX10_queueHolders 74 = .ok (.iload 5, 2) := by decide +kernel
theorem dX10_queueHolders_76 : decode cX10_queueHolders 76 = .ok (.iaload, 1) := by decide +kernel
theorem dX10_queueHolders_77 : decode cX10_queueHolders 77 = .ok (.istore 5, 2) := by decide +kernel
theorem dX10_queueHolders_79 : decode cX10_queueHolders 79 = .ok (.iinc 6 1, 3) := by decide +kernel
theorem dX10_queueHolders_82 : decode cX10_queueHolders 82 = .ok (.goto (-68), 3) := by decide +kernel
theorem dX10_queueHolders_85 : decode cX10_queueHolders 85 = .ok (.iload 4, 2) := by decide +kernel
theorem dX10_queueHolders_87 : decode cX10_queueHolders 87 = .ok (.ireturn, 1) := by decide +kernel
theorem dX10_moveChoices_0 : decode cX10_moveChoices 0 = .ok (.aload_n 0, 1) := by decide +kernel
theorem dX10_moveChoices_1 : decode cX10_moveChoices 1 = .ok (.getfield 30, 3) := by decide +kernel
theorem dX10_moveChoices_4 : decode cX10_moveChoices 4 = .ok (.iload_n 2, 1) := by decide +kernel
theorem dX10_moveChoices_5 : decode cX10_moveChoices 5 = .ok (.dup2, 1) := by decide +kernel
theorem dX10_moveChoices_6 : decode cX10_moveChoices 6 = .ok (.iaload, 1) := by decide +kernel
theorem dX10_moveChoices_7 : decode cX10_moveChoices 7 = .ok (.iconst 1, 1) := by decide +kernel
theorem dX10_moveChoices_8 : decode cX10_moveChoices 8 = .ok (.iadd, 1) := by decide +kernel
theorem dX10_moveChoices_9 : decode cX10_moveChoices 9 = .ok (.iastore, 1) := by decide +kernel
theorem dX10_moveChoices_10 : decode cX10_moveChoices 10 = .ok (.iload_n 2, 1) := by decide +kernel
theorem dX10_moveChoices_11 : decode cX10_moveChoices 11 = .ok (.istore_n 3, 1) := by decide +kernel
theorem dX10_moveChoices_12 : decode cX10_moveChoices 12 = .ok (.iconst 0, 1) := by decide +kernel
theorem dX10_moveChoices_13 : decode cX10_moveChoices 13 = .ok (.istore 4, 2) := by decide +kernel
theorem dX10_moveChoices_15 : decode cX10_moveChoices 15 = .ok (.iload 4, 2) := by decide +kernel
theorem dX10_moveChoices_17 : decode cX10_moveChoices 17 = .ok (.sipush 200, 3) := by decide +kernel
theorem dX10_moveChoices_20 : decode cX10_moveChoices 20 = .ok (.if_icmp .ge 68, 3) := by decide +kernel
theorem dX10_moveChoices_23 : decode cX10_moveChoices 23 = .ok (.aload_n 0, 1) := by decide +kernel
theorem dX10_moveChoices_24 : decode cX10_moveChoices 24 = .ok (.getfield 33, 3) := by decide +kernel
theorem dX10_moveChoices_27 : decode cX10_moveChoices 27 = .ok (.iload_n 3, 1) := by decide +kernel
theorem dX10_moveChoices_28 : decode cX10_moveChoices 28 = .ok (.iaload, 1) := by decide +kernel
theorem dX10_moveChoices_29 : decode cX10_moveChoices 29 = .ok (.ifCond .lt 59, 3) := by decide +kernel
theorem dX10_moveChoices_32 : decode cX10_moveChoices 32 = .ok (.aload_n 0, 1) := by decide +kernel
theorem dX10_moveChoices_33 : decode cX10_moveChoices 33 = .ok (.getfield 33, 3) := by decide +kernel
theorem dX10_moveChoices_36 : decode cX10_moveChoices 36 = .ok (.iload_n 3, 1) := by decide +kernel
theorem dX10_moveChoices_37 : decode cX10_moveChoices 37 = .ok (.iaload, 1) := by decide +kernel
theorem dX10_moveChoices_38 : decode cX10_moveChoices 38 = .ok (.istore 5, 2) := by decide +kernel
theorem dX10_moveChoices_40 : decode cX10_moveChoices 40 = .ok (.aload_n 1, 1) := by decide +kernel
theorem dX10_moveChoices_41 : decode cX10_moveChoices 41 = .ok (.getfield 71, 3) := by decide +kernel
theorem dX10_moveChoices_44 : decode cX10_moveChoices 44 = .ok (.iload 5, 2) := by decide +kernel
theorem dX10_moveChoices_46 : decode cX10_moveChoices 46 = .ok (.iaload, 1) := by decide +kernel
theorem dX10_moveChoices_47 : decode cX10_moveChoices 47 = .ok (.istore 6, 2) := by decide +kernel
theorem dX10_moveChoices_49 : decode cX10_moveChoices 49 = .ok (.aload_n 0, 1) := by decide +kernel
theorem dX10_moveChoices_50 : decode cX10_moveChoices 50 = .ok (.getfield 24, 3) := by decide +kernel
theorem dX10_moveChoices_53 : decode cX10_moveChoices 53 = .ok (.iload 6, 2) := by decide +kernel
theorem dX10_moveChoices_55 : decode cX10_moveChoices 55 = .ok (.iaload, 1) := by decide +kernel
theorem dX10_moveChoices_56 : decode cX10_moveChoices 56 = .ok (.istore 7, 2) := by decide +kernel
theorem dX10_moveChoices_58 : decode cX10_moveChoices 58 = .ok (.aload_n 0, 1) := by decide +kernel
theorem dX10_moveChoices_59 : decode cX10_moveChoices 59 = .ok (.getfield 24, 3) := by decide +kernel
theorem dX10_moveChoices_62 : decode cX10_moveChoices 62 = .ok (.iload 6, 2) := by decide +kernel
theorem dX10_moveChoices_64 : decode cX10_moveChoices 64 = .ok (.iload 5, 2) := by decide +kernel
theorem dX10_moveChoices_66 : decode cX10_moveChoices 66 = .ok (.iastore, 1) := by decide +kernel
theorem dX10_moveChoices_67 : decode cX10_moveChoices 67 = .ok (.iload 7, 2) := by decide +kernel
theorem dX10_moveChoices_69 : decode cX10_moveChoices 69 = .ok (.iconst (-1), 1) := by decide +kernel
theorem dX10_moveChoices_70 : decode cX10_moveChoices 70 = .ok (.if_icmp .ne 4, 3) := by decide +kernel
theorem dX10_moveChoices_73 : decode cX10_moveChoices 73 = .ok (.return_, 1) := by decide +kernel
theorem dX10_moveChoices_74 : decode cX10_moveChoices 74 = .ok (.aload_n 1, 1) := by decide +kernel
theorem dX10_moveChoices_75 : decode cX10_moveChoices 75 = .ok (.getfield 81, 3) := by decide +kernel
theorem dX10_moveChoices_78 : decode cX10_moveChoices 78 = .ok (.iload 7, 2) := by decide +kernel
theorem dX10_moveChoices_80 : decode cX10_moveChoices 80 = .ok (.iaload, 1) := by decide +kernel
theorem dX10_moveChoices_81 : decode cX10_moveChoices 81 = .ok (.istore_n 3, 1) := by decide +kernel
theorem dX10_moveChoices_82 : decode cX10_moveChoices 82 = .ok (.iinc 4 1, 3) := by decide +kernel
theorem dX10_moveChoices_85 : decode cX10_moveChoices 85 = .ok (.goto (-70), 3) := by decide +kernel
theorem dX10_moveChoices_88 : decode cX10_moveChoices 88 = .ok (.return_, 1) := by decide +kernel
theorem dX11_init_0 : decode cX11_init 0 = .ok (.aload_n 0, 1) := by decide +kernel
theorem dX11_init_1 : decode cX11_init 1 = .ok (.invokespecial 1, 3) := by decide +kernel
theorem dX11_init_4 : decode cX11_init 4 = .ok (.aload_n 0, 1) := by decide +kernel
theorem dX11_init_5 : decode cX11_init 5 = .ok (.iconst 0, 1) := by decide +kernel
theorem dX11_init_6 : decode cX11_init 6 = .ok (.putfield 7, 3) := by decide +kernel
theorem dX11_init_9 : decode cX11_init 9 = .ok (.aload_n 0, 1) := by decide +kernel
theorem dX11_init_10 : decode cX11_init 10 = .ok (.iconst 0, 1) := by decide +kernel
theorem dX11_init_11 : decode cX11_init 11 = .ok (.putfield 13, 3) := by decide +kernel
theorem dX11_init_14 : decode cX11_init 14 = .ok (.aload_n 0, 1) := by decide +kernel
theorem dX11_init_15 : decode cX11_init 15 = .ok (.new 16, 3) := by decide +kernel
theorem dX11_init_18 : decode cX11_init 18 = .ok (.dup, 1) := by decide +kernel
theorem dX11_init_19 : decode cX11_init 19 = .ok (.invokespecial 18, 3) := by decide +kernel
theorem dX11_init_22 : decode cX11_init 22 = .ok (.putfield 19, 3) := by decide +kernel
theorem dX11_init_25 : decode cX11_init 25 = .ok (.aload_n 0, 1) := by decide +kernel
theorem dX11_init_26 : decode cX11_init 26 = .ok (.new 23, 3) := by decide +kernel
theorem dX11_init_29 : decode cX11_init 29 = .ok (.dup, 1) := by decide +kernel
theorem dX11_init_30 : decode cX11_init 30 = .ok (.invokespecial 25, 3) := by decide +kernel
theorem dX11_init_33 : decode cX11_init 33 = .ok (.putfield 26, 3) := by decide +kernel
theorem dX11_init_36 : decode cX11_init 36 = .ok (.aload_n 0, 1) := by decide +kernel
theorem dX11_init_37 : decode cX11_init 37 = .ok (.new 30, 3) := by decide +kernel
theorem dX11_init_40 : decode cX11_init 40 = .ok (.dup, 1) := by decide +kernel
theorem dX11_init_41 : decode cX11_init 41 = .ok (.invokespecial 32, 3) := by decide +kernel
theorem dX11_init_44 : decode cX11_init 44 = .ok (.putfield 33, 3) := by decide +kernel
theorem dX11_init_47 : decode cX11_init 47 = .ok (.aload_n 0, 1) := by decide +kernel
theorem dX11_init_48 : decode cX11_init 48 = .ok (.new 37, 3) := by decide +kernel
theorem dX11_init_51 : decode cX11_init 51 = .ok (.dup, 1) := by decide +kernel
theorem dX11_init_52 : decode cX11_init 52 = .ok (.invokespecial 39, 3) := by decide +kernel
theorem dX11_init_55 : decode cX11_init 55 = .ok (.putfield 40, 3) := by decide +kernel
theorem dX11_init_58 : decode cX11_init 58 = .ok (.aload_n 0, 1) := by decide +kernel
theorem dX11_init_59 : decode cX11_init 59 = .ok (.new 44, 3) := by decide +kernel
theorem dX11_init_62 : decode cX11_init 62 = .ok (.dup, 1) := by decide +kernel
theorem dX11_init_63 : decode cX11_init 63 = .ok (.invokespecial 46, 3) := by decide +kernel
theorem dX11_init_66 : decode cX11_init 66 = .ok (.putfield 47, 3) := by decide +kernel
theorem dX11_init_69 : decode cX11_init 69 = .ok (.aload_n 0, 1) := by decide +kernel
theorem dX11_init_70 : decode cX11_init 70 = .ok (.bipush 12, 2) := by decide +kernel
theorem dX11_init_72 : decode cX11_init 72 = .ok (.anewarray 51, 3) := by decide +kernel
theorem dX11_init_75 : decode cX11_init 75 = .ok (.putfield 53, 3) := by decide +kernel
theorem dX11_init_78 : decode cX11_init 78 = .ok (.aload_n 0, 1) := by decide +kernel
theorem dX11_init_79 : decode cX11_init 79 = .ok (.new 57, 3) := by decide +kernel
theorem dX11_init_82 : decode cX11_init 82 = .ok (.dup, 1) := by decide +kernel
theorem dX11_init_83 : decode cX11_init 83 = .ok (.invokespecial 59, 3) := by decide +kernel
theorem dX11_init_86 : decode cX11_init 86 = .ok (.putfield 60, 3) := by decide +kernel
theorem dX11_init_89 : decode cX11_init 89 = .ok (.aload_n 0, 1) := by decide +kernel
theorem dX11_init_90 : decode cX11_init 90 = .ok (.new 64, 3) := by decide +kernel
theorem dX11_init_93 : decode cX11_init 93 = .ok (.dup, 1) := by decide +kernel
theorem dX11_init_94 : decode cX11_init 94 = .ok (.invokespecial 66, 3) := by decide +kernel
theorem dX11_init_97 : decode cX11_init 97 = .ok (.putfield 67, 3) := by decide +kernel
theorem dX11_init_100 : decode cX11_init 100 = .ok (.aload_n 0, 1) := by decide +kernel
theorem dX11_init_101 : decode cX11_init 101 = .ok (.new 71, 3) := by decide +kernel
theorem dX11_init_104 : decode cX11_init 104 = .ok (.dup, 1) := by decide +kernel
theorem dX11_init_105 : decode cX11_init 105 = .ok (.invokespecial 73, 3) := by decide +kernel
theorem dX11_init_108 : decode cX11_init 108 = .ok (.putfield 74, 3) := by decide +kernel
theorem dX11_init_111 : decode cX11_init 111 = .ok (.aload_n 0, 1) := by decide +kernel
theorem dX11_init_112 : decode cX11_init 112 = .ok (.new 78, 3) := by decide +kernel
theorem dX11_init_115 : decode cX11_init 115 = .ok (.dup, 1) := by decide +kernel
theorem dX11_init_116 : decode cX11_init 116 = .ok (.invokespecial 80, 3) := by decide +kernel
theorem dX11_init_119 : decode cX11_init 119 = .ok (.putfield 81, 3) := by decide +kernel
theorem dX11_init_122 : decode cX11_init 122 = .ok (.aload_n 0, 1) := by decide +kernel
theorem dX11_init_123 : decode cX11_init 123 = .ok (.iconst 4, 1) := by decide +kernel
theorem dX11_init_124 : decode cX11_init 124 = .ok (.anewarray 23, 3) := by decide +kernel
theorem dX11_init_127 : decode cX11_init 127 = .ok (.putfield 85, 3) := by decide +kernel
theorem dX11_init_130 : decode cX11_init 130 = .ok (.aload_n 0, 1) := by decide +kernel
theorem dX11_init_131 : decode cX11_init 131 = .ok (.iconst 4, 1) := by decide +kernel
theorem dX11_init_132 : decode cX11_init 132 = .ok (.newarray .int, 2) := by decide +kernel
theorem dX11_init_134 : decode cX11_init 134 = .ok (.putfield 89, 3) := by decide +kernel
theorem dX11_init_137 : decode cX11_init 137 = .ok (.return_, 1) := by decide +kernel
theorem dX11_clock_0 : decode cX11_clock 0 = .ok (.iload_n 1, 1) := by decide +kernel
theorem dX11_clock_1 : decode cX11_clock 1 = .ok (.aload_n 0, 1) := by decide +kernel
theorem dX11_clock_2 : decode cX11_clock 2 = .ok (.getfield 7, 3) := by decide +kernel
theorem dX11_clock_5 : decode cX11_clock 5 = .ok (.sipush 9999, 3) := by decide +kernel
theorem dX11_clock_8 : decode cX11_clock 8 = .ok (.invokestatic 93, 3) := by decide +kernel
theorem dX11_clock_11 : decode cX11_clock 11 = .ok (.ifCond .ne 5, 3) := by decide +kernel
theorem dX11_clock_14 : decode cX11_clock 14 = .ok (.iconst 0, 1) := by decide +kernel
theorem dX11_clock_15 : decode cX11_clock 15 = .ok (.ireturn, 1) := by decide +kernel
theorem dX11_clock_16 : decode cX11_clock 16 = .ok (.aload_n 0, 1) := by decide +kernel
theorem dX11_clock_17 : decode cX11_clock 17 = .ok (.iload_n 1, 1) := by decide +kernel
theorem dX11_clock_18 : decode cX11_clock 18 = .ok (.putfield 7, 3) := by decide +kernel
theorem dX11_clock_21 : decode cX11_clock 21 = .ok (.iconst 1, 1) := by decide +kernel
theorem dX11_clock_22 : decode cX11_clock 22 = .ok (.ireturn, 1) := by decide +kernel
theorem dX11_part_0 : decode cX11_part 0 = .ok (.iload_n 3, 1) := by decide +kernel
theorem dX11_part_1 : decode cX11_part 1 = .ok (.iconst 0, 1) := by decide +kernel
theorem dX11_part_2 : decode cX11_part 2 = .ok (.bipush 99, 2) := by decide +kernel
theorem dX11_part_4 : decode cX11_part 4 = .ok (.invokestatic 93, 3) := by decide +kernel
theorem dX11_part_7 : decode cX11_part 7 = .ok (.ifCond .eq 35, 3) := by decide +kernel
theorem dX11_part_10 : decode cX11_part 10 = .ok (.iload 4, 2) := by decide +kernel
theorem dX11_part_12 : decode cX11_part 12 = .ok (.bipush 10, 2) := by decide +kernel
theorem dX11_part_14 : decode cX11_part 14 = .ok (.idiv, 1) := by decide +kernel
theorem dX11_part_15 : decode cX11_part 15 = .ok (.iconst 1, 1) := by decide +kernel
theorem dX11_part_16 : decode cX11_part 16 = .ok (.bipush 9, 2) := by decide +kernel
theorem dX11_part_18 : decode cX11_part 18 = .ok (.invokestatic 93, 3) := by decide +kernel
theorem dX11_part_21 : decode cX11_part 21 = .ok (.ifCond .eq 21, 3) := by decide +kernel
theorem dX11_part_24 : decode cX11_part 24 = .ok (.iload 4, 2) := by decide +kernel
theorem dX11_part_26 : decode cX11_part 26 = .ok (.bipush 10, 2) := by decide +kernel
theorem dX11_part_28 : decode cX11_part 28 = .ok (.irem, 1) := by decide +kernel
theorem dX11_part_29 : decode cX11_part 29 = .ok (.iconst 1, 1) := by decide +kernel
theorem dX11_part_30 : decode cX11_part 30 = .ok (.bipush 9, 2) := by decide +kernel
theorem dX11_part_32 : decode cX11_part 32 = .ok (.invokestatic 93, 3) := by decide +kernel
theorem dX11_part_35 : decode cX11_part 35 = .ok (.ifCond .eq 7, 3) := by decide +kernel
theorem dX11_part_38 : decode cX11_part 38 = .ok (.iconst 1, 1) := by decide +kernel
theorem dX11_part_39 : decode cX11_part 39 = .ok (.goto 4, 3) := by decide +kernel
theorem dX11_part_42 : decode cX11_part 42 = .ok (.iconst 0, 1) := by decide +kernel
theorem dX11_part_43 : decode cX11_part 43 = .ok (.istore 8, 2) := by decide +kernel
theorem dX11_part_45 : decode cX11_part 45 = .ok (.iload 5, 2) := by decide +kernel
theorem dX11_part_47 : decode cX11_part 47 = .ok (.iconst 0, 1) := by decide +kernel
theorem dX11_part_48 : decode cX11_part 48 = .ok (.sipush 999, 3) := by decide +kernel
theorem dX11_part_51 : decode cX11_part 51 = .ok (.invokestatic 93, 3) := by decide +kernel
theorem dX11_part_54 : decode cX11_part 54 = .ok (.ifCond .eq 31, 3) := by decide +kernel
theorem dX11_part_57 : decode cX11_part 57 = .ok (.iload 6, 2) := by decide +kernel
theorem dX11_part_59 : decode cX11_part 59 = .ok (.iconst 0, 1) := by decide +kernel
theorem dX11_part_60 : decode cX11_part 60 = .ok (.sipush 999, 3) := by decide +kernel
theorem dX11_part_63 : decode cX11_part 63 = .ok (.invokestatic 93, 3) := by decide +kernel
theorem dX11_part_66 : decode cX11_part 66 = .ok (.ifCond .eq 19, 3) := by decide +kernel
theorem dX11_part_69 : decode cX11_part 69 = .ok (.iload 7, 2) := by decide +kernel
theorem dX11_part_71 : decode cX11_part 71 = .ok (.iconst 0, 1) := by decide +kernel
theorem dX11_part_72 : decode cX11_part 72 = .ok (.sipush 999, 3) := by decide +kernel
theorem dX11_part_75 : decode cX11_part 75 = .ok (.invokestatic 93, 3) := by decide +kernel
theorem dX11_part_78 : decode cX11_part 78 = .ok (.ifCond .eq 7, 3) := by decide +kernel
theorem dX11_part_81 : decode cX11_part 81 = .ok (.iconst 1, 1) := by decide +kernel
theorem dX11_part_82 : decode cX11_part 82 = .ok (.goto 4, 3) := by decide +kernel
theorem dX11_part_85 : decode cX11_part 85 = .ok (.iconst 0, 1) := by decide +kernel
theorem dX11_part_86 : decode cX11_part 86 = .ok (.istore 9, 2) := by decide +kernel
theorem dX11_part_88 : decode cX11_part 88 = .ok (.iload 8, 2) := by decide +kernel
theorem dX11_part_90 : decode cX11_part 90 = .ok (.ifCond .eq 20, 3) := by decide +kernel
theorem dX11_part_93 : decode cX11_part 93 = .ok (.iload 9, 2) := by decide +kernel
theorem dX11_part_95 : decode cX11_part 95 = .ok (.ifCond .eq 15, 3) := by decide +kernel
theorem dX11_part_98 : decode cX11_part 98 = .ok (.aload_n 0, 1) := by decide +kernel
theorem dX11_part_99 : decode cX11_part 99 = .ok (.getfield 19, 3) := by decide +kernel
theorem dX11_part_102 : decode cX11_part 102 = .ok (.iload_n 1, 1) := by decide +kernel
theorem dX11_part_103 : decode cX11_part 103 = .ok (.iload_n 2, 1) := by decide +kernel
theorem dX11_part_104 : decode cX11_part 104 = .ok (.invokevirtual 97, 3) := by decide +kernel
theorem dX11_part_107 : decode cX11_part 107 = .ok (.ifCond .ne 5, 3) := by decide +kernel
theorem dX11_part_110 : decode cX11_part 110 = .ok (.iconst (-1), 1) := by decide +kernel
theorem dX11_part_111 : decode cX11_part 111 = .ok (.ireturn, 1) := by decide +kernel
theorem dX11_part_112 : decode cX11_part 112 = .ok (.aload_n 0, 1) := by decide +kernel
theorem dX11_part_113 : decode cX11_part 113 = .ok (.getfield 19, 3) := by decide +kernel
theorem dX11_part_116 : decode cX11_part 116 = .ok (.iload_n 1, 1) := by decide +kernel
theorem dX11_part_117 : decode cX11_part 117 = .ok (.iload_n 2, 1) := by decide +kernel
theorem dX11_part_118 : decode cX11_part 118 = .ok (.iload_n 3, 1) := by decide +kernel
theorem dX11_part_119 : decode cX11_part 119 = .ok (.iload 4, 2) := by decide +kernel
theorem dX11_part_121 : decode cX11_part 121 = .ok (.iload 5, 2) := by decide +kernel
theorem dX11_part_123 : decode cX11_part 123 = .ok (.iload 6, 2) := by decide +kernel
theorem dX11_part_125 : decode cX11_part 125 = .ok (.iload 7, 2) := by decide +kernel
theorem dX11_part_127 : decode cX11_part 127 = .ok (.invokevirtual 101, 3) := by decide +kernel
theorem dX11_part_130 : decode cX11_part 130 = .ok (.ireturn, 1) := by decide +kernel
theorem dX11_machine_0 : decode cX11_machine 0 = .ok (.aload_n 0, 1) := by decide +kernel
theorem dX11_machine_1 : decode cX11_machine 1 = .ok (.getfield 26, 3) := by decide +kernel
theorem dX11_machine_4 : decode cX11_machine 4 = .ok (.invokevirtual 105, 3) := by decide +kernel
theorem dX11_machine_7 : decode cX11_machine 7 = .ok (.ireturn, 1) := by decide +kernel
theorem dX11_turn_0 : decode cX11_turn 0 = .ok (.aload_n 0, 1) := by decide +kernel
theorem dX11_turn_1 : decode cX11_turn 1 = .ok (.iload_n 1, 1) := by decide +kernel
theorem dX11_turn_2 : decode cX11_turn 2 = .ok (.iload_n 2, 1) := by decide +kernel
theorem dX11_turn_3 : decode cX11_turn 3 = .ok (.invokevirtual 108, 3) := by decide +kernel
theorem dX11_turn_6 : decode cX11_turn 6 = .ok (.ifCond .ne 7, 3) := by decide +kernel
theorem dX11_turn_9 : decode cX11_turn 9 = .ok (.sipush (-1000), 3) := by decide +kernel
theorem dX11_turn_12 : decode cX11_turn 12 = .ok (.ireturn, 1) := by decide +kernel
theorem dX11_turn_13 : decode cX11_turn 13 = .ok (.iload_n 3, 1) := by decide +kernel
theorem dX11_turn_14 : decode cX11_turn 14 = .ok (.ifCond .ne 32, 3) := by decide +kernel
theorem dX11_turn_17 : decode cX11_turn 17 = .ok (.iload 4, 2) := by decide +kernel
theorem dX11_turn_19 : decode cX11_turn 19 = .ok (.iconst 0, 1) := by decide +kernel
theorem dX11_turn_20 : decode cX11_turn 20 = .ok (.bipush 99, 2) := by decide +kernel
theorem dX11_turn_22 : decode cX11_turn 22 = .ok (.invokestatic 93, 3) := by decide +kernel
theorem dX11_turn_25 : decode cX11_turn 25 = .ok (.ifCond .eq 21, 3) := by decide +kernel
theorem dX11_turn_28 : decode cX11_turn 28 = .ok (.aload_n 0, 1) := by decide +kernel
theorem dX11_turn_29 : decode cX11_turn 29 = .ok (.getfield 26, 3) := by decide +kernel
theorem dX11_turn_32 : decode cX11_turn 32 = .ok (.getfield 111, 3) := by decide +kernel
theorem dX11_turn_35 : decode cX11_turn 35 = .ok (.iload_n 1, 1) := by decide +kernel
theorem dX11_turn_36 : decode cX11_turn 36 = .ok (.iload_n 2, 1) := by decide +kernel
theorem dX11_turn_37 : decode cX11_turn 37 = .ok (.invokestatic 114, 3) := by decide +kernel
theorem dX11_turn_40 : decode cX11_turn 40 = .ok (.iload 4, 2) := by decide +kernel
theorem dX11_turn_42 : decode cX11_turn 42 = .ok (.invokestatic 118, 3) := by decide +kernel
theorem dX11_turn_45 : decode cX11_turn 45 = .ok (.ireturn, 1) := by decide +kernel
theorem dX11_turn_46 : decode cX11_turn 46 = .ok (.iload_n 3, 1) := by decide +kernel
theorem dX11_turn_47 : decode cX11_turn 47 = .ok (.iconst 1, 1) := by decide +kernel
theorem dX11_turn_48 : decode cX11_turn 48 = .ok (.if_icmp .ne 33, 3) := by decide +kernel
theorem dX11_turn_51 : decode cX11_turn 51 = .ok (.iload 4, 2) := by decide +kernel
theorem dX11_turn_53 : decode cX11_turn 53 = .ok (.bipush (-99), 2) := by decide +kernel
theorem dX11_turn_55 : decode cX11_turn 55 = .ok (.bipush 99, 2) := by decide +kernel
theorem dX11_turn_57 : decode cX11_turn 57 = .ok (.invokestatic 93, 3) := by decide +kernel
theorem dX11_turn_60 : decode cX11_turn 60 = .ok (.ifCond .eq 21, 3) := by decide +kernel
theorem dX11_turn_63 : decode cX11_turn 63 = .ok (.aload_n 0, 1) := by decide +kernel
theorem dX11_turn_64 : decode cX11_turn 64 = .ok (.getfield 26, 3) := by decide +kernel
theorem dX11_turn_67 : decode cX11_turn 67 = .ok (.getfield 122, 3) := by decide +kernel
theorem dX11_turn_70 : decode cX11_turn 70 = .ok (.iload_n 1, 1) := by decide +kernel
theorem dX11_turn_71 : decode cX11_turn 71 = .ok (.iload_n 2, 1) := by decide +kernel
theorem dX11_turn_72 : decode cX11_turn 72 = .ok (.invokestatic 114, 3) := by decide +kernel
theorem dX11_turn_75 : decode cX11_turn 75 = .ok (.iload 4, 2) := by decide +kernel
theorem dX11_turn_77 : decode cX11_turn 77 = .ok (.invokestatic 118, 3) := by decide +kernel
theorem dX11_turn_80 : decode cX11_turn 80 = .ok (.ireturn, 1) := by decide +kernel
theorem dX11_turn_81 : decode cX11_turn 81 = .ok (.sipush (-1000), 3) := by decide +kernel
theorem dX11_turn_84 : decode cX11_turn 84 = .ok (.ireturn, 1) := by decide +kernel
theorem dX11_anew_0 : decode cX11_anew 0 = .ok (.aload_n 0, 1) := by decide +kernel
theorem dX11_anew_1 : decode cX11_anew 1 = .ok (.iload_n 1, 1) := by decide +kernel
theorem dX11_anew_2 : decode cX11_anew 2 = .ok (.iload_n 2, 1) := by decide +kernel
theorem dX11_anew_3 : decode cX11_anew 3 = .ok (.invokevirtual 108, 3) := by decide +kernel
theorem dX11_anew_6 : decode cX11_anew 6 = .ok (.ifCond .eq 16, 3) := by decide +kernel
theorem dX11_anew_9 : decode cX11_anew 9 = .ok (.aload_n 0, 1) := by decide +kernel
theorem dX11_anew_10 : decode cX11_anew 10 = .ok (.getfield 19, 3) := by decide +kernel
theorem dX11_anew_13 : decode cX11_anew 13 = .ok (.getfield 125, 3) := by decide +kernel
theorem dX11_anew_16 : decode cX11_anew 16 = .ok (.iload_n 2, 1) := by decide +kernel
theorem dX11_anew_17 : decode cX11_anew 17 = .ok (.iaload, 1) := by decide +kernel
theorem dX11_anew_18 : decode cX11_anew 18 = .ok (.iconst 1, 1) := by decide +kernel
theorem dX11_anew_19 : decode cX11_anew 19 = .ok (.if_icmp .eq 5, 3) := by decide +kernel
theorem dX11_anew_22 : decode cX11_anew 22 = .ok (.iconst (-1), 1) := by decide +kernel
theorem dX11_anew_23 : decode cX11_anew 23 = .ok (.ireturn, 1) := by decide +kernel
theorem dX11_anew_24 : decode cX11_anew 24 = .ok (.aload_n 0, 1) := by decide +kernel
theorem dX11_anew_25 : decode cX11_anew 25 = .ok (.getfield 26, 3) := by decide +kernel
theorem dX11_anew_28 : decode cX11_anew 28 = .ok (.getfield 128, 3) := by decide +kernel
theorem dX11_anew_31 : decode cX11_anew 31 = .ok (.iload_n 1, 1) := by decide +kernel
theorem dX11_anew_32 : decode cX11_anew 32 = .ok (.iload_n 2, 1) := by decide +kernel
theorem dX11_anew_33 : decode cX11_anew 33 = .ok (.invokestatic 114, 3) := by decide +kernel
theorem dX11_anew_36 : decode cX11_anew 36 = .ok (.iconst 0, 1) := by decide +kernel
theorem dX11_anew_37 : decode cX11_anew 37 = .ok (.invokestatic 118, 3) := by decide +kernel
theorem dX11_anew_40 : decode cX11_anew 40 = .ok (.ireturn, 1) := by decide +kernel
theorem dX11_push_0 : decode cX11_push 0 = .ok (.aload_n 0, 1) := by decide +kernel
theorem dX11_push_1 : decode cX11_push 1 = .ok (.iload_n 1, 1) := by decide +kernel
theorem dX11_push_2 : decode cX11_push 2 = .ok (.iconst 0, 1) := by decide +kernel
theorem dX11_push_3 : decode cX11_push 3 = .ok (.invokevirtual 108, 3) := by decide +kernel
theorem dX11_push_6 : decode cX11_push 6 = .ok (.ifCond .eq 25, 3) := by decide +kernel
theorem dX11_push_9 : decode cX11_push 9 = .ok (.iload_n 2, 1) := by decide +kernel
theorem dX11_push_10 : decode cX11_push 10 = .ok (.iconst 0, 1) := by decide +kernel
theorem dX11_push_11 : decode cX11_push 11 = .ok (.sipush 999, 3) := by decide +kernel
theorem dX11_push_14 : decode cX11_push 14 = .ok (.invokestatic 93, 3) := by decide +kernel
theorem dX11_push_17 : decode cX11_push 17 = .ok (.ifCond .eq 14, 3) := by decide +kernel
theorem dX11_push_20 : decode cX11_push 20 = .ok (.iload_n 3, 1) := by decide +kernel
theorem dX11_push_21 : decode cX11_push 21 = .ok (.iconst 0, 1) := by decide +kernel
theorem dX11_push_22 : decode cX11_push 22 = .ok (.sipush 999, 3) := by decide +kernel
theorem dX11_push_25 : decode cX11_push 25 = .ok (.invokestatic 93, 3) := by decide +kernel
theorem dX11_push_28 : decode cX11_push 28 = .ok (.ifCond .ne 5, 3) := by decide +kernel
theorem dX11_push_31 : decode cX11_push 31 = .ok (.iconst (-1), 1) := by decide +kernel
theorem dX11_push_32 : decode cX11_push 32 = .ok (.ireturn, 1) := by decide +kernel
theorem dX11_push_33 : decode cX11_push 33 = .ok (.aload_n 0, 1) := by decide +kernel
theorem dX11_push_34 : decode cX11_push 34 = .ok (.getfield 33, 3) := by decide +kernel
theorem dX11_push_37 : decode cX11_push 37 = .ok (.aload_n 0, 1) := by decide +kernel
theorem dX11_push_38 : decode cX11_push 38 = .ok (.getfield 19, 3) := by decide +kernel
theorem dX11_push_41 : decode cX11_push 41 = .ok (.aload_n 0, 1) := by decide +kernel
theorem dX11_push_42 : decode cX11_push 42 = .ok (.getfield 26, 3) := by decide +kernel
theorem dX11_push_45 : decode cX11_push 45 = .ok (.iload_n 1, 1) := by decide +kernel
theorem dX11_push_46 : decode cX11_push 46 = .ok (.invokevirtual 131, 3) := by decide +kernel
theorem dX11_push_49 : decode cX11_push 49 = .ok (.aload_n 0, 1) := by decide +kernel
theorem dX11_push_50 : decode cX11_push 50 = .ok (.getfield 33, 3) := by decide +kernel
theorem dX11_push_53 : decode cX11_push 53 = .ok (.aload_n 0, 1) := by decide +kernel
theorem dX11_push_54 : decode cX11_push 54 = .ok (.getfield 19, 3) := by decide +kernel
theorem dX11_push_57 : decode cX11_push 57 = .ok (.iload_n 2, 1) := by decide +kernel
theorem dX11_push_58 : decode cX11_push 58 = .ok (.iload_n 3, 1) := by decide +kernel
theorem dX11_push_59 : decode cX11_push 59 = .ok (.invokevirtual 135, 3) := by decide +kernel
theorem dX11_push_62 : decode cX11_push 62 = .ok (.aload_n 0, 1) := by decide +kernel
theorem dX11_push_63 : decode cX11_push 63 = .ok (.getfield 33, 3) := by decide +kernel
theorem dX11_push_66 : decode cX11_push 66 = .ok (.aload_n 0, 1) := by decide +kernel
theorem dX11_push_67 : decode cX11_push 67 = .ok (.getfield 19, 3) := by decide +kernel
theorem dX11_push_70 : decode cX11_push 70 = .ok (.invokevirtual 139, 3) := by decide +kernel
theorem dX11_push_73 : decode cX11_push 73 = .ok (.aload_n 0, 1) := by decide +kernel
theorem dX11_push_74 : decode cX11_push 74 = .ok (.getfield 33, 3) := by decide +kernel
theorem dX11_push_77 : decode cX11_push 77 = .ok (.aload_n 0, 1) := by decide +kernel
theorem dX11_push_78 : decode cX11_push 78 = .ok (.getfield 26, 3) := by decide +kernel
theorem dX11_push_81 : decode cX11_push 81 = .ok (.iload_n 1, 1) := by decide +kernel
theorem dX11_push_82 : decode cX11_push 82 = .ok (.invokevirtual 143, 3) := by decide +kernel
theorem dX11_push_85 : decode cX11_push 85 = .ok (.aload_n 0, 1) := by decide +kernel
theorem dX11_push_86 : decode cX11_push 86 = .ok (.getfield 33, 3) := by decide +kernel
theorem dX11_push_89 : decode cX11_push 89 = .ok (.getfield 147, 3) := by decide +kernel
theorem dX11_push_92 : decode cX11_push 92 = .ok (.iconst 0, 1) := by decide +kernel
theorem dX11_push_93 : decode cX11_push 93 = .ok (.iaload, 1) := by decide +kernel
theorem dX11_push_94 : decode cX11_push 94 = .ok (.ireturn, 1) := by decide +kernel
theorem dX11_release_0 : decode cX11_release 0 = .ok (.aload_n 0, 1) := by decide +kernel
theorem dX11_release_1 : decode cX11_release 1 = .ok (.iload_n 1, 1) := by decide +kernel
theorem dX11_release_2 : decode cX11_release 2 = .ok (.invokevirtual 150, 3) := by decide +kernel
theorem dX11_release_5 : decode cX11_release 5 = .ok (.ifCond .ne 5, 3) := by decide +kernel
theorem dX11_release_8 : decode cX11_release 8 = .ok (.iconst 0, 1) := by decide +kernel
theorem dX11_release_9 : decode cX11_release 9 = .ok (.ireturn, 1) := by decide +kernel
theorem dX11_release_10 : decode cX11_release 10 = .ok (.aload_n 0, 1) := by decide +kernel
theorem dX11_release_11 : decode cX11_release 11 = .ok (.getfield 26, 3) := by decide +kernel
theorem dX11_release_14 : decode cX11_release 14 = .ok (.iload_n 1, 1) := by decide +kernel
theorem dX11_release_15 : decode cX11_release 15 = .ok (.invokevirtual 154, 3) := by decide +kernel
theorem dX11_release_18 : decode cX11_release 18 = .ok (.iconst 1, 1) := by decide +kernel
theorem dX11_release_19 : decode cX11_release 19 = .ok (.ireturn, 1) := by decide +kernel
theorem dX11_state_0 : decode cX11_state 0 = .ok (.aload_n 0, 1) := by decide +kernel
theorem dX11_state_1 : decode cX11_state 1 = .ok (.iload_n 1, 1) := by decide +kernel
theorem dX11_state_2 : decode cX11_state 2 = .ok (.iload_n 2, 1) := by decide +kernel
theorem dX11_state_3 : decode cX11_state 3 = .ok (.invokevirtual 108, 3) := by decide +kernel
theorem dX11_state_6 : decode cX11_state 6 = .ok (.ifCond .ne 7, 3) := by decide +kernel
theorem dX11_state_9 : decode cX11_state 9 = .ok (.sipush (-1000), 3) := by decide +kernel
theorem dX11_state_12 : decode cX11_state 12 = .ok (.ireturn, 1) := by decide +kernel
theorem dX11_state_13 : decode cX11_state 13 = .ok (.iload_n 1, 1) := by decide +kernel
theorem dX11_state_14 : decode cX11_state 14 = .ok (.iload_n 2, 1) := by decide +kernel
theorem dX11_state_15 : decode cX11_state 15 = .ok (.invokestatic 114, 3) := by decide +kernel
theorem dX11_state_18 : decode cX11_state 18 = .ok (.istore 4, 2) := by decide +kernel
theorem dX11_state_20 : decode cX11_state 20 = .ok (.iload_n 3, 1) := by decide +kernel
theorem dX11_state_21 : decode cX11_state 21 = .ok (.tableswitch 111 0 4 #[35, 46, 57, 68, 79], 35) := by decide +kernel
theorem dX11_state_56 : decode cX11_state 56 = .ok (.aload_n 0, 1) := by decide +kernel
theorem dX11_state_57 : decode cX11_state 57 = .ok (.getfield 26, 3) := by decide +kernel
theorem dX11_state_60 : decode cX11_state 60 = .ok (.getfield 158, 3) := by decide +kernel
theorem dX11_state_63 : decode cX11_state 63 = .ok (.iload 4, 2) := by decide +kernel
theorem dX11_state_65 : decode cX11_state 65 = .ok (.iaload, 1) := by decide +kernel
theorem dX11_state_66 : decode cX11_state 66 = .ok (.ireturn, 1) := by decide +kernel
theorem dX11_state_67 : decode cX11_state 67 = .ok (.aload_n 0, 1) := by decide +kernel
theorem dX11_state_68 : decode cX11_state 68 = .ok (.getfield 26, 3) := by decide +kernel
theorem dX11_state_71 : decode cX11_state 71 = .ok (.getfield 111, 3) := by decide +kernel
theorem dX11_state_74 : decode cX11_state 74 = .ok (.iload 4, 2) := by decide +kernel
theorem dX11_state_76 : decode cX11_state 76 = .ok (.iaload, 1) := by decide +kernel
theorem dX11_state_77 : decode cX11_state 77 = .ok (.ireturn, 1) := by decide +kernel
theorem dX11_state_78 : decode cX11_state 78 = .ok (.aload_n 0, 1) := by decide +kernel
theorem dX11_state_79 : decode cX11_state 79 = .ok (.getfield 26, 3) := by decide +kernel
theorem dX11_state_82 : decode cX11_state 82 = .ok (.getfield 122, 3) := by decide +kernel
theorem dX11_state_85 : decode cX11_state 85 = .ok (.iload 4, 2) := by decide +kernel
theorem dX11_state_87 : decode cX11_state 87 = .ok (.iaload, 1) := by decide +kernel
theorem dX11_state_88 : decode cX11_state 88 = .ok (.ireturn, 1) := by decide +kernel
theorem dX11_state_89 : decode cX11_state 89 = .ok (.aload_n 0, 1) := by decide +kernel
theorem dX11_state_90 : decode cX11_state 90 = .ok (.getfield 26, 3) := by decide +kernel
theorem dX11_state_93 : decode cX11_state 93 = .ok (.getfield 128, 3) := by decide +kernel
theorem dX11_state_96 : decode cX11_state 96 = .ok (.iload 4, 2) := by decide +kernel
theorem dX11_state_98 : decode cX11_state 98 = .ok (.iaload, 1) := by decide +kernel
theorem dX11_state_99 : decode cX11_state 99 = .ok (.ireturn, 1) := by decide +kernel
theorem dX11_state_100 : decode cX11_state 100 = .ok (.aload_n 0, 1) := by decide +kernel
theorem dX11_state_101 : decode cX11_state 101 = .ok (.getfield 33, 3) := by decide +kernel
theorem dX11_state_104 : decode cX11_state 104 = .ok (.aload_n 0, 1) := by decide +kernel
theorem dX11_state_105 : decode cX11_state 105 = .ok (.getfield 19, 3) := by decide +kernel
theorem dX11_state_108 : decode cX11_state 108 = .ok (.aload_n 0, 1) := by decide +kernel
theorem dX11_state_109 : decode cX11_state 109 = .ok (.getfield 26, 3) := by decide +kernel
theorem dX11_state_112 : decode cX11_state 112 = .ok (.iload_n 1, 1) := by decide +kernel
theorem dX11_state_113 : decode cX11_state 113 = .ok (.invokevirtual 131, 3) := by decide +kernel
theorem dX11_state_116 : decode cX11_state 116 = .ok (.aload_n 0, 1) := by decide +kernel
theorem dX11_state_117 : decode cX11_state 117 = .ok (.getfield 33, 3) := by decide +kernel
theorem dX11_state_120 : decode cX11_state 120 = .ok (.aload_n 0, 1) := by decide +kernel
theorem dX11_state_121 : decode cX11_state 121 = .ok (.getfield 19, 3) := by decide +kernel
theorem dX11_state_124 : decode cX11_state 124 = .ok (.iload_n 2, 1) := by decide +kernel
theorem dX11_state_125 : decode cX11_state 125 = .ok (.invokevirtual 159, 3) := by decide +kernel
theorem dX11_state_128 : decode cX11_state 128 = .ok (.invokestatic 163, 3) := by decide +kernel
theorem dX11_state_131 : decode cX11_state 131 = .ok (.ireturn, 1) := by decide +kernel
theorem dX11_state_132 : decode cX11_state 132 = .ok (.sipush (-1000), 3) := by decide +kernel
theorem dX11_state_135 : decode cX11_state 135 = .ok (.ireturn, 1) := by decide +kernel
theorem dX11_judged_0 : decode cX11_judged 0 = .ok (.aload_n 0, 1) := by decide +kernel
theorem dX11_judged_1 : decode cX11_judged 1 = .ok (.iload_n 1, 1) := by decide +kernel
theorem dX11_judged_2 : decode cX11_judged 2 = .ok (.invokevirtual 150, 3) := by decide +kernel
theorem dX11_judged_5 : decode cX11_judged 5 = .ok (.ifCond .eq 13, 3) := by decide +kernel
theorem dX11_judged_8 : decode cX11_judged 8 = .ok (.iload_n 3, 1) := by decide +kernel
theorem dX11_judged_9 : decode cX11_judged 9 = .ok (.iconst 0, 1) := by decide +kernel
theorem dX11_judged_10 : decode cX11_judged 10 = .ok (.bipush 15, 2) := by decide +kernel
theorem dX11_judged_12 : decode cX11_judged 12 = .ok (.invokestatic 93, 3) := by decide +kernel
theorem dX11_judged_15 : decode cX11_judged 15 = .ok (.ifCond .ne 5, 3) := by decide +kernel
theorem dX11_judged_18 : decode cX11_judged 18 = .ok (.iconst (-1), 1) := by decide +kernel
theorem dX11_judged_19 : decode cX11_judged 19 = .ok (.ireturn, 1) := by decide +kernel
theorem dX11_judged_20 : decode cX11_judged 20 = .ok (.aload_n 0, 1) := by decide +kernel
theorem dX11_judged_21 : decode cX11_judged 21 = .ok (.getfield 33, 3) := by decide +kernel
theorem dX11_judged_24 : decode cX11_judged 24 = .ok (.aload_n 0, 1) := by decide +kernel
theorem dX11_judged_25 : decode cX11_judged 25 = .ok (.getfield 19, 3) := by decide +kernel
theorem dX11_judged_28 : decode cX11_judged 28 = .ok (.aload_n 0, 1) := by decide +kernel
theorem dX11_judged_29 : decode cX11_judged 29 = .ok (.getfield 26, 3) := by decide +kernel
theorem dX11_judged_32 : decode cX11_judged 32 = .ok (.iload_n 1, 1) := by decide +kernel
theorem dX11_judged_33 : decode cX11_judged 33 = .ok (.invokevirtual 131, 3) := by decide +kernel
theorem dX11_judged_36 : decode cX11_judged 36 = .ok (.iload_n 2, 1) := by decide +kernel
theorem dX11_judged_37 : decode cX11_judged 37 = .ok (.tableswitch 74 0 2 #[27, 42, 58], 27) := by decide +kernel
theorem dX11_judged_64 : decode cX11_judged 64 = .ok (.aload_n 0, 1) := by decide +kernel
theorem dX11_judged_65 : decode cX11_judged 65 = .ok (.getfield 33, 3) := by decide +kernel
theorem dX11_judged_68 : decode cX11_judged 68 = .ok (.aload_n 0, 1) := by decide +kernel
theorem dX11_judged_69 : decode cX11_judged 69 = .ok (.getfield 19, 3) := by decide +kernel
theorem dX11_judged_72 : decode cX11_judged 72 = .ok (.invokevirtual 167, 3) := by decide +kernel
theorem dX11_judged_75 : decode cX11_judged 75 = .ok (.invokestatic 163, 3) := by decide +kernel
theorem dX11_judged_78 : decode cX11_judged 78 = .ok (.ireturn, 1) := by decide +kernel
theorem dX11_judged_79 : decode cX11_judged 79 = .ok (.aload_n 0, 1) := by decide +kernel
theorem dX11_judged_80 : decode cX11_judged 80 = .ok (.getfield 33, 3) := by decide +kernel
theorem dX11_judged_83 : decode cX11_judged 83 = .ok (.aload_n 0, 1) := by decide +kernel
theorem dX11_judged_84 : decode cX11_judged 84 = .ok (.getfield 19, 3) := by decide +kernel
theorem dX11_judged_87 : decode cX11_judged 87 = .ok (.iload_n 3, 1) := by decide +kernel
theorem dX11_judged_88 : decode cX11_judged 88 = .ok (.invokevirtual 171, 3) := by decide +kernel
theorem dX11_judged_91 : decode cX11_judged 91 = .ok (.invokestatic 163, 3) := by decide +kernel
theorem dX11_judged_94 : decode cX11_judged 94 = .ok (.ireturn, 1) := by decide +kernel
theorem dX11_judged_95 : decode cX11_judged 95 = .ok (.aload_n 0, 1) := by decide +kernel
theorem dX11_judged_96 : decode cX11_judged 96 = .ok (.getfield 33, 3) := by decide +kernel
theorem dX11_judged_99 : decode cX11_judged 99 = .ok (.aload_n 0, 1) := by decide +kernel
theorem dX11_judged_100 : decode cX11_judged 100 = .ok (.getfield 19, 3) := by decide +kernel
theorem dX11_judged_103 : decode cX11_judged 103 = .ok (.iload_n 3, 1) := by decide +kernel
theorem dX11_judged_104 : decode cX11_judged 104 = .ok (.invokevirtual 174, 3) := by decide +kernel
theorem dX11_judged_107 : decode cX11_judged 107 = .ok (.invokestatic 163, 3) := by decide +kernel
theorem dX11_judged_110 : decode cX11_judged 110 = .ok (.ireturn, 1) := by decide +kernel
theorem dX11_judged_111 : decode cX11_judged 111 = .ok (.iconst (-1), 1) := by decide +kernel
theorem dX11_judged_112 : decode cX11_judged 112 = .ok (.ireturn, 1) := by decide +kernel
theorem dX11_tried_0 : decode cX11_tried 0 = .ok (.aload_n 0, 1) := by decide +kernel
theorem dX11_tried_1 : decode cX11_tried 1 = .ok (.iload_n 1, 1) := by decide +kernel
theorem dX11_tried_2 : decode cX11_tried 2 = .ok (.iload_n 2, 1) := by decide +kernel
theorem dX11_tried_3 : decode cX11_tried 3 = .ok (.iload_n 3, 1) := by decide +kernel
theorem dX11_tried_4 : decode cX11_tried 4 = .ok (.iload 4, 2) := by decide +kernel
theorem dX11_tried_6 : decode cX11_tried 6 = .ok (.iload 5, 2) := by decide +kernel
theorem dX11_tried_8 : decode cX11_tried 8 = .ok (.iload 6, 2) := by decide +kernel
theorem dX11_tried_10 : decode cX11_tried 10 = .ok (.invokevirtual 177, 3) := by decide +kernel
theorem dX11_tried_13 : decode cX11_tried 13 = .ok (.ifCond .eq 9, 3) := by decide +kernel
theorem dX11_tried_16 : decode cX11_tried 16 = .ok (.iload 7, 2) := by decide +kernel
theorem dX11_tried_18 : decode cX11_tried 18 = .ok (.iconst (-1), 1) := by decide +kernel
theorem dX11_tried_19 : decode cX11_tried 19 = .ok (.if_icmp .ge 5, 3) := by decide +kernel
theorem dX11_tried_22 : decode cX11_tried 22 = .ok (.iconst (-1), 1) := by decide +kernel
theorem dX11_tried_23 : decode cX11_tried 23 = .ok (.ireturn, 1) := by decide +kernel
theorem dX11_tried_24 : decode cX11_tried 24 = .ok (.aload_n 0, 1) := by decide +kernel
theorem dX11_tried_25 : decode cX11_tried 25 = .ok (.getfield 33, 3) := by decide +kernel
theorem dX11_tried_28 : decode cX11_tried 28 = .ok (.aload_n 0, 1) := by decide +kernel
theorem dX11_tried_29 : decode cX11_tried 29 = .ok (.getfield 19, 3) := by decide +kernel
theorem dX11_tried_32 : decode cX11_tried 32 = .ok (.aload_n 0, 1) := by decide +kernel
theorem dX11_tried_33 : decode cX11_tried 33 = .ok (.getfield 26, 3) := by decide +kernel
theorem dX11_tried_36 : decode cX11_tried 36 = .ok (.iload_n 1, 1) := by decide +kernel
theorem dX11_tried_37 : decode cX11_tried 37 = .ok (.invokevirtual 131, 3) := by decide +kernel
theorem dX11_tried_40 : decode cX11_tried 40 = .ok (.iconst 0, 1) := by decide +kernel
theorem dX11_tried_41 : decode cX11_tried 41 = .ok (.istore 8, 2) := by decide +kernel
theorem dX11_tried_43 : decode cX11_tried 43 = .ok (.iconst 0, 1) := by decide +kernel
theorem dX11_tried_44 : decode cX11_tried 44 = .ok (.istore 9, 2) := by decide +kernel
theorem dX11_tried_46 : decode cX11_tried 46 = .ok (.iload 9, 2) := by decide +kernel
theorem dX11_tried_48 : decode cX11_tried 48 = .ok (.iload 4, 2) := by decide +kernel
theorem dX11_tried_50 : decode cX11_tried 50 = .ok (.if_icmp .gt 63, 3) := by decide +kernel
theorem dX11_tried_53 : decode cX11_tried 53 = .ok (.iconst 0, 1) := by decide +kernel
theorem dX11_tried_54 : decode cX11_tried 54 = .ok (.istore 10, 2) := by decide +kernel
theorem dX11_tried_56 : decode cX11_tried 56 = .ok (.iload 10, 2) := by decide +kernel
theorem dX11_tried_58 : decode cX11_tried 58 = .ok (.iload 4, 2) := by decide +kernel
theorem dX11_tried_60 : decode cX11_tried 60 = .ok (.if_icmp .gt 47, 3) := by decide +kernel
theorem dX11_tried_63 : decode cX11_tried 63 = .ok (.bipush 16, 2) := by decide +kernel
theorem dX11_tried_65 : decode cX11_tried 65 = .ok (.iload 9, 2) := by decide +kernel
theorem dX11_tried_67 : decode cX11_tried 67 = .ok (.imul, 1) := by decide +kernel
theorem dX11_tried_68 : decode cX11_tried 68 = .ok (.iload 10, 2) := by decide +kernel
theorem dX11_tried_70 : decode cX11_tried 70 = .ok (.iadd, 1) := by decide +kernel
theorem dX11_tried_71 : decode cX11_tried 71 = .ok (.istore 11, 2) := by decide +kernel
theorem dX11_tried_73 : decode cX11_tried 73 = .ok (.aload_n 0, 1) := by decide +kernel
theorem dX11_tried_74 : decode cX11_tried 74 = .ok (.iload_n 2, 1) := by decide +kernel
theorem dX11_tried_75 : decode cX11_tried 75 = .ok (.iload_n 3, 1) := by decide +kernel
theorem dX11_tried_76 : decode cX11_tried 76 = .ok (.iload 11, 2) := by decide +kernel
theorem dX11_tried_78 : decode cX11_tried 78 = .ok (.iload 5, 2) := by decide +kernel
theorem dX11_tried_80 : decode cX11_tried 80 = .ok (.iload 6, 2) := by decide +kernel
theorem dX11_tried_82 : decode cX11_tried 82 = .ok (.invokevirtual 181, 3) := by decide +kernel
theorem dX11_tried_85 : decode cX11_tried 85 = .ok (.ifCond .eq 16, 3) := by decide +kernel
theorem dX11_tried_88 : decode cX11_tried 88 = .ok (.iload 8, 2) := by decide +kernel
theorem dX11_tried_90 : decode cX11_tried 90 = .ok (.iload 7, 2) := by decide +kernel
theorem dX11_tried_92 : decode cX11_tried 92 = .ok (.if_icmp .ne 6, 3) := by decide +kernel
theorem dX11_tried_95 : decode cX11_tried 95 = .ok (.iload 11, 2) := by decide +kernel
theorem dX11_tried_97 : decode cX11_tried 97 = .ok (.ireturn, 1) := by decide +kernel
theorem dX11_tried_98 : decode cX11_tried 98 = .ok (.iinc 8 1, 3) := by decide +kernel
theorem dX11_tried_101 : decode cX11_tried 101 = .ok (.iinc 10 1, 3) := by decide +kernel
theorem dX11_tried_104 : decode cX11_tried 104 = .ok (.goto (-48), 3) := by decide +kernel
theorem dX11_tried_107 : decode cX11_tried 107 = .ok (.iinc 9 1, 3) := by decide +kernel
theorem dX11_tried_110 : decode cX11_tried 110 = .ok (.goto (-64), 3) := by decide +kernel
theorem dX11_tried_113 : decode cX11_tried 113 = .ok (.iload 7, 2) := by decide +kernel
theorem dX11_tried_115 : decode cX11_tried 115 = .ok (.iconst (-1), 1) := by decide +kernel
theorem dX11_tried_116 : decode cX11_tried 116 = .ok (.if_icmp .ne 8, 3) := by decide +kernel
theorem dX11_tried_119 : decode cX11_tried 119 = .ok (.iload 8, 2) := by decide +kernel
theorem dX11_tried_121 : decode cX11_tried 121 = .ok (.goto 4, 3) := by decide +kernel
theorem dX11_tried_124 : decode cX11_tried 124 = .ok (.iconst (-1), 1) := by decide +kernel
theorem dX11_tried_125 : decode cX11_tried 125 = .ok (.ireturn, 1) := by decide +kernel
theorem dX11_change_0 : decode cX11_change 0 = .ok (.iload_n 2, 1) := by decide +kernel
theorem dX11_change_1 : decode cX11_change 1 = .ok (.iconst 0, 1) := by decide +kernel
theorem dX11_change_2 : decode cX11_change 2 = .ok (.bipush 99, 2) := by decide +kernel
theorem dX11_change_4 : decode cX11_change 4 = .ok (.invokestatic 93, 3) := by decide +kernel
theorem dX11_change_7 : decode cX11_change 7 = .ok (.ifCond .eq 18, 3) := by decide +kernel
theorem dX11_change_10 : decode cX11_change 10 = .ok (.iload_n 3, 1) := by decide +kernel
theorem dX11_change_11 : decode cX11_change 11 = .ok (.bipush (-99), 2) := by decide +kernel
theorem dX11_change_13 : decode cX11_change 13 = .ok (.bipush 99, 2) := by decide +kernel
theorem dX11_change_15 : decode cX11_change 15 = .ok (.invokestatic 93, 3) := by decide +kernel
theorem dX11_change_18 : decode cX11_change 18 = .ok (.ifCond .eq 7, 3) := by decide +kernel
theorem dX11_change_21 : decode cX11_change 21 = .ok (.iconst 1, 1) := by decide +kernel
theorem dX11_change_22 : decode cX11_change 22 = .ok (.goto 4, 3) := by decide +kernel
theorem dX11_change_25 : decode cX11_change 25 = .ok (.iconst 0, 1) := by decide +kernel
theorem dX11_change_26 : decode cX11_change 26 = .ok (.istore 6, 2) := by decide +kernel
theorem dX11_change_28 : decode cX11_change 28 = .ok (.aload_n 0, 1) := by decide +kernel
theorem dX11_change_29 : decode cX11_change 29 = .ok (.iload_n 1, 1) := by decide +kernel
theorem dX11_change_30 : decode cX11_change 30 = .ok (.invokevirtual 185, 3) := by decide +kernel
theorem dX11_change_33 : decode cX11_change 33 = .ok (.ifCond .eq 32, 3) := by decide +kernel
theorem dX11_change_36 : decode cX11_change 36 = .ok (.iload 6, 2) := by decide +kernel
theorem dX11_change_38 : decode cX11_change 38 = .ok (.ifCond .eq 27, 3) := by decide +kernel
theorem dX11_change_41 : decode cX11_change 41 = .ok (.iload 4, 2) := by decide +kernel
theorem dX11_change_43 : decode cX11_change 43 = .ok (.iconst 0, 1) := by decide +kernel
theorem dX11_change_44 : decode cX11_change 44 = .ok (.sipush 999, 3) := by decide +kernel
theorem dX11_change_47 : decode cX11_change 47 = .ok (.invokestatic 93, 3) := by decide +kernel
theorem dX11_change_50 : decode cX11_change 50 = .ok (.ifCond .eq 15, 3) := by decide +kernel
theorem dX11_change_53 : decode cX11_change 53 = .ok (.iload 5, 2) := by decide +kernel
theorem dX11_change_55 : decode cX11_change 55 = .ok (.iconst 0, 1) := by decide +kernel
theorem dX11_change_56 : decode cX11_change 56 = .ok (.sipush 999, 3) := by decide +kernel
theorem dX11_change_59 : decode cX11_change 59 = .ok (.invokestatic 93, 3) := by decide +kernel
theorem dX11_change_62 : decode cX11_change 62 = .ok (.ifCond .ne 5, 3) := by decide +kernel
theorem dX11_change_65 : decode cX11_change 65 = .ok (.iconst (-1), 1) := by decide +kernel
theorem dX11_change_66 : decode cX11_change 66 = .ok (.ireturn, 1) := by decide +kernel
theorem dX11_change_67 : decode cX11_change 67 = .ok (.aload_n 0, 1) := by decide +kernel
theorem dX11_change_68 : decode cX11_change 68 = .ok (.getfield 40, 3) := by decide +kernel
theorem dX11_change_71 : decode cX11_change 71 = .ok (.iload_n 1, 1) := by decide +kernel
theorem dX11_change_72 : decode cX11_change 72 = .ok (.iload_n 2, 1) := by decide +kernel
theorem dX11_change_73 : decode cX11_change 73 = .ok (.iload_n 3, 1) := by decide +kernel
theorem dX11_change_74 : decode cX11_change 74 = .ok (.iload 4, 2) := by decide +kernel
theorem dX11_change_76 : decode cX11_change 76 = .ok (.iload 5, 2) := by decide +kernel
theorem dX11_change_78 : decode cX11_change 78 = .ok (.invokevirtual 188, 3) := by decide +kernel
theorem dX11_change_81 : decode cX11_change 81 = .ok (.ireturn, 1) := by decide +kernel
theorem dX11_cheapest_0 : decode cX11_cheapest 0 = .ok (.aload_n 0, 1) := by decide +kernel
theorem dX11_cheapest_1 : decode cX11_cheapest 1 = .ok (.iload_n 1, 1) := by decide +kernel
theorem dX11_cheapest_2 : decode cX11_cheapest 2 = .ok (.iload_n 2, 1) := by decide +kernel
theorem dX11_cheapest_3 : decode cX11_cheapest 3 = .ok (.iload_n 3, 1) := by decide +kernel
theorem dX11_cheapest_4 : decode cX11_cheapest 4 = .ok (.iload 4, 2) := by decide +kernel
theorem dX11_cheapest_6 : decode cX11_cheapest 6 = .ok (.iload 5, 2) := by decide +kernel
theorem dX11_cheapest_8 : decode cX11_cheapest 8 = .ok (.iload 6, 2) := by decide +kernel
theorem dX11_cheapest_10 : decode cX11_cheapest 10 = .ok (.invokevirtual 177, 3) := by decide +kernel
theorem dX11_cheapest_13 : decode cX11_cheapest 13 = .ok (.ifCond .ne 5, 3) := by decide +kernel
theorem dX11_cheapest_16 : decode cX11_cheapest 16 = .ok (.iconst (-1), 1) := by decide +kernel
theorem dX11_cheapest_17 : decode cX11_cheapest 17 = .ok (.ireturn, 1) := by decide +kernel
theorem dX11_cheapest_18 : decode cX11_cheapest 18 = .ok (.bipush (-2), 2) := by decide +kernel
theorem dX11_cheapest_20 : decode cX11_cheapest 20 = .ok (.istore 7, 2) := by decide +kernel
theorem dX11_cheapest_22 : decode cX11_cheapest 22 = .ok (.iconst (-1), 1) := by decide +kernel
theorem dX11_cheapest_23 : decode cX11_cheapest 23 = .ok (.istore 8, 2) := by decide +kernel
theorem dX11_cheapest_25 : decode cX11_cheapest 25 = .ok (.iconst 0, 1) := by decide +kernel
theorem dX11_cheapest_26 : decode cX11_cheapest 26 = .ok (.istore 9, 2) := by decide +kernel
theorem dX11_cheapest_28 : decode cX11_cheapest 28 = .ok (.iload 9, 2) := by decide +kernel
theorem dX11_cheapest_30 : decode cX11_cheapest 30 = .ok (.iconst 1, 1) := by decide +kernel
theorem dX11_cheapest_31 : decode cX11_cheapest 31 = .ok (.aload_n 0, 1) := by decide +kernel
theorem dX11_cheapest_32 : decode cX11_cheapest 32 = .ok (.getfield 40, 3) := by decide +kernel
theorem dX11_cheapest_35 : decode cX11_cheapest 35 = .ok (.getfield 191, 3) := by decide +kernel
theorem dX11_cheapest_38 : decode cX11_cheapest 38 = .ok (.ishl, 1) := by decide +kernel
theorem dX11_cheapest_39 : decode cX11_cheapest 39 = .ok (.if_icmp .ge 92, 3) := by decide +kernel
theorem dX11_cheapest_42 : decode cX11_cheapest 42 = .ok (.iload 7, 2) := by decide +kernel
theorem dX11_cheapest_44 : decode cX11_cheapest 44 = .ok (.bipush (-2), 2) := by decide +kernel
theorem dX11_cheapest_46 : decode cX11_cheapest 46 = .ok (.if_icmp .eq 17, 3) := by decide +kernel
theorem dX11_cheapest_49 : decode cX11_cheapest 49 = .ok (.aload_n 0, 1) := by decide +kernel
theorem dX11_cheapest_50 : decode cX11_cheapest 50 = .ok (.getfield 40, 3) := by decide +kernel
theorem dX11_cheapest_53 : decode cX11_cheapest 53 = .ok (.iload 9, 2) := by decide +kernel
theorem dX11_cheapest_55 : decode cX11_cheapest 55 = .ok (.iload 7, 2) := by decide +kernel
theorem dX11_cheapest_57 : decode cX11_cheapest 57 = .ok (.invokevirtual 194, 3) := by decide +kernel
theorem dX11_cheapest_60 : decode cX11_cheapest 60 = .ok (.ifCond .eq 65, 3) := by decide +kernel
theorem dX11_cheapest_63 : decode cX11_cheapest 63 = .ok (.aload_n 0, 1) := by decide +kernel
theorem dX11_cheapest_64 : decode cX11_cheapest 64 = .ok (.getfield 33, 3) := by decide +kernel
theorem dX11_cheapest_67 : decode cX11_cheapest 67 = .ok (.aload_n 0, 1) := by decide +kernel
theorem dX11_cheapest_68 : decode cX11_cheapest 68 = .ok (.getfield 19, 3) := by decide +kernel
theorem dX11_cheapest_71 : decode cX11_cheapest 71 = .ok (.aload_n 0, 1) := by decide +kernel
theorem dX11_cheapest_72 : decode cX11_cheapest 72 = .ok (.getfield 26, 3) := by decide +kernel
theorem dX11_cheapest_75 : decode cX11_cheapest 75 = .ok (.iload_n 1, 1) := by decide +kernel
theorem dX11_cheapest_76 : decode cX11_cheapest 76 = .ok (.invokevirtual 131, 3) := by decide +kernel
theorem dX11_cheapest_79 : decode cX11_cheapest 79 = .ok (.aload_n 0, 1) := by decide +kernel
theorem dX11_cheapest_80 : decode cX11_cheapest 80 = .ok (.getfield 40, 3) := by decide +kernel
theorem dX11_cheapest_83 : decode cX11_cheapest 83 = .ok (.aload_n 0, 1) := by decide +kernel
theorem dX11_cheapest_84 : decode cX11_cheapest 84 = .ok (.getfield 33, 3) := by decide +kernel
theorem dX11_cheapest_87 : decode cX11_cheapest 87 = .ok (.iload 9, 2) := by decide +kernel
theorem dX11_cheapest_89 : decode cX11_cheapest 89 = .ok (.invokevirtual 197, 3) := by decide +kernel
theorem dX11_cheapest_92 : decode cX11_cheapest 92 = .ok (.aload_n 0, 1) := by decide +kernel
theorem dX11_cheapest_93 : decode cX11_cheapest 93 = .ok (.iload_n 2, 1) := by decide +kernel
theorem dX11_cheapest_94 : decode cX11_cheapest 94 = .ok (.iload_n 3, 1) := by decide +kernel
theorem dX11_cheapest_95 : decode cX11_cheapest 95 = .ok (.iload 4, 2) := by decide +kernel
theorem dX11_cheapest_97 : decode cX11_cheapest 97 = .ok (.iload 5, 2) := by decide +kernel
theorem dX11_cheapest_99 : decode cX11_cheapest 99 = .ok (.iload 6, 2) := by decide +kernel
theorem dX11_cheapest_101 : decode cX11_cheapest 101 = .ok (.iload 8, 2) := by decide +kernel
theorem dX11_cheapest_103 : decode cX11_cheapest 103 = .ok (.invokevirtual 201, 3) := by decide +kernel
theorem dX11_cheapest_106 : decode cX11_cheapest 106 = .ok (.istore 10, 2) := by decide +kernel
theorem dX11_cheapest_108 : decode cX11_cheapest 108 = .ok (.iload 10, 2) := by decide +kernel
theorem dX11_cheapest_110 : decode cX11_cheapest 110 = .ok (.iconst (-1), 1) := by decide +kernel
theorem dX11_cheapest_111 : decode cX11_cheapest 111 = .ok (.if_icmp .ne 10, 3) := by decide +kernel
theorem dX11_cheapest_114 : decode cX11_cheapest 114 = .ok (.iload 9, 2) := by decide +kernel
theorem dX11_cheapest_116 : decode cX11_cheapest 116 = .ok (.istore 7, 2) := by decide +kernel
theorem dX11_cheapest_118 : decode cX11_cheapest 118 = .ok (.goto 7, 3) := by decide +kernel
theorem dX11_cheapest_121 : decode cX11_cheapest 121 = .ok (.iload 10, 2) := by decide +kernel
theorem dX11_cheapest_123 : decode cX11_cheapest 123 = .ok (.istore 8, 2) := by decide +kernel
theorem dX11_cheapest_125 : decode cX11_cheapest 125 = .ok (.iinc 9 1, 3) := by decide +kernel
theorem dX11_cheapest_128 : decode cX11_cheapest 128 = .ok (.goto (-100), 3) := by decide +kernel
theorem dX11_cheapest_131 : decode cX11_cheapest 131 = .ok (.iload 7, 2) := by decide +kernel
theorem dX11_cheapest_133 : decode cX11_cheapest 133 = .ok (.ireturn, 1) := by decide +kernel
theorem dX11_unlikePair_0 : decode cX11_unlikePair 0 = .ok (.iload 6, 2) := by decide +kernel
theorem dX11_unlikePair_2 : decode cX11_unlikePair 2 = .ok (.iconst (-1), 1) := by decide +kernel
theorem dX11_unlikePair_3 : decode cX11_unlikePair 3 = .ok (.if_icmp .eq 21, 3) := by decide +kernel
theorem dX11_unlikePair_6 : decode cX11_unlikePair 6 = .ok (.aload_n 0, 1) := by decide +kernel
theorem dX11_unlikePair_7 : decode cX11_unlikePair 7 = .ok (.iload_n 1, 1) := by decide +kernel
theorem dX11_unlikePair_8 : decode cX11_unlikePair 8 = .ok (.iload_n 2, 1) := by decide +kernel
theorem dX11_unlikePair_9 : decode cX11_unlikePair 9 = .ok (.iload 6, 2) := by decide +kernel
theorem dX11_unlikePair_11 : decode cX11_unlikePair 11 = .ok (.iload 4, 2) := by decide +kernel
theorem dX11_unlikePair_13 : decode cX11_unlikePair 13 = .ok (.iload 5, 2) := by decide +kernel
theorem dX11_unlikePair_15 : decode cX11_unlikePair 15 = .ok (.invokevirtual 181, 3) := by decide +kernel
theorem dX11_unlikePair_18 : decode cX11_unlikePair 18 = .ok (.ifCond .eq 6, 3) := by decide +kernel
theorem dX11_unlikePair_21 : decode cX11_unlikePair 21 = .ok (.iload 6, 2) := by decide +kernel
theorem dX11_unlikePair_23 : decode cX11_unlikePair 23 = .ok (.ireturn, 1) := by decide +kernel
theorem dX11_unlikePair_24 : decode cX11_unlikePair 24 = .ok (.iconst 0, 1) := by decide +kernel
theorem dX11_unlikePair_25 : decode cX11_unlikePair 25 = .ok (.istore 7, 2) := by decide +kernel
theorem dX11_unlikePair_27 : decode cX11_unlikePair 27 = .ok (.iload 7, 2) := by decide +kernel
theorem dX11_unlikePair_29 : decode cX11_unlikePair 29 = .ok (.iload_n 3, 1) := by decide +kernel
theorem dX11_unlikePair_30 : decode cX11_unlikePair 30 = .ok (.if_icmp .gt 54, 3) := by decide +kernel
theorem dX11_unlikePair_33 : decode cX11_unlikePair 33 = .ok (.iconst 0, 1) := by decide +kernel
theorem dX11_unlikePair_34 : decode cX11_unlikePair 34 = .ok (.istore 8, 2) := by decide +kernel
theorem dX11_unlikePair_36 : decode cX11_unlikePair 36 = .ok (.iload 8, 2) := by decide +kernel
theorem dX11_unlikePair_38 : decode cX11_unlikePair 38 = .ok (.iload_n 3, 1) := by decide +kernel
theorem dX11_unlikePair_39 : decode cX11_unlikePair 39 = .ok (.if_icmp .gt 39, 3) := by decide +kernel
theorem dX11_unlikePair_42 : decode cX11_unlikePair 42 = .ok (.aload_n 0, 1) := by decide +kernel
theorem dX11_unlikePair_43 : decode cX11_unlikePair 43 = .ok (.iload_n 1, 1) := by decide +kernel
theorem dX11_unlikePair_44 : decode cX11_unlikePair 44 = .ok (.iload_n 2, 1) := by decide +kernel
theorem dX11_unlikePair_45 : decode cX11_unlikePair 45 = .ok (.bipush 16, 2) := by decide +kernel
theorem dX11_unlikePair_47 : decode cX11_unlikePair 47 = .ok (.iload 7, 2) := by decide +kernel
theorem dX11_unlikePair_49 : decode cX11_unlikePair 49 = .ok (.imul, 1) := by decide +kernel
theorem dX11_unlikePair_50 : decode cX11_unlikePair 50 = .ok (.iload 8, 2) := by decide +kernel
theorem dX11_unlikePair_52 : decode cX11_unlikePair 52 = .ok (.iadd, 1) := by decide +kernel
theorem dX11_unlikePair_53 : decode cX11_unlikePair 53 = .ok (.iload 4, 2) := by decide +kernel
theorem dX11_unlikePair_55 : decode cX11_unlikePair 55 = .ok (.iload 5, 2) := by decide +kernel
theorem dX11_unlikePair_57 : decode cX11_unlikePair 57 = .ok (.invokevirtual 181, 3) := by decide +kernel
theorem dX11_unlikePair_60 : decode cX11_unlikePair 60 = .ok (.ifCond .eq 12, 3) := by decide +kernel
theorem dX11_unlikePair_63 : decode cX11_unlikePair 63 = .ok (.bipush 16, 2) := by decide +kernel
theorem dX11_unlikePair_65 : decode cX11_unlikePair 65 = .ok (.iload 7, 2) := by decide +kernel
theorem dX11_unlikePair_67 : decode cX11_unlikePair 67 = .ok (.imul, 1) := by decide +kernel
theorem dX11_unlikePair_68 : decode cX11_unlikePair 68 = .ok (.iload 8, 2) := by decide +kernel
theorem dX11_unlikePair_70 : decode cX11_unlikePair 70 = .ok (.iadd, 1) := by decide +kernel
theorem dX11_unlikePair_71 : decode cX11_unlikePair 71 = .ok (.ireturn, 1) := by decide +kernel
theorem dX11_unlikePair_72 : decode cX11_unlikePair 72 = .ok (.iinc 8 1, 3) := by decide +kernel
theorem dX11_unlikePair_75 : decode cX11_unlikePair 75 = .ok (.goto (-39), 3) := by decide +kernel
theorem dX11_unlikePair_78 : decode cX11_unlikePair 78 = .ok (.iinc 7 1, 3) := by decide +kernel
theorem dX11_unlikePair_81 : decode cX11_unlikePair 81 = .ok (.goto (-54), 3) := by decide +kernel
theorem dX11_unlikePair_84 : decode cX11_unlikePair 84 = .ok (.iconst (-1), 1) := by decide +kernel
theorem dX11_unlikePair_85 : decode cX11_unlikePair 85 = .ok (.ireturn, 1) := by decide +kernel
theorem dX11_isUnlikeAt_0 : decode cX11_isUnlikeAt 0 = .ok (.aload_n 0, 1) := by decide +kernel
theorem dX11_isUnlikeAt_1 : decode cX11_isUnlikeAt 1 = .ok (.iload_n 1, 1) := by decide +kernel
theorem dX11_isUnlikeAt_2 : decode cX11_isUnlikeAt 2 = .ok (.invokevirtual 185, 3) := by decide +kernel
theorem dX11_isUnlikeAt_5 : decode cX11_isUnlikeAt 5 = .ok (.ifCond .eq 11, 3) := by decide +kernel
theorem dX11_isUnlikeAt_8 : decode cX11_isUnlikeAt 8 = .ok (.aload_n 0, 1) := by decide +kernel
theorem dX11_isUnlikeAt_9 : decode cX11_isUnlikeAt 9 = .ok (.iload_n 2, 1) := by decide +kernel
theorem dX11_isUnlikeAt_10 : decode cX11_isUnlikeAt 10 = .ok (.invokevirtual 185, 3) := by decide +kernel
theorem dX11_isUnlikeAt_13 : decode cX11_isUnlikeAt 13 = .ok (.ifCond .ne 5, 3) := by decide +kernel
theorem dX11_isUnlikeAt_16 : decode cX11_isUnlikeAt 16 = .ok (.iconst 0, 1) := by decide +kernel
theorem dX11_isUnlikeAt_17 : decode cX11_isUnlikeAt 17 = .ok (.ireturn, 1) := by decide +kernel
theorem dX11_isUnlikeAt_18 : decode cX11_isUnlikeAt 18 = .ok (.aload_n 0, 1) := by decide +kernel
theorem dX11_isUnlikeAt_19 : decode cX11_isUnlikeAt 19 = .ok (.getfield 33, 3) := by decide +kernel
theorem dX11_isUnlikeAt_22 : decode cX11_isUnlikeAt 22 = .ok (.getfield 205, 3) := by decide +kernel
theorem dX11_isUnlikeAt_25 : decode cX11_isUnlikeAt 25 = .ok (.iload_n 1, 1) := by decide +kernel
theorem dX11_isUnlikeAt_26 : decode cX11_isUnlikeAt 26 = .ok (.iload_n 3, 1) := by decide +kernel
theorem dX11_isUnlikeAt_27 : decode cX11_isUnlikeAt 27 = .ok (.bipush 16, 2) := by decide +kernel
theorem dX11_isUnlikeAt_29 : decode cX11_isUnlikeAt 29 = .ok (.idiv, 1) := by decide +kernel
theorem dX11_isUnlikeAt_30 : decode cX11_isUnlikeAt 30 = .ok (.iastore, 1) := by decide +kernel
theorem dX11_isUnlikeAt_31 : decode cX11_isUnlikeAt 31 = .ok (.aload_n 0, 1) := by decide +kernel
theorem dX11_isUnlikeAt_32 : decode cX11_isUnlikeAt 32 = .ok (.getfield 33, 3) := by decide +kernel
theorem dX11_isUnlikeAt_35 : decode cX11_isUnlikeAt 35 = .ok (.getfield 205, 3) := by decide +kernel
theorem dX11_isUnlikeAt_38 : decode cX11_isUnlikeAt 38 = .ok (.iload_n 2, 1) := by decide +kernel
theorem dX11_isUnlikeAt_39 : decode cX11_isUnlikeAt 39 = .ok (.iload_n 3, 1) := by decide +kernel
theorem dX11_isUnlikeAt_40 : decode cX11_isUnlikeAt 40 = .ok (.bipush 16, 2) := by decide +kernel
theorem dX11_isUnlikeAt_42 : decode cX11_isUnlikeAt 42 = .ok (.irem, 1) := by decide +kernel
theorem dX11_isUnlikeAt_43 : decode cX11_isUnlikeAt 43 = .ok (.iastore, 1) := by decide +kernel
theorem dX11_isUnlikeAt_44 : decode cX11_isUnlikeAt 44 = .ok (.aload_n 0, 1) := by decide +kernel
theorem dX11_isUnlikeAt_45 : decode cX11_isUnlikeAt 45 = .ok (.getfield 33, 3) := by decide +kernel
theorem dX11_isUnlikeAt_48 : decode cX11_isUnlikeAt 48 = .ok (.aload_n 0, 1) := by decide +kernel
theorem dX11_isUnlikeAt_49 : decode cX11_isUnlikeAt 49 = .ok (.getfield 19, 3) := by decide +kernel
theorem dX11_isUnlikeAt_52 : decode cX11_isUnlikeAt 52 = .ok (.sipush 999, 3) := by decide +kernel
theorem dX11_isUnlikeAt_55 : decode cX11_isUnlikeAt 55 = .ok (.iload 4, 2) := by decide +kernel
theorem dX11_isUnlikeAt_57 : decode cX11_isUnlikeAt 57 = .ok (.invokevirtual 135, 3) := by decide +kernel
theorem dX11_isUnlikeAt_60 : decode cX11_isUnlikeAt 60 = .ok (.aload_n 0, 1) := by decide +kernel
theorem dX11_isUnlikeAt_61 : decode cX11_isUnlikeAt 61 = .ok (.getfield 33, 3) := by decide +kernel
theorem dX11_isUnlikeAt_64 : decode cX11_isUnlikeAt 64 = .ok (.aload_n 0, 1) := by decide +kernel
theorem dX11_isUnlikeAt_65 : decode cX11_isUnlikeAt 65 = .ok (.getfield 19, 3) := by decide +kernel
theorem dX11_isUnlikeAt_68 : decode cX11_isUnlikeAt 68 = .ok (.iload 5, 2) := by decide +kernel
theorem dX11_isUnlikeAt_70 : decode cX11_isUnlikeAt 70 = .ok (.invokevirtual 174, 3) := by decide +kernel
theorem dX11_isUnlikeAt_73 : decode cX11_isUnlikeAt 73 = .ok (.ireturn, 1) := by decide +kernel
theorem dX11_canTry_0 : decode cX11_canTry 0 = .ok (.aload_n 0, 1) := by decide +kernel
theorem dX11_canTry_1 : decode cX11_canTry 1 = .ok (.iload_n 1, 1) := by decide +kernel
theorem dX11_canTry_2 : decode cX11_canTry 2 = .ok (.iload_n 2, 1) := by decide +kernel
theorem dX11_canTry_3 : decode cX11_canTry 3 = .ok (.invokevirtual 108, 3) := by decide +kernel
theorem dX11_canTry_6 : decode cX11_canTry 6 = .ok (.ifCond .eq 54, 3) := by decide +kernel
theorem dX11_canTry_9 : decode cX11_canTry 9 = .ok (.aload_n 0, 1) := by decide +kernel
theorem dX11_canTry_10 : decode cX11_canTry 10 = .ok (.iload_n 3, 1) := by decide +kernel
theorem dX11_canTry_11 : decode cX11_canTry 11 = .ok (.invokevirtual 185, 3) := by decide +kernel
theorem dX11_canTry_14 : decode cX11_canTry 14 = .ok (.ifCond .eq 46, 3) := by decide +kernel
theorem dX11_canTry_17 : decode cX11_canTry 17 = .ok (.iload_n 2, 1) := by decide +kernel
theorem dX11_canTry_18 : decode cX11_canTry 18 = .ok (.iload_n 3, 1) := by decide +kernel
theorem dX11_canTry_19 : decode cX11_canTry 19 = .ok (.if_icmp .eq 41, 3) := by decide +kernel
theorem dX11_canTry_22 : decode cX11_canTry 22 = .ok (.iload 4, 2) := by decide +kernel
theorem dX11_canTry_24 : decode cX11_canTry 24 = .ok (.iconst 0, 1) := by decide +kernel
theorem dX11_canTry_25 : decode cX11_canTry 25 = .ok (.bipush 15, 2) := by decide +kernel
theorem dX11_canTry_27 : decode cX11_canTry 27 = .ok (.invokestatic 93, 3) := by decide +kernel
theorem dX11_canTry_30 : decode cX11_canTry 30 = .ok (.ifCond .eq 30, 3) := by decide +kernel
theorem dX11_canTry_33 : decode cX11_canTry 33 = .ok (.iload 5, 2) := by decide +kernel
theorem dX11_canTry_35 : decode cX11_canTry 35 = .ok (.iconst 0, 1) := by decide +kernel
theorem dX11_canTry_36 : decode cX11_canTry 36 = .ok (.sipush 999, 3) := by decide +kernel
theorem dX11_canTry_39 : decode cX11_canTry 39 = .ok (.invokestatic 93, 3) := by decide +kernel
theorem dX11_canTry_42 : decode cX11_canTry 42 = .ok (.ifCond .eq 18, 3) := by decide +kernel
theorem dX11_canTry_45 : decode cX11_canTry 45 = .ok (.iload 6, 2) := by decide +kernel
theorem dX11_canTry_47 : decode cX11_canTry 47 = .ok (.iconst 0, 1) := by decide +kernel
theorem dX11_canTry_48 : decode cX11_canTry 48 = .ok (.bipush 15, 2) := by decide +kernel
theorem dX11_canTry_50 : decode cX11_canTry 50 = .ok (.invokestatic 93, 3) := by decide +kernel
theorem dX11_canTry_53 : decode cX11_canTry 53 = .ok (.ifCond .eq 7, 3) := by decide +kernel
theorem dX11_canTry_56 : decode cX11_canTry 56 = .ok (.iconst 1, 1) := by decide +kernel
theorem dX11_canTry_57 : decode cX11_canTry 57 = .ok (.goto 4, 3) := by decide +kernel
theorem dX11_canTry_60 : decode cX11_canTry 60 = .ok (.iconst 0, 1) := by decide +kernel
theorem dX11_canTry_61 : decode cX11_canTry 61 = .ok (.ireturn, 1) := by decide +kernel
theorem dX11_goes_0 : decode cX11_goes 0 = .ok (.aload_n 0, 1) := by decide +kernel
theorem dX11_goes_1 : decode cX11_goes 1 = .ok (.iload_n 1, 1) := by decide +kernel
theorem dX11_goes_2 : decode cX11_goes 2 = .ok (.invokevirtual 150, 3) := by decide +kernel
theorem dX11_goes_5 : decode cX11_goes 5 = .ok (.ifCond .eq 24, 3) := by decide +kernel
theorem dX11_goes_8 : decode cX11_goes 8 = .ok (.iload_n 2, 1) := by decide +kernel
theorem dX11_goes_9 : decode cX11_goes 9 = .ok (.iconst 1, 1) := by decide +kernel
theorem dX11_goes_10 : decode cX11_goes 10 = .ok (.bipush 99, 2) := by decide +kernel
theorem dX11_goes_12 : decode cX11_goes 12 = .ok (.invokestatic 93, 3) := by decide +kernel
theorem dX11_goes_15 : decode cX11_goes 15 = .ok (.ifCond .eq 14, 3) := by decide +kernel
theorem dX11_goes_18 : decode cX11_goes 18 = .ok (.iload_n 3, 1) := by decide +kernel
theorem dX11_goes_19 : decode cX11_goes 19 = .ok (.iconst 1, 1) := by decide +kernel
theorem dX11_goes_20 : decode cX11_goes 20 = .ok (.sipush 999, 3) := by decide +kernel
theorem dX11_goes_23 : decode cX11_goes 23 = .ok (.invokestatic 93, 3) := by decide +kernel
theorem dX11_goes_26 : decode cX11_goes 26 = .ok (.ifCond .ne 5, 3) := by decide +kernel
theorem dX11_goes_29 : decode cX11_goes 29 = .ok (.iconst (-1), 1) := by decide +kernel
theorem dX11_goes_30 : decode cX11_goes 30 = .ok (.ireturn, 1) := by decide +kernel
theorem dX11_goes_31 : decode cX11_goes 31 = .ok (.aload_n 0, 1) := by decide +kernel
theorem dX11_goes_32 : decode cX11_goes 32 = .ok (.getfield 33, 3) := by decide +kernel
theorem dX11_goes_35 : decode cX11_goes 35 = .ok (.aload_n 0, 1) := by decide +kernel
theorem dX11_goes_36 : decode cX11_goes 36 = .ok (.getfield 19, 3) := by decide +kernel
theorem dX11_goes_39 : decode cX11_goes 39 = .ok (.aload_n 0, 1) := by decide +kernel
theorem dX11_goes_40 : decode cX11_goes 40 = .ok (.getfield 26, 3) := by decide +kernel
theorem dX11_goes_43 : decode cX11_goes 43 = .ok (.iload_n 1, 1) := by decide +kernel
theorem dX11_goes_44 : decode cX11_goes 44 = .ok (.invokevirtual 131, 3) := by decide +kernel
theorem dX11_goes_47 : decode cX11_goes 47 = .ok (.aload_n 0, 1) := by decide +kernel
theorem dX11_goes_48 : decode cX11_goes 48 = .ok (.getfield 33, 3) := by decide +kernel
theorem dX11_goes_51 : decode cX11_goes 51 = .ok (.aload_n 0, 1) := by decide +kernel
theorem dX11_goes_52 : decode cX11_goes 52 = .ok (.getfield 19, 3) := by decide +kernel
theorem dX11_goes_55 : decode cX11_goes 55 = .ok (.iload_n 2, 1) := by decide +kernel
theorem dX11_goes_56 : decode cX11_goes 56 = .ok (.iload_n 3, 1) := by decide +kernel
theorem dX11_goes_57 : decode cX11_goes 57 = .ok (.imul, 1) := by decide +kernel
theorem dX11_goes_58 : decode cX11_goes 58 = .ok (.invokevirtual 206, 3) := by decide +kernel
theorem dX11_goes_61 : decode cX11_goes 61 = .ok (.ireturn, 1) := by decide +kernel
theorem dX11_floor_0 : decode cX11_floor 0 = .ok (.iload_n 1, 1) := by decide +kernel
theorem dX11_floor_1 : decode cX11_floor 1 = .ok (.iconst 0, 1) := by decide +kernel
theorem dX11_floor_2 : decode cX11_floor 2 = .ok (.sipush 400, 3) := by decide +kernel
theorem dX11_floor_5 : decode cX11_floor 5 = .ok (.invokestatic 93, 3) := by decide +kernel
theorem dX11_floor_8 : decode cX11_floor 8 = .ok (.ifCond .eq 17, 3) := by decide +kernel
theorem dX11_floor_11 : decode cX11_floor 11 = .ok (.iload_n 2, 1) := by decide +kernel
theorem dX11_floor_12 : decode cX11_floor 12 = .ok (.iconst 1, 1) := by decide +kernel
theorem dX11_floor_13 : decode cX11_floor 13 = .ok (.bipush 99, 2) := by decide +kernel
theorem dX11_floor_15 : decode cX11_floor 15 = .ok (.invokestatic 93, 3) := by decide +kernel
theorem dX11_floor_18 : decode cX11_floor 18 = .ok (.ifCond .eq 7, 3) := by decide +kernel
theorem dX11_floor_21 : decode cX11_floor 21 = .ok (.iconst 1, 1) := by decide +kernel
theorem dX11_floor_22 : decode cX11_floor 22 = .ok (.goto 4, 3) := by decide +kernel
theorem dX11_floor_25 : decode cX11_floor 25 = .ok (.iconst 0, 1) := by decide +kernel
theorem dX11_floor_26 : decode cX11_floor 26 = .ok (.istore 8, 2) := by decide +kernel
theorem dX11_floor_28 : decode cX11_floor 28 = .ok (.iload_n 3, 1) := by decide +kernel
theorem dX11_floor_29 : decode cX11_floor 29 = .ok (.iconst 0, 1) := by decide +kernel
theorem dX11_floor_30 : decode cX11_floor 30 = .ok (.ldc 210, 2) := by decide +kernel
theorem dX11_floor_32 : decode cX11_floor 32 = .ok (.invokestatic 93, 3) := by decide +kernel
theorem dX11_floor_35 : decode cX11_floor 35 = .ok (.ifCond .eq 30, 3) := by decide +kernel
theorem dX11_floor_38 : decode cX11_floor 38 = .ok (.iload 4, 2) := by decide +kernel
theorem dX11_floor_40 : decode cX11_floor 40 = .ok (.iconst 0, 1) := by decide +kernel
theorem dX11_floor_41 : decode cX11_floor 41 = .ok (.bipush 99, 2) := by decide +kernel
theorem dX11_floor_43 : decode cX11_floor 43 = .ok (.invokestatic 93, 3) := by decide +kernel
theorem dX11_floor_46 : decode cX11_floor 46 = .ok (.ifCond .eq 19, 3) := by decide +kernel
theorem dX11_floor_49 : decode cX11_floor 49 = .ok (.iload 5, 2) := by decide +kernel
theorem dX11_floor_51 : decode cX11_floor 51 = .ok (.iconst 0, 1) := by decide +kernel
theorem dX11_floor_52 : decode cX11_floor 52 = .ok (.sipush 400, 3) := by decide +kernel
theorem dX11_floor_55 : decode cX11_floor 55 = .ok (.invokestatic 93, 3) := by decide +kernel
theorem dX11_floor_58 : decode cX11_floor 58 = .ok (.ifCond .eq 7, 3) := by decide +kernel
theorem dX11_floor_61 : decode cX11_floor 61 = .ok (.iconst 1, 1) := by decide +kernel
theorem dX11_floor_62 : decode cX11_floor 62 = .ok (.goto 4, 3) := by decide +kernel
theorem dX11_floor_65 : decode cX11_floor 65 = .ok (.iconst 0, 1) := by decide +kernel
theorem dX11_floor_66 : decode cX11_floor 66 = .ok (.istore 9, 2) := by decide +kernel
theorem dX11_floor_68 : decode cX11_floor 68 = .ok (.iload 8, 2) := by decide +kernel
theorem dX11_floor_70 : decode cX11_floor 70 = .ok (.ifCond .eq 29, 3) := by decide +kernel
theorem dX11_floor_73 : decode cX11_floor 73 = .ok (.iload 9, 2) := by decide +kernel
theorem dX11_floor_75 : decode cX11_floor 75 = .ok (.ifCond .eq 24, 3) := by decide +kernel
theorem dX11_floor_78 : decode cX11_floor 78 = .ok (.iload 6, 2) := by decide +kernel
theorem dX11_floor_80 : decode cX11_floor 80 = .ok (.iconst 0, 1) := by decide +kernel
theorem dX11_floor_81 : decode cX11_floor 81 = .ok (.bipush 40, 2) := by decide +kernel
theorem dX11_floor_83 : decode cX11_floor 83 = .ok (.invokestatic 93, 3) := by decide +kernel
theorem dX11_floor_86 : decode cX11_floor 86 = .ok (.ifCond .eq 13, 3) := by decide +kernel
theorem dX11_floor_89 : decode cX11_floor 89 = .ok (.iload 7, 2) := by decide +kernel
theorem dX11_floor_91 : decode cX11_floor 91 = .ok (.iconst 0, 1) := by decide +kernel
theorem dX11_floor_92 : decode cX11_floor 92 = .ok (.iconst 1, 1) := by decide +kernel
theorem dX11_floor_93 : decode cX11_floor 93 = .ok (.invokestatic 93, 3) := by decide +kernel
theorem dX11_floor_96 : decode cX11_floor 96 = .ok (.ifCond .ne 5, 3) := by decide +kernel
theorem dX11_floor_99 : decode cX11_floor 99 = .ok (.iconst (-1), 1) := by decide +kernel
theorem dX11_floor_100 : decode cX11_floor 100 = .ok (.ireturn, 1) := by decide +kernel
theorem dX11_floor_101 : decode cX11_floor 101 = .ok (.iload_n 2, 1) := by decide +kernel
theorem dX11_floor_102 : decode cX11_floor 102 = .ok (.iload_n 1, 1) := by decide +kernel
theorem dX11_floor_103 : decode cX11_floor 103 = .ok (.imul, 1) := by decide +kernel
theorem dX11_floor_104 : decode cX11_floor 104 = .ok (.bipush 10, 2) := by decide +kernel
theorem dX11_floor_106 : decode cX11_floor 106 = .ok (.imul, 1) := by decide +kernel
theorem dX11_floor_107 : decode cX11_floor 107 = .ok (.iload_n 3, 1) := by decide +kernel
theorem dX11_floor_108 : decode cX11_floor 108 = .ok (.bipush 50, 2) := by decide +kernel
theorem dX11_floor_110 : decode cX11_floor 110 = .ok (.iload 4, 2) := by decide +kernel
theorem dX11_floor_112 : decode cX11_floor 112 = .ok (.imul, 1) := by decide +kernel
theorem dX11_floor_113 : decode cX11_floor 113 = .ok (.iadd, 1) := by decide +kernel
theorem dX11_floor_114 : decode cX11_floor 114 = .ok (.bipush 20, 2) := by decide +kernel
theorem dX11_floor_116 : decode cX11_floor 116 = .ok (.iload 5, 2) := by decide +kernel
theorem dX11_floor_118 : decode cX11_floor 118 = .ok (.imul, 1) := by decide +kernel
theorem dX11_floor_119 : decode cX11_floor 119 = .ok (.isub, 1) := by decide +kernel
theorem dX11_floor_120 : decode cX11_floor 120 = .ok (.isub, 1) := by decide +kernel
theorem dX11_floor_121 : decode cX11_floor 121 = .ok (.istore 10, 2) := by decide +kernel
theorem dX11_floor_123 : decode cX11_floor 123 = .ok (.iload 10, 2) := by decide +kernel
theorem dX11_floor_125 : decode cX11_floor 125 = .ok (.ifCond .gt 5, 3) := by decide +kernel
theorem dX11_floor_128 : decode cX11_floor 128 = .ok (.iconst 0, 1) := by decide +kernel
theorem dX11_floor_129 : decode cX11_floor 129 = .ok (.ireturn, 1) := by decide +kernel
theorem dX11_floor_130 : decode cX11_floor 130 = .ok (.iload 7, 2) := by decide +kernel
theorem dX11_floor_132 : decode cX11_floor 132 = .ok (.ifCond .ne 7, 3) := by decide +kernel
theorem dX11_floor_135 : decode cX11_floor 135 = .ok (.iconst 1, 1) := by decide +kernel
theorem dX11_floor_136 : decode cX11_floor 136 = .ok (.goto 16, 3) := by decide +kernel
theorem dX11_floor_139 : decode cX11_floor 139 = .ok (.iload 6, 2) := by decide +kernel
theorem dX11_floor_141 : decode cX11_floor 141 = .ok (.iload 10, 2) := by decide +kernel
theorem dX11_floor_143 : decode cX11_floor 143 = .ok (.bipush 99, 2) := by decide +kernel
theorem dX11_floor_145 : decode cX11_floor 145 = .ok (.iadd, 1) := by decide +kernel
theorem dX11_floor_146 : decode cX11_floor 146 = .ok (.bipush 100, 2) := by decide +kernel
theorem dX11_floor_148 : decode cX11_floor 148 = .ok (.idiv, 1) := by decide +kernel
theorem dX11_floor_149 : decode cX11_floor 149 = .ok (.invokestatic 211, 3) := by decide +kernel
theorem dX11_floor_152 : decode cX11_floor 152 = .ok (.ireturn, 1) := by decide +kernel
theorem dX11_feed_0 : decode cX11_feed 0 = .ok (.aload_n 0, 1) := by decide +kernel
theorem dX11_feed_1 : decode cX11_feed 1 = .ok (.getfield 47, 3) := by decide +kernel
theorem dX11_feed_4 : decode cX11_feed 4 = .ok (.getfield 216, 3) := by decide +kernel
theorem dX11_feed_7 : decode cX11_feed 7 = .ok (.astore 6, 2) := by decide +kernel
theorem dX11_feed_9 : decode cX11_feed 9 = .ok (.aload 6, 2) := by decide +kernel
theorem dX11_feed_11 : decode cX11_feed 11 = .ok (.getfield 220, 3) := by decide +kernel
theorem dX11_feed_14 : decode cX11_feed 14 = .ok (.bipush 20, 2) := by decide +kernel
theorem dX11_feed_16 : decode cX11_feed 16 = .ok (.iadd, 1) := by decide +kernel
theorem dX11_feed_17 : decode cX11_feed 17 = .ok (.sipush 400, 3) := by decide +kernel
theorem dX11_feed_20 : decode cX11_feed 20 = .ok (.if_icmp .le 5, 3) := by decide +kernel
theorem dX11_feed_23 : decode cX11_feed 23 = .ok (.iconst (-1), 1) := by decide +kernel
theorem dX11_feed_24 : decode cX11_feed 24 = .ok (.ireturn, 1) := by decide +kernel
theorem dX11_feed_25 : decode cX11_feed 25 = .ok (.aload 6, 2) := by decide +kernel
theorem dX11_feed_27 : decode cX11_feed 27 = .ok (.iload_n 1, 1) := by decide +kernel
theorem dX11_feed_28 : decode cX11_feed 28 = .ok (.invokevirtual 225, 3) := by decide +kernel
theorem dX11_feed_31 : decode cX11_feed 31 = .ok (.aload 6, 2) := by decide +kernel
theorem dX11_feed_33 : decode cX11_feed 33 = .ok (.iload_n 2, 1) := by decide +kernel
theorem dX11_feed_34 : decode cX11_feed 34 = .ok (.invokevirtual 225, 3) := by decide +kernel
theorem dX11_feed_37 : decode cX11_feed 37 = .ok (.aload 6, 2) := by decide +kernel
theorem dX11_feed_39 : decode cX11_feed 39 = .ok (.iload_n 3, 1) := by decide +kernel
theorem dX11_feed_40 : decode cX11_feed 40 = .ok (.invokevirtual 225, 3) := by decide +kernel
theorem dX11_feed_43 : decode cX11_feed 43 = .ok (.aload 6, 2) := by decide +kernel
theorem dX11_feed_45 : decode cX11_feed 45 = .ok (.iload 4, 2) := by decide +kernel
theorem dX11_feed_47 : decode cX11_feed 47 = .ok (.invokevirtual 225, 3) := by decide +kernel
theorem dX11_feed_50 : decode cX11_feed 50 = .ok (.aload 6, 2) := by decide +kernel
theorem dX11_feed_52 : decode cX11_feed 52 = .ok (.iload 5, 2) := by decide +kernel
theorem dX11_feed_54 : decode cX11_feed 54 = .ok (.invokevirtual 225, 3) := by decide +kernel
theorem dX11_feed_57 : decode cX11_feed 57 = .ok (.aload 6, 2) := by decide +kernel
theorem dX11_feed_59 : decode cX11_feed 59 = .ok (.getfield 220, 3) := by decide +kernel
theorem dX11_feed_62 : decode cX11_feed 62 = .ok (.ireturn, 1) := by decide +kernel
theorem dX11_end_0 : decode cX11_end 0 = .ok (.iload_n 1, 1) := by decide +kernel
theorem dX11_end_1 : decode cX11_end 1 = .ok (.iconst 0, 1) := by decide +kernel
theorem dX11_end_2 : decode cX11_end 2 = .ok (.aload_n 0, 1) := by decide +kernel
theorem dX11_end_3 : decode cX11_end 3 = .ok (.getfield 47, 3) := by decide +kernel
theorem dX11_end_6 : decode cX11_end 6 = .ok (.getfield 216, 3) := by decide +kernel
theorem dX11_end_9 : decode cX11_end 9 = .ok (.getfield 220, 3) := by decide +kernel
theorem dX11_end_12 : decode cX11_end 12 = .ok (.invokestatic 93, 3) := by decide +kernel
theorem dX11_end_15 : decode cX11_end 15 = .ok (.ifCond .ne 5, 3) := by decide +kernel
theorem dX11_end_18 : decode cX11_end 18 = .ok (.iconst (-1), 1) := by decide +kernel
theorem dX11_end_19 : decode cX11_end 19 = .ok (.ireturn, 1) := by decide +kernel
theorem dX11_end_20 : decode cX11_end 20 = .ok (.aload_n 0, 1) := by decide +kernel
theorem dX11_end_21 : decode cX11_end 21 = .ok (.getfield 47, 3) := by decide +kernel
theorem dX11_end_24 : decode cX11_end 24 = .ok (.getfield 216, 3) := by decide +kernel
theorem dX11_end_27 : decode cX11_end 27 = .ok (.iload_n 1, 1) := by decide +kernel
theorem dX11_end_28 : decode cX11_end 28 = .ok (.putfield 220, 3) := by decide +kernel
theorem dX11_end_31 : decode cX11_end 31 = .ok (.iload_n 1, 1) := by decide +kernel
theorem dX11_end_32 : decode cX11_end 32 = .ok (.ireturn, 1) := by decide +kernel
theorem dX11_order_0 : decode cX11_order 0 = .ok (.aload_n 0, 1) := by decide +kernel
theorem dX11_order_1 : decode cX11_order 1 = .ok (.getfield 13, 3) := by decide +kernel
theorem dX11_order_4 : decode cX11_order 4 = .ok (.bipush 12, 2) := by decide +kernel
theorem dX11_order_6 : decode cX11_order 6 = .ok (.if_icmp .ge 26, 3) := by decide +kernel
theorem dX11_order_9 : decode cX11_order 9 = .ok (.iload_n 1, 1) := by decide +kernel
theorem dX11_order_10 : decode cX11_order 10 = .ok (.iconst 0, 1) := by decide +kernel
theorem dX11_order_11 : decode cX11_order 11 = .ok (.iconst 2, 1) := by decide +kernel
theorem dX11_order_12 : decode cX11_order 12 = .ok (.invokestatic 93, 3) := by decide +kernel
theorem dX11_order_15 : decode cX11_order 15 = .ok (.ifCond .eq 17, 3) := by decide +kernel
theorem dX11_order_18 : decode cX11_order 18 = .ok (.iload_n 2, 1) := by decide +kernel
theorem dX11_order_19 : decode cX11_order 19 = .ok (.aload_n 0, 1) := by decide +kernel
theorem dX11_order_20 : decode cX11_order 20 = .ok (.getfield 7, 3) := by decide +kernel
theorem dX11_order_23 : decode cX11_order 23 = .ok (.sipush 9999, 3) := by decide +kernel
theorem dX11_order_26 : decode cX11_order 26 = .ok (.invokestatic 93, 3) := by decide +kernel
theorem dX11_order_29 : decode cX11_order 29 = .ok (.ifCond .ne 5, 3) := by decide +kernel
theorem dX11_order_32 : decode cX11_order 32 = .ok (.iconst (-1), 1) := by decide +kernel
theorem dX11_order_33 : decode cX11_order 33 = .ok (.ireturn, 1) := by decide +kernel
theorem dX11_order_34 : decode cX11_order 34 = .ok (.aload_n 0, 1) := by decide +kernel
theorem dX11_order_35 : decode cX11_order 35 = .ok (.getfield 47, 3) := by decide +kernel
theorem dX11_order_38 : decode cX11_order 38 = .ok (.invokevirtual 228, 3) := by decide +kernel
theorem dX11_order_41 : decode cX11_order 41 = .ok (.istore_n 3, 1) := by decide +kernel
theorem dX11_order_42 : decode cX11_order 42 = .ok (.aload_n 0, 1) := by decide +kernel
theorem dX11_order_43 : decode cX11_order 43 = .ok (.getfield 47, 3) := by decide +kernel
theorem dX11_order_46 : decode cX11_order 46 = .ok (.getfield 216, 3) := by decide +kernel
theorem dX11_order_49 : decode cX11_order 49 = .ok (.iconst 0, 1) := by decide +kernel
theorem dX11_order_50 : decode cX11_order 50 = .ok (.putfield 220, 3) := by decide +kernel
theorem dX11_order_53 : decode cX11_order 53 = .ok (.iload_n 3, 1) := by decide +kernel
theorem dX11_order_54 : decode cX11_order 54 = .ok (.ifCond .eq 8, 3) := by decide +kernel
theorem dX11_order_57 : decode cX11_order 57 = .ok (.bipush (-2), 2) := by decide +kernel
theorem dX11_order_59 : decode cX11_order 59 = .ok (.iload_n 3, 1) := by decide +kernel
theorem dX11_order_60 : decode cX11_order 60 = .ok (.isub, 1) := by decide +kernel
theorem dX11_order_61 : decode cX11_order 61 = .ok (.ireturn, 1) := by decide +kernel
theorem dX11_order_62 : decode cX11_order 62 = .ok (.aload_n 0, 1) := by decide +kernel
theorem dX11_order_63 : decode cX11_order 63 = .ok (.getfield 47, 3) := by decide +kernel
theorem dX11_order_66 : decode cX11_order 66 = .ok (.invokevirtual 231, 3) := by decide +kernel
theorem dX11_order_69 : decode cX11_order 69 = .ok (.astore 4, 2) := by decide +kernel
theorem dX11_order_71 : decode cX11_order 71 = .ok (.aload 4, 2) := by decide +kernel
theorem dX11_order_73 : decode cX11_order 73 = .ok (.iload_n 1, 1) := by decide +kernel
theorem dX11_order_74 : decode cX11_order 74 = .ok (.putfield 235, 3) := by decide +kernel
theorem dX11_order_77 : decode cX11_order 77 = .ok (.aload 4, 2) := by decide +kernel
theorem dX11_order_79 : decode cX11_order 79 = .ok (.iload_n 2, 1) := by decide +kernel
theorem dX11_order_80 : decode cX11_order 80 = .ok (.putfield 237, 3) := by decide +kernel
theorem dX11_order_83 : decode cX11_order 83 = .ok (.aload_n 0, 1) := by decide +kernel
theorem dX11_order_84 : decode cX11_order 84 = .ok (.getfield 53, 3) := by decide +kernel
theorem dX11_order_87 : decode cX11_order 87 = .ok (.aload_n 0, 1) := by decide +kernel
theorem dX11_order_88 : decode cX11_order 88 = .ok (.getfield 13, 3) := by decide +kernel
theorem dX11_order_91 : decode cX11_order 91 = .ok (.aload 4, 2) := by decide +kernel
theorem dX11_order_93 : decode cX11_order 93 = .ok (.aastore, 1) := by decide +kernel
theorem dX11_order_94 : decode cX11_order 94 = .ok (.aload_n 0, 1) := by decide +kernel
theorem dX11_order_95 : decode cX11_order 95 = .ok (.dup, 1) := by decide +kernel
theorem dX11_order_96 : decode cX11_order 96 = .ok (.getfield 13, 3) := by decide +kernel
theorem dX11_order_99 : decode cX11_order 99 = .ok (.iconst 1, 1) := by decide +kernel
theorem dX11_order_100 : decode cX11_order 100 = .ok (.iadd, 1) := by decide +kernel
theorem dX11_order_101 : decode cX11_order 101 = .ok (.putfield 13, 3) := by decide +kernel
theorem dX11_order_104 : decode cX11_order 104 = .ok (.aload_n 0, 1) := by decide +kernel
theorem dX11_order_105 : decode cX11_order 105 = .ok (.getfield 13, 3) := by decide +kernel
theorem dX11_order_108 : decode cX11_order 108 = .ok (.iconst 1, 1) := by decide +kernel
theorem dX11_order_109 : decode cX11_order 109 = .ok (.isub, 1) := by decide +kernel
theorem dX11_order_110 : decode cX11_order 110 = .ok (.ireturn, 1) := by decide +kernel
theorem dX11_takes_0 : decode cX11_takes 0 = .ok (.aload_n 0, 1) := by decide +kernel
theorem dX11_takes_1 : decode cX11_takes 1 = .ok (.iload_n 1, 1) := by decide +kernel
theorem dX11_takes_2 : decode cX11_takes 2 = .ok (.invokevirtual 150, 3) := by decide +kernel
theorem dX11_takes_5 : decode cX11_takes 5 = .ok (.ifCond .eq 17, 3) := by decide +kernel
theorem dX11_takes_8 : decode cX11_takes 8 = .ok (.iload_n 2, 1) := by decide +kernel
theorem dX11_takes_9 : decode cX11_takes 9 = .ok (.iconst 0, 1) := by decide +kernel
theorem dX11_takes_10 : decode cX11_takes 10 = .ok (.aload_n 0, 1) := by decide +kernel
theorem dX11_takes_11 : decode cX11_takes 11 = .ok (.getfield 13, 3) := by decide +kernel
theorem dX11_takes_14 : decode cX11_takes 14 = .ok (.iconst 1, 1) := by decide +kernel
theorem dX11_takes_15 : decode cX11_takes 15 = .ok (.isub, 1) := by decide +kernel
theorem dX11_takes_16 : decode cX11_takes 16 = .ok (.invokestatic 93, 3) := by decide +kernel
theorem dX11_takes_19 : decode cX11_takes 19 = .ok (.ifCond .ne 5, 3) := by decide +kernel
theorem dX11_takes_22 : decode cX11_takes 22 = .ok (.iconst 0, 1) := by decide +kernel
theorem dX11_takes_23 : decode cX11_takes 23 = .ok (.ireturn, 1) := by decide +kernel
theorem dX11_takes_24 : decode cX11_takes 24 = .ok (.aload_n 0, 1) := by decide +kernel
theorem dX11_takes_25 : decode cX11_takes 25 = .ok (.getfield 53, 3) := by decide +kernel
theorem dX11_takes_28 : decode cX11_takes 28 = .ok (.iload_n 2, 1) := by decide +kernel
theorem dX11_takes_29 : decode cX11_takes 29 = .ok (.aaload, 1) := by decide +kernel
theorem dX11_takes_30 : decode cX11_takes 30 = .ok (.astore 4, 2) := by decide +kernel
theorem dX11_takes_32 : decode cX11_takes 32 = .ok (.aload 4, 2) := by decide +kernel
theorem dX11_takes_34 : decode cX11_takes 34 = .ok (.ifnull 25, 3) := by decide +kernel
theorem dX11_takes_37 : decode cX11_takes 37 = .ok (.aload 4, 2) := by decide +kernel
theorem dX11_takes_39 : decode cX11_takes 39 = .ok (.getfield 235, 3) := by decide +kernel
theorem dX11_takes_42 : decode cX11_takes 42 = .ok (.iconst 1, 1) := by decide +kernel
theorem dX11_takes_43 : decode cX11_takes 43 = .ok (.if_icmp .ne 16, 3) := by decide +kernel
theorem dX11_takes_46 : decode cX11_takes 46 = .ok (.aload_n 0, 1) := by decide +kernel
theorem dX11_takes_47 : decode cX11_takes 47 = .ok (.getfield 26, 3) := by decide +kernel
theorem dX11_takes_50 : decode cX11_takes 50 = .ok (.iload_n 1, 1) := by decide +kernel
theorem dX11_takes_51 : decode cX11_takes 51 = .ok (.iload_n 2, 1) := by decide +kernel
theorem dX11_takes_52 : decode cX11_takes 52 = .ok (.invokevirtual 240, 3) := by decide +kernel
theorem dX11_takes_55 : decode cX11_takes 55 = .ok (.iload_n 3, 1) := by decide +kernel
theorem dX11_takes_56 : decode cX11_takes 56 = .ok (.if_icmp .ne 5, 3) := by decide +kernel
theorem dX11_takes_59 : decode cX11_takes 59 = .ok (.iconst 0, 1) := by decide +kernel
theorem dX11_takes_60 : decode cX11_takes 60 = .ok (.ireturn, 1) := by decide +kernel
theorem dX11_takes_61 : decode cX11_takes 61 = .ok (.aload_n 0, 1) := by decide +kernel
theorem dX11_takes_62 : decode cX11_takes 62 = .ok (.getfield 26, 3) := by decide +kernel
theorem dX11_takes_65 : decode cX11_takes 65 = .ok (.getfield 243, 3) := by decide +kernel
theorem dX11_takes_68 : decode cX11_takes 68 = .ok (.iload_n 1, 1) := by decide +kernel
theorem dX11_takes_69 : decode cX11_takes 69 = .ok (.dup2, 1) := by decide +kernel
theorem dX11_takes_70 : decode cX11_takes 70 = .ok (.iaload, 1) := by decide +kernel
theorem dX11_takes_71 : decode cX11_takes 71 = .ok (.iconst 1, 1) := by decide +kernel
theorem dX11_takes_72 : decode cX11_takes 72 = .ok (.iload_n 2, 1) := by decide +kernel
theorem dX11_takes_73 : decode cX11_takes 73 = .ok (.ishl, 1) := by decide +kernel
theorem dX11_takes_74 : decode cX11_takes 74 = .ok (.ixor, 1) := by decide +kernel
theorem dX11_takes_75 : decode cX11_takes 75 = .ok (.iastore, 1) := by decide +kernel
theorem dX11_takes_76 : decode cX11_takes 76 = .ok (.iconst 1, 1) := by decide +kernel
theorem dX11_takes_77 : decode cX11_takes 77 = .ok (.ireturn, 1) := by decide +kernel
theorem dX11_bound_0 : decode cX11_bound 0 = .ok (.aload_n 0, 1) := by decide +kernel
theorem dX11_bound_1 : decode cX11_bound 1 = .ok (.iload_n 1, 1) := by decide +kernel
theorem dX11_bound_2 : decode cX11_bound 2 = .ok (.invokevirtual 150, 3) := by decide +kernel
theorem dX11_bound_5 : decode cX11_bound 5 = .ok (.ifCond .ne 5, 3) := by decide +kernel
theorem dX11_bound_8 : decode cX11_bound 8 = .ok (.iconst (-1), 1) := by decide +kernel
theorem dX11_bound_9 : decode cX11_bound 9 = .ok (.ireturn, 1) := by decide +kernel
theorem dX11_bound_10 : decode cX11_bound 10 = .ok (.aload_n 0, 1) := by decide +kernel
theorem dX11_bound_11 : decode cX11_bound 11 = .ok (.iload_n 1, 1) := by decide +kernel
theorem dX11_bound_12 : decode cX11_bound 12 = .ok (.invokevirtual 246, 3) := by decide +kernel
theorem dX11_bound_15 : decode cX11_bound 15 = .ok (.iload_n 2, 1) := by decide +kernel
theorem dX11_bound_16 : decode cX11_bound 16 = .ok (.tableswitch 97 0 4 #[36, 44, 52, 60, 68], 36) := by decide +kernel
theorem dX11_bound_52 : decode cX11_bound 52 = .ok (.aload_n 0, 1) := by decide +kernel
theorem dX11_bound_53 : decode cX11_bound 53 = .ok (.getfield 60, 3) := by decide +kernel
theorem dX11_bound_56 : decode cX11_bound 56 = .ok (.getfield 249, 3) := by decide +kernel
theorem dX11_bound_59 : decode cX11_bound 59 = .ok (.ireturn, 1) := by decide +kernel
theorem dX11_bound_60 : decode cX11_bound 60 = .ok (.aload_n 0, 1) := by decide +kernel
theorem dX11_bound_61 : decode cX11_bound 61 = .ok (.getfield 60, 3) := by decide +kernel
theorem dX11_bound_64 : decode cX11_bound 64 = .ok (.getfield 252, 3) := by decide +kernel
theorem dX11_bound_67 : decode cX11_bound 67 = .ok (.ireturn, 1) := by decide +kernel
theorem dX11_bound_68 : decode cX11_bound 68 = .ok (.aload_n 0, 1) := by decide +kernel
theorem dX11_bound_69 : decode cX11_bound 69 = .ok (.getfield 60, 3) := by decide +kernel
theorem dX11_bound_72 : decode cX11_bound 72 = .ok (.invokevirtual 255, 3) := by decide +kernel
theorem dX11_bound_75 : decode cX11_bound 75 = .ok (.ireturn, 1) := by decide +kernel
theorem dX11_bound_76 : decode cX11_bound 76 = .ok (.aload_n 0, 1) := by decide +kernel
theorem dX11_bound_77 : decode cX11_bound 77 = .ok (.getfield 60, 3) := by decide +kernel
theorem dX11_bound_80 : decode cX11_bound 80 = .ok (.getfield 258, 3) := by decide +kernel
theorem dX11_bound_83 : decode cX11_bound 83 = .ok (.ireturn, 1) := by decide +kernel
theorem dX11_bound_84 : decode cX11_bound 84 = .ok (.aload_n 0, 1) := by decide +kernel
theorem dX11_bound_85 : decode cX11_bound 85 = .ok (.getfield 60, 3) := by decide +kernel
theorem dX11_bound_88 : decode cX11_bound 88 = .ok (.getfield 261, 3) := by decide +kernel
theorem dX11_bound_91 : decode cX11_bound 91 = .ok (.ifCond .ne 13, 3) := by decide +kernel
theorem dX11_bound_94 : decode cX11_bound 94 = .ok (.aload_n 0, 1) := by decide +kernel
theorem dX11_bound_95 : decode cX11_bound 95 = .ok (.getfield 60, 3) := by decide +kernel
theorem dX11_bound_98 : decode cX11_bound 98 = .ok (.getfield 252, 3) := by decide +kernel
theorem dX11_bound_101 : decode cX11_bound 101 = .ok (.ifCond .eq 7, 3) := by decide +kernel
theorem dX11_bound_104 : decode cX11_bound 104 = .ok (.iconst 1, 1) := by decide +kernel
theorem dX11_bound_105 : decode cX11_bound 105 = .ok (.goto 4, 3) := by decide +kernel
theorem dX11_bound_108 : decode cX11_bound 108 = .ok (.iconst 0, 1) := by decide +kernel
theorem dX11_bound_109 : decode cX11_bound 109 = .ok (.invokestatic 163, 3) := by decide +kernel
theorem dX11_bound_112 : decode cX11_bound 112 = .ok (.ireturn, 1) := by decide +kernel
theorem dX11_bound_113 : decode cX11_bound 113 = .ok (.iconst (-1), 1) := by decide +kernel
theorem dX11_bound_114 : decode cX11_bound 114 = .ok (.ireturn, 1) := by decide +kernel
theorem dX11_gatherBinding_0 : decode cX11_gatherBinding 0 = .ok (.aload_n 0, 1) := by decide +kernel
theorem dX11_gatherBinding_1 : decode cX11_gatherBinding 1 = .ok (.getfield 60, 3) := by decide +kernel
theorem dX11_gatherBinding_4 : decode cX11_gatherBinding 4 = .ok (.aload_n 0, 1) := by decide +kernel
theorem dX11_gatherBinding_5 : decode cX11_gatherBinding 5 = .ok (.getfield 7, 3) := by decide +kernel
theorem dX11_gatherBinding_8 : decode cX11_gatherBinding 8 = .ok (.iload_n 1, 1) := by decide +kernel
theorem dX11_gatherBinding_9 : decode cX11_gatherBinding 9 = .ok (.aload_n 0, 1) := by decide +kernel
theorem dX11_gatherBinding_10 : decode cX11_gatherBinding 10 = .ok (.getfield 67, 3) := by decide +kernel
theorem dX11_gatherBinding_13 : decode cX11_gatherBinding 13 = .ok (.iload_n 1, 1) := by decide +kernel
theorem dX11_gatherBinding_14 : decode cX11_gatherBinding 14 = .ok (.invokevirtual 265, 3) := by decide +kernel
theorem dX11_gatherBinding_17 : decode cX11_gatherBinding 17 = .ok (.invokevirtual 269, 3) := by decide +kernel
theorem dX11_gatherBinding_20 : decode cX11_gatherBinding 20 = .ok (.aload_n 0, 1) := by decide +kernel
theorem dX11_gatherBinding_21 : decode cX11_gatherBinding 21 = .ok (.getfield 60, 3) := by decide +kernel
theorem dX11_gatherBinding_24 : decode cX11_gatherBinding 24 = .ok (.aload_n 0, 1) := by decide +kernel
theorem dX11_gatherBinding_25 : decode cX11_gatherBinding 25 = .ok (.getfield 26, 3) := by decide +kernel
theorem dX11_gatherBinding_28 : decode cX11_gatherBinding 28 = .ok (.iload_n 1, 1) := by decide +kernel
theorem dX11_gatherBinding_29 : decode cX11_gatherBinding 29 = .ok (.invokevirtual 273, 3) := by decide +kernel
theorem dX11_gatherBinding_32 : decode cX11_gatherBinding 32 = .ok (.iconst 0, 1) := by decide +kernel
theorem dX11_gatherBinding_33 : decode cX11_gatherBinding 33 = .ok (.istore_n 2, 1) := by decide +kernel
theorem dX11_gatherBinding_34 : decode cX11_gatherBinding 34 = .ok (.iload_n 2, 1) := by decide +kernel
theorem dX11_gatherBinding_35 : decode cX11_gatherBinding 35 = .ok (.aload_n 0, 1) := by decide +kernel
theorem dX11_gatherBinding_36 : decode cX11_gatherBinding 36 = .ok (.getfield 13, 3) := by decide +kernel
theorem dX11_gatherBinding_39 : decode cX11_gatherBinding 39 = .ok (.if_icmp .ge 75, 3) := by decide +kernel
theorem dX11_gatherBinding_42 : decode cX11_gatherBinding 42 = .ok (.aload_n 0, 1) := by decide +kernel
theorem dX11_gatherBinding_43 : decode cX11_gatherBinding 43 = .ok (.getfield 53, 3) := by decide +kernel
theorem dX11_gatherBinding_46 : decode cX11_gatherBinding 46 = .ok (.iload_n 2, 1) := by decide +kernel
theorem dX11_gatherBinding_47 : decode cX11_gatherBinding 47 = .ok (.aaload, 1) := by decide +kernel
theorem dX11_gatherBinding_48 : decode cX11_gatherBinding 48 = .ok (.astore_n 3, 1) := by decide +kernel
theorem dX11_gatherBinding_49 : decode cX11_gatherBinding 49 = .ok (.aload_n 3, 1) := by decide +kernel
theorem dX11_gatherBinding_50 : decode cX11_gatherBinding 50 = .ok (.ifnull 58, 3) := by decide +kernel
theorem dX11_gatherBinding_53 : decode cX11_gatherBinding 53 = .ok (.aload_n 3, 1) := by decide +kernel
theorem dX11_gatherBinding_54 : decode cX11_gatherBinding 54 = .ok (.getfield 237, 3) := by decide +kernel
theorem dX11_gatherBinding_57 : decode cX11_gatherBinding 57 = .ok (.aload_n 0, 1) := by decide +kernel
theorem dX11_gatherBinding_58 : decode cX11_gatherBinding 58 = .ok (.getfield 7, 3) := by decide +kernel
theorem dX11_gatherBinding_61 : decode cX11_gatherBinding 61 = .ok (.if_icmp .gt 47, 3) := by decide +kernel
theorem dX11_gatherBinding_64 : decode cX11_gatherBinding 64 = .ok (.aload_n 3, 1) := by decide +kernel
theorem dX11_gatherBinding_65 : decode cX11_gatherBinding 65 = .ok (.getfield 235, 3) := by decide +kernel
theorem dX11_gatherBinding_68 : decode cX11_gatherBinding 68 = .ok (.ifCond .eq 23, 3) := by decide +kernel
theorem dX11_gatherBinding_71 : decode cX11_gatherBinding 71 = .ok (.aload_n 3, 1) := by decide +kernel
theorem dX11_gatherBinding_72 : decode cX11_gatherBinding 72 = .ok (.getfield 235, 3) := by decide +kernel
theorem dX11_gatherBinding_75 : decode cX11_gatherBinding 75 = .ok (.iconst 1, 1) := by decide +kernel
theorem dX11_gatherBinding_76 : decode cX11_gatherBinding 76 = .ok (.if_icmp .ne 32, 3) := by decide +kernel
theorem dX11_gatherBinding_79 : decode cX11_gatherBinding 79 = .ok (.aload_n 0, 1) := by decide +kernel
theorem dX11_gatherBinding_80 : decode cX11_gatherBinding 80 = .ok (.getfield 26, 3) := by decide +kernel
theorem dX11_gatherBinding_83 : decode cX11_gatherBinding 83 = .ok (.iload_n 1, 1) := by decide +kernel
theorem dX11_gatherBinding_84 : decode cX11_gatherBinding 84 = .ok (.iload_n 2, 1) := by decide +kernel
theorem dX11_gatherBinding_85 : decode cX11_gatherBinding 85 = .ok (.invokevirtual 240, 3) := by decide +kernel
theorem dX11_gatherBinding_88 : decode cX11_gatherBinding 88 = .ok (.ifCond .eq 20, 3) := by decide +kernel
theorem dX11_gatherBinding_91 : decode cX11_gatherBinding 91 = .ok (.aload_n 0, 1) := by decide +kernel
theorem dX11_gatherBinding_92 : decode cX11_gatherBinding 92 = .ok (.getfield 60, 3) := by decide +kernel
theorem dX11_gatherBinding_95 : decode cX11_gatherBinding 95 = .ok (.aload_n 3, 1) := by decide +kernel
theorem dX11_gatherBinding_96 : decode cX11_gatherBinding 96 = .ok (.aload_n 0, 1) := by decide +kernel
theorem dX11_gatherBinding_97 : decode cX11_gatherBinding 97 = .ok (.getfield 7, 3) := by decide +kernel
theorem dX11_gatherBinding_100 : decode cX11_gatherBinding 100 = .ok (.aload_n 3, 1) := by decide +kernel
theorem dX11_gatherBinding_101 : decode cX11_gatherBinding 101 = .ok (.getfield 237, 3) := by decide +kernel
theorem dX11_gatherBinding_104 : decode cX11_gatherBinding 104 = .ok (.isub, 1) := by decide +kernel
theorem dX11_gatherBinding_105 : decode cX11_gatherBinding 105 = .ok (.invokevirtual 276, 3) := by decide +kernel
theorem dX11_gatherBinding_108 : decode cX11_gatherBinding 108 = .ok (.iinc 2 1, 3) := by decide +kernel
theorem dX11_gatherBinding_111 : decode cX11_gatherBinding 111 = .ok (.goto (-77), 3) := by decide +kernel
theorem dX11_gatherBinding_114 : decode cX11_gatherBinding 114 = .ok (.return_, 1) := by decide +kernel
theorem dX11_stamp_0 : decode cX11_stamp 0 = .ok (.aload_n 0, 1) := by decide +kernel
theorem dX11_stamp_1 : decode cX11_stamp 1 = .ok (.iload_n 1, 1) := by decide +kernel
theorem dX11_stamp_2 : decode cX11_stamp 2 = .ok (.iload_n 2, 1) := by decide +kernel
theorem dX11_stamp_3 : decode cX11_stamp 3 = .ok (.iload 4, 2) := by decide +kernel
theorem dX11_stamp_5 : decode cX11_stamp 5 = .ok (.invokevirtual 280, 3) := by decide +kernel
theorem dX11_stamp_8 : decode cX11_stamp 8 = .ok (.ifCond .eq 26, 3) := by decide +kernel
theorem dX11_stamp_11 : decode cX11_stamp 11 = .ok (.iload_n 3, 1) := by decide +kernel
theorem dX11_stamp_12 : decode cX11_stamp 12 = .ok (.iconst 0, 1) := by decide +kernel
theorem dX11_stamp_13 : decode cX11_stamp 13 = .ok (.bipush 15, 2) := by decide +kernel
theorem dX11_stamp_15 : decode cX11_stamp 15 = .ok (.invokestatic 93, 3) := by decide +kernel
theorem dX11_stamp_18 : decode cX11_stamp 18 = .ok (.ifCond .eq 16, 3) := by decide +kernel
theorem dX11_stamp_21 : decode cX11_stamp 21 = .ok (.aload_n 0, 1) := by decide +kernel
theorem dX11_stamp_22 : decode cX11_stamp 22 = .ok (.getfield 67, 3) := by decide +kernel
theorem dX11_stamp_25 : decode cX11_stamp 25 = .ok (.getfield 283, 3) := by decide +kernel
theorem dX11_stamp_28 : decode cX11_stamp 28 = .ok (.sipush 200, 3) := by decide +kernel
theorem dX11_stamp_31 : decode cX11_stamp 31 = .ok (.if_icmp .lt 5, 3) := by decide +kernel
theorem dX11_stamp_34 : decode cX11_stamp 34 = .ok (.iconst (-1), 1) := by decide +kernel
theorem dX11_stamp_35 : decode cX11_stamp 35 = .ok (.ireturn, 1) := by decide +kernel
theorem dX11_stamp_36 : decode cX11_stamp 36 = .ok (.aload_n 0, 1) := by decide +kernel
theorem dX11_stamp_37 : decode cX11_stamp 37 = .ok (.getfield 67, 3) := by decide +kernel
theorem dX11_stamp_40 : decode cX11_stamp 40 = .ok (.iload_n 1, 1) := by decide +kernel
theorem dX11_stamp_41 : decode cX11_stamp 41 = .ok (.bipush 10, 2) := by decide +kernel
theorem dX11_stamp_43 : decode cX11_stamp 43 = .ok (.imul, 1) := by decide +kernel
theorem dX11_stamp_44 : decode cX11_stamp 44 = .ok (.iload_n 2, 1) := by decide +kernel
theorem dX11_stamp_45 : decode cX11_stamp 45 = .ok (.iadd, 1) := by decide +kernel
theorem dX11_stamp_46 : decode cX11_stamp 46 = .ok (.iload_n 3, 1) := by decide +kernel
theorem dX11_stamp_47 : decode cX11_stamp 47 = .ok (.iload 4, 2) := by decide +kernel
theorem dX11_stamp_49 : decode cX11_stamp 49 = .ok (.invokevirtual 284, 3) := by decide +kernel
theorem dX11_stamp_52 : decode cX11_stamp 52 = .ok (.ireturn, 1) := by decide +kernel
theorem dX11_see_0 : decode cX11_see 0 = .ok (.aload_n 0, 1) := by decide +kernel
theorem dX11_see_1 : decode cX11_see 1 = .ok (.iload_n 1, 1) := by decide +kernel
theorem dX11_see_2 : decode cX11_see 2 = .ok (.iload_n 2, 1) := by decide +kernel
theorem dX11_see_3 : decode cX11_see 3 = .ok (.iload_n 3, 1) := by decide +kernel
theorem dX11_see_4 : decode cX11_see 4 = .ok (.invokevirtual 280, 3) := by decide +kernel
theorem dX11_see_7 : decode cX11_see 7 = .ok (.ifCond .eq 15, 3) := by decide +kernel
theorem dX11_see_10 : decode cX11_see 10 = .ok (.aload_n 0, 1) := by decide +kernel
theorem dX11_see_11 : decode cX11_see 11 = .ok (.getfield 67, 3) := by decide +kernel
theorem dX11_see_14 : decode cX11_see 14 = .ok (.getfield 287, 3) := by decide +kernel
theorem dX11_see_17 : decode cX11_see 17 = .ok (.bipush 100, 2) := by decide +kernel
theorem dX11_see_19 : decode cX11_see 19 = .ok (.if_icmp .lt 5, 3) := by decide +kernel
theorem dX11_see_22 : decode cX11_see 22 = .ok (.iconst (-1), 1) := by decide +kernel
theorem dX11_see_23 : decode cX11_see 23 = .ok (.ireturn, 1) := by decide +kernel
theorem dX11_see_24 : decode cX11_see 24 = .ok (.aload_n 0, 1) := by decide +kernel
theorem dX11_see_25 : decode cX11_see 25 = .ok (.getfield 67, 3) := by decide +kernel
theorem dX11_see_28 : decode cX11_see 28 = .ok (.iload_n 1, 1) := by decide +kernel
theorem dX11_see_29 : decode cX11_see 29 = .ok (.bipush 10, 2) := by decide +kernel
theorem dX11_see_31 : decode cX11_see 31 = .ok (.imul, 1) := by decide +kernel
theorem dX11_see_32 : decode cX11_see 32 = .ok (.iload_n 2, 1) := by decide +kernel
theorem dX11_see_33 : decode cX11_see 33 = .ok (.iadd, 1) := by decide +kernel
theorem dX11_see_34 : decode cX11_see 34 = .ok (.iload_n 3, 1) := by decide +kernel
theorem dX11_see_35 : decode cX11_see 35 = .ok (.iload 4, 2) := by decide +kernel
theorem dX11_see_37 : decode cX11_see 37 = .ok (.invokevirtual 290, 3) := by decide +kernel
theorem dX11_see_40 : decode cX11_see 40 = .ok (.ireturn, 1) := by decide +kernel
theorem dX11_fewest_0 : decode cX11_fewest 0 = .ok (.aload_n 0, 1) := by decide +kernel
theorem dX11_fewest_1 : decode cX11_fewest 1 = .ok (.getfield 74, 3) := by decide +kernel
theorem dX11_fewest_4 : decode cX11_fewest 4 = .ok (.aload_n 0, 1) := by decide +kernel
theorem dX11_fewest_5 : decode cX11_fewest 5 = .ok (.getfield 67, 3) := by decide +kernel
theorem dX11_fewest_8 : decode cX11_fewest 8 = .ok (.invokevirtual 294, 3) := by decide +kernel
theorem dX11_fewest_11 : decode cX11_fewest 11 = .ok (.aload_n 0, 1) := by decide +kernel
theorem dX11_fewest_12 : decode cX11_fewest 12 = .ok (.getfield 74, 3) := by decide +kernel
theorem dX11_fewest_15 : decode cX11_fewest 15 = .ok (.aload_n 0, 1) := by decide +kernel
theorem dX11_fewest_16 : decode cX11_fewest 16 = .ok (.getfield 67, 3) := by decide +kernel
theorem dX11_fewest_19 : decode cX11_fewest 19 = .ok (.iconst (-1), 1) := by decide +kernel
theorem dX11_fewest_20 : decode cX11_fewest 20 = .ok (.iconst (-1), 1) := by decide +kernel
theorem dX11_fewest_21 : decode cX11_fewest 21 = .ok (.invokevirtual 298, 3) := by decide +kernel
theorem dX11_fewest_24 : decode cX11_fewest 24 = .ok (.ifCond .eq 17, 3) := by decide +kernel
theorem dX11_fewest_27 : decode cX11_fewest 27 = .ok (.aload_n 0, 1) := by decide +kernel
theorem dX11_fewest_28 : decode cX11_fewest 28 = .ok (.getfield 74, 3) := by decide +kernel
theorem dX11_fewest_31 : decode cX11_fewest 31 = .ok (.aload_n 0, 1) := by decide +kernel
theorem dX11_fewest_32 : decode cX11_fewest 32 = .ok (.getfield 67, 3) := by decide +kernel
theorem dX11_fewest_35 : decode cX11_fewest 35 = .ok (.invokevirtual 302, 3) := by decide +kernel
theorem dX11_fewest_38 : decode cX11_fewest 38 = .ok (.goto 5, 3) := by decide +kernel
theorem dX11_fewest_41 : decode cX11_fewest 41 = .ok (.bipush (-2), 2) := by decide +kernel
theorem dX11_fewest_43 : decode cX11_fewest 43 = .ok (.ireturn, 1) := by decide +kernel
theorem dX11_sure_0 : decode cX11_sure 0 = .ok (.iload_n 1, 1) := by decide +kernel
theorem dX11_sure_1 : decode cX11_sure 1 = .ok (.iconst 0, 1) := by decide +kernel
theorem dX11_sure_2 : decode cX11_sure 2 = .ok (.aload_n 0, 1) := by decide +kernel
theorem dX11_sure_3 : decode cX11_sure 3 = .ok (.getfield 67, 3) := by decide +kernel
theorem dX11_sure_6 : decode cX11_sure 6 = .ok (.getfield 283, 3) := by decide +kernel
theorem dX11_sure_9 : decode cX11_sure 9 = .ok (.iconst 1, 1) := by decide +kernel
theorem dX11_sure_10 : decode cX11_sure 10 = .ok (.isub, 1) := by decide +kernel
theorem dX11_sure_11 : decode cX11_sure 11 = .ok (.invokestatic 93, 3) := by decide +kernel
theorem dX11_sure_14 : decode cX11_sure 14 = .ok (.ifCond .ne 5, 3) := by decide +kernel
theorem dX11_sure_17 : decode cX11_sure 17 = .ok (.iconst (-1), 1) := by decide +kernel
theorem dX11_sure_18 : decode cX11_sure 18 = .ok (.ireturn, 1) := by decide +kernel
theorem dX11_sure_19 : decode cX11_sure 19 = .ok (.aload_n 0, 1) := by decide +kernel
theorem dX11_sure_20 : decode cX11_sure 20 = .ok (.getfield 74, 3) := by decide +kernel
theorem dX11_sure_23 : decode cX11_sure 23 = .ok (.aload_n 0, 1) := by decide +kernel
theorem dX11_sure_24 : decode cX11_sure 24 = .ok (.getfield 67, 3) := by decide +kernel
theorem dX11_sure_27 : decode cX11_sure 27 = .ok (.invokevirtual 294, 3) := by decide +kernel
theorem dX11_sure_30 : decode cX11_sure 30 = .ok (.aload_n 0, 1) := by decide +kernel
theorem dX11_sure_31 : decode cX11_sure 31 = .ok (.getfield 74, 3) := by decide +kernel
theorem dX11_sure_34 : decode cX11_sure 34 = .ok (.aload_n 0, 1) := by decide +kernel
theorem dX11_sure_35 : decode cX11_sure 35 = .ok (.getfield 67, 3) := by decide +kernel
theorem dX11_sure_38 : decode cX11_sure 38 = .ok (.iconst (-1), 1) := by decide +kernel
theorem dX11_sure_39 : decode cX11_sure 39 = .ok (.iconst (-1), 1) := by decide +kernel
theorem dX11_sure_40 : decode cX11_sure 40 = .ok (.invokevirtual 298, 3) := by decide +kernel
theorem dX11_sure_43 : decode cX11_sure 43 = .ok (.ifCond .ne 6, 3) := by decide +kernel
theorem dX11_sure_46 : decode cX11_sure 46 = .ok (.bipush (-2), 2) := by decide +kernel
theorem dX11_sure_48 : decode cX11_sure 48 = .ok (.ireturn, 1) := by decide +kernel
theorem dX11_sure_49 : decode cX11_sure 49 = .ok (.aload_n 0, 1) := by decide +kernel
theorem dX11_sure_50 : decode cX11_sure 50 = .ok (.getfield 74, 3) := by decide +kernel
theorem dX11_sure_53 : decode cX11_sure 53 = .ok (.aload_n 0, 1) := by decide +kernel
theorem dX11_sure_54 : decode cX11_sure 54 = .ok (.getfield 67, 3) := by decide +kernel
theorem dX11_sure_57 : decode cX11_sure 57 = .ok (.iload_n 1, 1) := by decide +kernel
theorem dX11_sure_58 : decode cX11_sure 58 = .ok (.invokevirtual 306, 3) := by decide +kernel
theorem dX11_sure_61 : decode cX11_sure 61 = .ok (.ifCond .eq 21, 3) := by decide +kernel
theorem dX11_sure_64 : decode cX11_sure 64 = .ok (.aload_n 0, 1) := by decide +kernel
theorem dX11_sure_65 : decode cX11_sure 65 = .ok (.getfield 74, 3) := by decide +kernel
theorem dX11_sure_68 : decode cX11_sure 68 = .ok (.aload_n 0, 1) := by decide +kernel
theorem dX11_sure_69 : decode cX11_sure 69 = .ok (.getfield 67, 3) := by decide +kernel
theorem dX11_sure_72 : decode cX11_sure 72 = .ok (.iload_n 1, 1) := by decide +kernel
theorem dX11_sure_73 : decode cX11_sure 73 = .ok (.iconst (-1), 1) := by decide +kernel
theorem dX11_sure_74 : decode cX11_sure 74 = .ok (.invokevirtual 298, 3) := by decide +kernel
theorem dX11_sure_77 : decode cX11_sure 77 = .ok (.ifCond .ne 5, 3) := by decide +kernel
theorem dX11_sure_80 : decode cX11_sure 80 = .ok (.iconst 1, 1) := by decide +kernel
theorem dX11_sure_81 : decode cX11_sure 81 = .ok (.ireturn, 1) := by decide +kernel
theorem dX11_sure_82 : decode cX11_sure 82 = .ok (.aload_n 0, 1) := by decide +kernel
theorem dX11_sure_83 : decode cX11_sure 83 = .ok (.getfield 74, 3) := by decide +kernel
theorem dX11_sure_86 : decode cX11_sure 86 = .ok (.aload_n 0, 1) := by decide +kernel
theorem dX11_sure_87 : decode cX11_sure 87 = .ok (.getfield 67, 3) := by decide +kernel
theorem dX11_sure_90 : decode cX11_sure 90 = .ok (.iload_n 1, 1) := by decide +kernel
theorem dX11_sure_91 : decode cX11_sure 91 = .ok (.invokevirtual 310, 3) := by decide +kernel
theorem dX11_sure_94 : decode cX11_sure 94 = .ok (.ifCond .eq 23, 3) := by decide +kernel
theorem dX11_sure_97 : decode cX11_sure 97 = .ok (.aload_n 0, 1) := by decide +kernel
theorem dX11_sure_98 : decode cX11_sure 98 = .ok (.getfield 74, 3) := by decide +kernel
theorem dX11_sure_101 : decode cX11_sure 101 = .ok (.aload_n 0, 1) := by decide +kernel
theorem dX11_sure_102 : decode cX11_sure 102 = .ok (.getfield 67, 3) := by decide +kernel
theorem dX11_sure_105 : decode cX11_sure 105 = .ok (.iconst (-1), 1) := by decide +kernel
theorem dX11_sure_106 : decode cX11_sure 106 = .ok (.iload_n 1, 1) := by decide +kernel
theorem dX11_sure_107 : decode cX11_sure 107 = .ok (.invokevirtual 298, 3) := by decide +kernel
theorem dX11_sure_110 : decode cX11_sure 110 = .ok (.ifCond .eq 7, 3) := by decide +kernel
theorem dX11_sure_113 : decode cX11_sure 113 = .ok (.iconst 0, 1) := by decide +kernel
theorem dX11_sure_114 : decode cX11_sure 114 = .ok (.goto 4, 3) := by decide +kernel
theorem dX11_sure_117 : decode cX11_sure 117 = .ok (.iconst 2, 1) := by decide +kernel
theorem dX11_sure_118 : decode cX11_sure 118 = .ok (.ireturn, 1) := by decide +kernel
theorem dX11_canBeDone_0 : decode cX11_canBeDone 0 = .ok (.aload_n 0, 1) := by decide +kernel
theorem dX11_canBeDone_1 : decode cX11_canBeDone 1 = .ok (.iload_n 1, 1) := by decide +kernel
theorem dX11_canBeDone_2 : decode cX11_canBeDone 2 = .ok (.invokevirtual 150, 3) := by decide +kernel
theorem dX11_canBeDone_5 : decode cX11_canBeDone 5 = .ok (.ifCond .eq 29, 3) := by decide +kernel
theorem dX11_canBeDone_8 : decode cX11_canBeDone 8 = .ok (.iload_n 2, 1) := by decide +kernel
theorem dX11_canBeDone_9 : decode cX11_canBeDone 9 = .ok (.iconst 0, 1) := by decide +kernel
theorem dX11_canBeDone_10 : decode cX11_canBeDone 10 = .ok (.bipush 9, 2) := by decide +kernel
theorem dX11_canBeDone_12 : decode cX11_canBeDone 12 = .ok (.invokestatic 93, 3) := by decide +kernel
theorem dX11_canBeDone_15 : decode cX11_canBeDone 15 = .ok (.ifCond .eq 19, 3) := by decide +kernel
theorem dX11_canBeDone_18 : decode cX11_canBeDone 18 = .ok (.iload_n 3, 1) := by decide +kernel
theorem dX11_canBeDone_19 : decode cX11_canBeDone 19 = .ok (.iconst 0, 1) := by decide +kernel
theorem dX11_canBeDone_20 : decode cX11_canBeDone 20 = .ok (.aload_n 0, 1) := by decide +kernel
theorem dX11_canBeDone_21 : decode cX11_canBeDone 21 = .ok (.getfield 7, 3) := by decide +kernel
theorem dX11_canBeDone_24 : decode cX11_canBeDone 24 = .ok (.invokestatic 93, 3) := by decide +kernel
theorem dX11_canBeDone_27 : decode cX11_canBeDone 27 = .ok (.ifCond .eq 7, 3) := by decide +kernel
theorem dX11_canBeDone_30 : decode cX11_canBeDone 30 = .ok (.iconst 1, 1) := by decide +kernel
theorem dX11_canBeDone_31 : decode cX11_canBeDone 31 = .ok (.goto 4, 3) := by decide +kernel
theorem dX11_canBeDone_34 : decode cX11_canBeDone 34 = .ok (.iconst 0, 1) := by decide +kernel
theorem dX11_canBeDone_35 : decode cX11_canBeDone 35 = .ok (.ireturn, 1) := by decide +kernel
theorem dX11_paper_0 : decode cX11_paper 0 = .ok (.iload_n 1, 1) := by decide +kernel
theorem dX11_paper_1 : decode cX11_paper 1 = .ok (.iconst (-1), 1) := by decide +kernel
theorem dX11_paper_2 : decode cX11_paper 2 = .ok (.if_icmp .eq 11, 3) := by decide +kernel
theorem dX11_paper_5 : decode cX11_paper 5 = .ok (.aload_n 0, 1) := by decide +kernel
theorem dX11_paper_6 : decode cX11_paper 6 = .ok (.iload_n 1, 1) := by decide +kernel
theorem dX11_paper_7 : decode cX11_paper 7 = .ok (.invokevirtual 150, 3) := by decide +kernel
theorem dX11_paper_10 : decode cX11_paper 10 = .ok (.ifCond .eq 7, 3) := by decide +kernel
theorem dX11_paper_13 : decode cX11_paper 13 = .ok (.iconst 1, 1) := by decide +kernel
theorem dX11_paper_14 : decode cX11_paper 14 = .ok (.goto 4, 3) := by decide +kernel
theorem dX11_paper_17 : decode cX11_paper 17 = .ok (.iconst 0, 1) := by decide +kernel
theorem dX11_paper_18 : decode cX11_paper 18 = .ok (.istore 4, 2) := by decide +kernel
theorem dX11_paper_20 : decode cX11_paper 20 = .ok (.iload 4, 2) := by decide +kernel
theorem dX11_paper_22 : decode cX11_paper 22 = .ok (.ifCond .eq 27, 3) := by decide +kernel
theorem dX11_paper_25 : decode cX11_paper 25 = .ok (.iload_n 2, 1) := by decide +kernel
theorem dX11_paper_26 : decode cX11_paper 26 = .ok (.iconst 0, 1) := by decide +kernel
theorem dX11_paper_27 : decode cX11_paper 27 = .ok (.aload_n 0, 1) := by decide +kernel
theorem dX11_paper_28 : decode cX11_paper 28 = .ok (.getfield 7, 3) := by decide +kernel
theorem dX11_paper_31 : decode cX11_paper 31 = .ok (.invokestatic 93, 3) := by decide +kernel
theorem dX11_paper_34 : decode cX11_paper 34 = .ok (.ifCond .eq 15, 3) := by decide +kernel
theorem dX11_paper_37 : decode cX11_paper 37 = .ok (.aload_n 0, 1) := by decide +kernel
theorem dX11_paper_38 : decode cX11_paper 38 = .ok (.getfield 81, 3) := by decide +kernel
theorem dX11_paper_41 : decode cX11_paper 41 = .ok (.getfield 313, 3) := by decide +kernel
theorem dX11_paper_44 : decode cX11_paper 44 = .ok (.bipush 30, 2) := by decide +kernel
theorem dX11_paper_46 : decode cX11_paper 46 = .ok (.if_icmp .lt 5, 3) := by decide +kernel
theorem dX11_paper_49 : decode cX11_paper 49 = .ok (.iconst (-1), 1) := by decide +kernel
theorem dX11_paper_50 : decode cX11_paper 50 = .ok (.ireturn, 1) := by decide +kernel
theorem dX11_paper_51 : decode cX11_paper 51 = .ok (.iload_n 3, 1) := by decide +kernel
theorem dX11_paper_52 : decode cX11_paper 52 = .ok (.iconst 0, 1) := by decide +kernel
theorem dX11_paper_53 : decode cX11_paper 53 = .ok (.iconst 1, 1) := by decide +kernel
theorem dX11_paper_54 : decode cX11_paper 54 = .ok (.aload_n 0, 1) := by decide +kernel
theorem dX11_paper_55 : decode cX11_paper 55 = .ok (.getfield 81, 3) := by decide +kernel
theorem dX11_paper_58 : decode cX11_paper 58 = .ok (.getfield 313, 3) := by decide +kernel
theorem dX11_paper_61 : decode cX11_paper 61 = .ok (.ishl, 1) := by decide +kernel
theorem dX11_paper_62 : decode cX11_paper 62 = .ok (.iconst 1, 1) := by decide +kernel
theorem dX11_paper_63 : decode cX11_paper 63 = .ok (.isub, 1) := by decide +kernel
theorem dX11_paper_64 : decode cX11_paper 64 = .ok (.invokestatic 93, 3) := by decide +kernel
theorem dX11_paper_67 : decode cX11_paper 67 = .ok (.ifCond .ne 5, 3) := by decide +kernel
theorem dX11_paper_70 : decode cX11_paper 70 = .ok (.iconst (-1), 1) := by decide +kernel
theorem dX11_paper_71 : decode cX11_paper 71 = .ok (.ireturn, 1) := by decide +kernel
theorem dX11_paper_72 : decode cX11_paper 72 = .ok (.aload_n 0, 1) := by decide +kernel
theorem dX11_paper_73 : decode cX11_paper 73 = .ok (.getfield 81, 3) := by decide +kernel
theorem dX11_paper_76 : decode cX11_paper 76 = .ok (.iload_n 1, 1) := by decide +kernel
theorem dX11_paper_77 : decode cX11_paper 77 = .ok (.iload_n 2, 1) := by decide +kernel
theorem dX11_paper_78 : decode cX11_paper 78 = .ok (.iload_n 3, 1) := by decide +kernel
theorem dX11_paper_79 : decode cX11_paper 79 = .ok (.invokevirtual 314, 3) := by decide +kernel
theorem dX11_paper_82 : decode cX11_paper 82 = .ok (.ireturn, 1) := by decide +kernel
theorem dX11_read_0 : decode cX11_read 0 = .ok (.iload_n 1, 1) := by decide +kernel
theorem dX11_read_1 : decode cX11_read 1 = .ok (.iconst 0, 1) := by decide +kernel
theorem dX11_read_2 : decode cX11_read 2 = .ok (.bipush 15, 2) := by decide +kernel
theorem dX11_read_4 : decode cX11_read 4 = .ok (.invokestatic 93, 3) := by decide +kernel
theorem dX11_read_7 : decode cX11_read 7 = .ok (.ifCond .eq 20, 3) := by decide +kernel
theorem dX11_read_10 : decode cX11_read 10 = .ok (.iload_n 2, 1) := by decide +kernel
theorem dX11_read_11 : decode cX11_read 11 = .ok (.iconst 0, 1) := by decide +kernel
theorem dX11_read_12 : decode cX11_read 12 = .ok (.aload_n 0, 1) := by decide +kernel
theorem dX11_read_13 : decode cX11_read 13 = .ok (.getfield 81, 3) := by decide +kernel
theorem dX11_read_16 : decode cX11_read 16 = .ok (.getfield 313, 3) := by decide +kernel
theorem dX11_read_19 : decode cX11_read 19 = .ok (.iconst 1, 1) := by decide +kernel
theorem dX11_read_20 : decode cX11_read 20 = .ok (.isub, 1) := by decide +kernel
theorem dX11_read_21 : decode cX11_read 21 = .ok (.invokestatic 93, 3) := by decide +kernel
theorem dX11_read_24 : decode cX11_read 24 = .ok (.ifCond .ne 5, 3) := by decide +kernel
theorem dX11_read_27 : decode cX11_read 27 = .ok (.iconst 0, 1) := by decide +kernel
theorem dX11_read_28 : decode cX11_read 28 = .ok (.ireturn, 1) := by decide +kernel
theorem dX11_read_29 : decode cX11_read 29 = .ok (.iload_n 3, 1) := by decide +kernel
theorem dX11_read_30 : decode cX11_read 30 = .ok (.aload_n 0, 1) := by decide +kernel
theorem dX11_read_31 : decode cX11_read 31 = .ok (.getfield 81, 3) := by decide +kernel
theorem dX11_read_34 : decode cX11_read 34 = .ok (.getfield 316, 3) := by decide +kernel
theorem dX11_read_37 : decode cX11_read 37 = .ok (.iload_n 2, 1) := by decide +kernel
theorem dX11_read_38 : decode cX11_read 38 = .ok (.iaload, 1) := by decide +kernel
theorem dX11_read_39 : decode cX11_read 39 = .ok (.aload_n 0, 1) := by decide +kernel
theorem dX11_read_40 : decode cX11_read 40 = .ok (.getfield 7, 3) := by decide +kernel
theorem dX11_read_43 : decode cX11_read 43 = .ok (.invokestatic 93, 3) := by decide +kernel
theorem dX11_read_46 : decode cX11_read 46 = .ok (.ifCond .ne 5, 3) := by decide +kernel
theorem dX11_read_49 : decode cX11_read 49 = .ok (.iconst 0, 1) := by decide +kernel
theorem dX11_read_50 : decode cX11_read 50 = .ok (.ireturn, 1) := by decide +kernel
theorem dX11_read_51 : decode cX11_read 51 = .ok (.aload_n 0, 1) := by decide +kernel
theorem dX11_read_52 : decode cX11_read 52 = .ok (.getfield 81, 3) := by decide +kernel
theorem dX11_read_55 : decode cX11_read 55 = .ok (.iload_n 1, 1) := by decide +kernel
theorem dX11_read_56 : decode cX11_read 56 = .ok (.iload_n 2, 1) := by decide +kernel
theorem dX11_read_57 : decode cX11_read 57 = .ok (.iload_n 3, 1) := by decide +kernel
theorem dX11_read_58 : decode cX11_read 58 = .ok (.invokevirtual 318, 3) := by decide +kernel
theorem dX11_read_61 : decode cX11_read 61 = .ok (.iconst 1, 1) := by decide +kernel
theorem dX11_read_62 : decode cX11_read 62 = .ok (.ireturn, 1) := by decide +kernel
theorem dX11_knew_0 : decode cX11_knew 0 = .ok (.iload_n 1, 1) := by decide +kernel
theorem dX11_knew_1 : decode cX11_knew 1 = .ok (.iconst 0, 1) := by decide +kernel
theorem dX11_knew_2 : decode cX11_knew 2 = .ok (.bipush 15, 2) := by decide +kernel
theorem dX11_knew_4 : decode cX11_knew 4 = .ok (.invokestatic 93, 3) := by decide +kernel
theorem dX11_knew_7 : decode cX11_knew 7 = .ok (.ifCond .eq 20, 3) := by decide +kernel
theorem dX11_knew_10 : decode cX11_knew 10 = .ok (.iload_n 2, 1) := by decide +kernel
theorem dX11_knew_11 : decode cX11_knew 11 = .ok (.iconst 0, 1) := by decide +kernel
theorem dX11_knew_12 : decode cX11_knew 12 = .ok (.aload_n 0, 1) := by decide +kernel
theorem dX11_knew_13 : decode cX11_knew 13 = .ok (.getfield 81, 3) := by decide +kernel
theorem dX11_knew_16 : decode cX11_knew 16 = .ok (.getfield 313, 3) := by decide +kernel
theorem dX11_knew_19 : decode cX11_knew 19 = .ok (.iconst 1, 1) := by decide +kernel
theorem dX11_knew_20 : decode cX11_knew 20 = .ok (.isub, 1) := by decide +kernel
theorem dX11_knew_21 : decode cX11_knew 21 = .ok (.invokestatic 93, 3) := by decide +kernel
theorem dX11_knew_24 : decode cX11_knew 24 = .ok (.ifCond .ne 5, 3) := by decide +kernel
theorem dX11_knew_27 : decode cX11_knew 27 = .ok (.iconst (-1), 1) := by decide +kernel
theorem dX11_knew_28 : decode cX11_knew 28 = .ok (.ireturn, 1) := by decide +kernel
theorem dX11_knew_29 : decode cX11_knew 29 = .ok (.aload_n 0, 1) := by decide +kernel
theorem dX11_knew_30 : decode cX11_knew 30 = .ok (.getfield 81, 3) := by decide +kernel
theorem dX11_knew_33 : decode cX11_knew 33 = .ok (.iload_n 1, 1) := by decide +kernel
theorem dX11_knew_34 : decode cX11_knew 34 = .ok (.invokevirtual 321, 3) := by decide +kernel
theorem dX11_knew_37 : decode cX11_knew 37 = .ok (.aload_n 0, 1) := by decide +kernel
theorem dX11_knew_38 : decode cX11_knew 38 = .ok (.getfield 81, 3) := by decide +kernel
theorem dX11_knew_41 : decode cX11_knew 41 = .ok (.getfield 324, 3) := by decide +kernel
theorem dX11_knew_44 : decode cX11_knew 44 = .ok (.iload_n 2, 1) := by decide +kernel
theorem dX11_knew_45 : decode cX11_knew 45 = .ok (.iaload, 1) := by decide +kernel
theorem dX11_knew_46 : decode cX11_knew 46 = .ok (.istore_n 3, 1) := by decide +kernel
theorem dX11_knew_47 : decode cX11_knew 47 = .ok (.iload_n 3, 1) := by decide +kernel
theorem dX11_knew_48 : decode cX11_knew 48 = .ok (.aload_n 0, 1) := by decide +kernel
theorem dX11_knew_49 : decode cX11_knew 49 = .ok (.getfield 7, 3) := by decide +kernel
theorem dX11_knew_52 : decode cX11_knew 52 = .ok (.if_icmp .gt 7, 3) := by decide +kernel
theorem dX11_knew_55 : decode cX11_knew 55 = .ok (.iload_n 3, 1) := by decide +kernel
theorem dX11_knew_56 : decode cX11_knew 56 = .ok (.goto 5, 3) := by decide +kernel
theorem dX11_knew_59 : decode cX11_knew 59 = .ok (.bipush (-2), 2) := by decide +kernel
theorem dX11_knew_61 : decode cX11_knew 61 = .ok (.ireturn, 1) := by decide +kernel
theorem dX11_warned_0 : decode cX11_warned 0 = .ok (.aload_n 0, 1) := by decide +kernel
theorem dX11_warned_1 : decode cX11_warned 1 = .ok (.iload_n 1, 1) := by decide +kernel
theorem dX11_warned_2 : decode cX11_warned 2 = .ok (.invokevirtual 150, 3) := by decide +kernel
theorem dX11_warned_5 : decode cX11_warned 5 = .ok (.ifCond .eq 14, 3) := by decide +kernel
theorem dX11_warned_8 : decode cX11_warned 8 = .ok (.iload_n 2, 1) := by decide +kernel
theorem dX11_warned_9 : decode cX11_warned 9 = .ok (.iconst 0, 1) := by decide +kernel
theorem dX11_warned_10 : decode cX11_warned 10 = .ok (.sipush 9999, 3) := by decide +kernel
theorem dX11_warned_13 : decode cX11_warned 13 = .ok (.invokestatic 93, 3) := by decide +kernel
theorem dX11_warned_16 : decode cX11_warned 16 = .ok (.ifCond .ne 5, 3) := by decide +kernel
theorem dX11_warned_19 : decode cX11_warned 19 = .ok (.iconst (-1), 1) := by decide +kernel
theorem dX11_warned_20 : decode cX11_warned 20 = .ok (.ireturn, 1) := by decide +kernel
theorem dX11_warned_21 : decode cX11_warned 21 = .ok (.iconst 0, 1) := by decide +kernel
theorem dX11_warned_22 : decode cX11_warned 22 = .ok (.istore_n 3, 1) := by decide +kernel
theorem dX11_warned_23 : decode cX11_warned 23 = .ok (.iconst 0, 1) := by decide +kernel
theorem dX11_warned_24 : decode cX11_warned 24 = .ok (.istore 4, 2) := by decide +kernel
theorem dX11_warned_26 : decode cX11_warned 26 = .ok (.iload 4, 2) := by decide +kernel
theorem dX11_warned_28 : decode cX11_warned 28 = .ok (.bipush 16, 2) := by decide +kernel
theorem dX11_warned_30 : decode cX11_warned 30 = .ok (.if_icmp .ge 37, 3) := by decide +kernel
theorem dX11_warned_33 : decode cX11_warned 33 = .ok (.aload_n 0, 1) := by decide +kernel
theorem dX11_warned_34 : decode cX11_warned 34 = .ok (.getfield 81, 3) := by decide +kernel
theorem dX11_warned_37 : decode cX11_warned 37 = .ok (.iload 4, 2) := by decide +kernel
theorem dX11_warned_39 : decode cX11_warned 39 = .ok (.invokevirtual 321, 3) := by decide +kernel
theorem dX11_warned_42 : decode cX11_warned 42 = .ok (.aload_n 0, 1) := by decide +kernel
theorem dX11_warned_43 : decode cX11_warned 43 = .ok (.getfield 81, 3) := by decide +kernel
theorem dX11_warned_46 : decode cX11_warned 46 = .ok (.iload_n 1, 1) := by decide +kernel
theorem dX11_warned_47 : decode cX11_warned 47 = .ok (.iload_n 2, 1) := by decide +kernel
theorem dX11_warned_48 : decode cX11_warned 48 = .ok (.invokevirtual 327, 3) := by decide +kernel
theorem dX11_warned_51 : decode cX11_warned 51 = .ok (.ifCond .eq 10, 3) := by decide +kernel
theorem dX11_warned_54 : decode cX11_warned 54 = .ok (.iload_n 3, 1) := by decide +kernel
theorem dX11_warned_55 : decode cX11_warned 55 = .ok (.iconst 1, 1) := by decide +kernel
theorem dX11_warned_56 : decode cX11_warned 56 = .ok (.iload 4, 2) := by decide +kernel
theorem dX11_warned_58 : decode cX11_warned 58 = .ok (.ishl, 1) := by decide +kernel
theorem dX11_warned_59 : decode cX11_warned 59 = .ok (.ior, 1) := by decide +kernel
theorem dX11_warned_60 : decode cX11_warned 60 = .ok (.istore_n 3, 1) := by decide +kernel
theorem dX11_warned_61 : decode cX11_warned 61 = .ok (.iinc 4 1, 3) := by decide +kernel
theorem dX11_warned_64 : decode cX11_warned 64 = .ok (.goto (-38), 3) := by decide +kernel
theorem dX11_warned_67 : decode cX11_warned 67 = .ok (.iload_n 3, 1) := by decide +kernel
theorem dX11_warned_68 : decode cX11_warned 68 = .ok (.ireturn, 1) := by decide +kernel
theorem dX11_wears_0 : decode cX11_wears 0 = .ok (.aload_n 0, 1) := by decide +kernel
theorem dX11_wears_1 : decode cX11_wears 1 = .ok (.iload_n 1, 1) := by decide +kernel
theorem dX11_wears_2 : decode cX11_wears 2 = .ok (.invokevirtual 185, 3) := by decide +kernel
theorem dX11_wears_5 : decode cX11_wears 5 = .ok (.ifCond .eq 14, 3) := by decide +kernel
theorem dX11_wears_8 : decode cX11_wears 8 = .ok (.iload_n 2, 1) := by decide +kernel
theorem dX11_wears_9 : decode cX11_wears 9 = .ok (.iconst 0, 1) := by decide +kernel
theorem dX11_wears_10 : decode cX11_wears 10 = .ok (.sipush 9999, 3) := by decide +kernel
theorem dX11_wears_13 : decode cX11_wears 13 = .ok (.invokestatic 93, 3) := by decide +kernel
theorem dX11_wears_16 : decode cX11_wears 16 = .ok (.ifCond .ne 5, 3) := by decide +kernel
theorem dX11_wears_19 : decode cX11_wears 19 = .ok (.iconst (-1), 1) := by decide +kernel
theorem dX11_wears_20 : decode cX11_wears 20 = .ok (.ireturn, 1) := by decide +kernel
theorem dX11_wears_21 : decode cX11_wears 21 = .ok (.aload_n 0, 1) := by decide +kernel
theorem dX11_wears_22 : decode cX11_wears 22 = .ok (.getfield 19, 3) := by decide +kernel
theorem dX11_wears_25 : decode cX11_wears 25 = .ok (.getfield 330, 3) := by decide +kernel
theorem dX11_wears_28 : decode cX11_wears 28 = .ok (.iload_n 1, 1) := by decide +kernel
theorem dX11_wears_29 : decode cX11_wears 29 = .ok (.iload_n 2, 1) := by decide +kernel
theorem dX11_wears_30 : decode cX11_wears 30 = .ok (.invokestatic 118, 3) := by decide +kernel
theorem dX11_wears_33 : decode cX11_wears 33 = .ok (.ireturn, 1) := by decide +kernel
theorem dX11_fly_0 : decode cX11_fly 0 = .ok (.aload_n 0, 1) := by decide +kernel
theorem dX11_fly_1 : decode cX11_fly 1 = .ok (.iload_n 1, 1) := by decide +kernel
theorem dX11_fly_2 : decode cX11_fly 2 = .ok (.invokevirtual 150, 3) := by decide +kernel
theorem dX11_fly_5 : decode cX11_fly 5 = .ok (.ifCond .eq 14, 3) := by decide +kernel
theorem dX11_fly_8 : decode cX11_fly 8 = .ok (.iload_n 2, 1) := by decide +kernel
theorem dX11_fly_9 : decode cX11_fly 9 = .ok (.iconst 0, 1) := by decide +kernel
theorem dX11_fly_10 : decode cX11_fly 10 = .ok (.sipush 9999, 3) := by decide +kernel
theorem dX11_fly_13 : decode cX11_fly 13 = .ok (.invokestatic 93, 3) := by decide +kernel
theorem dX11_fly_16 : decode cX11_fly 16 = .ok (.ifCond .ne 5, 3) := by decide +kernel
theorem dX11_fly_19 : decode cX11_fly 19 = .ok (.iconst (-1), 1) := by decide +kernel
theorem dX11_fly_20 : decode cX11_fly 20 = .ok (.ireturn, 1) := by decide +kernel
theorem dX11_fly_21 : decode cX11_fly 21 = .ok (.aload_n 0, 1) := by decide +kernel
theorem dX11_fly_22 : decode cX11_fly 22 = .ok (.getfield 26, 3) := by decide +kernel
theorem dX11_fly_25 : decode cX11_fly 25 = .ok (.aload_n 0, 1) := by decide +kernel
theorem dX11_fly_26 : decode cX11_fly 26 = .ok (.getfield 19, 3) := by decide +kernel
theorem dX11_fly_29 : decode cX11_fly 29 = .ok (.iload_n 1, 1) := by decide +kernel
theorem dX11_fly_30 : decode cX11_fly 30 = .ok (.iload_n 2, 1) := by decide +kernel
theorem dX11_fly_31 : decode cX11_fly 31 = .ok (.invokevirtual 333, 3) := by decide +kernel
theorem dX11_fly_34 : decode cX11_fly 34 = .ok (.aload_n 0, 1) := by decide +kernel
theorem dX11_fly_35 : decode cX11_fly 35 = .ok (.getfield 26, 3) := by decide +kernel
theorem dX11_fly_38 : decode cX11_fly 38 = .ok (.getfield 336, 3) := by decide +kernel
theorem dX11_fly_41 : decode cX11_fly 41 = .ok (.iload_n 1, 1) := by decide +kernel
theorem dX11_fly_42 : decode cX11_fly 42 = .ok (.iaload, 1) := by decide +kernel
theorem dX11_fly_43 : decode cX11_fly 43 = .ok (.ireturn, 1) := by decide +kernel
theorem dX11_odds_0 : decode cX11_odds 0 = .ok (.iload_n 1, 1) := by decide +kernel
theorem dX11_odds_1 : decode cX11_odds 1 = .ok (.iconst 0, 1) := by decide +kernel
theorem dX11_odds_2 : decode cX11_odds 2 = .ok (.ldc_w 339, 3) := by decide +kernel
theorem dX11_odds_5 : decode cX11_odds 5 = .ok (.invokestatic 93, 3) := by decide +kernel
theorem dX11_odds_8 : decode cX11_odds 8 = .ok (.ifCond .eq 14, 3) := by decide +kernel
theorem dX11_odds_11 : decode cX11_odds 11 = .ok (.iload_n 2, 1) := by decide +kernel
theorem dX11_odds_12 : decode cX11_odds 12 = .ok (.iconst 0, 1) := by decide +kernel
theorem dX11_odds_13 : decode cX11_odds 13 = .ok (.sipush 9999, 3) := by decide +kernel
theorem dX11_odds_16 : decode cX11_odds 16 = .ok (.invokestatic 93, 3) := by decide +kernel
theorem dX11_odds_19 : decode cX11_odds 19 = .ok (.ifCond .ne 5, 3) := by decide +kernel
theorem dX11_odds_22 : decode cX11_odds 22 = .ok (.iconst (-1), 1) := by decide +kernel
theorem dX11_odds_23 : decode cX11_odds 23 = .ok (.ireturn, 1) := by decide +kernel
theorem dX11_odds_24 : decode cX11_odds 24 = .ok (.ldc_w 339, 3) := by decide +kernel
theorem dX11_odds_27 : decode cX11_odds 27 = .ok (.ldc_w 339, 3) := by decide +kernel
theorem dX11_odds_30 : decode cX11_odds 30 = .ok (.iload_n 1, 1) := by decide +kernel
theorem dX11_odds_31 : decode cX11_odds 31 = .ok (.iload_n 2, 1) := by decide +kernel
theorem dX11_odds_32 : decode cX11_odds 32 = .ok (.invokestatic 340, 3) := by decide +kernel
theorem dX11_odds_35 : decode cX11_odds 35 = .ok (.isub, 1) := by decide +kernel
theorem dX11_odds_36 : decode cX11_odds 36 = .ok (.ireturn, 1) := by decide +kernel
theorem dX11_first_0 : decode cX11_first 0 = .ok (.iload_n 1, 1) := by decide +kernel
theorem dX11_first_1 : decode cX11_first 1 = .ok (.iconst 0, 1) := by decide +kernel
theorem dX11_first_2 : decode cX11_first 2 = .ok (.ldc_w 339, 3) := by decide +kernel
theorem dX11_first_5 : decode cX11_first 5 = .ok (.invokestatic 93, 3) := by decide +kernel
theorem dX11_first_8 : decode cX11_first 8 = .ok (.ifCond .eq 25, 3) := by decide +kernel
theorem dX11_first_11 : decode cX11_first 11 = .ok (.iload_n 2, 1) := by decide +kernel
theorem dX11_first_12 : decode cX11_first 12 = .ok (.iconst 1, 1) := by decide +kernel
theorem dX11_first_13 : decode cX11_first 13 = .ok (.sipush 9999, 3) := by decide +kernel
theorem dX11_first_16 : decode cX11_first 16 = .ok (.invokestatic 93, 3) := by decide +kernel
theorem dX11_first_19 : decode cX11_first 19 = .ok (.ifCond .eq 14, 3) := by decide +kernel
theorem dX11_first_22 : decode cX11_first 22 = .ok (.iload_n 3, 1) := by decide +kernel
theorem dX11_first_23 : decode cX11_first 23 = .ok (.iconst 0, 1) := by decide +kernel
theorem dX11_first_24 : decode cX11_first 24 = .ok (.ldc_w 339, 3) := by decide +kernel
theorem dX11_first_27 : decode cX11_first 27 = .ok (.invokestatic 93, 3) := by decide +kernel
theorem dX11_first_30 : decode cX11_first 30 = .ok (.ifCond .ne 5, 3) := by decide +kernel
theorem dX11_first_33 : decode cX11_first 33 = .ok (.iconst (-1), 1) := by decide +kernel
theorem dX11_first_34 : decode cX11_first 34 = .ok (.ireturn, 1) := by decide +kernel
theorem dX11_first_35 : decode cX11_first 35 = .ok (.ldc_w 339, 3) := by decide +kernel
theorem dX11_first_38 : decode cX11_first 38 = .ok (.istore 4, 2) := by decide +kernel
theorem dX11_first_40 : decode cX11_first 40 = .ok (.iconst 1, 1) := by decide +kernel
theorem dX11_first_41 : decode cX11_first 41 = .ok (.istore 5, 2) := by decide +kernel
theorem dX11_first_43 : decode cX11_first 43 = .ok (.iload 5, 2) := by decide +kernel
theorem dX11_first_45 : decode cX11_first 45 = .ok (.bipush 99, 2) := by decide +kernel
theorem dX11_first_47 : decode cX11_first 47 = .ok (.if_icmp .gt 31, 3) := by decide +kernel
theorem dX11_first_50 : decode cX11_first 50 = .ok (.iload 4, 2) := by decide +kernel
theorem dX11_first_52 : decode cX11_first 52 = .ok (.iload_n 1, 1) := by decide +kernel
theorem dX11_first_53 : decode cX11_first 53 = .ok (.iload_n 2, 1) := by decide +kernel
theorem dX11_first_54 : decode cX11_first 54 = .ok (.invokestatic 340, 3) := by decide +kernel
theorem dX11_first_57 : decode cX11_first 57 = .ok (.istore 4, 2) := by decide +kernel
theorem dX11_first_59 : decode cX11_first 59 = .ok (.ldc_w 339, 3) := by decide +kernel
theorem dX11_first_62 : decode cX11_first 62 = .ok (.iload 4, 2) := by decide +kernel
theorem dX11_first_64 : decode cX11_first 64 = .ok (.isub, 1) := by decide +kernel
theorem dX11_first_65 : decode cX11_first 65 = .ok (.iload_n 3, 1) := by decide +kernel
theorem dX11_first_66 : decode cX11_first 66 = .ok (.if_icmp .lt 6, 3) := by decide +kernel
theorem dX11_first_69 : decode cX11_first 69 = .ok (.iload 5, 2) := by decide +kernel
theorem dX11_first_71 : decode cX11_first 71 = .ok (.ireturn, 1) := by decide +kernel
theorem dX11_first_72 : decode cX11_first 72 = .ok (.iinc 5 1, 3) := by decide +kernel
theorem dX11_first_75 : decode cX11_first 75 = .ok (.goto (-32), 3) := by decide +kernel
theorem dX11_first_78 : decode cX11_first 78 = .ok (.bipush (-2), 2) := by decide +kernel
theorem dX11_first_80 : decode cX11_first 80 = .ok (.ireturn, 1) := by decide +kernel
theorem dX11_noneAfter_0 : decode cX11_noneAfter 0 = .ok (.iload_n 0, 1) := by decide +kernel
theorem dX11_noneAfter_1 : decode cX11_noneAfter 1 = .ok (.i2l, 1) := by decide +kernel
theorem dX11_noneAfter_2 : decode cX11_noneAfter 2 = .ok (.lstore_n 3, 1) := by decide +kernel
theorem dX11_noneAfter_3 : decode cX11_noneAfter 3 = .ok (.iload_n 2, 1) := by decide +kernel
theorem dX11_noneAfter_4 : decode cX11_noneAfter 4 = .ok (.istore 5, 2) := by decide +kernel
theorem dX11_noneAfter_6 : decode cX11_noneAfter 6 = .ok (.iconst 0, 1) := by decide +kernel
theorem dX11_noneAfter_7 : decode cX11_noneAfter 7 = .ok (.istore 6, 2) := by decide +kernel
theorem dX11_noneAfter_9 : decode cX11_noneAfter 9 = .ok (.iload 6, 2) := by decide +kernel
theorem dX11_noneAfter_11 : decode cX11_noneAfter 11 = .ok (.iload_n 2, 1) := by decide +kernel
theorem dX11_noneAfter_12 : decode cX11_noneAfter 12 = .ok (.if_icmp .ge 107, 3) := by decide +kernel
theorem dX11_noneAfter_15 : decode cX11_noneAfter 15 = .ok (.iload 5, 2) := by decide +kernel
theorem dX11_noneAfter_17 : decode cX11_noneAfter 17 = .ok (.ifCond .le 102, 3) := by decide +kernel
theorem dX11_noneAfter_20 : decode cX11_noneAfter 20 = .ok (.lload_n 3, 1) := by decide +kernel
theorem dX11_noneAfter_21 : decode cX11_noneAfter 21 = .ok (.lconst 0, 1) := by decide +kernel
theorem dX11_noneAfter_22 : decode cX11_noneAfter 22 = .ok (.lcmp, 1) := by decide +kernel
theorem dX11_noneAfter_23 : decode cX11_noneAfter 23 = .ok (.ifCond .le 96, 3) := by decide +kernel
theorem dX11_noneAfter_26 : decode cX11_noneAfter 26 = .ok (.iload_n 1, 1) := by decide +kernel
theorem dX11_noneAfter_27 : decode cX11_noneAfter 27 = .ok (.ifCond .le 92, 3) := by decide +kernel
theorem dX11_noneAfter_30 : decode cX11_noneAfter 30 = .ok (.lload_n 3, 1) := by decide +kernel
theorem dX11_noneAfter_31 : decode cX11_noneAfter 31 = .ok (.iload_n 1, 1) := by decide +kernel
theorem dX11_noneAfter_32 : decode cX11_noneAfter 32 = .ok (.i2l, 1) := by decide +kernel
theorem dX11_noneAfter_33 : decode cX11_noneAfter 33 = .ok (.lmul, 1) := by decide +kernel
theorem dX11_noneAfter_34 : decode cX11_noneAfter 34 = .ok (.ldc2_w 343, 3) := by decide +kernel
theorem dX11_noneAfter_37 : decode cX11_noneAfter 37 = .ok (.ladd, 1) := by decide +kernel
theorem dX11_noneAfter_38 : decode cX11_noneAfter 38 = .ok (.lconst 1, 1) := by decide +kernel
theorem dX11_noneAfter_39 : decode cX11_noneAfter 39 = .ok (.lsub, 1) := by decide +kernel
theorem dX11_noneAfter_40 : decode cX11_noneAfter 40 = .ok (.ldc2_w 343, 3) := by decide +kernel
theorem dX11_noneAfter_43 : decode cX11_noneAfter 43 = .ok (.ldiv, 1) := by decide +kernel
theorem dX11_noneAfter_44 : decode cX11_noneAfter 44 = .ok (.lstore 7, 2) := by decide +kernel
theorem dX11_noneAfter_46 : decode cX11_noneAfter 46 = .ok (.lload 7, 2) := by decide +kernel
theorem dX11_noneAfter_48 : decode cX11_noneAfter 48 = .ok (.lconst 1, 1) := by decide +kernel
theorem dX11_noneAfter_49 : decode cX11_noneAfter 49 = .ok (.lsub, 1) := by decide +kernel
theorem dX11_noneAfter_50 : decode cX11_noneAfter 50 = .ok (.ldc2_w 343, 3) := by decide +kernel
theorem dX11_noneAfter_53 : decode cX11_noneAfter 53 = .ok (.lmul, 1) := by decide +kernel
theorem dX11_noneAfter_54 : decode cX11_noneAfter 54 = .ok (.iload_n 1, 1) := by decide +kernel
theorem dX11_noneAfter_55 : decode cX11_noneAfter 55 = .ok (.i2l, 1) := by decide +kernel
theorem dX11_noneAfter_56 : decode cX11_noneAfter 56 = .ok (.ldiv, 1) := by decide +kernel
theorem dX11_noneAfter_57 : decode cX11_noneAfter 57 = .ok (.lconst 1, 1) := by decide +kernel
theorem dX11_noneAfter_58 : decode cX11_noneAfter 58 = .ok (.ladd, 1) := by decide +kernel
theorem dX11_noneAfter_59 : decode cX11_noneAfter 59 = .ok (.lstore 9, 2) := by decide +kernel
theorem dX11_noneAfter_61 : decode cX11_noneAfter 61 = .ok (.lload 7, 2) := by decide +kernel
theorem dX11_noneAfter_63 : decode cX11_noneAfter 63 = .ok (.lconst 0, 1) := by decide +kernel
theorem dX11_noneAfter_64 : decode cX11_noneAfter 64 = .ok (.lcmp, 1) := by decide +kernel
theorem dX11_noneAfter_65 : decode cX11_noneAfter 65 = .ok (.ifCond .le 15, 3) := by decide +kernel
theorem dX11_noneAfter_68 : decode cX11_noneAfter 68 = .ok (.lload_n 3, 1) := by decide +kernel
theorem dX11_noneAfter_69 : decode cX11_noneAfter 69 = .ok (.lload 9, 2) := by decide +kernel
theorem dX11_noneAfter_71 : decode cX11_noneAfter 71 = .ok (.lsub, 1) := by decide +kernel
theorem dX11_noneAfter_72 : decode cX11_noneAfter 72 = .ok (.lload 7, 2) := by decide +kernel
theorem dX11_noneAfter_74 : decode cX11_noneAfter 74 = .ok (.ldiv, 1) := by decide +kernel
theorem dX11_noneAfter_75 : decode cX11_noneAfter 75 = .ok (.lconst 1, 1) := by decide +kernel
theorem dX11_noneAfter_76 : decode cX11_noneAfter 76 = .ok (.ladd, 1) := by decide +kernel
theorem dX11_noneAfter_77 : decode cX11_noneAfter 77 = .ok (.goto 4, 3) := by decide +kernel
theorem dX11_noneAfter_80 : decode cX11_noneAfter 80 = .ok (.lconst 1, 1) := by decide +kernel
theorem dX11_noneAfter_81 : decode cX11_noneAfter 81 = .ok (.lstore 11, 2) := by decide +kernel
theorem dX11_noneAfter_83 : decode cX11_noneAfter 83 = .ok (.lconst 1, 1) := by decide +kernel
theorem dX11_noneAfter_84 : decode cX11_noneAfter 84 = .ok (.lload 11, 2) := by decide +kernel
theorem dX11_noneAfter_86 : decode cX11_noneAfter 86 = .ok (.iload 5, 2) := by decide +kernel
theorem dX11_noneAfter_88 : decode cX11_noneAfter 88 = .ok (.i2l, 1) := by decide +kernel
theorem dX11_noneAfter_89 : decode cX11_noneAfter 89 = .ok (.invokestatic 345, 3) := by decide +kernel
theorem dX11_noneAfter_92 : decode cX11_noneAfter 92 = .ok (.invokestatic 348, 3) := by decide +kernel
theorem dX11_noneAfter_95 : decode cX11_noneAfter 95 = .ok (.lstore 13, 2) := by decide +kernel
theorem dX11_noneAfter_97 : decode cX11_noneAfter 97 = .ok (.lload_n 3, 1) := by decide +kernel
theorem dX11_noneAfter_98 : decode cX11_noneAfter 98 = .ok (.lload 13, 2) := by decide +kernel
theorem dX11_noneAfter_100 : decode cX11_noneAfter 100 = .ok (.lload 7, 2) := by decide +kernel
theorem dX11_noneAfter_102 : decode cX11_noneAfter 102 = .ok (.lmul, 1) := by decide +kernel
theorem dX11_noneAfter_103 : decode cX11_noneAfter 103 = .ok (.lsub, 1) := by decide +kernel
theorem dX11_noneAfter_104 : decode cX11_noneAfter 104 = .ok (.lstore_n 3, 1) := by decide +kernel
theorem dX11_noneAfter_105 : decode cX11_noneAfter 105 = .ok (.iload 5, 2) := by decide +kernel
theorem dX11_noneAfter_107 : decode cX11_noneAfter 107 = .ok (.lload 13, 2) := by decide +kernel
theorem dX11_noneAfter_109 : decode cX11_noneAfter 109 = .ok (.l2i, 1) := by decide +kernel
theorem dX11_noneAfter_110 : decode cX11_noneAfter 110 = .ok (.isub, 1) := by decide +kernel
theorem dX11_noneAfter_111 : decode cX11_noneAfter 111 = .ok (.istore 5, 2) := by decide +kernel
theorem dX11_noneAfter_113 : decode cX11_noneAfter 113 = .ok (.iinc 6 1, 3) := by decide +kernel
theorem dX11_noneAfter_116 : decode cX11_noneAfter 116 = .ok (.goto (-107), 3) := by decide +kernel
theorem dX11_noneAfter_119 : decode cX11_noneAfter 119 = .ok (.lload_n 3, 1) := by decide +kernel
theorem dX11_noneAfter_120 : decode cX11_noneAfter 120 = .ok (.l2i, 1) := by decide +kernel
theorem dX11_noneAfter_121 : decode cX11_noneAfter 121 = .ok (.ireturn, 1) := by decide +kernel
theorem dX11_mark_0 : decode cX11_mark 0 = .ok (.iload_n 1, 1) := by decide +kernel
theorem dX11_mark_1 : decode cX11_mark 1 = .ok (.iconst 0, 1) := by decide +kernel
theorem dX11_mark_2 : decode cX11_mark 2 = .ok (.iconst 3, 1) := by decide +kernel
theorem dX11_mark_3 : decode cX11_mark 3 = .ok (.invokestatic 93, 3) := by decide +kernel
theorem dX11_mark_6 : decode cX11_mark 6 = .ok (.ifCond .ne 5, 3) := by decide +kernel
theorem dX11_mark_9 : decode cX11_mark 9 = .ok (.iconst (-1), 1) := by decide +kernel
theorem dX11_mark_10 : decode cX11_mark 10 = .ok (.ireturn, 1) := by decide +kernel
theorem dX11_mark_11 : decode cX11_mark 11 = .ok (.aload_n 0, 1) := by decide +kernel
theorem dX11_mark_12 : decode cX11_mark 12 = .ok (.getfield 85, 3) := by decide +kernel
theorem dX11_mark_15 : decode cX11_mark 15 = .ok (.iload_n 1, 1) := by decide +kernel
theorem dX11_mark_16 : decode cX11_mark 16 = .ok (.aaload, 1) := by decide +kernel
theorem dX11_mark_17 : decode cX11_mark 17 = .ok (.astore_n 2, 1) := by decide +kernel
theorem dX11_mark_18 : decode cX11_mark 18 = .ok (.aload_n 2, 1) := by decide +kernel
theorem dX11_mark_19 : decode cX11_mark 19 = .ok (.ifnonnull 18, 3) := by decide +kernel
theorem dX11_mark_22 : decode cX11_mark 22 = .ok (.new 23, 3) := by decide +kernel
theorem dX11_mark_25 : decode cX11_mark 25 = .ok (.dup, 1) := by decide +kernel
theorem dX11_mark_26 : decode cX11_mark 26 = .ok (.invokespecial 25, 3) := by decide +kernel
theorem dX11_mark_29 : decode cX11_mark 29 = .ok (.astore_n 2, 1) := by decide +kernel
theorem dX11_mark_30 : decode cX11_mark 30 = .ok (.aload_n 0, 1) := by decide +kernel
theorem dX11_mark_31 : decode cX11_mark 31 = .ok (.getfield 85, 3) := by decide +kernel
theorem dX11_mark_34 : decode cX11_mark 34 = .ok (.iload_n 1, 1) := by decide +kernel
theorem dX11_mark_35 : decode cX11_mark 35 = .ok (.aload_n 2, 1) := by decide +kernel
theorem dX11_mark_36 : decode cX11_mark 36 = .ok (.aastore, 1) := by decide +kernel
theorem dX11_mark_37 : decode cX11_mark 37 = .ok (.aload_n 2, 1) := by decide +kernel
theorem dX11_mark_38 : decode cX11_mark 38 = .ok (.aload_n 0, 1) := by decide +kernel
theorem dX11_mark_39 : decode cX11_mark 39 = .ok (.getfield 26, 3) := by decide +kernel
theorem dX11_mark_42 : decode cX11_mark 42 = .ok (.invokevirtual 351, 3) := by decide +kernel
theorem dX11_mark_45 : decode cX11_mark 45 = .ok (.aload_n 0, 1) := by decide +kernel
theorem dX11_mark_46 : decode cX11_mark 46 = .ok (.getfield 89, 3) := by decide +kernel
theorem dX11_mark_49 : decode cX11_mark 49 = .ok (.iload_n 1, 1) := by decide +kernel
theorem dX11_mark_50 : decode cX11_mark 50 = .ok (.aload_n 0, 1) := by decide +kernel
theorem dX11_mark_51 : decode cX11_mark 51 = .ok (.getfield 7, 3) := by decide +kernel
theorem dX11_mark_54 : decode cX11_mark 54 = .ok (.iastore, 1) := by decide +kernel
theorem dX11_mark_55 : decode cX11_mark 55 = .ok (.aload_n 0, 1) := by decide +kernel
theorem dX11_mark_56 : decode cX11_mark 56 = .ok (.getfield 7, 3) := by decide +kernel
theorem dX11_mark_59 : decode cX11_mark 59 = .ok (.ireturn, 1) := by decide +kernel
theorem dX11_back_0 : decode cX11_back 0 = .ok (.iload_n 1, 1) := by decide +kernel
theorem dX11_back_1 : decode cX11_back 1 = .ok (.iconst 0, 1) := by decide +kernel
theorem dX11_back_2 : decode cX11_back 2 = .ok (.iconst 3, 1) := by decide +kernel
theorem dX11_back_3 : decode cX11_back 3 = .ok (.invokestatic 93, 3) := by decide +kernel
theorem dX11_back_6 : decode cX11_back 6 = .ok (.ifCond .ne 5, 3) := by decide +kernel
theorem dX11_back_9 : decode cX11_back 9 = .ok (.iconst (-1), 1) := by decide +kernel
theorem dX11_back_10 : decode cX11_back 10 = .ok (.ireturn, 1) := by decide +kernel
theorem dX11_back_11 : decode cX11_back 11 = .ok (.aload_n 0, 1) := by decide +kernel
theorem dX11_back_12 : decode cX11_back 12 = .ok (.getfield 85, 3) := by decide +kernel
theorem dX11_back_15 : decode cX11_back 15 = .ok (.iload_n 1, 1) := by decide +kernel
theorem dX11_back_16 : decode cX11_back 16 = .ok (.aaload, 1) := by decide +kernel
theorem dX11_back_17 : decode cX11_back 17 = .ok (.astore_n 2, 1) := by decide +kernel
theorem dX11_back_18 : decode cX11_back 18 = .ok (.aload_n 2, 1) := by decide +kernel
theorem dX11_back_19 : decode cX11_back 19 = .ok (.ifnonnull 5, 3) := by decide +kernel
theorem dX11_back_22 : decode cX11_back 22 = .ok (.iconst (-1), 1) := by decide +kernel
theorem dX11_back_23 : decode cX11_back 23 = .ok (.ireturn, 1) := by decide +kernel
theorem dX11_back_24 : decode cX11_back 24 = .ok (.aload_n 0, 1) := by decide +kernel
theorem dX11_back_25 : decode cX11_back 25 = .ok (.getfield 26, 3) := by decide +kernel
theorem dX11_back_28 : decode cX11_back 28 = .ok (.aload_n 2, 1) := by decide +kernel
theorem dX11_back_29 : decode cX11_back 29 = .ok (.invokevirtual 351, 3) := by decide +kernel
theorem dX11_back_32 : decode cX11_back 32 = .ok (.aload_n 0, 1) := by decide +kernel
theorem dX11_back_33 : decode cX11_back 33 = .ok (.aload_n 0, 1) := by decide +kernel
theorem dX11_back_34 : decode cX11_back 34 = .ok (.getfield 89, 3) := by decide +kernel
theorem dX11_back_37 : decode cX11_back 37 = .ok (.iload_n 1, 1) := by decide +kernel
theorem dX11_back_38 : decode cX11_back 38 = .ok (.iaload, 1) := by decide +kernel
theorem dX11_back_39 : decode cX11_back 39 = .ok (.putfield 7, 3) := by decide +kernel
theorem dX11_back_42 : decode cX11_back 42 = .ok (.aload_n 0, 1) := by decide +kernel
theorem dX11_back_43 : decode cX11_back 43 = .ok (.getfield 67, 3) := by decide +kernel
theorem dX11_back_46 : decode cX11_back 46 = .ok (.aload_n 0, 1) := by decide +kernel
theorem dX11_back_47 : decode cX11_back 47 = .ok (.getfield 26, 3) := by decide +kernel
theorem dX11_back_50 : decode cX11_back 50 = .ok (.getfield 355, 3) := by decide +kernel
theorem dX11_back_53 : decode cX11_back 53 = .ok (.invokevirtual 356, 3) := by decide +kernel
theorem dX11_back_56 : decode cX11_back 56 = .ok (.aload_n 0, 1) := by decide +kernel
theorem dX11_back_57 : decode cX11_back 57 = .ok (.getfield 81, 3) := by decide +kernel
theorem dX11_back_60 : decode cX11_back 60 = .ok (.aload_n 0, 1) := by decide +kernel
theorem dX11_back_61 : decode cX11_back 61 = .ok (.getfield 26, 3) := by decide +kernel
theorem dX11_back_64 : decode cX11_back 64 = .ok (.getfield 355, 3) := by decide +kernel
theorem dX11_back_67 : decode cX11_back 67 = .ok (.invokevirtual 359, 3) := by decide +kernel
theorem dX11_back_70 : decode cX11_back 70 = .ok (.aload_n 0, 1) := by decide +kernel
theorem dX11_back_71 : decode cX11_back 71 = .ok (.getfield 7, 3) := by decide +kernel
theorem dX11_back_74 : decode cX11_back 74 = .ok (.ireturn, 1) := by decide +kernel
theorem dX11_count_0 : decode cX11_count 0 = .ok (.iload_n 1, 1) := by decide +kernel
theorem dX11_count_1 : decode cX11_count 1 = .ok (.tableswitch 120 0 8 #[51, 56, 64, 72, 80, 85, 93, 101, 109], 51) := by decide +kernel
theorem dX11_count_52 : decode cX11_count 52 = .ok (.aload_n 0, 1) := by decide +kernel
theorem dX11_count_53 : decode cX11_count 53 = .ok (.getfield 7, 3) := by decide +kernel
theorem dX11_count_56 : decode cX11_count 56 = .ok (.ireturn, 1) := by decide +kernel
theorem dX11_count_57 : decode cX11_count 57 = .ok (.aload_n 0, 1) := by decide +kernel
theorem dX11_count_58 : decode cX11_count 58 = .ok (.getfield 19, 3) := by decide +kernel
theorem dX11_count_61 : decode cX11_count 61 = .ok (.getfield 360, 3) := by decide +kernel
theorem dX11_count_64 : decode cX11_count 64 = .ok (.ireturn, 1) := by decide +kernel
theorem dX11_count_65 : decode cX11_count 65 = .ok (.aload_n 0, 1) := by decide +kernel
theorem dX11_count_66 : decode cX11_count 66 = .ok (.getfield 26, 3) := by decide +kernel
theorem dX11_count_69 : decode cX11_count 69 = .ok (.getfield 355, 3) := by decide +kernel
theorem dX11_count_72 : decode cX11_count 72 = .ok (.ireturn, 1) := by decide +kernel
theorem dX11_count_73 : decode cX11_count 73 = .ok (.aload_n 0, 1) := by decide +kernel
theorem dX11_count_74 : decode cX11_count 74 = .ok (.getfield 40, 3) := by decide +kernel
theorem dX11_count_77 : decode cX11_count 77 = .ok (.getfield 191, 3) := by decide +kernel
theorem dX11_count_80 : decode cX11_count 80 = .ok (.ireturn, 1) := by decide +kernel
theorem dX11_count_81 : decode cX11_count 81 = .ok (.aload_n 0, 1) := by decide +kernel
theorem dX11_count_82 : decode cX11_count 82 = .ok (.getfield 13, 3) := by decide +kernel
theorem dX11_count_85 : decode cX11_count 85 = .ok (.ireturn, 1) := by decide +kernel
theorem dX11_count_86 : decode cX11_count 86 = .ok (.aload_n 0, 1) := by decide +kernel
theorem dX11_count_87 : decode cX11_count 87 = .ok (.getfield 67, 3) := by decide +kernel
theorem dX11_count_90 : decode cX11_count 90 = .ok (.getfield 283, 3) := by decide +kernel
theorem dX11_count_93 : decode cX11_count 93 = .ok (.ireturn, 1) := by decide +kernel
theorem dX11_count_94 : decode cX11_count 94 = .ok (.aload_n 0, 1) := by decide +kernel
theorem dX11_count_95 : decode cX11_count 95 = .ok (.getfield 67, 3) := by decide +kernel
theorem dX11_count_98 : decode cX11_count 98 = .ok (.getfield 287, 3) := by decide +kernel
theorem dX11_count_101 : decode cX11_count 101 = .ok (.ireturn, 1) := by decide +kernel
theorem dX11_count_102 : decode cX11_count 102 = .ok (.aload_n 0, 1) := by decide +kernel
theorem dX11_count_103 : decode cX11_count 103 = .ok (.getfield 81, 3) := by decide +kernel
theorem dX11_count_106 : decode cX11_count 106 = .ok (.getfield 313, 3) := by decide +kernel
theorem dX11_count_109 : decode cX11_count 109 = .ok (.ireturn, 1) := by decide +kernel
theorem dX11_count_110 : decode cX11_count 110 = .ok (.aload_n 0, 1) := by decide +kernel
theorem dX11_count_111 : decode cX11_count 111 = .ok (.getfield 47, 3) := by decide +kernel
theorem dX11_count_114 : decode cX11_count 114 = .ok (.getfield 216, 3) := by decide +kernel
theorem dX11_count_117 : decode cX11_count 117 = .ok (.getfield 220, 3) := by decide +kernel
theorem dX11_count_120 : decode cX11_count 120 = .ok (.ireturn, 1) := by decide +kernel
theorem dX11_count_121 : decode cX11_count 121 = .ok (.iconst (-1), 1) := by decide +kernel
theorem dX11_count_122 : decode cX11_count 122 = .ok (.ireturn, 1) := by decide +kernel
theorem dX11_within_0 : decode cX11_within 0 = .ok (.iload_n 0, 1) := by decide +kernel
theorem dX11_within_1 : decode cX11_within 1 = .ok (.iload_n 1, 1) := by decide +kernel
theorem dX11_within_2 : decode cX11_within 2 = .ok (.if_icmp .lt 12, 3) := by decide +kernel
theorem dX11_within_5 : decode cX11_within 5 = .ok (.iload_n 0, 1) := by decide +kernel
theorem dX11_within_6 : decode cX11_within 6 = .ok (.iload_n 2, 1) := by decide +kernel
theorem dX11_within_7 : decode cX11_within 7 = .ok (.if_icmp .gt 7, 3) := by decide +kernel
theorem dX11_within_10 : decode cX11_within 10 = .ok (.iconst 1, 1) := by decide +kernel
theorem dX11_within_11 : decode cX11_within 11 = .ok (.goto 4, 3) := by decide +kernel
theorem dX11_within_14 : decode cX11_within 14 = .ok (.iconst 0, 1) := by decide +kernel
theorem dX11_within_15 : decode cX11_within 15 = .ok (.ireturn, 1) := by decide +kernel
theorem dX11_asNumber_0 : decode cX11_asNumber 0 = .ok (.iload_n 0, 1) := by decide +kernel
theorem dX11_asNumber_1 : decode cX11_asNumber 1 = .ok (.ifCond .eq 7, 3) := by decide +kernel
theorem dX11_asNumber_4 : decode cX11_asNumber 4 = .ok (.iconst 1, 1) := by decide +kernel
theorem dX11_asNumber_5 : decode cX11_asNumber 5 = .ok (.goto 4, 3) := by decide +kernel
theorem dX11_asNumber_8 : decode cX11_asNumber 8 = .ok (.iconst 0, 1) := by decide +kernel
theorem dX11_asNumber_9 : decode cX11_asNumber 9 = .ok (.ireturn, 1) := by decide +kernel
theorem dX11_swap_0 : decode cX11_swap 0 = .ok (.iload_n 1, 1) := by decide +kernel
theorem dX11_swap_1 : decode cX11_swap 1 = .ok (.iconst 0, 1) := by decide +kernel
theorem dX11_swap_2 : decode cX11_swap 2 = .ok (.aload_n 0, 1) := by decide +kernel
theorem dX11_swap_3 : decode cX11_swap 3 = .ok (.arraylength, 1) := by decide +kernel
theorem dX11_swap_4 : decode cX11_swap 4 = .ok (.iconst 1, 1) := by decide +kernel
theorem dX11_swap_5 : decode cX11_swap 5 = .ok (.isub, 1) := by decide +kernel
theorem dX11_swap_6 : decode cX11_swap 6 = .ok (.invokestatic 93, 3) := by decide +kernel
theorem dX11_swap_9 : decode cX11_swap 9 = .ok (.ifCond .ne 7, 3) := by decide +kernel
theorem dX11_swap_12 : decode cX11_swap 12 = .ok (.sipush (-1000), 3) := by decide +kernel
theorem dX11_swap_15 : decode cX11_swap 15 = .ok (.ireturn, 1) := by decide +kernel
theorem dX11_swap_16 : decode cX11_swap 16 = .ok (.aload_n 0, 1) := by decide +kernel
theorem dX11_swap_17 : decode cX11_swap 17 = .ok (.iload_n 1, 1) := by decide +kernel
theorem dX11_swap_18 : decode cX11_swap 18 = .ok (.iaload, 1) := by decide +kernel
theorem dX11_swap_19 : decode cX11_swap 19 = .ok (.istore_n 3, 1) := by decide +kernel
theorem dX11_swap_20 : decode cX11_swap 20 = .ok (.aload_n 0, 1) := by decide +kernel
theorem dX11_swap_21 : decode cX11_swap 21 = .ok (.iload_n 1, 1) := by decide +kernel
theorem dX11_swap_22 : decode cX11_swap 22 = .ok (.iload_n 2, 1) := by decide +kernel
theorem dX11_swap_23 : decode cX11_swap 23 = .ok (.iastore, 1) := by decide +kernel
theorem dX11_swap_24 : decode cX11_swap 24 = .ok (.iload_n 3, 1) := by decide +kernel
theorem dX11_swap_25 : decode cX11_swap 25 = .ok (.ireturn, 1) := by decide +kernel
theorem dX11_hasPart_0 : decode cX11_hasPart 0 = .ok (.iload_n 1, 1) := by decide +kernel
theorem dX11_hasPart_1 : decode cX11_hasPart 1 = .ok (.iconst 0, 1) := by decide +kernel
theorem dX11_hasPart_2 : decode cX11_hasPart 2 = .ok (.aload_n 0, 1) := by decide +kernel
theorem dX11_hasPart_3 : decode cX11_hasPart 3 = .ok (.getfield 19, 3) := by decide +kernel
theorem dX11_hasPart_6 : decode cX11_hasPart 6 = .ok (.getfield 360, 3) := by decide +kernel
theorem dX11_hasPart_9 : decode cX11_hasPart 9 = .ok (.iconst 1, 1) := by decide +kernel
theorem dX11_hasPart_10 : decode cX11_hasPart 10 = .ok (.isub, 1) := by decide +kernel
theorem dX11_hasPart_11 : decode cX11_hasPart 11 = .ok (.invokestatic 93, 3) := by decide +kernel
theorem dX11_hasPart_14 : decode cX11_hasPart 14 = .ok (.ireturn, 1) := by decide +kernel
theorem dX11_hasMachine_0 : decode cX11_hasMachine 0 = .ok (.iload_n 1, 1) := by decide +kernel
theorem dX11_hasMachine_1 : decode cX11_hasMachine 1 = .ok (.iconst 0, 1) := by decide +kernel
theorem dX11_hasMachine_2 : decode cX11_hasMachine 2 = .ok (.aload_n 0, 1) := by decide +kernel
theorem dX11_hasMachine_3 : decode cX11_hasMachine 3 = .ok (.getfield 26, 3) := by decide +kernel
theorem dX11_hasMachine_6 : decode cX11_hasMachine 6 = .ok (.getfield 355, 3) := by decide +kernel
theorem dX11_hasMachine_9 : decode cX11_hasMachine 9 = .ok (.iconst 1, 1) := by decide +kernel
theorem dX11_hasMachine_10 : decode cX11_hasMachine 10 = .ok (.isub, 1) := by decide +kernel
theorem dX11_hasMachine_11 : decode cX11_hasMachine 11 = .ok (.invokestatic 93, 3) := by decide +kernel
theorem dX11_hasMachine_14 : decode cX11_hasMachine 14 = .ok (.ireturn, 1) := by decide +kernel
theorem dX11_hasPartOf_0 : decode cX11_hasPartOf 0 = .ok (.aload_n 0, 1) := by decide +kernel
theorem dX11_hasPartOf_1 : decode cX11_hasPartOf 1 = .ok (.iload_n 1, 1) := by decide +kernel
theorem dX11_hasPartOf_2 : decode cX11_hasPartOf 2 = .ok (.invokevirtual 150, 3) := by decide +kernel
theorem dX11_hasPartOf_5 : decode cX11_hasPartOf 5 = .ok (.ifCond .eq 15, 3) := by decide +kernel
theorem dX11_hasPartOf_8 : decode cX11_hasPartOf 8 = .ok (.aload_n 0, 1) := by decide +kernel
theorem dX11_hasPartOf_9 : decode cX11_hasPartOf 9 = .ok (.iload_n 2, 1) := by decide +kernel
theorem dX11_hasPartOf_10 : decode cX11_hasPartOf 10 = .ok (.invokevirtual 185, 3) := by decide +kernel
theorem dX11_hasPartOf_13 : decode cX11_hasPartOf 13 = .ok (.ifCond .eq 7, 3) := by decide +kernel
theorem dX11_hasPartOf_16 : decode cX11_hasPartOf 16 = .ok (.iconst 1, 1) := by decide +kernel
theorem dX11_hasPartOf_17 : decode cX11_hasPartOf 17 = .ok (.goto 4, 3) := by decide +kernel
theorem dX11_hasPartOf_20 : decode cX11_hasPartOf 20 = .ok (.iconst 0, 1) := by decide +kernel
theorem dX11_hasPartOf_21 : decode cX11_hasPartOf 21 = .ok (.ireturn, 1) := by decide +kernel
theorem dX12_init_0 : decode cX12_init 0 = .ok (.aload_n 0, 1) := by decide +kernel
theorem dX12_init_1 : decode cX12_init 1 = .ok (.invokespecial 1, 3) := by decide +kernel
theorem dX12_init_4 : decode cX12_init 4 = .ok (.aload_n 0, 1) := by decide +kernel
theorem dX12_init_5 : decode cX12_init 5 = .ok (.bipush 24, 2) := by decide +kernel
theorem dX12_init_7 : decode cX12_init 7 = .ok (.newarray .int, 2) := by decide +kernel
theorem dX12_init_9 : decode cX12_init 9 = .ok (.putfield 9, 3) := by decide +kernel
theorem dX12_init_12 : decode cX12_init 12 = .ok (.aload_n 0, 1) := by decide +kernel
theorem dX12_init_13 : decode cX12_init 13 = .ok (.bipush 24, 2) := by decide +kernel
theorem dX12_init_15 : decode cX12_init 15 = .ok (.newarray .int, 2) := by decide +kernel
theorem dX12_init_17 : decode cX12_init 17 = .ok (.putfield 13, 3) := by decide +kernel
theorem dX12_init_20 : decode cX12_init 20 = .ok (.aload_n 0, 1) := by decide +kernel
theorem dX12_init_21 : decode cX12_init 21 = .ok (.bipush 24, 2) := by decide +kernel
theorem dX12_init_23 : decode cX12_init 23 = .ok (.newarray .int, 2) := by decide +kernel
theorem dX12_init_25 : decode cX12_init 25 = .ok (.putfield 16, 3) := by decide +kernel
theorem dX12_init_28 : decode cX12_init 28 = .ok (.aload_n 0, 1) := by decide +kernel
theorem dX12_init_29 : decode cX12_init 29 = .ok (.bipush 24, 2) := by decide +kernel
theorem dX12_init_31 : decode cX12_init 31 = .ok (.newarray .int, 2) := by decide +kernel
theorem dX12_init_33 : decode cX12_init 33 = .ok (.putfield 19, 3) := by decide +kernel
theorem dX12_init_36 : decode cX12_init 36 = .ok (.aload_n 0, 1) := by decide +kernel
theorem dX12_init_37 : decode cX12_init 37 = .ok (.bipush 24, 2) := by decide +kernel
theorem dX12_init_39 : decode cX12_init 39 = .ok (.newarray .int, 2) := by decide +kernel
theorem dX12_init_41 : decode cX12_init 41 = .ok (.putfield 22, 3) := by decide +kernel
theorem dX12_init_44 : decode cX12_init 44 = .ok (.aload_n 0, 1) := by decide +kernel
theorem dX12_init_45 : decode cX12_init 45 = .ok (.bipush 24, 2) := by decide +kernel
theorem dX12_init_47 : decode cX12_init 47 = .ok (.newarray .int, 2) := by decide +kernel
theorem dX12_init_49 : decode cX12_init 49 = .ok (.putfield 25, 3) := by decide +kernel
theorem dX12_init_52 : decode cX12_init 52 = .ok (.aload_n 0, 1) := by decide +kernel
theorem dX12_init_53 : decode cX12_init 53 = .ok (.bipush 24, 2) := by decide +kernel
theorem dX12_init_55 : decode cX12_init 55 = .ok (.newarray .int, 2) := by decide +kernel
theorem dX12_init_57 : decode cX12_init 57 = .ok (.putfield 28, 3) := by decide +kernel
theorem dX12_init_60 : decode cX12_init 60 = .ok (.aload_n 0, 1) := by decide +kernel
theorem dX12_init_61 : decode cX12_init 61 = .ok (.bipush 24, 2) := by decide +kernel
theorem dX12_init_63 : decode cX12_init 63 = .ok (.newarray .int, 2) := by decide +kernel
theorem dX12_init_65 : decode cX12_init 65 = .ok (.putfield 31, 3) := by decide +kernel
theorem dX12_init_68 : decode cX12_init 68 = .ok (.aload_n 0, 1) := by decide +kernel
theorem dX12_init_69 : decode cX12_init 69 = .ok (.sipush 480, 3) := by decide +kernel
theorem dX12_init_72 : decode cX12_init 72 = .ok (.newarray .int, 2) := by decide +kernel
theorem dX12_init_74 : decode cX12_init 74 = .ok (.putfield 34, 3) := by decide +kernel
theorem dX12_init_77 : decode cX12_init 77 = .ok (.aload_n 0, 1) := by decide +kernel
theorem dX12_init_78 : decode cX12_init 78 = .ok (.sipush 480, 3) := by decide +kernel
theorem dX12_init_81 : decode cX12_init 81 = .ok (.newarray .int, 2) := by decide +kernel
theorem dX12_init_83 : decode cX12_init 83 = .ok (.putfield 37, 3) := by decide +kernel
theorem dX12_init_86 : decode cX12_init 86 = .ok (.aload_n 0, 1) := by decide +kernel
theorem dX12_init_87 : decode cX12_init 87 = .ok (.sipush 480, 3) := by decide +kernel
theorem dX12_init_90 : decode cX12_init 90 = .ok (.newarray .int, 2) := by decide +kernel
theorem dX12_init_92 : decode cX12_init 92 = .ok (.putfield 40, 3) := by decide +kernel
theorem dX12_init_95 : decode cX12_init 95 = .ok (.aload_n 0, 1) := by decide +kernel
theorem dX12_init_96 : decode cX12_init 96 = .ok (.sipush 480, 3) := by decide +kernel
theorem dX12_init_99 : decode cX12_init 99 = .ok (.newarray .int, 2) := by decide +kernel
theorem dX12_init_101 : decode cX12_init 101 = .ok (.putfield 43, 3) := by decide +kernel
theorem dX12_init_104 : decode cX12_init 104 = .ok (.aload_n 0, 1) := by decide +kernel
theorem dX12_init_105 : decode cX12_init 105 = .ok (.bipush 20, 2) := by decide +kernel
theorem dX12_init_107 : decode cX12_init 107 = .ok (.newarray .int, 2) := by decide +kernel
theorem dX12_init_109 : decode cX12_init 109 = .ok (.putfield 46, 3) := by decide +kernel
theorem dX12_init_112 : decode cX12_init 112 = .ok (.aload_n 0, 1) := by decide +kernel
theorem dX12_init_113 : decode cX12_init 113 = .ok (.bipush 20, 2) := by decide +kernel
theorem dX12_init_115 : decode cX12_init 115 = .ok (.newarray .int, 2) := by decide +kernel
theorem dX12_init_117 : decode cX12_init 117 = .ok (.putfield 49, 3) := by decide +kernel
theorem dX12_init_120 : decode cX12_init 120 = .ok (.aload_n 0, 1) := by decide +kernel
theorem dX12_init_121 : decode cX12_init 121 = .ok (.bipush 24, 2) := by decide +kernel
theorem dX12_init_123 : decode cX12_init 123 = .ok (.newarray .int, 2) := by decide +kernel
theorem dX12_init_125 : decode cX12_init 125 = .ok (.putfield 52, 3) := by decide +kernel
theorem dX12_init_128 : decode cX12_init 128 = .ok (.aload_n 0, 1) := by decide +kernel
theorem dX12_init_129 : decode cX12_init 129 = .ok (.bipush 24, 2) := by decide +kernel
theorem dX12_init_131 : decode cX12_init 131 = .ok (.newarray .int, 2) := by decide +kernel
theorem dX12_init_133 : decode cX12_init 133 = .ok (.putfield 55, 3) := by decide +kernel
theorem dX12_init_136 : decode cX12_init 136 = .ok (.aload_n 0, 1) := by decide +kernel
theorem dX12_init_137 : decode cX12_init 137 = .ok (.bipush 24, 2) := by decide +kernel
theorem dX12_init_139 : decode cX12_init 139 = .ok (.newarray .int, 2) := by decide +kernel
theorem dX12_init_141 : decode cX12_init 141 = .ok (.putfield 58, 3) := by decide +kernel
theorem dX12_init_144 : decode cX12_init 144 = .ok (.aload_n 0, 1) := by decide +kernel
theorem dX12_init_145 : decode cX12_init 145 = .ok (.bipush 24, 2) := by decide +kernel
theorem dX12_init_147 : decode cX12_init 147 = .ok (.newarray .int, 2) := by decide +kernel
theorem dX12_init_149 : decode cX12_init 149 = .ok (.putfield 61, 3) := by decide +kernel
theorem dX12_init_152 : decode cX12_init 152 = .ok (.aload_n 0, 1) := by decide +kernel
theorem dX12_init_153 : decode cX12_init 153 = .ok (.bipush 24, 2) := by decide +kernel
theorem dX12_init_155 : decode cX12_init 155 = .ok (.newarray .int, 2) := by decide +kernel
theorem dX12_init_157 : decode cX12_init 157 = .ok (.putfield 64, 3) := by decide +kernel
theorem dX12_init_160 : decode cX12_init 160 = .ok (.aload_n 0, 1) := by decide +kernel
theorem dX12_init_161 : decode cX12_init 161 = .ok (.bipush 24, 2) := by decide +kernel
theorem dX12_init_163 : decode cX12_init 163 = .ok (.newarray .int, 2) := by decide +kernel
theorem dX12_init_165 : decode cX12_init 165 = .ok (.putfield 67, 3) := by decide +kernel
theorem dX12_init_168 : decode cX12_init 168 = .ok (.aload_n 0, 1) := by decide +kernel
theorem dX12_init_169 : decode cX12_init 169 = .ok (.bipush 24, 2) := by decide +kernel
theorem dX12_init_171 : decode cX12_init 171 = .ok (.newarray .int, 2) := by decide +kernel
theorem dX12_init_173 : decode cX12_init 173 = .ok (.putfield 70, 3) := by decide +kernel
theorem dX12_init_176 : decode cX12_init 176 = .ok (.aload_n 0, 1) := by decide +kernel
theorem dX12_init_177 : decode cX12_init 177 = .ok (.bipush 8, 2) := by decide +kernel
theorem dX12_init_179 : decode cX12_init 179 = .ok (.newarray .int, 2) := by decide +kernel
theorem dX12_init_181 : decode cX12_init 181 = .ok (.putfield 73, 3) := by decide +kernel
theorem dX12_init_184 : decode cX12_init 184 = .ok (.aload_n 0, 1) := by decide +kernel
theorem dX12_init_185 : decode cX12_init 185 = .ok (.bipush 8, 2) := by decide +kernel
theorem dX12_init_187 : decode cX12_init 187 = .ok (.newarray .int, 2) := by decide +kernel
theorem dX12_init_189 : decode cX12_init 189 = .ok (.putfield 76, 3) := by decide +kernel
theorem dX12_init_192 : decode cX12_init 192 = .ok (.aload_n 0, 1) := by decide +kernel
theorem dX12_init_193 : decode cX12_init 193 = .ok (.bipush 8, 2) := by decide +kernel
theorem dX12_init_195 : decode cX12_init 195 = .ok (.newarray .int, 2) := by decide +kernel
theorem dX12_init_197 : decode cX12_init 197 = .ok (.putfield 79, 3) := by decide +kernel
theorem dX12_init_200 : decode cX12_init 200 = .ok (.aload_n 0, 1) := by decide +kernel
theorem dX12_init_201 : decode cX12_init 201 = .ok (.bipush 8, 2) := by decide +kernel
theorem dX12_init_203 : decode cX12_init 203 = .ok (.newarray .int, 2) := by decide +kernel
theorem dX12_init_205 : decode cX12_init 205 = .ok (.putfield 82, 3) := by decide +kernel
theorem dX12_init_208 : decode cX12_init 208 = .ok (.aload_n 0, 1) := by decide +kernel
theorem dX12_init_209 : decode cX12_init 209 = .ok (.bipush 8, 2) := by decide +kernel
theorem dX12_init_211 : decode cX12_init 211 = .ok (.newarray .int, 2) := by decide +kernel
theorem dX12_init_213 : decode cX12_init 213 = .ok (.putfield 85, 3) := by decide +kernel
theorem dX12_init_216 : decode cX12_init 216 = .ok (.aload_n 0, 1) := by decide +kernel
theorem dX12_init_217 : decode cX12_init 217 = .ok (.bipush 24, 2) := by decide +kernel
theorem dX12_init_219 : decode cX12_init 219 = .ok (.newarray .int, 2) := by decide +kernel
theorem dX12_init_221 : decode cX12_init 221 = .ok (.putfield 88, 3) := by decide +kernel
theorem dX12_init_224 : decode cX12_init 224 = .ok (.aload_n 0, 1) := by decide +kernel
theorem dX12_init_225 : decode cX12_init 225 = .ok (.sipush 400, 3) := by decide +kernel
theorem dX12_init_228 : decode cX12_init 228 = .ok (.newarray .byte, 2) := by decide +kernel
theorem dX12_init_230 : decode cX12_init 230 = .ok (.putfield 91, 3) := by decide +kernel
theorem dX12_init_233 : decode cX12_init 233 = .ok (.aload_n 0, 1) := by decide +kernel
theorem dX12_init_234 : decode cX12_init 234 = .ok (.sipush 3600, 3) := by decide +kernel
theorem dX12_init_237 : decode cX12_init 237 = .ok (.newarray .int, 2) := by decide +kernel
theorem dX12_init_239 : decode cX12_init 239 = .ok (.putfield 95, 3) := by decide +kernel
theorem dX12_init_242 : decode cX12_init 242 = .ok (.aload_n 0, 1) := by decide +kernel
theorem dX12_init_243 : decode cX12_init 243 = .ok (.sipush 3600, 3) := by decide +kernel
theorem dX12_init_246 : decode cX12_init 246 = .ok (.newarray .int, 2) := by decide +kernel
theorem dX12_init_248 : decode cX12_init 248 = .ok (.putfield 98, 3) := by decide +kernel
theorem dX12_init_251 : decode cX12_init 251 = .ok (.aload_n 0, 1) := by decide +kernel
theorem dX12_init_252 : decode cX12_init 252 = .ok (.bipush 12, 2) := by decide +kernel
theorem dX12_init_254 : decode cX12_init 254 = .ok (.newarray .int, 2) := by decide +kernel
theorem dX12_init_256 : decode cX12_init 256 = .ok (.putfield 101, 3) := by decide +kernel
theorem dX12_init_259 : decode cX12_init 259 = .ok (.aload_n 0, 1) := by decide +kernel
theorem dX12_init_260 : decode cX12_init 260 = .ok (.bipush 12, 2) := by decide +kernel
theorem dX12_init_262 : decode cX12_init 262 = .ok (.newarray .int, 2) := by decide +kernel
theorem dX12_init_264 : decode cX12_init 264 = .ok (.putfield 104, 3) := by decide +kernel
theorem dX12_init_267 : decode cX12_init 267 = .ok (.aload_n 0, 1) := by decide +kernel
theorem dX12_init_268 : decode cX12_init 268 = .ok (.bipush 12, 2) := by decide +kernel
theorem dX12_init_270 : decode cX12_init 270 = .ok (.newarray .int, 2) := by decide +kernel
theorem dX12_init_272 : decode cX12_init 272 = .ok (.putfield 107, 3) := by decide +kernel
theorem dX12_init_275 : decode cX12_init 275 = .ok (.aload_n 0, 1) := by decide +kernel
theorem dX12_init_276 : decode cX12_init 276 = .ok (.sipush 144, 3) := by decide +kernel
theorem dX12_init_279 : decode cX12_init 279 = .ok (.newarray .int, 2) := by decide +kernel
theorem dX12_init_281 : decode cX12_init 281 = .ok (.putfield 110, 3) := by decide +kernel
theorem dX12_init_284 : decode cX12_init 284 = .ok (.aload_n 0, 1) := by decide +kernel
theorem dX12_init_285 : decode cX12_init 285 = .ok (.sipush 144, 3) := by decide +kernel
theorem dX12_init_288 : decode cX12_init 288 = .ok (.newarray .int, 2) := by decide +kernel
theorem dX12_init_290 : decode cX12_init 290 = .ok (.putfield 113, 3) := by decide +kernel
theorem dX12_init_293 : decode cX12_init 293 = .ok (.aload_n 0, 1) := by decide +kernel
theorem dX12_init_294 : decode cX12_init 294 = .ok (.sipush 144, 3) := by decide +kernel
theorem dX12_init_297 : decode cX12_init 297 = .ok (.newarray .int, 2) := by decide +kernel
theorem dX12_init_299 : decode cX12_init 299 = .ok (.putfield 116, 3) := by decide +kernel
theorem dX12_init_302 : decode cX12_init 302 = .ok (.aload_n 0, 1) := by decide +kernel
theorem dX12_init_303 : decode cX12_init 303 = .ok (.sipush 144, 3) := by decide +kernel
theorem dX12_init_306 : decode cX12_init 306 = .ok (.newarray .int, 2) := by decide +kernel
theorem dX12_init_308 : decode cX12_init 308 = .ok (.putfield 119, 3) := by decide +kernel
theorem dX12_init_311 : decode cX12_init 311 = .ok (.aload_n 0, 1) := by decide +kernel
theorem dX12_init_312 : decode cX12_init 312 = .ok (.sipush 144, 3) := by decide +kernel
theorem dX12_init_315 : decode cX12_init 315 = .ok (.newarray .int, 2) := by decide +kernel
theorem dX12_init_317 : decode cX12_init 317 = .ok (.putfield 122, 3) := by decide +kernel
theorem dX12_init_320 : decode cX12_init 320 = .ok (.aload_n 0, 1) := by decide +kernel
theorem dX12_init_321 : decode cX12_init 321 = .ok (.sipush 144, 3) := by decide +kernel
theorem dX12_init_324 : decode cX12_init 324 = .ok (.newarray .int, 2) := by decide +kernel
theorem dX12_init_326 : decode cX12_init 326 = .ok (.putfield 125, 3) := by decide +kernel
theorem dX12_init_329 : decode cX12_init 329 = .ok (.aload_n 0, 1) := by decide +kernel
theorem dX12_init_330 : decode cX12_init 330 = .ok (.sipush 402, 3) := by decide +kernel
theorem dX12_init_333 : decode cX12_init 333 = .ok (.newarray .int, 2) := by decide +kernel
theorem dX12_init_335 : decode cX12_init 335 = .ok (.putfield 128, 3) := by decide +kernel
theorem dX12_init_338 : decode cX12_init 338 = .ok (.aload_n 0, 1) := by decide +kernel
theorem dX12_init_339 : decode cX12_init 339 = .ok (.bipush 7, 2) := by decide +kernel
theorem dX12_init_341 : decode cX12_init 341 = .ok (.newarray .long, 2) := by decide +kernel
theorem dX12_init_343 : decode cX12_init 343 = .ok (.putfield 131, 3) := by decide +kernel
theorem dX12_init_346 : decode cX12_init 346 = .ok (.aload_n 0, 1) := by decide +kernel
theorem dX12_init_347 : decode cX12_init 347 = .ok (.sipush 300, 3) := by decide +kernel
theorem dX12_init_350 : decode cX12_init 350 = .ok (.newarray .long, 2) := by decide +kernel
theorem dX12_init_352 : decode cX12_init 352 = .ok (.putfield 135, 3) := by decide +kernel
theorem dX12_init_355 : decode cX12_init 355 = .ok (.aload_n 0, 1) := by decide +kernel
theorem dX12_init_356 : decode cX12_init 356 = .ok (.sipush 200, 3) := by decide +kernel
theorem dX12_init_359 : decode cX12_init 359 = .ok (.newarray .int, 2) := by decide +kernel
theorem dX12_init_361 : decode cX12_init 361 = .ok (.putfield 138, 3) := by decide +kernel
theorem dX12_init_364 : decode cX12_init 364 = .ok (.aload_n 0, 1) := by decide +kernel
theorem dX12_init_365 : decode cX12_init 365 = .ok (.sipush 200, 3) := by decide +kernel
theorem dX12_init_368 : decode cX12_init 368 = .ok (.newarray .int, 2) := by decide +kernel
theorem dX12_init_370 : decode cX12_init 370 = .ok (.putfield 141, 3) := by decide +kernel
theorem dX12_init_373 : decode cX12_init 373 = .ok (.aload_n 0, 1) := by decide +kernel
theorem dX12_init_374 : decode cX12_init 374 = .ok (.sipush 200, 3) := by decide +kernel
theorem dX12_init_377 : decode cX12_init 377 = .ok (.newarray .int, 2) := by decide +kernel
theorem dX12_init_379 : decode cX12_init 379 = .ok (.putfield 144, 3) := by decide +kernel
theorem dX12_init_382 : decode cX12_init 382 = .ok (.aload_n 0, 1) := by decide +kernel
theorem dX12_init_383 : decode cX12_init 383 = .ok (.sipush 200, 3) := by decide +kernel
theorem dX12_init_386 : decode cX12_init 386 = .ok (.newarray .int, 2) := by decide +kernel
theorem dX12_init_388 : decode cX12_init 388 = .ok (.putfield 147, 3) := by decide +kernel
theorem dX12_init_391 : decode cX12_init 391 = .ok (.aload_n 0, 1) := by decide +kernel
theorem dX12_init_392 : decode cX12_init 392 = .ok (.sipush 200, 3) := by decide +kernel
theorem dX12_init_395 : decode cX12_init 395 = .ok (.newarray .int, 2) := by decide +kernel
theorem dX12_init_397 : decode cX12_init 397 = .ok (.putfield 150, 3) := by decide +kernel
theorem dX12_init_400 : decode cX12_init 400 = .ok (.aload_n 0, 1) := by decide +kernel
theorem dX12_init_401 : decode cX12_init 401 = .ok (.sipush 200, 3) := by decide +kernel
theorem dX12_init_404 : decode cX12_init 404 = .ok (.newarray .int, 2) := by decide +kernel
theorem dX12_init_406 : decode cX12_init 406 = .ok (.putfield 153, 3) := by decide +kernel
theorem dX12_init_409 : decode cX12_init 409 = .ok (.aload_n 0, 1) := by decide +kernel
theorem dX12_init_410 : decode cX12_init 410 = .ok (.bipush 100, 2) := by decide +kernel
theorem dX12_init_412 : decode cX12_init 412 = .ok (.newarray .int, 2) := by decide +kernel
theorem dX12_init_414 : decode cX12_init 414 = .ok (.putfield 156, 3) := by decide +kernel
theorem dX12_init_417 : decode cX12_init 417 = .ok (.aload_n 0, 1) := by decide +kernel
theorem dX12_init_418 : decode cX12_init 418 = .ok (.bipush 100, 2) := by decide +kernel
theorem dX12_init_420 : decode cX12_init 420 = .ok (.newarray .int, 2) := by decide +kernel
theorem dX12_init_422 : decode cX12_init 422 = .ok (.putfield 159, 3) := by decide +kernel
theorem dX12_init_425 : decode cX12_init 425 = .ok (.aload_n 0, 1) := by decide +kernel
theorem dX12_init_426 : decode cX12_init 426 = .ok (.bipush 100, 2) := by decide +kernel
theorem dX12_init_428 : decode cX12_init 428 = .ok (.newarray .int, 2) := by decide +kernel
theorem dX12_init_430 : decode cX12_init 430 = .ok (.putfield 162, 3) := by decide +kernel
theorem dX12_init_433 : decode cX12_init 433 = .ok (.aload_n 0, 1) := by decide +kernel
theorem dX12_init_434 : decode cX12_init 434 = .ok (.bipush 100, 2) := by decide +kernel
theorem dX12_init_436 : decode cX12_init 436 = .ok (.newarray .boolean, 2) := by decide +kernel
theorem dX12_init_438 : decode cX12_init 438 = .ok (.putfield 165, 3) := by decide +kernel
theorem dX12_init_441 : decode cX12_init 441 = .ok (.aload_n 0, 1) := by decide +kernel
theorem dX12_init_442 : decode cX12_init 442 = .ok (.sipush 200, 3) := by decide +kernel
theorem dX12_init_445 : decode cX12_init 445 = .ok (.newarray .boolean, 2) := by decide +kernel
theorem dX12_init_447 : decode cX12_init 447 = .ok (.putfield 169, 3) := by decide +kernel
theorem dX12_init_450 : decode cX12_init 450 = .ok (.aload_n 0, 1) := by decide +kernel
theorem dX12_init_451 : decode cX12_init 451 = .ok (.sipush 200, 3) := by decide +kernel
theorem dX12_init_454 : decode cX12_init 454 = .ok (.newarray .boolean, 2) := by decide +kernel
theorem dX12_init_456 : decode cX12_init 456 = .ok (.putfield 172, 3) := by decide +kernel
theorem dX12_init_459 : decode cX12_init 459 = .ok (.aload_n 0, 1) := by decide +kernel
theorem dX12_init_460 : decode cX12_init 460 = .ok (.sipush 200, 3) := by decide +kernel
theorem dX12_init_463 : decode cX12_init 463 = .ok (.newarray .int, 2) := by decide +kernel
theorem dX12_init_465 : decode cX12_init 465 = .ok (.putfield 175, 3) := by decide +kernel
theorem dX12_init_468 : decode cX12_init 468 = .ok (.aload_n 0, 1) := by decide +kernel
theorem dX12_init_469 : decode cX12_init 469 = .ok (.sipush 200, 3) := by decide +kernel
theorem dX12_init_472 : decode cX12_init 472 = .ok (.newarray .int, 2) := by decide +kernel
theorem dX12_init_474 : decode cX12_init 474 = .ok (.putfield 178, 3) := by decide +kernel
theorem dX12_init_477 : decode cX12_init 477 = .ok (.aload_n 0, 1) := by decide +kernel
theorem dX12_init_478 : decode cX12_init 478 = .ok (.sipush 200, 3) := by decide +kernel
theorem dX12_init_481 : decode cX12_init 481 = .ok (.newarray .int, 2) := by decide +kernel
theorem dX12_init_483 : decode cX12_init 483 = .ok (.putfield 181, 3) := by decide +kernel
theorem dX12_init_486 : decode cX12_init 486 = .ok (.aload_n 0, 1) := by decide +kernel
theorem dX12_init_487 : decode cX12_init 487 = .ok (.sipush 200, 3) := by decide +kernel
theorem dX12_init_490 : decode cX12_init 490 = .ok (.newarray .int, 2) := by decide +kernel
theorem dX12_init_492 : decode cX12_init 492 = .ok (.putfield 184, 3) := by decide +kernel
theorem dX12_init_495 : decode cX12_init 495 = .ok (.aload_n 0, 1) := by decide +kernel
theorem dX12_init_496 : decode cX12_init 496 = .ok (.sipush 200, 3) := by decide +kernel
theorem dX12_init_499 : decode cX12_init 499 = .ok (.newarray .int, 2) := by decide +kernel
theorem dX12_init_501 : decode cX12_init 501 = .ok (.putfield 187, 3) := by decide +kernel
theorem dX12_init_504 : decode cX12_init 504 = .ok (.aload_n 0, 1) := by decide +kernel
theorem dX12_init_505 : decode cX12_init 505 = .ok (.sipush 200, 3) := by decide +kernel
theorem dX12_init_508 : decode cX12_init 508 = .ok (.newarray .int, 2) := by decide +kernel
theorem dX12_init_510 : decode cX12_init 510 = .ok (.putfield 190, 3) := by decide +kernel
theorem dX12_init_513 : decode cX12_init 513 = .ok (.aload_n 0, 1) := by decide +kernel
theorem dX12_init_514 : decode cX12_init 514 = .ok (.bipush 30, 2) := by decide +kernel
theorem dX12_init_516 : decode cX12_init 516 = .ok (.newarray .int, 2) := by decide +kernel
theorem dX12_init_518 : decode cX12_init 518 = .ok (.putfield 193, 3) := by decide +kernel
theorem dX12_init_521 : decode cX12_init 521 = .ok (.aload_n 0, 1) := by decide +kernel
theorem dX12_init_522 : decode cX12_init 522 = .ok (.bipush 30, 2) := by decide +kernel
theorem dX12_init_524 : decode cX12_init 524 = .ok (.newarray .int, 2) := by decide +kernel
theorem dX12_init_526 : decode cX12_init 526 = .ok (.putfield 196, 3) := by decide +kernel
theorem dX12_init_529 : decode cX12_init 529 = .ok (.aload_n 0, 1) := by decide +kernel
theorem dX12_init_530 : decode cX12_init 530 = .ok (.bipush 30, 2) := by decide +kernel
theorem dX12_init_532 : decode cX12_init 532 = .ok (.newarray .int, 2) := by decide +kernel
theorem dX12_init_534 : decode cX12_init 534 = .ok (.putfield 199, 3) := by decide +kernel
theorem dX12_init_537 : decode cX12_init 537 = .ok (.aload_n 0, 1) := by decide +kernel
theorem dX12_init_538 : decode cX12_init 538 = .ok (.sipush 480, 3) := by decide +kernel
theorem dX12_init_541 : decode cX12_init 541 = .ok (.newarray .int, 2) := by decide +kernel
theorem dX12_init_543 : decode cX12_init 543 = .ok (.putfield 202, 3) := by decide +kernel
theorem dX12_init_546 : decode cX12_init 546 = .ok (.aload_n 0, 1) := by decide +kernel
theorem dX12_init_547 : decode cX12_init 547 = .ok (.bipush 30, 2) := by decide +kernel
theorem dX12_init_549 : decode cX12_init 549 = .ok (.newarray .int, 2) := by decide +kernel
theorem dX12_init_551 : decode cX12_init 551 = .ok (.putfield 205, 3) := by decide +kernel
theorem dX12_init_554 : decode cX12_init 554 = .ok (.aload_n 0, 1) := by decide +kernel
theorem dX12_init_555 : decode cX12_init 555 = .ok (.sipush 8000, 3) := by decide +kernel
theorem dX12_init_558 : decode cX12_init 558 = .ok (.newarray .int, 2) := by decide +kernel
theorem dX12_init_560 : decode cX12_init 560 = .ok (.putfield 208, 3) := by decide +kernel
theorem dX12_init_563 : decode cX12_init 563 = .ok (.aload_n 0, 1) := by decide +kernel
theorem dX12_init_564 : decode cX12_init 564 = .ok (.iconst 4, 1) := by decide +kernel
theorem dX12_init_565 : decode cX12_init 565 = .ok (.newarray .int, 2) := by decide +kernel
theorem dX12_init_567 : decode cX12_init 567 = .ok (.putfield 211, 3) := by decide +kernel
theorem dX12_init_570 : decode cX12_init 570 = .ok (.aload_n 0, 1) := by decide +kernel
theorem dX12_init_571 : decode cX12_init 571 = .ok (.iconst 4, 1) := by decide +kernel
theorem dX12_init_572 : decode cX12_init 572 = .ok (.newarray .int, 2) := by decide +kernel
theorem dX12_init_574 : decode cX12_init 574 = .ok (.putfield 214, 3) := by decide +kernel
theorem dX12_init_577 : decode cX12_init 577 = .ok (.aload_n 0, 1) := by decide +kernel
theorem dX12_init_578 : decode cX12_init 578 = .ok (.iconst 4, 1) := by decide +kernel
theorem dX12_init_579 : decode cX12_init 579 = .ok (.newarray .int, 2) := by decide +kernel
theorem dX12_init_581 : decode cX12_init 581 = .ok (.putfield 217, 3) := by decide +kernel
theorem dX12_init_584 : decode cX12_init 584 = .ok (.aload_n 0, 1) := by decide +kernel
theorem dX12_init_585 : decode cX12_init 585 = .ok (.iconst 4, 1) := by decide +kernel
theorem dX12_init_586 : decode cX12_init 586 = .ok (.newarray .boolean, 2) := by decide +kernel
theorem dX12_init_588 : decode cX12_init 588 = .ok (.putfield 220, 3) := by decide +kernel
theorem dX12_init_591 : decode cX12_init 591 = .ok (.iconst 0, 1) := by decide +kernel
theorem dX12_init_592 : decode cX12_init 592 = .ok (.istore_n 1, 1) := by decide +kernel
theorem dX12_init_593 : decode cX12_init 593 = .ok (.iload_n 1, 1) := by decide +kernel
theorem dX12_init_594 : decode cX12_init 594 = .ok (.sipush 480, 3) := by decide +kernel
theorem dX12_init_597 : decode cX12_init 597 = .ok (.if_icmp .ge 16, 3) := by decide +kernel
theorem dX12_init_600 : decode cX12_init 600 = .ok (.aload_n 0, 1) := by decide +kernel
theorem dX12_init_601 : decode cX12_init 601 = .ok (.getfield 202, 3) := by decide +kernel
theorem dX12_init_604 : decode cX12_init 604 = .ok (.iload_n 1, 1) := by decide +kernel
theorem dX12_init_605 : decode cX12_init 605 = .ok (.iconst (-1), 1) := by decide +kernel
theorem dX12_init_606 : decode cX12_init 606 = .ok (.iastore, 1) := by decide +kernel
theorem dX12_init_607 : decode cX12_init 607 = .ok (.iinc 1 1, 3) := by decide +kernel
theorem dX12_init_610 : decode cX12_init 610 = .ok (.goto (-17), 3) := by decide +kernel
theorem dX12_init_613 : decode cX12_init 613 = .ok (.return_, 1) := by decide +kernel
theorem dX12_in_0 : decode cX12_in 0 = .ok (.lload_n 0, 1) := by decide +kernel
theorem dX12_in_1 : decode cX12_in 1 = .ok (.lload_n 2, 1) := by decide +kernel
theorem dX12_in_2 : decode cX12_in 2 = .ok (.lcmp, 1) := by decide +kernel
theorem dX12_in_3 : decode cX12_in 3 = .ok (.ifCond .lt 14, 3) := by decide +kernel
theorem dX12_in_6 : decode cX12_in 6 = .ok (.lload_n 0, 1) := by decide +kernel
theorem dX12_in_7 : decode cX12_in 7 = .ok (.lload 4, 2) := by decide +kernel
theorem dX12_in_9 : decode cX12_in 9 = .ok (.lcmp, 1) := by decide +kernel
theorem dX12_in_10 : decode cX12_in 10 = .ok (.ifCond .gt 7, 3) := by decide +kernel
theorem dX12_in_13 : decode cX12_in 13 = .ok (.iconst 1, 1) := by decide +kernel
theorem dX12_in_14 : decode cX12_in 14 = .ok (.goto 4, 3) := by decide +kernel
theorem dX12_in_17 : decode cX12_in 17 = .ok (.iconst 0, 1) := by decide +kernel
theorem dX12_in_18 : decode cX12_in 18 = .ok (.ireturn, 1) := by decide +kernel
theorem dX12_isDay_0 : decode cX12_isDay 0 = .ok (.iload_n 0, 1) := by decide +kernel
theorem dX12_isDay_1 : decode cX12_isDay 1 = .ok (.i2l, 1) := by decide +kernel
theorem dX12_isDay_2 : decode cX12_isDay 2 = .ok (.lconst 0, 1) := by decide +kernel
theorem dX12_isDay_3 : decode cX12_isDay 3 = .ok (.ldc2_w 227, 3) := by decide +kernel
theorem dX12_isDay_6 : decode cX12_isDay 6 = .ok (.invokestatic 229, 3) := by decide +kernel
theorem dX12_isDay_9 : decode cX12_isDay 9 = .ok (.ireturn, 1) := by decide +kernel
theorem dX12_clock_0 : decode cX12_clock 0 = .ok (.iload_n 1, 1) := by decide +kernel
theorem dX12_clock_1 : decode cX12_clock 1 = .ok (.i2l, 1) := by decide +kernel
theorem dX12_clock_2 : decode cX12_clock 2 = .ok (.aload_n 0, 1) := by decide +kernel
theorem dX12_clock_3 : decode cX12_clock 3 = .ok (.getfield 233, 3) := by decide +kernel
theorem dX12_clock_6 : decode cX12_clock 6 = .ok (.i2l, 1) := by decide +kernel
theorem dX12_clock_7 : decode cX12_clock 7 = .ok (.ldc2_w 227, 3) := by decide +kernel
theorem dX12_clock_10 : decode cX12_clock 10 = .ok (.invokestatic 229, 3) := by decide +kernel
theorem dX12_clock_13 : decode cX12_clock 13 = .ok (.ifCond .ne 5, 3) := by decide +kernel
theorem dX12_clock_16 : decode cX12_clock 16 = .ok (.iconst 0, 1) := by decide +kernel
theorem dX12_clock_17 : decode cX12_clock 17 = .ok (.ireturn, 1) := by decide +kernel
theorem dX12_clock_18 : decode cX12_clock 18 = .ok (.aload_n 0, 1) := by decide +kernel
theorem dX12_clock_19 : decode cX12_clock 19 = .ok (.iload_n 1, 1) := by decide +kernel
theorem dX12_clock_20 : decode cX12_clock 20 = .ok (.putfield 233, 3) := by decide +kernel
theorem dX12_clock_23 : decode cX12_clock 23 = .ok (.iconst 1, 1) := by decide +kernel
theorem dX12_clock_24 : decode cX12_clock 24 = .ok (.ireturn, 1) := by decide +kernel
theorem dX12_isPart_0 : decode cX12_isPart 0 = .ok (.iload_n 1, 1) := by decide +kernel
theorem dX12_isPart_1 : decode cX12_isPart 1 = .ok (.i2l, 1) := by decide +kernel
theorem dX12_isPart_2 : decode cX12_isPart 2 = .ok (.lconst 0, 1) := by decide +kernel
theorem dX12_isPart_3 : decode cX12_isPart 3 = .ok (.aload_n 0, 1) := by decide +kernel
theorem dX12_isPart_4 : decode cX12_isPart 4 = .ok (.getfield 236, 3) := by decide +kernel
theorem dX12_isPart_7 : decode cX12_isPart 7 = .ok (.iconst 1, 1) := by decide +kernel
theorem dX12_isPart_8 : decode cX12_isPart 8 = .ok (.isub, 1) := by decide +kernel
theorem dX12_isPart_9 : decode cX12_isPart 9 = .ok (.i2l, 1) := by decide +kernel
theorem dX12_isPart_10 : decode cX12_isPart 10 = .ok (.invokestatic 229, 3) := by decide +kernel
theorem dX12_isPart_13 : decode cX12_isPart 13 = .ok (.ireturn, 1) := by decide +kernel
theorem dX12_isMachine_0 : decode cX12_isMachine 0 = .ok (.iload_n 1, 1) := by decide +kernel
theorem dX12_isMachine_1 : decode cX12_isMachine 1 = .ok (.i2l, 1) := by decide +kernel
theorem dX12_isMachine_2 : decode cX12_isMachine 2 = .ok (.lconst 0, 1) := by decide +kernel
theorem dX12_isMachine_3 : decode cX12_isMachine 3 = .ok (.aload_n 0, 1) := by decide +kernel
theorem dX12_isMachine_4 : decode cX12_isMachine 4 = .ok (.getfield 239, 3) := by decide +kernel
theorem dX12_isMachine_7 : decode cX12_isMachine 7 = .ok (.iconst 1, 1) := by decide +kernel
theorem dX12_isMachine_8 : decode cX12_isMachine 8 = .ok (.isub, 1) := by decide +kernel
theorem dX12_isMachine_9 : decode cX12_isMachine 9 = .ok (.i2l, 1) := by decide +kernel
theorem dX12_isMachine_10 : decode cX12_isMachine 10 = .ok (.invokestatic 229, 3) := by decide +kernel
theorem dX12_isMachine_13 : decode cX12_isMachine 13 = .ok (.ireturn, 1) := by decide +kernel
theorem dX12_isDriven_0 : decode cX12_isDriven 0 = .ok (.iload_n 1, 1) := by decide +kernel
theorem dX12_isDriven_1 : decode cX12_isDriven 1 = .ok (.ifCond .ne 21, 3) := by decide +kernel
theorem dX12_isDriven_4 : decode cX12_isDriven 4 = .ok (.aload_n 0, 1) := by decide +kernel
theorem dX12_isDriven_5 : decode cX12_isDriven 5 = .ok (.getfield 236, 3) := by decide +kernel
theorem dX12_isDriven_8 : decode cX12_isDriven 8 = .ok (.ifCond .ne 12, 3) := by decide +kernel
theorem dX12_isDriven_11 : decode cX12_isDriven 11 = .ok (.iload_n 2, 1) := by decide +kernel
theorem dX12_isDriven_12 : decode cX12_isDriven 12 = .ok (.iconst (-1), 1) := by decide +kernel
theorem dX12_isDriven_13 : decode cX12_isDriven 13 = .ok (.if_icmp .ne 7, 3) := by decide +kernel
theorem dX12_isDriven_16 : decode cX12_isDriven 16 = .ok (.iconst 1, 1) := by decide +kernel
theorem dX12_isDriven_17 : decode cX12_isDriven 17 = .ok (.goto 4, 3) := by decide +kernel
theorem dX12_isDriven_20 : decode cX12_isDriven 20 = .ok (.iconst 0, 1) := by decide +kernel
theorem dX12_isDriven_21 : decode cX12_isDriven 21 = .ok (.ireturn, 1) := by decide +kernel
theorem dX12_isDriven_22 : decode cX12_isDriven 22 = .ok (.aload_n 0, 1) := by decide +kernel
theorem dX12_isDriven_23 : decode cX12_isDriven 23 = .ok (.getfield 236, 3) := by decide +kernel
theorem dX12_isDriven_26 : decode cX12_isDriven 26 = .ok (.ifCond .le 43, 3) := by decide +kernel
theorem dX12_isDriven_29 : decode cX12_isDriven 29 = .ok (.aload_n 0, 1) := by decide +kernel
theorem dX12_isDriven_30 : decode cX12_isDriven 30 = .ok (.iload_n 2, 1) := by decide +kernel
theorem dX12_isDriven_31 : decode cX12_isDriven 31 = .ok (.invokevirtual 242, 3) := by decide +kernel
theorem dX12_isDriven_34 : decode cX12_isDriven 34 = .ok (.ifCond .eq 35, 3) := by decide +kernel
theorem dX12_isDriven_37 : decode cX12_isDriven 37 = .ok (.iload_n 1, 1) := by decide +kernel
theorem dX12_isDriven_38 : decode cX12_isDriven 38 = .ok (.iconst 5, 1) := by decide +kernel
theorem dX12_isDriven_39 : decode cX12_isDriven 39 = .ok (.if_icmp .ne 16, 3) := by decide +kernel
theorem dX12_isDriven_42 : decode cX12_isDriven 42 = .ok (.aload_n 0, 1) := by decide +kernel
theorem dX12_isDriven_43 : decode cX12_isDriven 43 = .ok (.getfield 9, 3) := by decide +kernel
theorem dX12_isDriven_46 : decode cX12_isDriven 46 = .ok (.iload_n 2, 1) := by decide +kernel
theorem dX12_isDriven_47 : decode cX12_isDriven 47 = .ok (.iaload, 1) := by decide +kernel
theorem dX12_isDriven_48 : decode cX12_isDriven 48 = .ok (.iconst 2, 1) := by decide +kernel
theorem dX12_isDriven_49 : decode cX12_isDriven 49 = .ok (.if_icmp .ne 20, 3) := by decide +kernel
theorem dX12_isDriven_52 : decode cX12_isDriven 52 = .ok (.goto 13, 3) := by decide +kernel
theorem dX12_isDriven_55 : decode cX12_isDriven 55 = .ok (.aload_n 0, 1) := by decide +kernel
theorem dX12_isDriven_56 : decode cX12_isDriven 56 = .ok (.getfield 9, 3) := by decide +kernel
theorem dX12_isDriven_59 : decode cX12_isDriven 59 = .ok (.iload_n 2, 1) := by decide +kernel
theorem dX12_isDriven_60 : decode cX12_isDriven 60 = .ok (.iaload, 1) := by decide +kernel
theorem dX12_isDriven_61 : decode cX12_isDriven 61 = .ok (.iconst 2, 1) := by decide +kernel
theorem dX12_isDriven_62 : decode cX12_isDriven 62 = .ok (.if_icmp .gt 7, 3) := by decide +kernel
theorem dX12_isDriven_65 : decode cX12_isDriven 65 = .ok (.iconst 1, 1) := by decide +kernel
theorem dX12_isDriven_66 : decode cX12_isDriven 66 = .ok (.goto 4, 3) := by decide +kernel
theorem dX12_isDriven_69 : decode cX12_isDriven 69 = .ok (.iconst 0, 1) := by decide +kernel
theorem dX12_isDriven_70 : decode cX12_isDriven 70 = .ok (.ireturn, 1) := by decide +kernel
theorem dX12_part_0 : decode cX12_part 0 = .ok (.aload_n 0, 1) := by decide +kernel
theorem dX12_part_1 : decode cX12_part 1 = .ok (.getfield 236, 3) := by decide +kernel
theorem dX12_part_4 : decode cX12_part 4 = .ok (.bipush 24, 2) := by decide +kernel
theorem dX12_part_6 : decode cX12_part 6 = .ok (.if_icmp .eq 98, 3) := by decide +kernel
theorem dX12_part_9 : decode cX12_part 9 = .ok (.iload_n 1, 1) := by decide +kernel
theorem dX12_part_10 : decode cX12_part 10 = .ok (.i2l, 1) := by decide +kernel
theorem dX12_part_11 : decode cX12_part 11 = .ok (.lconst 0, 1) := by decide +kernel
theorem dX12_part_12 : decode cX12_part 12 = .ok (.ldc2_w 246, 3) := by decide +kernel
theorem dX12_part_15 : decode cX12_part 15 = .ok (.invokestatic 229, 3) := by decide +kernel
theorem dX12_part_18 : decode cX12_part 18 = .ok (.ifCond .eq 86, 3) := by decide +kernel
theorem dX12_part_21 : decode cX12_part 21 = .ok (.aload_n 0, 1) := by decide +kernel
theorem dX12_part_22 : decode cX12_part 22 = .ok (.iload_n 1, 1) := by decide +kernel
theorem dX12_part_23 : decode cX12_part 23 = .ok (.iload_n 2, 1) := by decide +kernel
theorem dX12_part_24 : decode cX12_part 24 = .ok (.invokevirtual 248, 3) := by decide +kernel
theorem dX12_part_27 : decode cX12_part 27 = .ok (.ifCond .eq 77, 3) := by decide +kernel
theorem dX12_part_30 : decode cX12_part 30 = .ok (.iload_n 3, 1) := by decide +kernel
theorem dX12_part_31 : decode cX12_part 31 = .ok (.i2l, 1) := by decide +kernel
theorem dX12_part_32 : decode cX12_part 32 = .ok (.lconst 0, 1) := by decide +kernel
theorem dX12_part_33 : decode cX12_part 33 = .ok (.ldc2_w 252, 3) := by decide +kernel
theorem dX12_part_36 : decode cX12_part 36 = .ok (.invokestatic 229, 3) := by decide +kernel
theorem dX12_part_39 : decode cX12_part 39 = .ok (.ifCond .eq 65, 3) := by decide +kernel
theorem dX12_part_42 : decode cX12_part 42 = .ok (.iload 4, 2) := by decide +kernel
theorem dX12_part_44 : decode cX12_part 44 = .ok (.i2l, 1) := by decide +kernel
theorem dX12_part_45 : decode cX12_part 45 = .ok (.ldc2_w 254, 3) := by decide +kernel
theorem dX12_part_48 : decode cX12_part 48 = .ok (.ldc2_w 252, 3) := by decide +kernel
theorem dX12_part_51 : decode cX12_part 51 = .ok (.invokestatic 229, 3) := by decide +kernel
theorem dX12_part_54 : decode cX12_part 54 = .ok (.ifCond .eq 50, 3) := by decide +kernel
theorem dX12_part_57 : decode cX12_part 57 = .ok (.iload 4, 2) := by decide +kernel
theorem dX12_part_59 : decode cX12_part 59 = .ok (.bipush 10, 2) := by decide +kernel
theorem dX12_part_61 : decode cX12_part 61 = .ok (.irem, 1) := by decide +kernel
theorem dX12_part_62 : decode cX12_part 62 = .ok (.ifCond .eq 42, 3) := by decide +kernel
theorem dX12_part_65 : decode cX12_part 65 = .ok (.iload 5, 2) := by decide +kernel
theorem dX12_part_67 : decode cX12_part 67 = .ok (.i2l, 1) := by decide +kernel
theorem dX12_part_68 : decode cX12_part 68 = .ok (.lconst 0, 1) := by decide +kernel
theorem dX12_part_69 : decode cX12_part 69 = .ok (.ldc2_w 256, 3) := by decide +kernel
theorem dX12_part_72 : decode cX12_part 72 = .ok (.invokestatic 229, 3) := by decide +kernel
theorem dX12_part_75 : decode cX12_part 75 = .ok (.ifCond .eq 29, 3) := by decide +kernel
theorem dX12_part_78 : decode cX12_part 78 = .ok (.iload 6, 2) := by decide +kernel
theorem dX12_part_80 : decode cX12_part 80 = .ok (.i2l, 1) := by decide +kernel
theorem dX12_part_81 : decode cX12_part 81 = .ok (.lconst 0, 1) := by decide +kernel
theorem dX12_part_82 : decode cX12_part 82 = .ok (.ldc2_w 256, 3) := by decide +kernel
theorem dX12_part_85 : decode cX12_part 85 = .ok (.invokestatic 229, 3) := by decide +kernel
theorem dX12_part_88 : decode cX12_part 88 = .ok (.ifCond .eq 16, 3) := by decide +kernel
theorem dX12_part_91 : decode cX12_part 91 = .ok (.iload 7, 2) := by decide +kernel
theorem dX12_part_93 : decode cX12_part 93 = .ok (.i2l, 1) := by decide +kernel
theorem dX12_part_94 : decode cX12_part 94 = .ok (.lconst 0, 1) := by decide +kernel
theorem dX12_part_95 : decode cX12_part 95 = .ok (.ldc2_w 256, 3) := by decide +kernel
theorem dX12_part_98 : decode cX12_part 98 = .ok (.invokestatic 229, 3) := by decide +kernel
theorem dX12_part_101 : decode cX12_part 101 = .ok (.ifCond .ne 5, 3) := by decide +kernel
theorem dX12_part_104 : decode cX12_part 104 = .ok (.iconst (-1), 1) := by decide +kernel
theorem dX12_part_105 : decode cX12_part 105 = .ok (.ireturn, 1) := by decide +kernel
theorem dX12_part_106 : decode cX12_part 106 = .ok (.aload_n 0, 1) := by decide +kernel
theorem dX12_part_107 : decode cX12_part 107 = .ok (.getfield 9, 3) := by decide +kernel
theorem dX12_part_110 : decode cX12_part 110 = .ok (.aload_n 0, 1) := by decide +kernel
theorem dX12_part_111 : decode cX12_part 111 = .ok (.getfield 236, 3) := by decide +kernel
theorem dX12_part_114 : decode cX12_part 114 = .ok (.iload_n 1, 1) := by decide +kernel
theorem dX12_part_115 : decode cX12_part 115 = .ok (.iastore, 1) := by decide +kernel
theorem dX12_part_116 : decode cX12_part 116 = .ok (.aload_n 0, 1) := by decide +kernel
theorem dX12_part_117 : decode cX12_part 117 = .ok (.getfield 13, 3) := by decide +kernel
theorem dX12_part_120 : decode cX12_part 120 = .ok (.aload_n 0, 1) := by decide +kernel
theorem dX12_part_121 : decode cX12_part 121 = .ok (.getfield 236, 3) := by decide +kernel
theorem dX12_part_124 : decode cX12_part 124 = .ok (.iload_n 2, 1) := by decide +kernel
theorem dX12_part_125 : decode cX12_part 125 = .ok (.iastore, 1) := by decide +kernel
theorem dX12_part_126 : decode cX12_part 126 = .ok (.aload_n 0, 1) := by decide +kernel
theorem dX12_part_127 : decode cX12_part 127 = .ok (.getfield 16, 3) := by decide +kernel
theorem dX12_part_130 : decode cX12_part 130 = .ok (.aload_n 0, 1) := by decide +kernel
theorem dX12_part_131 : decode cX12_part 131 = .ok (.getfield 236, 3) := by decide +kernel
theorem dX12_part_134 : decode cX12_part 134 = .ok (.iload_n 3, 1) := by decide +kernel
theorem dX12_part_135 : decode cX12_part 135 = .ok (.iastore, 1) := by decide +kernel
theorem dX12_part_136 : decode cX12_part 136 = .ok (.aload_n 0, 1) := by decide +kernel
theorem dX12_part_137 : decode cX12_part 137 = .ok (.getfield 19, 3) := by decide +kernel
theorem dX12_part_140 : decode cX12_part 140 = .ok (.aload_n 0, 1) := by decide +kernel
theorem dX12_part_141 : decode cX12_part 141 = .ok (.getfield 236, 3) := by decide +kernel
theorem dX12_part_144 : decode cX12_part 144 = .ok (.iload 4, 2) := by decide +kernel
theorem dX12_part_146 : decode cX12_part 146 = .ok (.iastore, 1) := by decide +kernel
theorem dX12_part_147 : decode cX12_part 147 = .ok (.aload_n 0, 1) := by decide +kernel
theorem dX12_part_148 : decode cX12_part 148 = .ok (.getfield 22, 3) := by decide +kernel
theorem dX12_part_151 : decode cX12_part 151 = .ok (.aload_n 0, 1) := by decide +kernel
theorem dX12_part_152 : decode cX12_part 152 = .ok (.getfield 236, 3) := by decide +kernel
theorem dX12_part_155 : decode cX12_part 155 = .ok (.iload 5, 2) := by decide +kernel
theorem dX12_part_157 : decode cX12_part 157 = .ok (.iastore, 1) := by decide +kernel
theorem dX12_part_158 : decode cX12_part 158 = .ok (.aload_n 0, 1) := by decide +kernel
theorem dX12_part_159 : decode cX12_part 159 = .ok (.getfield 25, 3) := by decide +kernel
theorem dX12_part_162 : decode cX12_part 162 = .ok (.aload_n 0, 1) := by decide +kernel
theorem dX12_part_163 : decode cX12_part 163 = .ok (.getfield 236, 3) := by decide +kernel
theorem dX12_part_166 : decode cX12_part 166 = .ok (.iload 6, 2) := by decide +kernel
theorem dX12_part_168 : decode cX12_part 168 = .ok (.iastore, 1) := by decide +kernel
theorem dX12_part_169 : decode cX12_part 169 = .ok (.aload_n 0, 1) := by decide +kernel
theorem dX12_part_170 : decode cX12_part 170 = .ok (.getfield 28, 3) := by decide +kernel
theorem dX12_part_173 : decode cX12_part 173 = .ok (.aload_n 0, 1) := by decide +kernel
theorem dX12_part_174 : decode cX12_part 174 = .ok (.getfield 236, 3) := by decide +kernel
theorem dX12_part_177 : decode cX12_part 177 = .ok (.iload 7, 2) := by decide +kernel
theorem dX12_part_179 : decode cX12_part 179 = .ok (.iastore, 1) := by decide +kernel
theorem dX12_part_180 : decode cX12_part 180 = .ok (.aload_n 0, 1) := by decide +kernel
theorem dX12_part_181 : decode cX12_part 181 = .ok (.getfield 31, 3) := by decide +kernel
theorem dX12_part_184 : decode cX12_part 184 = .ok (.aload_n 0, 1) := by decide +kernel
theorem dX12_part_185 : decode cX12_part 185 = .ok (.getfield 236, 3) := by decide +kernel
theorem dX12_part_188 : decode cX12_part 188 = .ok (.iconst 0, 1) := by decide +kernel
theorem dX12_part_189 : decode cX12_part 189 = .ok (.iastore, 1) := by decide +kernel
theorem dX12_part_190 : decode cX12_part 190 = .ok (.aload_n 0, 1) := by decide +kernel
theorem dX12_part_191 : decode cX12_part 191 = .ok (.dup, 1) := by decide +kernel
theorem dX12_part_192 : decode cX12_part 192 = .ok (.getfield 236, 3) := by decide +kernel
theorem dX12_part_195 : decode cX12_part 195 = .ok (.iconst 1, 1) := by decide +kernel
theorem dX12_part_196 : decode cX12_part 196 = .ok (.iadd, 1) := by decide +kernel
theorem dX12_part_197 : decode cX12_part 197 = .ok (.putfield 236, 3) := by decide +kernel
theorem dX12_part_200 : decode cX12_part 200 = .ok (.aload_n 0, 1) := by decide +kernel
theorem dX12_part_201 : decode cX12_part 201 = .ok (.getfield 236, 3) := by decide +kernel
theorem dX12_part_204 : decode cX12_part 204 = .ok (.iconst 1, 1) := by decide +kernel
theorem dX12_part_205 : decode cX12_part 205 = .ok (.isub, 1) := by decide +kernel
theorem dX12_part_206 : decode cX12_part 206 = .ok (.ireturn, 1) := by decide +kernel
theorem dX12_machine_0 : decode cX12_machine 0 = .ok (.aload_n 0, 1) := by decide +kernel
theorem dX12_machine_1 : decode cX12_machine 1 = .ok (.getfield 239, 3) := by decide +kernel
theorem dX12_machine_4 : decode cX12_machine 4 = .ok (.bipush 20, 2) := by decide +kernel
theorem dX12_machine_6 : decode cX12_machine 6 = .ok (.if_icmp .ne 5, 3) := by decide +kernel
theorem dX12_machine_9 : decode cX12_machine 9 = .ok (.iconst (-1), 1) := by decide +kernel
theorem dX12_machine_10 : decode cX12_machine 10 = .ok (.ireturn, 1) := by decide +kernel
theorem dX12_machine_11 : decode cX12_machine 11 = .ok (.iconst 0, 1) := by decide +kernel
theorem dX12_machine_12 : decode cX12_machine 12 = .ok (.istore_n 1, 1) := by decide +kernel
theorem dX12_machine_13 : decode cX12_machine 13 = .ok (.iload_n 1, 1) := by decide +kernel
theorem dX12_machine_14 : decode cX12_machine 14 = .ok (.bipush 24, 2) := by decide +kernel
theorem dX12_machine_16 : decode cX12_machine 16 = .ok (.if_icmp .ge 18, 3) := by decide +kernel
theorem dX12_machine_19 : decode cX12_machine 19 = .ok (.aload_n 0, 1) := by decide +kernel
theorem dX12_machine_20 : decode cX12_machine 20 = .ok (.aload_n 0, 1) := by decide +kernel
theorem dX12_machine_21 : decode cX12_machine 21 = .ok (.getfield 239, 3) := by decide +kernel
theorem dX12_machine_24 : decode cX12_machine 24 = .ok (.iload_n 1, 1) := by decide +kernel
theorem dX12_machine_25 : decode cX12_machine 25 = .ok (.invokevirtual 258, 3) := by decide +kernel
theorem dX12_machine_28 : decode cX12_machine 28 = .ok (.iinc 1 1, 3) := by decide +kernel
theorem dX12_machine_31 : decode cX12_machine 31 = .ok (.goto (-18), 3) := by decide +kernel
theorem dX12_machine_34 : decode cX12_machine 34 = .ok (.aload_n 0, 1) := by decide +kernel
theorem dX12_machine_35 : decode cX12_machine 35 = .ok (.getfield 46, 3) := by decide +kernel
theorem dX12_machine_38 : decode cX12_machine 38 = .ok (.aload_n 0, 1) := by decide +kernel
theorem dX12_machine_39 : decode cX12_machine 39 = .ok (.getfield 239, 3) := by decide +kernel
theorem dX12_machine_42 : decode cX12_machine 42 = .ok (.iconst 0, 1) := by decide +kernel
theorem dX12_machine_43 : decode cX12_machine 43 = .ok (.iastore, 1) := by decide +kernel
theorem dX12_machine_44 : decode cX12_machine 44 = .ok (.aload_n 0, 1) := by decide +kernel
theorem dX12_machine_45 : decode cX12_machine 45 = .ok (.getfield 49, 3) := by decide +kernel
theorem dX12_machine_48 : decode cX12_machine 48 = .ok (.aload_n 0, 1) := by decide +kernel
theorem dX12_machine_49 : decode cX12_machine 49 = .ok (.getfield 239, 3) := by decide +kernel
theorem dX12_machine_52 : decode cX12_machine 52 = .ok (.iconst 0, 1) := by decide +kernel
theorem dX12_machine_53 : decode cX12_machine 53 = .ok (.iastore, 1) := by decide +kernel
theorem dX12_machine_54 : decode cX12_machine 54 = .ok (.aload_n 0, 1) := by decide +kernel
theorem dX12_machine_55 : decode cX12_machine 55 = .ok (.dup, 1) := by decide +kernel
theorem dX12_machine_56 : decode cX12_machine 56 = .ok (.getfield 239, 3) := by decide +kernel
theorem dX12_machine_59 : decode cX12_machine 59 = .ok (.iconst 1, 1) := by decide +kernel
theorem dX12_machine_60 : decode cX12_machine 60 = .ok (.iadd, 1) := by decide +kernel
theorem dX12_machine_61 : decode cX12_machine 61 = .ok (.putfield 239, 3) := by decide +kernel
theorem dX12_machine_64 : decode cX12_machine 64 = .ok (.aload_n 0, 1) := by decide +kernel
theorem dX12_machine_65 : decode cX12_machine 65 = .ok (.getfield 239, 3) := by decide +kernel
theorem dX12_machine_68 : decode cX12_machine 68 = .ok (.iconst 1, 1) := by decide +kernel
theorem dX12_machine_69 : decode cX12_machine 69 = .ok (.isub, 1) := by decide +kernel
theorem dX12_machine_70 : decode cX12_machine 70 = .ok (.ireturn, 1) := by decide +kernel
theorem dX12_clears_0 : decode cX12_clears 0 = .ok (.aload_n 0, 1) := by decide +kernel
theorem dX12_clears_1 : decode cX12_clears 1 = .ok (.getfield 34, 3) := by decide +kernel
theorem dX12_clears_4 : decode cX12_clears 4 = .ok (.bipush 24, 2) := by decide +kernel
theorem dX12_clears_6 : decode cX12_clears 6 = .ok (.iload_n 1, 1) := by decide +kernel
theorem dX12_clears_7 : decode cX12_clears 7 = .ok (.imul, 1) := by decide +kernel
theorem dX12_clears_8 : decode cX12_clears 8 = .ok (.iload_n 2, 1) := by decide +kernel
theorem dX12_clears_9 : decode cX12_clears 9 = .ok (.iadd, 1) := by decide +kernel
theorem dX12_clears_10 : decode cX12_clears 10 = .ok (.iconst 0, 1) := by decide +kernel
theorem dX12_clears_11 : decode cX12_clears 11 = .ok (.iastore, 1) := by decide +kernel
theorem dX12_clears_12 : decode cX12_clears 12 = .ok (.aload_n 0, 1) := by decide +kernel
theorem dX12_clears_13 : decode cX12_clears 13 = .ok (.getfield 37, 3) := by decide +kernel
theorem dX12_clears_16 : decode cX12_clears 16 = .ok (.bipush 24, 2) := by decide +kernel
theorem dX12_clears_18 : decode cX12_clears 18 = .ok (.iload_n 1, 1) := by decide +kernel
theorem dX12_clears_19 : decode cX12_clears 19 = .ok (.imul, 1) := by decide +kernel
theorem dX12_clears_20 : decode cX12_clears 20 = .ok (.iload_n 2, 1) := by decide +kernel
theorem dX12_clears_21 : decode cX12_clears 21 = .ok (.iadd, 1) := by decide +kernel
theorem dX12_clears_22 : decode cX12_clears 22 = .ok (.iconst 0, 1) := by decide +kernel
theorem dX12_clears_23 : decode cX12_clears 23 = .ok (.iastore, 1) := by decide +kernel
theorem dX12_clears_24 : decode cX12_clears 24 = .ok (.aload_n 0, 1) := by decide +kernel
theorem dX12_clears_25 : decode cX12_clears 25 = .ok (.getfield 40, 3) := by decide +kernel
theorem dX12_clears_28 : decode cX12_clears 28 = .ok (.bipush 24, 2) := by decide +kernel
theorem dX12_clears_30 : decode cX12_clears 30 = .ok (.iload_n 1, 1) := by decide +kernel
theorem dX12_clears_31 : decode cX12_clears 31 = .ok (.imul, 1) := by decide +kernel
theorem dX12_clears_32 : decode cX12_clears 32 = .ok (.iload_n 2, 1) := by decide +kernel
theorem dX12_clears_33 : decode cX12_clears 33 = .ok (.iadd, 1) := by decide +kernel
theorem dX12_clears_34 : decode cX12_clears 34 = .ok (.iconst 0, 1) := by decide +kernel
theorem dX12_clears_35 : decode cX12_clears 35 = .ok (.iastore, 1) := by decide +kernel
theorem dX12_clears_36 : decode cX12_clears 36 = .ok (.aload_n 0, 1) := by decide +kernel
theorem dX12_clears_37 : decode cX12_clears 37 = .ok (.getfield 43, 3) := by decide +kernel
theorem dX12_clears_40 : decode cX12_clears 40 = .ok (.bipush 24, 2) := by decide +kernel
theorem dX12_clears_42 : decode cX12_clears 42 = .ok (.iload_n 1, 1) := by decide +kernel
theorem dX12_clears_43 : decode cX12_clears 43 = .ok (.imul, 1) := by decide +kernel
theorem dX12_clears_44 : decode cX12_clears 44 = .ok (.iload_n 2, 1) := by decide +kernel
theorem dX12_clears_45 : decode cX12_clears 45 = .ok (.iadd, 1) := by decide +kernel
theorem dX12_clears_46 : decode cX12_clears 46 = .ok (.iconst 0, 1) := by decide +kernel
theorem dX12_clears_47 : decode cX12_clears 47 = .ok (.iastore, 1) := by decide +kernel
theorem dX12_clears_48 : decode cX12_clears 48 = .ok (.return_, 1) := by decide +kernel
theorem dX12_turn_0 : decode cX12_turn 0 = .ok (.aload_n 0, 1) := by decide +kernel
theorem dX12_turn_1 : decode cX12_turn 1 = .ok (.iload_n 1, 1) := by decide +kernel
theorem dX12_turn_2 : decode cX12_turn 2 = .ok (.invokevirtual 262, 3) := by decide +kernel
theorem dX12_turn_5 : decode cX12_turn 5 = .ok (.ifCond .eq 44, 3) := by decide +kernel
theorem dX12_turn_8 : decode cX12_turn 8 = .ok (.aload_n 0, 1) := by decide +kernel
theorem dX12_turn_9 : decode cX12_turn 9 = .ok (.iload_n 2, 1) := by decide +kernel
theorem dX12_turn_10 : decode cX12_turn 10 = .ok (.invokevirtual 242, 3) := by decide +kernel
theorem dX12_turn_13 : decode cX12_turn 13 = .ok (.ifCond .eq 36, 3) := by decide +kernel
theorem dX12_turn_16 : decode cX12_turn 16 = .ok (.iload_n 3, 1) := by decide +kernel
theorem dX12_turn_17 : decode cX12_turn 17 = .ok (.i2l, 1) := by decide +kernel
theorem dX12_turn_18 : decode cX12_turn 18 = .ok (.lconst 0, 1) := by decide +kernel
theorem dX12_turn_19 : decode cX12_turn 19 = .ok (.lconst 1, 1) := by decide +kernel
theorem dX12_turn_20 : decode cX12_turn 20 = .ok (.invokestatic 229, 3) := by decide +kernel
theorem dX12_turn_23 : decode cX12_turn 23 = .ok (.ifCond .eq 26, 3) := by decide +kernel
theorem dX12_turn_26 : decode cX12_turn 26 = .ok (.iload 4, 2) := by decide +kernel
theorem dX12_turn_28 : decode cX12_turn 28 = .ok (.i2l, 1) := by decide +kernel
theorem dX12_turn_29 : decode cX12_turn 29 = .ok (.iload_n 3, 1) := by decide +kernel
theorem dX12_turn_30 : decode cX12_turn 30 = .ok (.ifCond .ne 7, 3) := by decide +kernel
theorem dX12_turn_33 : decode cX12_turn 33 = .ok (.lconst 0, 1) := by decide +kernel
theorem dX12_turn_34 : decode cX12_turn 34 = .ok (.goto 6, 3) := by decide +kernel
theorem dX12_turn_37 : decode cX12_turn 37 = .ok (.ldc2_w 265, 3) := by decide +kernel
theorem dX12_turn_40 : decode cX12_turn 40 = .ok (.ldc2_w 252, 3) := by decide +kernel
theorem dX12_turn_43 : decode cX12_turn 43 = .ok (.invokestatic 229, 3) := by decide +kernel
theorem dX12_turn_46 : decode cX12_turn 46 = .ok (.ifCond .ne 7, 3) := by decide +kernel
theorem dX12_turn_49 : decode cX12_turn 49 = .ok (.sipush (-1000), 3) := by decide +kernel
theorem dX12_turn_52 : decode cX12_turn 52 = .ok (.ireturn, 1) := by decide +kernel
theorem dX12_turn_53 : decode cX12_turn 53 = .ok (.bipush 24, 2) := by decide +kernel
theorem dX12_turn_55 : decode cX12_turn 55 = .ok (.iload_n 1, 1) := by decide +kernel
theorem dX12_turn_56 : decode cX12_turn 56 = .ok (.imul, 1) := by decide +kernel
theorem dX12_turn_57 : decode cX12_turn 57 = .ok (.iload_n 2, 1) := by decide +kernel
theorem dX12_turn_58 : decode cX12_turn 58 = .ok (.iadd, 1) := by decide +kernel
theorem dX12_turn_59 : decode cX12_turn 59 = .ok (.istore 5, 2) := by decide +kernel
theorem dX12_turn_61 : decode cX12_turn 61 = .ok (.iload_n 3, 1) := by decide +kernel
theorem dX12_turn_62 : decode cX12_turn 62 = .ok (.ifCond .ne 13, 3) := by decide +kernel
theorem dX12_turn_65 : decode cX12_turn 65 = .ok (.aload_n 0, 1) := by decide +kernel
theorem dX12_turn_66 : decode cX12_turn 66 = .ok (.getfield 34, 3) := by decide +kernel
theorem dX12_turn_69 : decode cX12_turn 69 = .ok (.iload 5, 2) := by decide +kernel
theorem dX12_turn_71 : decode cX12_turn 71 = .ok (.iaload, 1) := by decide +kernel
theorem dX12_turn_72 : decode cX12_turn 72 = .ok (.goto 10, 3) := by decide +kernel
theorem dX12_turn_75 : decode cX12_turn 75 = .ok (.aload_n 0, 1) := by decide +kernel
theorem dX12_turn_76 : decode cX12_turn 76 = .ok (.getfield 37, 3) := by decide +kernel
theorem dX12_turn_79 : decode cX12_turn 79 = .ok (.iload 5, 2) := by decide +kernel
theorem dX12_turn_81 : decode cX12_turn 81 = .ok (.iaload, 1) := by decide +kernel
theorem dX12_turn_82 : decode cX12_turn 82 = .ok (.istore 6, 2) := by decide +kernel
theorem dX12_turn_84 : decode cX12_turn 84 = .ok (.iload_n 3, 1) := by decide +kernel
theorem dX12_turn_85 : decode cX12_turn 85 = .ok (.ifCond .ne 15, 3) := by decide +kernel
theorem dX12_turn_88 : decode cX12_turn 88 = .ok (.aload_n 0, 1) := by decide +kernel
theorem dX12_turn_89 : decode cX12_turn 89 = .ok (.getfield 34, 3) := by decide +kernel
theorem dX12_turn_92 : decode cX12_turn 92 = .ok (.iload 5, 2) := by decide +kernel
theorem dX12_turn_94 : decode cX12_turn 94 = .ok (.iload 4, 2) := by decide +kernel
theorem dX12_turn_96 : decode cX12_turn 96 = .ok (.iastore, 1) := by decide +kernel
theorem dX12_turn_97 : decode cX12_turn 97 = .ok (.goto 12, 3) := by decide +kernel
theorem dX12_turn_100 : decode cX12_turn 100 = .ok (.aload_n 0, 1) := by decide +kernel
theorem dX12_turn_101 : decode cX12_turn 101 = .ok (.getfield 37, 3) := by decide +kernel
theorem dX12_turn_104 : decode cX12_turn 104 = .ok (.iload 5, 2) := by decide +kernel
theorem dX12_turn_106 : decode cX12_turn 106 = .ok (.iload 4, 2) := by decide +kernel
theorem dX12_turn_108 : decode cX12_turn 108 = .ok (.iastore, 1) := by decide +kernel
theorem dX12_turn_109 : decode cX12_turn 109 = .ok (.iload 6, 2) := by decide +kernel
theorem dX12_turn_111 : decode cX12_turn 111 = .ok (.ireturn, 1) := by decide +kernel
theorem dX12_anew_0 : decode cX12_anew 0 = .ok (.aload_n 0, 1) := by decide +kernel
theorem dX12_anew_1 : decode cX12_anew 1 = .ok (.iload_n 1, 1) := by decide +kernel
theorem dX12_anew_2 : decode cX12_anew 2 = .ok (.invokevirtual 262, 3) := by decide +kernel
theorem dX12_anew_5 : decode cX12_anew 5 = .ok (.ifCond .eq 21, 3) := by decide +kernel
theorem dX12_anew_8 : decode cX12_anew 8 = .ok (.aload_n 0, 1) := by decide +kernel
theorem dX12_anew_9 : decode cX12_anew 9 = .ok (.iload_n 2, 1) := by decide +kernel
theorem dX12_anew_10 : decode cX12_anew 10 = .ok (.invokevirtual 242, 3) := by decide +kernel
theorem dX12_anew_13 : decode cX12_anew 13 = .ok (.ifCond .eq 13, 3) := by decide +kernel
theorem dX12_anew_16 : decode cX12_anew 16 = .ok (.aload_n 0, 1) := by decide +kernel
theorem dX12_anew_17 : decode cX12_anew 17 = .ok (.getfield 9, 3) := by decide +kernel
theorem dX12_anew_20 : decode cX12_anew 20 = .ok (.iload_n 2, 1) := by decide +kernel
theorem dX12_anew_21 : decode cX12_anew 21 = .ok (.iaload, 1) := by decide +kernel
theorem dX12_anew_22 : decode cX12_anew 22 = .ok (.iconst 1, 1) := by decide +kernel
theorem dX12_anew_23 : decode cX12_anew 23 = .ok (.if_icmp .eq 5, 3) := by decide +kernel
theorem dX12_anew_26 : decode cX12_anew 26 = .ok (.iconst (-1), 1) := by decide +kernel
theorem dX12_anew_27 : decode cX12_anew 27 = .ok (.ireturn, 1) := by decide +kernel
theorem dX12_anew_28 : decode cX12_anew 28 = .ok (.aload_n 0, 1) := by decide +kernel
theorem dX12_anew_29 : decode cX12_anew 29 = .ok (.getfield 40, 3) := by decide +kernel
theorem dX12_anew_32 : decode cX12_anew 32 = .ok (.bipush 24, 2) := by decide +kernel
theorem dX12_anew_34 : decode cX12_anew 34 = .ok (.iload_n 1, 1) := by decide +kernel
theorem dX12_anew_35 : decode cX12_anew 35 = .ok (.imul, 1) := by decide +kernel
theorem dX12_anew_36 : decode cX12_anew 36 = .ok (.iload_n 2, 1) := by decide +kernel
theorem dX12_anew_37 : decode cX12_anew 37 = .ok (.iadd, 1) := by decide +kernel
theorem dX12_anew_38 : decode cX12_anew 38 = .ok (.iaload, 1) := by decide +kernel
theorem dX12_anew_39 : decode cX12_anew 39 = .ok (.istore_n 3, 1) := by decide +kernel
theorem dX12_anew_40 : decode cX12_anew 40 = .ok (.aload_n 0, 1) := by decide +kernel
theorem dX12_anew_41 : decode cX12_anew 41 = .ok (.getfield 40, 3) := by decide +kernel
theorem dX12_anew_44 : decode cX12_anew 44 = .ok (.bipush 24, 2) := by decide +kernel
theorem dX12_anew_46 : decode cX12_anew 46 = .ok (.iload_n 1, 1) := by decide +kernel
theorem dX12_anew_47 : decode cX12_anew 47 = .ok (.imul, 1) := by decide +kernel
theorem dX12_anew_48 : decode cX12_anew 48 = .ok (.iload_n 2, 1) := by decide +kernel
theorem dX12_anew_49 : decode cX12_anew 49 = .ok (.iadd, 1) := by decide +kernel
theorem dX12_anew_50 : decode cX12_anew 50 = .ok (.iconst 0, 1) := by decide +kernel
theorem dX12_anew_51 : decode cX12_anew 51 = .ok (.iastore, 1) := by decide +kernel
theorem dX12_anew_52 : decode cX12_anew 52 = .ok (.iload_n 3, 1) := by decide +kernel
theorem dX12_anew_53 : decode cX12_anew 53 = .ok (.ireturn, 1) := by decide +kernel
theorem dX12_takes_0 : decode cX12_takes 0 = .ok (.iconst 0, 1) := by decide +kernel
theorem dX12_takes_1 : decode cX12_takes 1 = .ok (.istore_n 2, 1) := by decide +kernel
theorem dX12_takes_2 : decode cX12_takes 2 = .ok (.iload_n 2, 1) := by decide +kernel
theorem dX12_takes_3 : decode cX12_takes 3 = .ok (.aload_n 0, 1) := by decide +kernel
theorem dX12_takes_4 : decode cX12_takes 4 = .ok (.getfield 236, 3) := by decide +kernel
theorem dX12_takes_7 : decode cX12_takes 7 = .ok (.if_icmp .ge 95, 3) := by decide +kernel
theorem dX12_takes_10 : decode cX12_takes 10 = .ok (.bipush 24, 2) := by decide +kernel
theorem dX12_takes_12 : decode cX12_takes 12 = .ok (.iload_n 1, 1) := by decide +kernel
theorem dX12_takes_13 : decode cX12_takes 13 = .ok (.imul, 1) := by decide +kernel
theorem dX12_takes_14 : decode cX12_takes 14 = .ok (.iload_n 2, 1) := by decide +kernel
theorem dX12_takes_15 : decode cX12_takes 15 = .ok (.iadd, 1) := by decide +kernel
theorem dX12_takes_16 : decode cX12_takes 16 = .ok (.istore_n 3, 1) := by decide +kernel
theorem dX12_takes_17 : decode cX12_takes 17 = .ok (.aload_n 0, 1) := by decide +kernel
theorem dX12_takes_18 : decode cX12_takes 18 = .ok (.getfield 52, 3) := by decide +kernel
theorem dX12_takes_21 : decode cX12_takes 21 = .ok (.iload_n 2, 1) := by decide +kernel
theorem dX12_takes_22 : decode cX12_takes 22 = .ok (.aload_n 0, 1) := by decide +kernel
theorem dX12_takes_23 : decode cX12_takes 23 = .ok (.getfield 16, 3) := by decide +kernel
theorem dX12_takes_26 : decode cX12_takes 26 = .ok (.iload_n 2, 1) := by decide +kernel
theorem dX12_takes_27 : decode cX12_takes 27 = .ok (.iaload, 1) := by decide +kernel
theorem dX12_takes_28 : decode cX12_takes 28 = .ok (.iastore, 1) := by decide +kernel
theorem dX12_takes_29 : decode cX12_takes 29 = .ok (.aload_n 0, 1) := by decide +kernel
theorem dX12_takes_30 : decode cX12_takes 30 = .ok (.getfield 55, 3) := by decide +kernel
theorem dX12_takes_33 : decode cX12_takes 33 = .ok (.iload_n 2, 1) := by decide +kernel
theorem dX12_takes_34 : decode cX12_takes 34 = .ok (.aload_n 0, 1) := by decide +kernel
theorem dX12_takes_35 : decode cX12_takes 35 = .ok (.getfield 28, 3) := by decide +kernel
theorem dX12_takes_38 : decode cX12_takes 38 = .ok (.iload_n 2, 1) := by decide +kernel
theorem dX12_takes_39 : decode cX12_takes 39 = .ok (.iaload, 1) := by decide +kernel
theorem dX12_takes_40 : decode cX12_takes 40 = .ok (.aload_n 0, 1) := by decide +kernel
theorem dX12_takes_41 : decode cX12_takes 41 = .ok (.getfield 37, 3) := by decide +kernel
theorem dX12_takes_44 : decode cX12_takes 44 = .ok (.iload_n 3, 1) := by decide +kernel
theorem dX12_takes_45 : decode cX12_takes 45 = .ok (.iaload, 1) := by decide +kernel
theorem dX12_takes_46 : decode cX12_takes 46 = .ok (.iadd, 1) := by decide +kernel
theorem dX12_takes_47 : decode cX12_takes 47 = .ok (.iastore, 1) := by decide +kernel
theorem dX12_takes_48 : decode cX12_takes 48 = .ok (.aload_n 0, 1) := by decide +kernel
theorem dX12_takes_49 : decode cX12_takes 49 = .ok (.getfield 58, 3) := by decide +kernel
theorem dX12_takes_52 : decode cX12_takes 52 = .ok (.iload_n 2, 1) := by decide +kernel
theorem dX12_takes_53 : decode cX12_takes 53 = .ok (.aload_n 0, 1) := by decide +kernel
theorem dX12_takes_54 : decode cX12_takes 54 = .ok (.getfield 25, 3) := by decide +kernel
theorem dX12_takes_57 : decode cX12_takes 57 = .ok (.iload_n 2, 1) := by decide +kernel
theorem dX12_takes_58 : decode cX12_takes 58 = .ok (.iaload, 1) := by decide +kernel
theorem dX12_takes_59 : decode cX12_takes 59 = .ok (.iastore, 1) := by decide +kernel
theorem dX12_takes_60 : decode cX12_takes 60 = .ok (.aload_n 0, 1) := by decide +kernel
theorem dX12_takes_61 : decode cX12_takes 61 = .ok (.getfield 61, 3) := by decide +kernel
theorem dX12_takes_64 : decode cX12_takes 64 = .ok (.iload_n 2, 1) := by decide +kernel
theorem dX12_takes_65 : decode cX12_takes 65 = .ok (.aload_n 0, 1) := by decide +kernel
theorem dX12_takes_66 : decode cX12_takes 66 = .ok (.getfield 34, 3) := by decide +kernel
theorem dX12_takes_69 : decode cX12_takes 69 = .ok (.iload_n 3, 1) := by decide +kernel
theorem dX12_takes_70 : decode cX12_takes 70 = .ok (.iaload, 1) := by decide +kernel
theorem dX12_takes_71 : decode cX12_takes 71 = .ok (.iastore, 1) := by decide +kernel
theorem dX12_takes_72 : decode cX12_takes 72 = .ok (.aload_n 0, 1) := by decide +kernel
theorem dX12_takes_73 : decode cX12_takes 73 = .ok (.getfield 64, 3) := by decide +kernel
theorem dX12_takes_76 : decode cX12_takes 76 = .ok (.iload_n 2, 1) := by decide +kernel
theorem dX12_takes_77 : decode cX12_takes 77 = .ok (.aload_n 0, 1) := by decide +kernel
theorem dX12_takes_78 : decode cX12_takes 78 = .ok (.getfield 40, 3) := by decide +kernel
