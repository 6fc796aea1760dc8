theorem dX0_init_0 : decode cX0_init 0 = .ok (.aload_n 0, 1) := by decide +kernel
theorem dX0_init_1 : decode cX0_init 1 = .ok (.invokespecial 3, 3) := by decide +kernel
theorem dX0_init_4 : decode cX0_init 4 = .ok (.aload_n 0, 1) := by decide +kernel
theorem dX0_init_5 : decode cX0_init 5 = .ok (.iconst 0, 1) := by decide +kernel
theorem dX0_init_6 : decode cX0_init 6 = .ok (.putfield 9, 3) := by decide +kernel
theorem dX0_init_9 : decode cX0_init 9 = .ok (.aload_n 0, 1) := by decide +kernel
theorem dX0_init_10 : decode cX0_init 10 = .ok (.iconst 0, 1) := by decide +kernel
theorem dX0_init_11 : decode cX0_init 11 = .ok (.putfield 15, 3) := by decide +kernel
theorem dX0_init_14 : decode cX0_init 14 = .ok (.aload_n 0, 1) := by decide +kernel
theorem dX0_init_15 : decode cX0_init 15 = .ok (.iconst 0, 1) := by decide +kernel
theorem dX0_init_16 : decode cX0_init 16 = .ok (.putfield 18, 3) := by decide +kernel
theorem dX0_init_19 : decode cX0_init 19 = .ok (.aload_n 0, 1) := by decide +kernel
theorem dX0_init_20 : decode cX0_init 20 = .ok (.iconst 0, 1) := by decide +kernel
theorem dX0_init_21 : decode cX0_init 21 = .ok (.putfield 21, 3) := by decide +kernel
theorem dX0_init_24 : decode cX0_init 24 = .ok (.aload_n 0, 1) := by decide +kernel
theorem dX0_init_25 : decode cX0_init 25 = .ok (.sipush 999, 3) := by decide +kernel
theorem dX0_init_28 : decode cX0_init 28 = .ok (.putfield 25, 3) := by decide +kernel
theorem dX0_init_31 : decode cX0_init 31 = .ok (.aload_n 0, 1) := by decide +kernel
theorem dX0_init_32 : decode cX0_init 32 = .ok (.iconst 0, 1) := by decide +kernel
theorem dX0_init_33 : decode cX0_init 33 = .ok (.putfield 28, 3) := by decide +kernel
theorem dX0_init_36 : decode cX0_init 36 = .ok (.aload_n 0, 1) := by decide +kernel
theorem dX0_init_37 : decode cX0_init 37 = .ok (.bipush 7, 2) := by decide +kernel
theorem dX0_init_39 : decode cX0_init 39 = .ok (.newarray .int, 2) := by decide +kernel
theorem dX0_init_41 : decode cX0_init 41 = .ok (.putfield 31, 3) := by decide +kernel
theorem dX0_init_44 : decode cX0_init 44 = .ok (.aload_n 0, 1) := by decide +kernel
theorem dX0_init_45 : decode cX0_init 45 = .ok (.bipush 64, 2) := by decide +kernel
theorem dX0_init_47 : decode cX0_init 47 = .ok (.newarray .int, 2) := by decide +kernel
theorem dX0_init_49 : decode cX0_init 49 = .ok (.putfield 35, 3) := by decide +kernel
theorem dX0_init_52 : decode cX0_init 52 = .ok (.return_, 1) := by decide +kernel
theorem dX0_begin_0 : decode cX0_begin 0 = .ok (.aload_n 0, 1) := by decide +kernel
theorem dX0_begin_1 : decode cX0_begin 1 = .ok (.iconst 0, 1) := by decide +kernel
theorem dX0_begin_2 : decode cX0_begin 2 = .ok (.putfield 9, 3) := by decide +kernel
theorem dX0_begin_5 : decode cX0_begin 5 = .ok (.aload_n 0, 1) := by decide +kernel
theorem dX0_begin_6 : decode cX0_begin 6 = .ok (.iconst 0, 1) := by decide +kernel
theorem dX0_begin_7 : decode cX0_begin 7 = .ok (.putfield 15, 3) := by decide +kernel
theorem dX0_begin_10 : decode cX0_begin 10 = .ok (.aload_n 0, 1) := by decide +kernel
theorem dX0_begin_11 : decode cX0_begin 11 = .ok (.iconst 0, 1) := by decide +kernel
theorem dX0_begin_12 : decode cX0_begin 12 = .ok (.putfield 18, 3) := by decide +kernel
theorem dX0_begin_15 : decode cX0_begin 15 = .ok (.aload_n 0, 1) := by decide +kernel
theorem dX0_begin_16 : decode cX0_begin 16 = .ok (.iconst 0, 1) := by decide +kernel
theorem dX0_begin_17 : decode cX0_begin 17 = .ok (.putfield 21, 3) := by decide +kernel
theorem dX0_begin_20 : decode cX0_begin 20 = .ok (.aload_n 0, 1) := by decide +kernel
theorem dX0_begin_21 : decode cX0_begin 21 = .ok (.sipush 999, 3) := by decide +kernel
theorem dX0_begin_24 : decode cX0_begin 24 = .ok (.putfield 25, 3) := by decide +kernel
theorem dX0_begin_27 : decode cX0_begin 27 = .ok (.aload_n 0, 1) := by decide +kernel
theorem dX0_begin_28 : decode cX0_begin 28 = .ok (.iload_n 3, 1) := by decide +kernel
theorem dX0_begin_29 : decode cX0_begin 29 = .ok (.putfield 28, 3) := by decide +kernel
theorem dX0_begin_32 : decode cX0_begin 32 = .ok (.aload_n 0, 1) := by decide +kernel
theorem dX0_begin_33 : decode cX0_begin 33 = .ok (.getfield 31, 3) := by decide +kernel
theorem dX0_begin_36 : decode cX0_begin 36 = .ok (.iconst 0, 1) := by decide +kernel
theorem dX0_begin_37 : decode cX0_begin 37 = .ok (.iload_n 1, 1) := by decide +kernel
theorem dX0_begin_38 : decode cX0_begin 38 = .ok (.iastore, 1) := by decide +kernel
theorem dX0_begin_39 : decode cX0_begin 39 = .ok (.aload_n 0, 1) := by decide +kernel
theorem dX0_begin_40 : decode cX0_begin 40 = .ok (.getfield 31, 3) := by decide +kernel
theorem dX0_begin_43 : decode cX0_begin 43 = .ok (.iconst 1, 1) := by decide +kernel
theorem dX0_begin_44 : decode cX0_begin 44 = .ok (.iload_n 2, 1) := by decide +kernel
theorem dX0_begin_45 : decode cX0_begin 45 = .ok (.iastore, 1) := by decide +kernel
theorem dX0_begin_46 : decode cX0_begin 46 = .ok (.aload_n 0, 1) := by decide +kernel
theorem dX0_begin_47 : decode cX0_begin 47 = .ok (.getfield 31, 3) := by decide +kernel
theorem dX0_begin_50 : decode cX0_begin 50 = .ok (.iconst 5, 1) := by decide +kernel
theorem dX0_begin_51 : decode cX0_begin 51 = .ok (.iload_n 3, 1) := by decide +kernel
theorem dX0_begin_52 : decode cX0_begin 52 = .ok (.invokestatic 38, 3) := by decide +kernel
theorem dX0_begin_55 : decode cX0_begin 55 = .ok (.iastore, 1) := by decide +kernel
theorem dX0_begin_56 : decode cX0_begin 56 = .ok (.return_, 1) := by decide +kernel
theorem dX0_know_0 : decode cX0_know 0 = .ok (.iload_n 2, 1) := by decide +kernel
theorem dX0_know_1 : decode cX0_know 1 = .ok (.iconst 0, 1) := by decide +kernel
theorem dX0_know_2 : decode cX0_know 2 = .ok (.bipush 19, 2) := by decide +kernel
theorem dX0_know_4 : decode cX0_know 4 = .ok (.invokestatic 44, 3) := by decide +kernel
theorem dX0_know_7 : decode cX0_know 7 = .ok (.ifCond .ne 4, 3) := by decide +kernel
theorem dX0_know_10 : decode cX0_know 10 = .ok (.return_, 1) := by decide +kernel
theorem dX0_know_11 : decode cX0_know 11 = .ok (.aload_n 0, 1) := by decide +kernel
theorem dX0_know_12 : decode cX0_know 12 = .ok (.getfield 31, 3) := by decide +kernel
theorem dX0_know_15 : decode cX0_know 15 = .ok (.iconst 2, 1) := by decide +kernel
theorem dX0_know_16 : decode cX0_know 16 = .ok (.aload_n 1, 1) := by decide +kernel
theorem dX0_know_17 : decode cX0_know 17 = .ok (.getfield 48, 3) := by decide +kernel
theorem dX0_know_20 : decode cX0_know 20 = .ok (.iload_n 2, 1) := by decide +kernel
theorem dX0_know_21 : decode cX0_know 21 = .ok (.iaload, 1) := by decide +kernel
theorem dX0_know_22 : decode cX0_know 22 = .ok (.iastore, 1) := by decide +kernel
theorem dX0_know_23 : decode cX0_know 23 = .ok (.aload_n 0, 1) := by decide +kernel
theorem dX0_know_24 : decode cX0_know 24 = .ok (.getfield 31, 3) := by decide +kernel
theorem dX0_know_27 : decode cX0_know 27 = .ok (.iconst 3, 1) := by decide +kernel
theorem dX0_know_28 : decode cX0_know 28 = .ok (.aload_n 1, 1) := by decide +kernel
theorem dX0_know_29 : decode cX0_know 29 = .ok (.aload_n 1, 1) := by decide +kernel
theorem dX0_know_30 : decode cX0_know 30 = .ok (.getfield 53, 3) := by decide +kernel
theorem dX0_know_33 : decode cX0_know 33 = .ok (.iload_n 2, 1) := by decide +kernel
theorem dX0_know_34 : decode cX0_know 34 = .ok (.invokevirtual 56, 3) := by decide +kernel
theorem dX0_know_37 : decode cX0_know 37 = .ok (.iastore, 1) := by decide +kernel
theorem dX0_know_38 : decode cX0_know 38 = .ok (.aload_n 0, 1) := by decide +kernel
theorem dX0_know_39 : decode cX0_know 39 = .ok (.getfield 31, 3) := by decide +kernel
theorem dX0_know_42 : decode cX0_know 42 = .ok (.iconst 4, 1) := by decide +kernel
theorem dX0_know_43 : decode cX0_know 43 = .ok (.aload_n 1, 1) := by decide +kernel
theorem dX0_know_44 : decode cX0_know 44 = .ok (.aload_n 1, 1) := by decide +kernel
theorem dX0_know_45 : decode cX0_know 45 = .ok (.getfield 60, 3) := by decide +kernel
theorem dX0_know_48 : decode cX0_know 48 = .ok (.iload_n 2, 1) := by decide +kernel
theorem dX0_know_49 : decode cX0_know 49 = .ok (.invokevirtual 56, 3) := by decide +kernel
theorem dX0_know_52 : decode cX0_know 52 = .ok (.iastore, 1) := by decide +kernel
theorem dX0_know_53 : decode cX0_know 53 = .ok (.return_, 1) := by decide +kernel
theorem dX0_heldForce_0 : decode cX0_heldForce 0 = .ok (.iconst 0, 1) := by decide +kernel
theorem dX0_heldForce_1 : decode cX0_heldForce 1 = .ok (.aload_n 0, 1) := by decide +kernel
theorem dX0_heldForce_2 : decode cX0_heldForce 2 = .ok (.getfield 25, 3) := by decide +kernel
theorem dX0_heldForce_5 : decode cX0_heldForce 5 = .ok (.invokestatic 63, 3) := by decide +kernel
theorem dX0_heldForce_8 : decode cX0_heldForce 8 = .ok (.ireturn, 1) := by decide +kernel
theorem dX0_bindBy_0 : decode cX0_bindBy 0 = .ok (.aload_n 0, 1) := by decide +kernel
theorem dX0_bindBy_1 : decode cX0_bindBy 1 = .ok (.getfield 31, 3) := by decide +kernel
theorem dX0_bindBy_4 : decode cX0_bindBy 4 = .ok (.bipush 6, 2) := by decide +kernel
theorem dX0_bindBy_6 : decode cX0_bindBy 6 = .ok (.iconst 0, 1) := by decide +kernel
theorem dX0_bindBy_7 : decode cX0_bindBy 7 = .ok (.iload_n 2, 1) := by decide +kernel
theorem dX0_bindBy_8 : decode cX0_bindBy 8 = .ok (.invokestatic 63, 3) := by decide +kernel
theorem dX0_bindBy_11 : decode cX0_bindBy 11 = .ok (.iastore, 1) := by decide +kernel
theorem dX0_bindBy_12 : decode cX0_bindBy 12 = .ok (.iconst 0, 1) := by decide +kernel
theorem dX0_bindBy_13 : decode cX0_bindBy 13 = .ok (.istore_n 3, 1) := by decide +kernel
theorem dX0_bindBy_14 : decode cX0_bindBy 14 = .ok (.iload_n 3, 1) := by decide +kernel
theorem dX0_bindBy_15 : decode cX0_bindBy 15 = .ok (.aload_n 1, 1) := by decide +kernel
theorem dX0_bindBy_16 : decode cX0_bindBy 16 = .ok (.getfield 69, 3) := by decide +kernel
theorem dX0_bindBy_19 : decode cX0_bindBy 19 = .ok (.if_icmp .ge 57, 3) := by decide +kernel
theorem dX0_bindBy_22 : decode cX0_bindBy 22 = .ok (.iload_n 3, 1) := by decide +kernel
theorem dX0_bindBy_23 : decode cX0_bindBy 23 = .ok (.bipush 12, 2) := by decide +kernel
theorem dX0_bindBy_25 : decode cX0_bindBy 25 = .ok (.if_icmp .ge 51, 3) := by decide +kernel
theorem dX0_bindBy_28 : decode cX0_bindBy 28 = .ok (.aload_n 1, 1) := by decide +kernel
theorem dX0_bindBy_29 : decode cX0_bindBy 29 = .ok (.getfield 74, 3) := by decide +kernel
theorem dX0_bindBy_32 : decode cX0_bindBy 32 = .ok (.iload_n 3, 1) := by decide +kernel
theorem dX0_bindBy_33 : decode cX0_bindBy 33 = .ok (.iaload, 1) := by decide +kernel
theorem dX0_bindBy_34 : decode cX0_bindBy 34 = .ok (.istore 4, 2) := by decide +kernel
theorem dX0_bindBy_36 : decode cX0_bindBy 36 = .ok (.aload_n 1, 1) := by decide +kernel
theorem dX0_bindBy_37 : decode cX0_bindBy 37 = .ok (.getfield 77, 3) := by decide +kernel
theorem dX0_bindBy_40 : decode cX0_bindBy 40 = .ok (.iload_n 3, 1) := by decide +kernel
theorem dX0_bindBy_41 : decode cX0_bindBy 41 = .ok (.iaload, 1) := by decide +kernel
theorem dX0_bindBy_42 : decode cX0_bindBy 42 = .ok (.istore 5, 2) := by decide +kernel
theorem dX0_bindBy_44 : decode cX0_bindBy 44 = .ok (.iload 4, 2) := by decide +kernel
theorem dX0_bindBy_46 : decode cX0_bindBy 46 = .ok (.iload 5, 2) := by decide +kernel
theorem dX0_bindBy_48 : decode cX0_bindBy 48 = .ok (.if_icmp .eq 15, 3) := by decide +kernel
theorem dX0_bindBy_51 : decode cX0_bindBy 51 = .ok (.aload_n 0, 1) := by decide +kernel
theorem dX0_bindBy_52 : decode cX0_bindBy 52 = .ok (.aload_n 1, 1) := by decide +kernel
theorem dX0_bindBy_53 : decode cX0_bindBy 53 = .ok (.iload 4, 2) := by decide +kernel
theorem dX0_bindBy_55 : decode cX0_bindBy 55 = .ok (.iload 5, 2) := by decide +kernel
theorem dX0_bindBy_57 : decode cX0_bindBy 57 = .ok (.invokevirtual 80, 3) := by decide +kernel
theorem dX0_bindBy_60 : decode cX0_bindBy 60 = .ok (.ifCond .eq 10, 3) := by decide +kernel
theorem dX0_bindBy_63 : decode cX0_bindBy 63 = .ok (.aload_n 0, 1) := by decide +kernel
theorem dX0_bindBy_64 : decode cX0_bindBy 64 = .ok (.aload_n 1, 1) := by decide +kernel
theorem dX0_bindBy_65 : decode cX0_bindBy 65 = .ok (.iload_n 3, 1) := by decide +kernel
theorem dX0_bindBy_66 : decode cX0_bindBy 66 = .ok (.iload_n 2, 1) := by decide +kernel
theorem dX0_bindBy_67 : decode cX0_bindBy 67 = .ok (.invokevirtual 84, 3) := by decide +kernel
theorem dX0_bindBy_70 : decode cX0_bindBy 70 = .ok (.iinc 3 1, 3) := by decide +kernel
theorem dX0_bindBy_73 : decode cX0_bindBy 73 = .ok (.goto (-59), 3) := by decide +kernel
theorem dX0_bindBy_76 : decode cX0_bindBy 76 = .ok (.return_, 1) := by decide +kernel
theorem dX0_bindByClause_0 : decode cX0_bindByClause 0 = .ok (.aload_n 1, 1) := by decide +kernel
theorem dX0_bindByClause_1 : decode cX0_bindByClause 1 = .ok (.getfield 88, 3) := by decide +kernel
theorem dX0_bindByClause_4 : decode cX0_bindByClause 4 = .ok (.iload_n 2, 1) := by decide +kernel
theorem dX0_bindByClause_5 : decode cX0_bindByClause 5 = .ok (.iaload, 1) := by decide +kernel
theorem dX0_bindByClause_6 : decode cX0_bindByClause 6 = .ok (.istore 4, 2) := by decide +kernel
theorem dX0_bindByClause_8 : decode cX0_bindByClause 8 = .ok (.aload_n 1, 1) := by decide +kernel
theorem dX0_bindByClause_9 : decode cX0_bindByClause 9 = .ok (.getfield 91, 3) := by decide +kernel
theorem dX0_bindByClause_12 : decode cX0_bindByClause 12 = .ok (.iload_n 2, 1) := by decide +kernel
theorem dX0_bindByClause_13 : decode cX0_bindByClause 13 = .ok (.iaload, 1) := by decide +kernel
theorem dX0_bindByClause_14 : decode cX0_bindByClause 14 = .ok (.tableswitch 119 0 2 #[26, 78, 105], 26) := by decide +kernel
theorem dX0_bindByClause_40 : decode cX0_bindByClause 40 = .ok (.iconst 1, 1) := by decide +kernel
theorem dX0_bindByClause_41 : decode cX0_bindByClause 41 = .ok (.iload 4, 2) := by decide +kernel
theorem dX0_bindByClause_43 : decode cX0_bindByClause 43 = .ok (.ishl, 1) := by decide +kernel
theorem dX0_bindByClause_44 : decode cX0_bindByClause 44 = .ok (.aload_n 0, 1) := by decide +kernel
theorem dX0_bindByClause_45 : decode cX0_bindByClause 45 = .ok (.getfield 28, 3) := by decide +kernel
theorem dX0_bindByClause_48 : decode cX0_bindByClause 48 = .ok (.iconst (-1), 1) := by decide +kernel
theorem dX0_bindByClause_49 : decode cX0_bindByClause 49 = .ok (.ixor, 1) := by decide +kernel
theorem dX0_bindByClause_50 : decode cX0_bindByClause 50 = .ok (.iand, 1) := by decide +kernel
theorem dX0_bindByClause_51 : decode cX0_bindByClause 51 = .ok (.istore 5, 2) := by decide +kernel
theorem dX0_bindByClause_53 : decode cX0_bindByClause 53 = .ok (.aload_n 0, 1) := by decide +kernel
theorem dX0_bindByClause_54 : decode cX0_bindByClause 54 = .ok (.dup, 1) := by decide +kernel
theorem dX0_bindByClause_55 : decode cX0_bindByClause 55 = .ok (.getfield 9, 3) := by decide +kernel
theorem dX0_bindByClause_58 : decode cX0_bindByClause 58 = .ok (.iload 5, 2) := by decide +kernel
theorem dX0_bindByClause_60 : decode cX0_bindByClause 60 = .ok (.ior, 1) := by decide +kernel
theorem dX0_bindByClause_61 : decode cX0_bindByClause 61 = .ok (.putfield 9, 3) := by decide +kernel
theorem dX0_bindByClause_64 : decode cX0_bindByClause 64 = .ok (.aload_n 0, 1) := by decide +kernel
theorem dX0_bindByClause_65 : decode cX0_bindByClause 65 = .ok (.dup, 1) := by decide +kernel
theorem dX0_bindByClause_66 : decode cX0_bindByClause 66 = .ok (.getfield 15, 3) := by decide +kernel
theorem dX0_bindByClause_69 : decode cX0_bindByClause 69 = .ok (.iload_n 3, 1) := by decide +kernel
theorem dX0_bindByClause_70 : decode cX0_bindByClause 70 = .ok (.aload_n 1, 1) := by decide +kernel
theorem dX0_bindByClause_71 : decode cX0_bindByClause 71 = .ok (.getfield 94, 3) := by decide +kernel
theorem dX0_bindByClause_74 : decode cX0_bindByClause 74 = .ok (.iload_n 2, 1) := by decide +kernel
theorem dX0_bindByClause_75 : decode cX0_bindByClause 75 = .ok (.iaload, 1) := by decide +kernel
theorem dX0_bindByClause_76 : decode cX0_bindByClause 76 = .ok (.if_icmp .le 8, 3) := by decide +kernel
theorem dX0_bindByClause_79 : decode cX0_bindByClause 79 = .ok (.iload 5, 2) := by decide +kernel
theorem dX0_bindByClause_81 : decode cX0_bindByClause 81 = .ok (.goto 4, 3) := by decide +kernel
theorem dX0_bindByClause_84 : decode cX0_bindByClause 84 = .ok (.iconst 0, 1) := by decide +kernel
theorem dX0_bindByClause_85 : decode cX0_bindByClause 85 = .ok (.ior, 1) := by decide +kernel
theorem dX0_bindByClause_86 : decode cX0_bindByClause 86 = .ok (.putfield 15, 3) := by decide +kernel
theorem dX0_bindByClause_89 : decode cX0_bindByClause 89 = .ok (.goto 49, 3) := by decide +kernel
theorem dX0_bindByClause_92 : decode cX0_bindByClause 92 = .ok (.aload_n 0, 1) := by decide +kernel
theorem dX0_bindByClause_93 : decode cX0_bindByClause 93 = .ok (.aload_n 0, 1) := by decide +kernel
theorem dX0_bindByClause_94 : decode cX0_bindByClause 94 = .ok (.getfield 25, 3) := by decide +kernel
theorem dX0_bindByClause_97 : decode cX0_bindByClause 97 = .ok (.aload_n 0, 1) := by decide +kernel
theorem dX0_bindByClause_98 : decode cX0_bindByClause 98 = .ok (.aload_n 1, 1) := by decide +kernel
theorem dX0_bindByClause_99 : decode cX0_bindByClause 99 = .ok (.iload 4, 2) := by decide +kernel
theorem dX0_bindByClause_101 : decode cX0_bindByClause 101 = .ok (.aload_n 1, 1) := by decide +kernel
theorem dX0_bindByClause_102 : decode cX0_bindByClause 102 = .ok (.getfield 74, 3) := by decide +kernel
theorem dX0_bindByClause_105 : decode cX0_bindByClause 105 = .ok (.iload_n 2, 1) := by decide +kernel
theorem dX0_bindByClause_106 : decode cX0_bindByClause 106 = .ok (.iaload, 1) := by decide +kernel
theorem dX0_bindByClause_107 : decode cX0_bindByClause 107 = .ok (.invokevirtual 80, 3) := by decide +kernel
theorem dX0_bindByClause_110 : decode cX0_bindByClause 110 = .ok (.invokestatic 97, 3) := by decide +kernel
theorem dX0_bindByClause_113 : decode cX0_bindByClause 113 = .ok (.putfield 25, 3) := by decide +kernel
theorem dX0_bindByClause_116 : decode cX0_bindByClause 116 = .ok (.goto 22, 3) := by decide +kernel
theorem dX0_bindByClause_119 : decode cX0_bindByClause 119 = .ok (.aload_n 0, 1) := by decide +kernel
theorem dX0_bindByClause_120 : decode cX0_bindByClause 120 = .ok (.dup, 1) := by decide +kernel
theorem dX0_bindByClause_121 : decode cX0_bindByClause 121 = .ok (.getfield 18, 3) := by decide +kernel
theorem dX0_bindByClause_124 : decode cX0_bindByClause 124 = .ok (.iload 4, 2) := by decide +kernel
theorem dX0_bindByClause_126 : decode cX0_bindByClause 126 = .ok (.ior, 1) := by decide +kernel
theorem dX0_bindByClause_127 : decode cX0_bindByClause 127 = .ok (.putfield 18, 3) := by decide +kernel
theorem dX0_bindByClause_130 : decode cX0_bindByClause 130 = .ok (.goto 8, 3) := by decide +kernel
theorem dX0_bindByClause_133 : decode cX0_bindByClause 133 = .ok (.aload_n 0, 1) := by decide +kernel
theorem dX0_bindByClause_134 : decode cX0_bindByClause 134 = .ok (.iconst 1, 1) := by decide +kernel
theorem dX0_bindByClause_135 : decode cX0_bindByClause 135 = .ok (.putfield 21, 3) := by decide +kernel
theorem dX0_bindByClause_138 : decode cX0_bindByClause 138 = .ok (.return_, 1) := by decide +kernel
theorem dX0_valueOf_0 : decode cX0_valueOf 0 = .ok (.iconst 0, 1) := by decide +kernel
theorem dX0_valueOf_1 : decode cX0_valueOf 1 = .ok (.istore 4, 2) := by decide +kernel
theorem dX0_valueOf_3 : decode cX0_valueOf 3 = .ok (.iconst 0, 1) := by decide +kernel
theorem dX0_valueOf_4 : decode cX0_valueOf 4 = .ok (.iload_n 2, 1) := by decide +kernel
theorem dX0_valueOf_5 : decode cX0_valueOf 5 = .ok (.invokestatic 63, 3) := by decide +kernel
theorem dX0_valueOf_8 : decode cX0_valueOf 8 = .ok (.istore 5, 2) := by decide +kernel
theorem dX0_valueOf_10 : decode cX0_valueOf 10 = .ok (.iload 5, 2) := by decide +kernel
theorem dX0_valueOf_12 : decode cX0_valueOf 12 = .ok (.iload_n 3, 1) := by decide +kernel
theorem dX0_valueOf_13 : decode cX0_valueOf 13 = .ok (.if_icmp .ge 146, 3) := by decide +kernel
theorem dX0_valueOf_16 : decode cX0_valueOf 16 = .ok (.iload 5, 2) := by decide +kernel
theorem dX0_valueOf_18 : decode cX0_valueOf 18 = .ok (.sipush 400, 3) := by decide +kernel
theorem dX0_valueOf_21 : decode cX0_valueOf 21 = .ok (.if_icmp .ge 138, 3) := by decide +kernel
theorem dX0_valueOf_24 : decode cX0_valueOf 24 = .ok (.aload_n 1, 1) := by decide +kernel
theorem dX0_valueOf_25 : decode cX0_valueOf 25 = .ok (.getfield 100, 3) := by decide +kernel
theorem dX0_valueOf_28 : decode cX0_valueOf 28 = .ok (.iload 5, 2) := by decide +kernel
theorem dX0_valueOf_30 : decode cX0_valueOf 30 = .ok (.iaload, 1) := by decide +kernel
theorem dX0_valueOf_31 : decode cX0_valueOf 31 = .ok (.istore 6, 2) := by decide +kernel
theorem dX0_valueOf_33 : decode cX0_valueOf 33 = .ok (.iload 6, 2) := by decide +kernel
theorem dX0_valueOf_35 : decode cX0_valueOf 35 = .ok (.bipush (-7), 2) := by decide +kernel
theorem dX0_valueOf_37 : decode cX0_valueOf 37 = .ok (.if_icmp .lt 42, 3) := by decide +kernel
theorem dX0_valueOf_40 : decode cX0_valueOf 40 = .ok (.iload 4, 2) := by decide +kernel
theorem dX0_valueOf_42 : decode cX0_valueOf 42 = .ok (.bipush 64, 2) := by decide +kernel
theorem dX0_valueOf_44 : decode cX0_valueOf 44 = .ok (.if_icmp .ge 109, 3) := by decide +kernel
theorem dX0_valueOf_47 : decode cX0_valueOf 47 = .ok (.aload_n 0, 1) := by decide +kernel
theorem dX0_valueOf_48 : decode cX0_valueOf 48 = .ok (.getfield 35, 3) := by decide +kernel
theorem dX0_valueOf_51 : decode cX0_valueOf 51 = .ok (.iload 4, 2) := by decide +kernel
theorem dX0_valueOf_53 : decode cX0_valueOf 53 = .ok (.iload 6, 2) := by decide +kernel
theorem dX0_valueOf_55 : decode cX0_valueOf 55 = .ok (.ifCond .lt 8, 3) := by decide +kernel
theorem dX0_valueOf_58 : decode cX0_valueOf 58 = .ok (.iload 6, 2) := by decide +kernel
theorem dX0_valueOf_60 : decode cX0_valueOf 60 = .ok (.goto 12, 3) := by decide +kernel
theorem dX0_valueOf_63 : decode cX0_valueOf 63 = .ok (.aload_n 0, 1) := by decide +kernel
theorem dX0_valueOf_64 : decode cX0_valueOf 64 = .ok (.getfield 31, 3) := by decide +kernel
theorem dX0_valueOf_67 : decode cX0_valueOf 67 = .ok (.iconst (-1), 1) := by decide +kernel
theorem dX0_valueOf_68 : decode cX0_valueOf 68 = .ok (.iload 6, 2) := by decide +kernel
theorem dX0_valueOf_70 : decode cX0_valueOf 70 = .ok (.isub, 1) := by decide +kernel
theorem dX0_valueOf_71 : decode cX0_valueOf 71 = .ok (.iaload, 1) := by decide +kernel
theorem dX0_valueOf_72 : decode cX0_valueOf 72 = .ok (.iastore, 1) := by decide +kernel
theorem dX0_valueOf_73 : decode cX0_valueOf 73 = .ok (.iinc 4 1, 3) := by decide +kernel
theorem dX0_valueOf_76 : decode cX0_valueOf 76 = .ok (.goto 77, 3) := by decide +kernel
theorem dX0_valueOf_79 : decode cX0_valueOf 79 = .ok (.iload 6, 2) := by decide +kernel
theorem dX0_valueOf_81 : decode cX0_valueOf 81 = .ok (.bipush (-8), 2) := by decide +kernel
theorem dX0_valueOf_83 : decode cX0_valueOf 83 = .ok (.if_icmp .ne 31, 3) := by decide +kernel
theorem dX0_valueOf_86 : decode cX0_valueOf 86 = .ok (.iload 4, 2) := by decide +kernel
theorem dX0_valueOf_88 : decode cX0_valueOf 88 = .ok (.ifCond .le 65, 3) := by decide +kernel
theorem dX0_valueOf_91 : decode cX0_valueOf 91 = .ok (.aload_n 0, 1) := by decide +kernel
theorem dX0_valueOf_92 : decode cX0_valueOf 92 = .ok (.getfield 35, 3) := by decide +kernel
theorem dX0_valueOf_95 : decode cX0_valueOf 95 = .ok (.iload 4, 2) := by decide +kernel
theorem dX0_valueOf_97 : decode cX0_valueOf 97 = .ok (.iconst 1, 1) := by decide +kernel
theorem dX0_valueOf_98 : decode cX0_valueOf 98 = .ok (.isub, 1) := by decide +kernel
theorem dX0_valueOf_99 : decode cX0_valueOf 99 = .ok (.iconst 1, 1) := by decide +kernel
theorem dX0_valueOf_100 : decode cX0_valueOf 100 = .ok (.aload_n 0, 1) := by decide +kernel
theorem dX0_valueOf_101 : decode cX0_valueOf 101 = .ok (.getfield 35, 3) := by decide +kernel
theorem dX0_valueOf_104 : decode cX0_valueOf 104 = .ok (.iload 4, 2) := by decide +kernel
theorem dX0_valueOf_106 : decode cX0_valueOf 106 = .ok (.iconst 1, 1) := by decide +kernel
theorem dX0_valueOf_107 : decode cX0_valueOf 107 = .ok (.isub, 1) := by decide +kernel
theorem dX0_valueOf_108 : decode cX0_valueOf 108 = .ok (.iaload, 1) := by decide +kernel
theorem dX0_valueOf_109 : decode cX0_valueOf 109 = .ok (.isub, 1) := by decide +kernel
theorem dX0_valueOf_110 : decode cX0_valueOf 110 = .ok (.iastore, 1) := by decide +kernel
theorem dX0_valueOf_111 : decode cX0_valueOf 111 = .ok (.goto 42, 3) := by decide +kernel
theorem dX0_valueOf_114 : decode cX0_valueOf 114 = .ok (.iload 4, 2) := by decide +kernel
theorem dX0_valueOf_116 : decode cX0_valueOf 116 = .ok (.iconst 1, 1) := by decide +kernel
theorem dX0_valueOf_117 : decode cX0_valueOf 117 = .ok (.if_icmp .le 36, 3) := by decide +kernel
theorem dX0_valueOf_120 : decode cX0_valueOf 120 = .ok (.iinc 4 (-1), 3) := by decide +kernel
theorem dX0_valueOf_123 : decode cX0_valueOf 123 = .ok (.aload_n 0, 1) := by decide +kernel
theorem dX0_valueOf_124 : decode cX0_valueOf 124 = .ok (.getfield 35, 3) := by decide +kernel
theorem dX0_valueOf_127 : decode cX0_valueOf 127 = .ok (.iload 4, 2) := by decide +kernel
theorem dX0_valueOf_129 : decode cX0_valueOf 129 = .ok (.iconst 1, 1) := by decide +kernel
theorem dX0_valueOf_130 : decode cX0_valueOf 130 = .ok (.isub, 1) := by decide +kernel
theorem dX0_valueOf_131 : decode cX0_valueOf 131 = .ok (.iload 6, 2) := by decide +kernel
theorem dX0_valueOf_133 : decode cX0_valueOf 133 = .ok (.aload_n 0, 1) := by decide +kernel
theorem dX0_valueOf_134 : decode cX0_valueOf 134 = .ok (.getfield 35, 3) := by decide +kernel
theorem dX0_valueOf_137 : decode cX0_valueOf 137 = .ok (.iload 4, 2) := by decide +kernel
theorem dX0_valueOf_139 : decode cX0_valueOf 139 = .ok (.iconst 1, 1) := by decide +kernel
theorem dX0_valueOf_140 : decode cX0_valueOf 140 = .ok (.isub, 1) := by decide +kernel
theorem dX0_valueOf_141 : decode cX0_valueOf 141 = .ok (.iaload, 1) := by decide +kernel
theorem dX0_valueOf_142 : decode cX0_valueOf 142 = .ok (.aload_n 0, 1) := by decide +kernel
theorem dX0_valueOf_143 : decode cX0_valueOf 143 = .ok (.getfield 35, 3) := by decide +kernel
theorem dX0_valueOf_146 : decode cX0_valueOf 146 = .ok (.iload 4, 2) := by decide +kernel
theorem dX0_valueOf_148 : decode cX0_valueOf 148 = .ok (.iaload, 1) := by decide +kernel
theorem dX0_valueOf_149 : decode cX0_valueOf 149 = .ok (.invokestatic 103, 3) := by decide +kernel
theorem dX0_valueOf_152 : decode cX0_valueOf 152 = .ok (.iastore, 1) := by decide +kernel
theorem dX0_valueOf_153 : decode cX0_valueOf 153 = .ok (.iinc 5 1, 3) := by decide +kernel
theorem dX0_valueOf_156 : decode cX0_valueOf 156 = .ok (.goto (-146), 3) := by decide +kernel
theorem dX0_valueOf_159 : decode cX0_valueOf 159 = .ok (.aload_n 0, 1) := by decide +kernel
theorem dX0_valueOf_160 : decode cX0_valueOf 160 = .ok (.getfield 35, 3) := by decide +kernel
theorem dX0_valueOf_163 : decode cX0_valueOf 163 = .ok (.iconst 0, 1) := by decide +kernel
theorem dX0_valueOf_164 : decode cX0_valueOf 164 = .ok (.iaload, 1) := by decide +kernel
theorem dX0_valueOf_165 : decode cX0_valueOf 165 = .ok (.ireturn, 1) := by decide +kernel
theorem dX0_joined_0 : decode cX0_joined 0 = .ok (.iload_n 0, 1) := by decide +kernel
theorem dX0_joined_1 : decode cX0_joined 1 = .ok (.tableswitch 129 (-16) (-9) #[125, 111, 97, 83, 69, 55, 51, 47], 47) := by decide +kernel
theorem dX0_joined_48 : decode cX0_joined 48 = .ok (.iload_n 1, 1) := by decide +kernel
theorem dX0_joined_49 : decode cX0_joined 49 = .ok (.iload_n 2, 1) := by decide +kernel
theorem dX0_joined_50 : decode cX0_joined 50 = .ok (.iadd, 1) := by decide +kernel
theorem dX0_joined_51 : decode cX0_joined 51 = .ok (.ireturn, 1) := by decide +kernel
theorem dX0_joined_52 : decode cX0_joined 52 = .ok (.iload_n 1, 1) := by decide +kernel
theorem dX0_joined_53 : decode cX0_joined 53 = .ok (.iload_n 2, 1) := by decide +kernel
theorem dX0_joined_54 : decode cX0_joined 54 = .ok (.isub, 1) := by decide +kernel
theorem dX0_joined_55 : decode cX0_joined 55 = .ok (.ireturn, 1) := by decide +kernel
theorem dX0_joined_56 : decode cX0_joined 56 = .ok (.iload_n 1, 1) := by decide +kernel
theorem dX0_joined_57 : decode cX0_joined 57 = .ok (.iload_n 2, 1) := by decide +kernel
theorem dX0_joined_58 : decode cX0_joined 58 = .ok (.if_icmp .ge 7, 3) := by decide +kernel
theorem dX0_joined_61 : decode cX0_joined 61 = .ok (.iconst 1, 1) := by decide +kernel
theorem dX0_joined_62 : decode cX0_joined 62 = .ok (.goto 4, 3) := by decide +kernel
theorem dX0_joined_65 : decode cX0_joined 65 = .ok (.iconst 0, 1) := by decide +kernel
theorem dX0_joined_66 : decode cX0_joined 66 = .ok (.invokestatic 107, 3) := by decide +kernel
theorem dX0_joined_69 : decode cX0_joined 69 = .ok (.ireturn, 1) := by decide +kernel
theorem dX0_joined_70 : decode cX0_joined 70 = .ok (.iload_n 1, 1) := by decide +kernel
theorem dX0_joined_71 : decode cX0_joined 71 = .ok (.iload_n 2, 1) := by decide +kernel
theorem dX0_joined_72 : decode cX0_joined 72 = .ok (.if_icmp .gt 7, 3) := by decide +kernel
theorem dX0_joined_75 : decode cX0_joined 75 = .ok (.iconst 1, 1) := by decide +kernel
theorem dX0_joined_76 : decode cX0_joined 76 = .ok (.goto 4, 3) := by decide +kernel
theorem dX0_joined_79 : decode cX0_joined 79 = .ok (.iconst 0, 1) := by decide +kernel
theorem dX0_joined_80 : decode cX0_joined 80 = .ok (.invokestatic 107, 3) := by decide +kernel
theorem dX0_joined_83 : decode cX0_joined 83 = .ok (.ireturn, 1) := by decide +kernel
theorem dX0_joined_84 : decode cX0_joined 84 = .ok (.iload_n 1, 1) := by decide +kernel
theorem dX0_joined_85 : decode cX0_joined 85 = .ok (.iload_n 2, 1) := by decide +kernel
theorem dX0_joined_86 : decode cX0_joined 86 = .ok (.if_icmp .ne 7, 3) := by decide +kernel
theorem dX0_joined_89 : decode cX0_joined 89 = .ok (.iconst 1, 1) := by decide +kernel
theorem dX0_joined_90 : decode cX0_joined 90 = .ok (.goto 4, 3) := by decide +kernel
theorem dX0_joined_93 : decode cX0_joined 93 = .ok (.iconst 0, 1) := by decide +kernel
theorem dX0_joined_94 : decode cX0_joined 94 = .ok (.invokestatic 107, 3) := by decide +kernel
theorem dX0_joined_97 : decode cX0_joined 97 = .ok (.ireturn, 1) := by decide +kernel
theorem dX0_joined_98 : decode cX0_joined 98 = .ok (.iload_n 1, 1) := by decide +kernel
theorem dX0_joined_99 : decode cX0_joined 99 = .ok (.iload_n 2, 1) := by decide +kernel
theorem dX0_joined_100 : decode cX0_joined 100 = .ok (.if_icmp .lt 7, 3) := by decide +kernel
theorem dX0_joined_103 : decode cX0_joined 103 = .ok (.iconst 1, 1) := by decide +kernel
theorem dX0_joined_104 : decode cX0_joined 104 = .ok (.goto 4, 3) := by decide +kernel
theorem dX0_joined_107 : decode cX0_joined 107 = .ok (.iconst 0, 1) := by decide +kernel
theorem dX0_joined_108 : decode cX0_joined 108 = .ok (.invokestatic 107, 3) := by decide +kernel
theorem dX0_joined_111 : decode cX0_joined 111 = .ok (.ireturn, 1) := by decide +kernel
theorem dX0_joined_112 : decode cX0_joined 112 = .ok (.iload_n 1, 1) := by decide +kernel
theorem dX0_joined_113 : decode cX0_joined 113 = .ok (.iload_n 2, 1) := by decide +kernel
theorem dX0_joined_114 : decode cX0_joined 114 = .ok (.if_icmp .le 7, 3) := by decide +kernel
theorem dX0_joined_117 : decode cX0_joined 117 = .ok (.iconst 1, 1) := by decide +kernel
theorem dX0_joined_118 : decode cX0_joined 118 = .ok (.goto 4, 3) := by decide +kernel
theorem dX0_joined_121 : decode cX0_joined 121 = .ok (.iconst 0, 1) := by decide +kernel
theorem dX0_joined_122 : decode cX0_joined 122 = .ok (.invokestatic 107, 3) := by decide +kernel
theorem dX0_joined_125 : decode cX0_joined 125 = .ok (.ireturn, 1) := by decide +kernel
theorem dX0_joined_126 : decode cX0_joined 126 = .ok (.iload_n 1, 1) := by decide +kernel
theorem dX0_joined_127 : decode cX0_joined 127 = .ok (.iload_n 2, 1) := by decide +kernel
theorem dX0_joined_128 : decode cX0_joined 128 = .ok (.iand, 1) := by decide +kernel
theorem dX0_joined_129 : decode cX0_joined 129 = .ok (.ireturn, 1) := by decide +kernel
theorem dX0_joined_130 : decode cX0_joined 130 = .ok (.iload_n 1, 1) := by decide +kernel
theorem dX0_joined_131 : decode cX0_joined 131 = .ok (.iload_n 2, 1) := by decide +kernel
theorem dX0_joined_132 : decode cX0_joined 132 = .ok (.ior, 1) := by decide +kernel
theorem dX0_joined_133 : decode cX0_joined 133 = .ok (.ireturn, 1) := by decide +kernel
theorem dX1_init_0 : decode cX1_init 0 = .ok (.aload_n 0, 1) := by decide +kernel
theorem dX1_init_1 : decode cX1_init 1 = .ok (.invokespecial 3, 3) := by decide +kernel
theorem dX1_init_4 : decode cX1_init 4 = .ok (.aload_n 0, 1) := by decide +kernel
theorem dX1_init_5 : decode cX1_init 5 = .ok (.iconst 0, 1) := by decide +kernel
theorem dX1_init_6 : decode cX1_init 6 = .ok (.putfield 9, 3) := by decide +kernel
theorem dX1_init_9 : decode cX1_init 9 = .ok (.aload_n 0, 1) := by decide +kernel
theorem dX1_init_10 : decode cX1_init 10 = .ok (.bipush 8, 2) := by decide +kernel
theorem dX1_init_12 : decode cX1_init 12 = .ok (.newarray .int, 2) := by decide +kernel
theorem dX1_init_14 : decode cX1_init 14 = .ok (.putfield 15, 3) := by decide +kernel
theorem dX1_init_17 : decode cX1_init 17 = .ok (.aload_n 0, 1) := by decide +kernel
theorem dX1_init_18 : decode cX1_init 18 = .ok (.bipush 8, 2) := by decide +kernel
theorem dX1_init_20 : decode cX1_init 20 = .ok (.newarray .int, 2) := by decide +kernel
theorem dX1_init_22 : decode cX1_init 22 = .ok (.putfield 19, 3) := by decide +kernel
theorem dX1_init_25 : decode cX1_init 25 = .ok (.aload_n 0, 1) := by decide +kernel
theorem dX1_init_26 : decode cX1_init 26 = .ok (.bipush 8, 2) := by decide +kernel
theorem dX1_init_28 : decode cX1_init 28 = .ok (.newarray .int, 2) := by decide +kernel
theorem dX1_init_30 : decode cX1_init 30 = .ok (.putfield 22, 3) := by decide +kernel
theorem dX1_init_33 : decode cX1_init 33 = .ok (.aload_n 0, 1) := by decide +kernel
theorem dX1_init_34 : decode cX1_init 34 = .ok (.bipush 8, 2) := by decide +kernel
theorem dX1_init_36 : decode cX1_init 36 = .ok (.newarray .int, 2) := by decide +kernel
theorem dX1_init_38 : decode cX1_init 38 = .ok (.putfield 25, 3) := by decide +kernel
theorem dX1_init_41 : decode cX1_init 41 = .ok (.aload_n 0, 1) := by decide +kernel
theorem dX1_init_42 : decode cX1_init 42 = .ok (.bipush 8, 2) := by decide +kernel
theorem dX1_init_44 : decode cX1_init 44 = .ok (.newarray .int, 2) := by decide +kernel
theorem dX1_init_46 : decode cX1_init 46 = .ok (.putfield 28, 3) := by decide +kernel
theorem dX1_init_49 : decode cX1_init 49 = .ok (.return_, 1) := by decide +kernel
theorem dX1_add_0 : decode cX1_add 0 = .ok (.aload_n 0, 1) := by decide +kernel
theorem dX1_add_1 : decode cX1_add 1 = .ok (.getfield 9, 3) := by decide +kernel
theorem dX1_add_4 : decode cX1_add 4 = .ok (.bipush 8, 2) := by decide +kernel
theorem dX1_add_6 : decode cX1_add 6 = .ok (.if_icmp .lt 5, 3) := by decide +kernel
theorem dX1_add_9 : decode cX1_add 9 = .ok (.iconst (-1), 1) := by decide +kernel
theorem dX1_add_10 : decode cX1_add 10 = .ok (.ireturn, 1) := by decide +kernel
theorem dX1_add_11 : decode cX1_add 11 = .ok (.aload_n 0, 1) := by decide +kernel
theorem dX1_add_12 : decode cX1_add 12 = .ok (.getfield 9, 3) := by decide +kernel
theorem dX1_add_15 : decode cX1_add 15 = .ok (.istore 6, 2) := by decide +kernel
theorem dX1_add_17 : decode cX1_add 17 = .ok (.aload_n 0, 1) := by decide +kernel
theorem dX1_add_18 : decode cX1_add 18 = .ok (.getfield 15, 3) := by decide +kernel
theorem dX1_add_21 : decode cX1_add 21 = .ok (.iload 6, 2) := by decide +kernel
theorem dX1_add_23 : decode cX1_add 23 = .ok (.iload_n 1, 1) := by decide +kernel
theorem dX1_add_24 : decode cX1_add 24 = .ok (.iastore, 1) := by decide +kernel
theorem dX1_add_25 : decode cX1_add 25 = .ok (.aload_n 0, 1) := by decide +kernel
theorem dX1_add_26 : decode cX1_add 26 = .ok (.getfield 19, 3) := by decide +kernel
theorem dX1_add_29 : decode cX1_add 29 = .ok (.iload 6, 2) := by decide +kernel
theorem dX1_add_31 : decode cX1_add 31 = .ok (.iload_n 2, 1) := by decide +kernel
theorem dX1_add_32 : decode cX1_add 32 = .ok (.iastore, 1) := by decide +kernel
theorem dX1_add_33 : decode cX1_add 33 = .ok (.aload_n 0, 1) := by decide +kernel
theorem dX1_add_34 : decode cX1_add 34 = .ok (.getfield 22, 3) := by decide +kernel
theorem dX1_add_37 : decode cX1_add 37 = .ok (.iload 6, 2) := by decide +kernel
theorem dX1_add_39 : decode cX1_add 39 = .ok (.iload_n 3, 1) := by decide +kernel
theorem dX1_add_40 : decode cX1_add 40 = .ok (.iastore, 1) := by decide +kernel
theorem dX1_add_41 : decode cX1_add 41 = .ok (.aload_n 0, 1) := by decide +kernel
theorem dX1_add_42 : decode cX1_add 42 = .ok (.getfield 25, 3) := by decide +kernel
theorem dX1_add_45 : decode cX1_add 45 = .ok (.iload 6, 2) := by decide +kernel
theorem dX1_add_47 : decode cX1_add 47 = .ok (.iload 4, 2) := by decide +kernel
theorem dX1_add_49 : decode cX1_add 49 = .ok (.iastore, 1) := by decide +kernel
theorem dX1_add_50 : decode cX1_add 50 = .ok (.aload_n 0, 1) := by decide +kernel
theorem dX1_add_51 : decode cX1_add 51 = .ok (.getfield 28, 3) := by decide +kernel
theorem dX1_add_54 : decode cX1_add 54 = .ok (.iload 6, 2) := by decide +kernel
theorem dX1_add_56 : decode cX1_add 56 = .ok (.iload 5, 2) := by decide +kernel
theorem dX1_add_58 : decode cX1_add 58 = .ok (.iastore, 1) := by decide +kernel
theorem dX1_add_59 : decode cX1_add 59 = .ok (.aload_n 0, 1) := by decide +kernel
theorem dX1_add_60 : decode cX1_add 60 = .ok (.iload 6, 2) := by decide +kernel
theorem dX1_add_62 : decode cX1_add 62 = .ok (.iconst 1, 1) := by decide +kernel
theorem dX1_add_63 : decode cX1_add 63 = .ok (.iadd, 1) := by decide +kernel
theorem dX1_add_64 : decode cX1_add 64 = .ok (.putfield 9, 3) := by decide +kernel
theorem dX1_add_67 : decode cX1_add 67 = .ok (.iload 6, 2) := by decide +kernel
theorem dX1_add_69 : decode cX1_add 69 = .ok (.ireturn, 1) := by decide +kernel
theorem dX1_coinsOf_0 : decode cX1_coinsOf 0 = .ok (.iconst 0, 1) := by decide +kernel
theorem dX1_coinsOf_1 : decode cX1_coinsOf 1 = .ok (.istore_n 2, 1) := by decide +kernel
theorem dX1_coinsOf_2 : decode cX1_coinsOf 2 = .ok (.iconst 0, 1) := by decide +kernel
theorem dX1_coinsOf_3 : decode cX1_coinsOf 3 = .ok (.istore_n 3, 1) := by decide +kernel
theorem dX1_coinsOf_4 : decode cX1_coinsOf 4 = .ok (.iload_n 3, 1) := by decide +kernel
theorem dX1_coinsOf_5 : decode cX1_coinsOf 5 = .ok (.aload_n 0, 1) := by decide +kernel
theorem dX1_coinsOf_6 : decode cX1_coinsOf 6 = .ok (.getfield 9, 3) := by decide +kernel
theorem dX1_coinsOf_9 : decode cX1_coinsOf 9 = .ok (.if_icmp .ge 24, 3) := by decide +kernel
theorem dX1_coinsOf_12 : decode cX1_coinsOf 12 = .ok (.iload_n 2, 1) := by decide +kernel
theorem dX1_coinsOf_13 : decode cX1_coinsOf 13 = .ok (.iload_n 1, 1) := by decide +kernel
theorem dX1_coinsOf_14 : decode cX1_coinsOf 14 = .ok (.iload_n 3, 1) := by decide +kernel
theorem dX1_coinsOf_15 : decode cX1_coinsOf 15 = .ok (.ishr, 1) := by decide +kernel
theorem dX1_coinsOf_16 : decode cX1_coinsOf 16 = .ok (.iconst 1, 1) := by decide +kernel
theorem dX1_coinsOf_17 : decode cX1_coinsOf 17 = .ok (.iand, 1) := by decide +kernel
theorem dX1_coinsOf_18 : decode cX1_coinsOf 18 = .ok (.aload_n 0, 1) := by decide +kernel
theorem dX1_coinsOf_19 : decode cX1_coinsOf 19 = .ok (.getfield 28, 3) := by decide +kernel
theorem dX1_coinsOf_22 : decode cX1_coinsOf 22 = .ok (.iload_n 3, 1) := by decide +kernel
theorem dX1_coinsOf_23 : decode cX1_coinsOf 23 = .ok (.iaload, 1) := by decide +kernel
theorem dX1_coinsOf_24 : decode cX1_coinsOf 24 = .ok (.imul, 1) := by decide +kernel
theorem dX1_coinsOf_25 : decode cX1_coinsOf 25 = .ok (.iadd, 1) := by decide +kernel
theorem dX1_coinsOf_26 : decode cX1_coinsOf 26 = .ok (.istore_n 2, 1) := by decide +kernel
theorem dX1_coinsOf_27 : decode cX1_coinsOf 27 = .ok (.iinc 3 1, 3) := by decide +kernel
theorem dX1_coinsOf_30 : decode cX1_coinsOf 30 = .ok (.goto (-26), 3) := by decide +kernel
theorem dX1_coinsOf_33 : decode cX1_coinsOf 33 = .ok (.iload_n 2, 1) := by decide +kernel
theorem dX1_coinsOf_34 : decode cX1_coinsOf 34 = .ok (.ireturn, 1) := by decide +kernel
theorem dX1_isCheaper_0 : decode cX1_isCheaper 0 = .ok (.aload_n 0, 1) := by decide +kernel
theorem dX1_isCheaper_1 : decode cX1_isCheaper 1 = .ok (.iload_n 1, 1) := by decide +kernel
theorem dX1_isCheaper_2 : decode cX1_isCheaper 2 = .ok (.invokevirtual 31, 3) := by decide +kernel
theorem dX1_isCheaper_5 : decode cX1_isCheaper 5 = .ok (.istore_n 3, 1) := by decide +kernel
theorem dX1_isCheaper_6 : decode cX1_isCheaper 6 = .ok (.aload_n 0, 1) := by decide +kernel
theorem dX1_isCheaper_7 : decode cX1_isCheaper 7 = .ok (.iload_n 2, 1) := by decide +kernel
theorem dX1_isCheaper_8 : decode cX1_isCheaper 8 = .ok (.invokevirtual 31, 3) := by decide +kernel
theorem dX1_isCheaper_11 : decode cX1_isCheaper 11 = .ok (.istore 4, 2) := by decide +kernel
theorem dX1_isCheaper_13 : decode cX1_isCheaper 13 = .ok (.iload_n 3, 1) := by decide +kernel
theorem dX1_isCheaper_14 : decode cX1_isCheaper 14 = .ok (.iload 4, 2) := by decide +kernel
theorem dX1_isCheaper_16 : decode cX1_isCheaper 16 = .ok (.if_icmp .eq 15, 3) := by decide +kernel
theorem dX1_isCheaper_19 : decode cX1_isCheaper 19 = .ok (.iload_n 3, 1) := by decide +kernel
theorem dX1_isCheaper_20 : decode cX1_isCheaper 20 = .ok (.iload 4, 2) := by decide +kernel
theorem dX1_isCheaper_22 : decode cX1_isCheaper 22 = .ok (.if_icmp .ge 7, 3) := by decide +kernel
theorem dX1_isCheaper_25 : decode cX1_isCheaper 25 = .ok (.iconst 1, 1) := by decide +kernel
theorem dX1_isCheaper_26 : decode cX1_isCheaper 26 = .ok (.goto 4, 3) := by decide +kernel
theorem dX1_isCheaper_29 : decode cX1_isCheaper 29 = .ok (.iconst 0, 1) := by decide +kernel
theorem dX1_isCheaper_30 : decode cX1_isCheaper 30 = .ok (.ireturn, 1) := by decide +kernel
theorem dX1_isCheaper_31 : decode cX1_isCheaper 31 = .ok (.iload_n 1, 1) := by decide +kernel
theorem dX1_isCheaper_32 : decode cX1_isCheaper 32 = .ok (.invokestatic 35, 3) := by decide +kernel
theorem dX1_isCheaper_35 : decode cX1_isCheaper 35 = .ok (.istore 5, 2) := by decide +kernel
theorem dX1_isCheaper_37 : decode cX1_isCheaper 37 = .ok (.iload_n 2, 1) := by decide +kernel
theorem dX1_isCheaper_38 : decode cX1_isCheaper 38 = .ok (.invokestatic 35, 3) := by decide +kernel
theorem dX1_isCheaper_41 : decode cX1_isCheaper 41 = .ok (.istore 6, 2) := by decide +kernel
theorem dX1_isCheaper_43 : decode cX1_isCheaper 43 = .ok (.iload 5, 2) := by decide +kernel
theorem dX1_isCheaper_45 : decode cX1_isCheaper 45 = .ok (.iload 6, 2) := by decide +kernel
theorem dX1_isCheaper_47 : decode cX1_isCheaper 47 = .ok (.if_icmp .lt 15, 3) := by decide +kernel
theorem dX1_isCheaper_50 : decode cX1_isCheaper 50 = .ok (.iload 5, 2) := by decide +kernel
theorem dX1_isCheaper_52 : decode cX1_isCheaper 52 = .ok (.iload 6, 2) := by decide +kernel
theorem dX1_isCheaper_54 : decode cX1_isCheaper 54 = .ok (.if_icmp .ne 12, 3) := by decide +kernel
theorem dX1_isCheaper_57 : decode cX1_isCheaper 57 = .ok (.iload_n 1, 1) := by decide +kernel
theorem dX1_isCheaper_58 : decode cX1_isCheaper 58 = .ok (.iload_n 2, 1) := by decide +kernel
theorem dX1_isCheaper_59 : decode cX1_isCheaper 59 = .ok (.if_icmp .ge 7, 3) := by decide +kernel
theorem dX1_isCheaper_62 : decode cX1_isCheaper 62 = .ok (.iconst 1, 1) := by decide +kernel
theorem dX1_isCheaper_63 : decode cX1_isCheaper 63 = .ok (.goto 4, 3) := by decide +kernel
theorem dX1_isCheaper_66 : decode cX1_isCheaper 66 = .ok (.iconst 0, 1) := by decide +kernel
theorem dX1_isCheaper_67 : decode cX1_isCheaper 67 = .ok (.ireturn, 1) := by decide +kernel
theorem dX1_applyTo_0 : decode cX1_applyTo 0 = .ok (.iconst 0, 1) := by decide +kernel
theorem dX1_applyTo_1 : decode cX1_applyTo 1 = .ok (.istore_n 3, 1) := by decide +kernel
theorem dX1_applyTo_2 : decode cX1_applyTo 2 = .ok (.iload_n 3, 1) := by decide +kernel
theorem dX1_applyTo_3 : decode cX1_applyTo 3 = .ok (.aload_n 0, 1) := by decide +kernel
theorem dX1_applyTo_4 : decode cX1_applyTo 4 = .ok (.getfield 9, 3) := by decide +kernel
theorem dX1_applyTo_7 : decode cX1_applyTo 7 = .ok (.if_icmp .ge 94, 3) := by decide +kernel
theorem dX1_applyTo_10 : decode cX1_applyTo 10 = .ok (.aload_n 0, 1) := by decide +kernel
theorem dX1_applyTo_11 : decode cX1_applyTo 11 = .ok (.getfield 15, 3) := by decide +kernel
theorem dX1_applyTo_14 : decode cX1_applyTo 14 = .ok (.iload_n 3, 1) := by decide +kernel
theorem dX1_applyTo_15 : decode cX1_applyTo 15 = .ok (.iaload, 1) := by decide +kernel
theorem dX1_applyTo_16 : decode cX1_applyTo 16 = .ok (.istore 4, 2) := by decide +kernel
theorem dX1_applyTo_18 : decode cX1_applyTo 18 = .ok (.iload_n 2, 1) := by decide +kernel
theorem dX1_applyTo_19 : decode cX1_applyTo 19 = .ok (.iload_n 3, 1) := by decide +kernel
theorem dX1_applyTo_20 : decode cX1_applyTo 20 = .ok (.ishr, 1) := by decide +kernel
theorem dX1_applyTo_21 : decode cX1_applyTo 21 = .ok (.iconst 1, 1) := by decide +kernel
theorem dX1_applyTo_22 : decode cX1_applyTo 22 = .ok (.iand, 1) := by decide +kernel
theorem dX1_applyTo_23 : decode cX1_applyTo 23 = .ok (.iconst 1, 1) := by decide +kernel
theorem dX1_applyTo_24 : decode cX1_applyTo 24 = .ok (.if_icmp .ne 71, 3) := by decide +kernel
theorem dX1_applyTo_27 : decode cX1_applyTo 27 = .ok (.iload 4, 2) := by decide +kernel
theorem dX1_applyTo_29 : decode cX1_applyTo 29 = .ok (.iconst 0, 1) := by decide +kernel
theorem dX1_applyTo_30 : decode cX1_applyTo 30 = .ok (.bipush 23, 2) := by decide +kernel
theorem dX1_applyTo_32 : decode cX1_applyTo 32 = .ok (.invokestatic 40, 3) := by decide +kernel
theorem dX1_applyTo_35 : decode cX1_applyTo 35 = .ok (.ifCond .eq 60, 3) := by decide +kernel
theorem dX1_applyTo_38 : decode cX1_applyTo 38 = .ok (.aload_n 1, 1) := by decide +kernel
theorem dX1_applyTo_39 : decode cX1_applyTo 39 = .ok (.getfield 44, 3) := by decide +kernel
theorem dX1_applyTo_42 : decode cX1_applyTo 42 = .ok (.iload 4, 2) := by decide +kernel
theorem dX1_applyTo_44 : decode cX1_applyTo 44 = .ok (.iconst 0, 1) := by decide +kernel
theorem dX1_applyTo_45 : decode cX1_applyTo 45 = .ok (.aload_n 1, 1) := by decide +kernel
theorem dX1_applyTo_46 : decode cX1_applyTo 46 = .ok (.getfield 44, 3) := by decide +kernel
theorem dX1_applyTo_49 : decode cX1_applyTo 49 = .ok (.iload 4, 2) := by decide +kernel
theorem dX1_applyTo_51 : decode cX1_applyTo 51 = .ok (.iaload, 1) := by decide +kernel
theorem dX1_applyTo_52 : decode cX1_applyTo 52 = .ok (.aload_n 0, 1) := by decide +kernel
theorem dX1_applyTo_53 : decode cX1_applyTo 53 = .ok (.getfield 19, 3) := by decide +kernel
theorem dX1_applyTo_56 : decode cX1_applyTo 56 = .ok (.iload_n 3, 1) := by decide +kernel
theorem dX1_applyTo_57 : decode cX1_applyTo 57 = .ok (.iaload, 1) := by decide +kernel
theorem dX1_applyTo_58 : decode cX1_applyTo 58 = .ok (.isub, 1) := by decide +kernel
theorem dX1_applyTo_59 : decode cX1_applyTo 59 = .ok (.invokestatic 47, 3) := by decide +kernel
theorem dX1_applyTo_62 : decode cX1_applyTo 62 = .ok (.iastore, 1) := by decide +kernel
theorem dX1_applyTo_63 : decode cX1_applyTo 63 = .ok (.aload_n 1, 1) := by decide +kernel
theorem dX1_applyTo_64 : decode cX1_applyTo 64 = .ok (.getfield 53, 3) := by decide +kernel
theorem dX1_applyTo_67 : decode cX1_applyTo 67 = .ok (.iload 4, 2) := by decide +kernel
theorem dX1_applyTo_69 : decode cX1_applyTo 69 = .ok (.dup2, 1) := by decide +kernel
theorem dX1_applyTo_70 : decode cX1_applyTo 70 = .ok (.iaload, 1) := by decide +kernel
theorem dX1_applyTo_71 : decode cX1_applyTo 71 = .ok (.aload_n 0, 1) := by decide +kernel
theorem dX1_applyTo_72 : decode cX1_applyTo 72 = .ok (.getfield 22, 3) := by decide +kernel
theorem dX1_applyTo_75 : decode cX1_applyTo 75 = .ok (.iload_n 3, 1) := by decide +kernel
theorem dX1_applyTo_76 : decode cX1_applyTo 76 = .ok (.iaload, 1) := by decide +kernel
theorem dX1_applyTo_77 : decode cX1_applyTo 77 = .ok (.iadd, 1) := by decide +kernel
theorem dX1_applyTo_78 : decode cX1_applyTo 78 = .ok (.iastore, 1) := by decide +kernel
theorem dX1_applyTo_79 : decode cX1_applyTo 79 = .ok (.aload_n 1, 1) := by decide +kernel
theorem dX1_applyTo_80 : decode cX1_applyTo 80 = .ok (.getfield 54, 3) := by decide +kernel
theorem dX1_applyTo_83 : decode cX1_applyTo 83 = .ok (.iload 4, 2) := by decide +kernel
theorem dX1_applyTo_85 : decode cX1_applyTo 85 = .ok (.dup2, 1) := by decide +kernel
theorem dX1_applyTo_86 : decode cX1_applyTo 86 = .ok (.iaload, 1) := by decide +kernel
theorem dX1_applyTo_87 : decode cX1_applyTo 87 = .ok (.aload_n 0, 1) := by decide +kernel
theorem dX1_applyTo_88 : decode cX1_applyTo 88 = .ok (.getfield 25, 3) := by decide +kernel
theorem dX1_applyTo_91 : decode cX1_applyTo 91 = .ok (.iload_n 3, 1) := by decide +kernel
theorem dX1_applyTo_92 : decode cX1_applyTo 92 = .ok (.iaload, 1) := by decide +kernel
theorem dX1_applyTo_93 : decode cX1_applyTo 93 = .ok (.iadd, 1) := by decide +kernel
theorem dX1_applyTo_94 : decode cX1_applyTo 94 = .ok (.iastore, 1) := by decide +kernel
theorem dX1_applyTo_95 : decode cX1_applyTo 95 = .ok (.iinc 3 1, 3) := by decide +kernel
theorem dX1_applyTo_98 : decode cX1_applyTo 98 = .ok (.goto (-96), 3) := by decide +kernel
theorem dX1_applyTo_101 : decode cX1_applyTo 101 = .ok (.return_, 1) := by decide +kernel
theorem dX2_init_0 : decode cX2_init 0 = .ok (.aload_n 0, 1) := by decide +kernel
theorem dX2_init_1 : decode cX2_init 1 = .ok (.invokespecial 3, 3) := by decide +kernel
theorem dX2_init_4 : decode cX2_init 4 = .ok (.aload_n 0, 1) := by decide +kernel
theorem dX2_init_5 : decode cX2_init 5 = .ok (.bipush 24, 2) := by decide +kernel
theorem dX2_init_7 : decode cX2_init 7 = .ok (.newarray .int, 2) := by decide +kernel
theorem dX2_init_9 : decode cX2_init 9 = .ok (.putfield 9, 3) := by decide +kernel
theorem dX2_init_12 : decode cX2_init 12 = .ok (.aload_n 0, 1) := by decide +kernel
theorem dX2_init_13 : decode cX2_init 13 = .ok (.bipush 24, 2) := by decide +kernel
theorem dX2_init_15 : decode cX2_init 15 = .ok (.newarray .int, 2) := by decide +kernel
theorem dX2_init_17 : decode cX2_init 17 = .ok (.putfield 15, 3) := by decide +kernel
theorem dX2_init_20 : decode cX2_init 20 = .ok (.aload_n 0, 1) := by decide +kernel
theorem dX2_init_21 : decode cX2_init 21 = .ok (.bipush 24, 2) := by decide +kernel
theorem dX2_init_23 : decode cX2_init 23 = .ok (.newarray .int, 2) := by decide +kernel
theorem dX2_init_25 : decode cX2_init 25 = .ok (.putfield 18, 3) := by decide +kernel
theorem dX2_init_28 : decode cX2_init 28 = .ok (.aload_n 0, 1) := by decide +kernel
theorem dX2_init_29 : decode cX2_init 29 = .ok (.bipush 24, 2) := by decide +kernel
theorem dX2_init_31 : decode cX2_init 31 = .ok (.newarray .int, 2) := by decide +kernel
theorem dX2_init_33 : decode cX2_init 33 = .ok (.putfield 21, 3) := by decide +kernel
theorem dX2_init_36 : decode cX2_init 36 = .ok (.aload_n 0, 1) := by decide +kernel
theorem dX2_init_37 : decode cX2_init 37 = .ok (.bipush 24, 2) := by decide +kernel
theorem dX2_init_39 : decode cX2_init 39 = .ok (.newarray .int, 2) := by decide +kernel
theorem dX2_init_41 : decode cX2_init 41 = .ok (.putfield 24, 3) := by decide +kernel
theorem dX2_init_44 : decode cX2_init 44 = .ok (.aload_n 0, 1) := by decide +kernel
theorem dX2_init_45 : decode cX2_init 45 = .ok (.bipush 24, 2) := by decide +kernel
theorem dX2_init_47 : decode cX2_init 47 = .ok (.newarray .int, 2) := by decide +kernel
theorem dX2_init_49 : decode cX2_init 49 = .ok (.putfield 27, 3) := by decide +kernel
theorem dX2_init_52 : decode cX2_init 52 = .ok (.aload_n 0, 1) := by decide +kernel
theorem dX2_init_53 : decode cX2_init 53 = .ok (.bipush 24, 2) := by decide +kernel
theorem dX2_init_55 : decode cX2_init 55 = .ok (.newarray .int, 2) := by decide +kernel
theorem dX2_init_57 : decode cX2_init 57 = .ok (.putfield 30, 3) := by decide +kernel
theorem dX2_init_60 : decode cX2_init 60 = .ok (.aload_n 0, 1) := by decide +kernel
theorem dX2_init_61 : decode cX2_init 61 = .ok (.bipush 24, 2) := by decide +kernel
theorem dX2_init_63 : decode cX2_init 63 = .ok (.newarray .int, 2) := by decide +kernel
theorem dX2_init_65 : decode cX2_init 65 = .ok (.putfield 33, 3) := by decide +kernel
theorem dX2_init_68 : decode cX2_init 68 = .ok (.aload_n 0, 1) := by decide +kernel
theorem dX2_init_69 : decode cX2_init 69 = .ok (.bipush 24, 2) := by decide +kernel
theorem dX2_init_71 : decode cX2_init 71 = .ok (.newarray .int, 2) := by decide +kernel
theorem dX2_init_73 : decode cX2_init 73 = .ok (.putfield 36, 3) := by decide +kernel
theorem dX2_init_76 : decode cX2_init 76 = .ok (.aload_n 0, 1) := by decide +kernel
theorem dX2_init_77 : decode cX2_init 77 = .ok (.bipush 24, 2) := by decide +kernel
theorem dX2_init_79 : decode cX2_init 79 = .ok (.newarray .int, 2) := by decide +kernel
theorem dX2_init_81 : decode cX2_init 81 = .ok (.putfield 39, 3) := by decide +kernel
theorem dX2_init_84 : decode cX2_init 84 = .ok (.return_, 1) := by decide +kernel
theorem dX2_load_0 : decode cX2_load 0 = .ok (.iload_n 3, 1) := by decide +kernel
theorem dX2_load_1 : decode cX2_load 1 = .ok (.iconst 0, 1) := by decide +kernel
theorem dX2_load_2 : decode cX2_load 2 = .ok (.bipush 19, 2) := by decide +kernel
theorem dX2_load_4 : decode cX2_load 4 = .ok (.invokestatic 42, 3) := by decide +kernel
theorem dX2_load_7 : decode cX2_load 7 = .ok (.ifCond .ne 4, 3) := by decide +kernel
theorem dX2_load_10 : decode cX2_load 10 = .ok (.return_, 1) := by decide +kernel
theorem dX2_load_11 : decode cX2_load 11 = .ok (.iload_n 3, 1) := by decide +kernel
theorem dX2_load_12 : decode cX2_load 12 = .ok (.iconst 0, 1) := by decide +kernel
theorem dX2_load_13 : decode cX2_load 13 = .ok (.invokestatic 46, 3) := by decide +kernel
theorem dX2_load_16 : decode cX2_load 16 = .ok (.istore 4, 2) := by decide +kernel
theorem dX2_load_18 : decode cX2_load 18 = .ok (.aload_n 1, 1) := by decide +kernel
theorem dX2_load_19 : decode cX2_load 19 = .ok (.getfield 52, 3) := by decide +kernel
theorem dX2_load_22 : decode cX2_load 22 = .ok (.iconst 0, 1) := by decide +kernel
theorem dX2_load_23 : decode cX2_load 23 = .ok (.aload_n 0, 1) := by decide +kernel
theorem dX2_load_24 : decode cX2_load 24 = .ok (.getfield 9, 3) := by decide +kernel
theorem dX2_load_27 : decode cX2_load 27 = .ok (.iconst 0, 1) := by decide +kernel
theorem dX2_load_28 : decode cX2_load 28 = .ok (.bipush 24, 2) := by decide +kernel
theorem dX2_load_30 : decode cX2_load 30 = .ok (.invokestatic 55, 3) := by decide +kernel
theorem dX2_load_33 : decode cX2_load 33 = .ok (.aload_n 1, 1) := by decide +kernel
theorem dX2_load_34 : decode cX2_load 34 = .ok (.getfield 61, 3) := by decide +kernel
theorem dX2_load_37 : decode cX2_load 37 = .ok (.iconst 0, 1) := by decide +kernel
theorem dX2_load_38 : decode cX2_load 38 = .ok (.aload_n 0, 1) := by decide +kernel
theorem dX2_load_39 : decode cX2_load 39 = .ok (.getfield 15, 3) := by decide +kernel
theorem dX2_load_42 : decode cX2_load 42 = .ok (.iconst 0, 1) := by decide +kernel
theorem dX2_load_43 : decode cX2_load 43 = .ok (.bipush 24, 2) := by decide +kernel
theorem dX2_load_45 : decode cX2_load 45 = .ok (.invokestatic 55, 3) := by decide +kernel
theorem dX2_load_48 : decode cX2_load 48 = .ok (.aload_n 1, 1) := by decide +kernel
theorem dX2_load_49 : decode cX2_load 49 = .ok (.getfield 62, 3) := by decide +kernel
theorem dX2_load_52 : decode cX2_load 52 = .ok (.iconst 0, 1) := by decide +kernel
theorem dX2_load_53 : decode cX2_load 53 = .ok (.aload_n 0, 1) := by decide +kernel
theorem dX2_load_54 : decode cX2_load 54 = .ok (.getfield 18, 3) := by decide +kernel
theorem dX2_load_57 : decode cX2_load 57 = .ok (.iconst 0, 1) := by decide +kernel
theorem dX2_load_58 : decode cX2_load 58 = .ok (.bipush 24, 2) := by decide +kernel
theorem dX2_load_60 : decode cX2_load 60 = .ok (.invokestatic 55, 3) := by decide +kernel
theorem dX2_load_63 : decode cX2_load 63 = .ok (.aload_n 2, 1) := by decide +kernel
theorem dX2_load_64 : decode cX2_load 64 = .ok (.getfield 63, 3) := by decide +kernel
theorem dX2_load_67 : decode cX2_load 67 = .ok (.iload 4, 2) := by decide +kernel
theorem dX2_load_69 : decode cX2_load 69 = .ok (.aload_n 0, 1) := by decide +kernel
theorem dX2_load_70 : decode cX2_load 70 = .ok (.getfield 21, 3) := by decide +kernel
theorem dX2_load_73 : decode cX2_load 73 = .ok (.iconst 0, 1) := by decide +kernel
theorem dX2_load_74 : decode cX2_load 74 = .ok (.bipush 24, 2) := by decide +kernel
theorem dX2_load_76 : decode cX2_load 76 = .ok (.invokestatic 55, 3) := by decide +kernel
theorem dX2_load_79 : decode cX2_load 79 = .ok (.aload_n 2, 1) := by decide +kernel
theorem dX2_load_80 : decode cX2_load 80 = .ok (.getfield 64, 3) := by decide +kernel
theorem dX2_load_83 : decode cX2_load 83 = .ok (.iload 4, 2) := by decide +kernel
theorem dX2_load_85 : decode cX2_load 85 = .ok (.aload_n 0, 1) := by decide +kernel
theorem dX2_load_86 : decode cX2_load 86 = .ok (.getfield 24, 3) := by decide +kernel
theorem dX2_load_89 : decode cX2_load 89 = .ok (.iconst 0, 1) := by decide +kernel
theorem dX2_load_90 : decode cX2_load 90 = .ok (.bipush 24, 2) := by decide +kernel
theorem dX2_load_92 : decode cX2_load 92 = .ok (.invokestatic 55, 3) := by decide +kernel
theorem dX2_load_95 : decode cX2_load 95 = .ok (.aload_n 2, 1) := by decide +kernel
theorem dX2_load_96 : decode cX2_load 96 = .ok (.getfield 65, 3) := by decide +kernel
theorem dX2_load_99 : decode cX2_load 99 = .ok (.iload 4, 2) := by decide +kernel
theorem dX2_load_101 : decode cX2_load 101 = .ok (.aload_n 0, 1) := by decide +kernel
theorem dX2_load_102 : decode cX2_load 102 = .ok (.getfield 27, 3) := by decide +kernel
theorem dX2_load_105 : decode cX2_load 105 = .ok (.iconst 0, 1) := by decide +kernel
theorem dX2_load_106 : decode cX2_load 106 = .ok (.bipush 24, 2) := by decide +kernel
theorem dX2_load_108 : decode cX2_load 108 = .ok (.invokestatic 55, 3) := by decide +kernel
theorem dX2_load_111 : decode cX2_load 111 = .ok (.aload_n 2, 1) := by decide +kernel
theorem dX2_load_112 : decode cX2_load 112 = .ok (.getfield 66, 3) := by decide +kernel
theorem dX2_load_115 : decode cX2_load 115 = .ok (.iload 4, 2) := by decide +kernel
theorem dX2_load_117 : decode cX2_load 117 = .ok (.aload_n 0, 1) := by decide +kernel
theorem dX2_load_118 : decode cX2_load 118 = .ok (.getfield 30, 3) := by decide +kernel
theorem dX2_load_121 : decode cX2_load 121 = .ok (.iconst 0, 1) := by decide +kernel
theorem dX2_load_122 : decode cX2_load 122 = .ok (.bipush 24, 2) := by decide +kernel
theorem dX2_load_124 : decode cX2_load 124 = .ok (.invokestatic 55, 3) := by decide +kernel
theorem dX2_load_127 : decode cX2_load 127 = .ok (.return_, 1) := by decide +kernel
theorem dX2_save_0 : decode cX2_save 0 = .ok (.iload_n 2, 1) := by decide +kernel
theorem dX2_save_1 : decode cX2_save 1 = .ok (.iconst 0, 1) := by decide +kernel
theorem dX2_save_2 : decode cX2_save 2 = .ok (.bipush 19, 2) := by decide +kernel
theorem dX2_save_4 : decode cX2_save 4 = .ok (.invokestatic 42, 3) := by decide +kernel
theorem dX2_save_7 : decode cX2_save 7 = .ok (.ifCond .ne 4, 3) := by decide +kernel
theorem dX2_save_10 : decode cX2_save 10 = .ok (.return_, 1) := by decide +kernel
theorem dX2_save_11 : decode cX2_save 11 = .ok (.iload_n 2, 1) := by decide +kernel
theorem dX2_save_12 : decode cX2_save 12 = .ok (.iconst 0, 1) := by decide +kernel
theorem dX2_save_13 : decode cX2_save 13 = .ok (.invokestatic 46, 3) := by decide +kernel
theorem dX2_save_16 : decode cX2_save 16 = .ok (.istore_n 3, 1) := by decide +kernel
theorem dX2_save_17 : decode cX2_save 17 = .ok (.aload_n 0, 1) := by decide +kernel
theorem dX2_save_18 : decode cX2_save 18 = .ok (.getfield 27, 3) := by decide +kernel
theorem dX2_save_21 : decode cX2_save 21 = .ok (.iconst 0, 1) := by decide +kernel
theorem dX2_save_22 : decode cX2_save 22 = .ok (.aload_n 1, 1) := by decide +kernel
theorem dX2_save_23 : decode cX2_save 23 = .ok (.getfield 65, 3) := by decide +kernel
theorem dX2_save_26 : decode cX2_save 26 = .ok (.iload_n 3, 1) := by decide +kernel
theorem dX2_save_27 : decode cX2_save 27 = .ok (.bipush 24, 2) := by decide +kernel
theorem dX2_save_29 : decode cX2_save 29 = .ok (.invokestatic 55, 3) := by decide +kernel
theorem dX2_save_32 : decode cX2_save 32 = .ok (.aload_n 0, 1) := by decide +kernel
theorem dX2_save_33 : decode cX2_save 33 = .ok (.getfield 30, 3) := by decide +kernel
theorem dX2_save_36 : decode cX2_save 36 = .ok (.iconst 0, 1) := by decide +kernel
theorem dX2_save_37 : decode cX2_save 37 = .ok (.aload_n 1, 1) := by decide +kernel
theorem dX2_save_38 : decode cX2_save 38 = .ok (.getfield 66, 3) := by decide +kernel
theorem dX2_save_41 : decode cX2_save 41 = .ok (.iload_n 3, 1) := by decide +kernel
theorem dX2_save_42 : decode cX2_save 42 = .ok (.bipush 24, 2) := by decide +kernel
theorem dX2_save_44 : decode cX2_save 44 = .ok (.invokestatic 55, 3) := by decide +kernel
theorem dX2_save_47 : decode cX2_save 47 = .ok (.return_, 1) := by decide +kernel
theorem dX2_press_0 : decode cX2_press 0 = .ok (.iload_n 2, 1) := by decide +kernel
theorem dX2_press_1 : decode cX2_press 1 = .ok (.aload_n 0, 1) := by decide +kernel
theorem dX2_press_2 : decode cX2_press 2 = .ok (.aload_n 1, 1) := by decide +kernel
theorem dX2_press_3 : decode cX2_press 3 = .ok (.iload_n 3, 1) := by decide +kernel
theorem dX2_press_4 : decode cX2_press 4 = .ok (.invokevirtual 67, 3) := by decide +kernel
theorem dX2_press_7 : decode cX2_press 7 = .ok (.invokestatic 71, 3) := by decide +kernel
theorem dX2_press_10 : decode cX2_press 10 = .ok (.istore 4, 2) := by decide +kernel
theorem dX2_press_12 : decode cX2_press 12 = .ok (.aload_n 0, 1) := by decide +kernel
theorem dX2_press_13 : decode cX2_press 13 = .ok (.getfield 33, 3) := by decide +kernel
theorem dX2_press_16 : decode cX2_press 16 = .ok (.iconst 0, 1) := by decide +kernel
theorem dX2_press_17 : decode cX2_press 17 = .ok (.iload 4, 2) := by decide +kernel
theorem dX2_press_19 : decode cX2_press 19 = .ok (.iastore, 1) := by decide +kernel
theorem dX2_press_20 : decode cX2_press 20 = .ok (.aload_n 0, 1) := by decide +kernel
theorem dX2_press_21 : decode cX2_press 21 = .ok (.getfield 30, 3) := by decide +kernel
theorem dX2_press_24 : decode cX2_press 24 = .ok (.iconst 0, 1) := by decide +kernel
theorem dX2_press_25 : decode cX2_press 25 = .ok (.iload 4, 2) := by decide +kernel
theorem dX2_press_27 : decode cX2_press 27 = .ok (.iastore, 1) := by decide +kernel
theorem dX2_press_28 : decode cX2_press 28 = .ok (.iconst 1, 1) := by decide +kernel
theorem dX2_press_29 : decode cX2_press 29 = .ok (.istore 5, 2) := by decide +kernel
theorem dX2_press_31 : decode cX2_press 31 = .ok (.iload 5, 2) := by decide +kernel
theorem dX2_press_33 : decode cX2_press 33 = .ok (.aload_n 1, 1) := by decide +kernel
theorem dX2_press_34 : decode cX2_press 34 = .ok (.getfield 76, 3) := by decide +kernel
theorem dX2_press_37 : decode cX2_press 37 = .ok (.if_icmp .ge 133, 3) := by decide +kernel
theorem dX2_press_40 : decode cX2_press 40 = .ok (.aload_n 1, 1) := by decide +kernel
theorem dX2_press_41 : decode cX2_press 41 = .ok (.getfield 80, 3) := by decide +kernel
theorem dX2_press_44 : decode cX2_press 44 = .ok (.iload 5, 2) := by decide +kernel
theorem dX2_press_46 : decode cX2_press 46 = .ok (.iaload, 1) := by decide +kernel
theorem dX2_press_47 : decode cX2_press 47 = .ok (.istore 6, 2) := by decide +kernel
theorem dX2_press_49 : decode cX2_press 49 = .ok (.aload_n 1, 1) := by decide +kernel
theorem dX2_press_50 : decode cX2_press 50 = .ok (.getfield 83, 3) := by decide +kernel
theorem dX2_press_53 : decode cX2_press 53 = .ok (.iload 5, 2) := by decide +kernel
theorem dX2_press_55 : decode cX2_press 55 = .ok (.iaload, 1) := by decide +kernel
theorem dX2_press_56 : decode cX2_press 56 = .ok (.istore 7, 2) := by decide +kernel
theorem dX2_press_58 : decode cX2_press 58 = .ok (.iload 6, 2) := by decide +kernel
theorem dX2_press_60 : decode cX2_press 60 = .ok (.ifCond .lt 104, 3) := by decide +kernel
theorem dX2_press_63 : decode cX2_press 63 = .ok (.iload 6, 2) := by decide +kernel
theorem dX2_press_65 : decode cX2_press 65 = .ok (.iload 5, 2) := by decide +kernel
theorem dX2_press_67 : decode cX2_press 67 = .ok (.if_icmp .ge 97, 3) := by decide +kernel
theorem dX2_press_70 : decode cX2_press 70 = .ok (.iload 7, 2) := by decide +kernel
theorem dX2_press_72 : decode cX2_press 72 = .ok (.iconst 1, 1) := by decide +kernel
theorem dX2_press_73 : decode cX2_press 73 = .ok (.if_icmp .ge 6, 3) := by decide +kernel
theorem dX2_press_76 : decode cX2_press 76 = .ok (.goto 88, 3) := by decide +kernel
theorem dX2_press_79 : decode cX2_press 79 = .ok (.iconst 0, 1) := by decide +kernel
theorem dX2_press_80 : decode cX2_press 80 = .ok (.aload_n 0, 1) := by decide +kernel
theorem dX2_press_81 : decode cX2_press 81 = .ok (.getfield 30, 3) := by decide +kernel
theorem dX2_press_84 : decode cX2_press 84 = .ok (.iload 6, 2) := by decide +kernel
theorem dX2_press_86 : decode cX2_press 86 = .ok (.iaload, 1) := by decide +kernel
theorem dX2_press_87 : decode cX2_press 87 = .ok (.aload_n 0, 1) := by decide +kernel
theorem dX2_press_88 : decode cX2_press 88 = .ok (.getfield 9, 3) := by decide +kernel
theorem dX2_press_91 : decode cX2_press 91 = .ok (.iload 5, 2) := by decide +kernel
theorem dX2_press_93 : decode cX2_press 93 = .ok (.iaload, 1) := by decide +kernel
theorem dX2_press_94 : decode cX2_press 94 = .ok (.isub, 1) := by decide +kernel
theorem dX2_press_95 : decode cX2_press 95 = .ok (.aload_n 0, 1) := by decide +kernel
theorem dX2_press_96 : decode cX2_press 96 = .ok (.getfield 21, 3) := by decide +kernel
theorem dX2_press_99 : decode cX2_press 99 = .ok (.iload 5, 2) := by decide +kernel
theorem dX2_press_101 : decode cX2_press 101 = .ok (.iaload, 1) := by decide +kernel
theorem dX2_press_102 : decode cX2_press 102 = .ok (.isub, 1) := by decide +kernel
theorem dX2_press_103 : decode cX2_press 103 = .ok (.invokestatic 86, 3) := by decide +kernel
theorem dX2_press_106 : decode cX2_press 106 = .ok (.istore 8, 2) := by decide +kernel
theorem dX2_press_108 : decode cX2_press 108 = .ok (.aload_n 0, 1) := by decide +kernel
theorem dX2_press_109 : decode cX2_press 109 = .ok (.getfield 33, 3) := by decide +kernel
theorem dX2_press_112 : decode cX2_press 112 = .ok (.iload 5, 2) := by decide +kernel
theorem dX2_press_114 : decode cX2_press 114 = .ok (.iload 8, 2) := by decide +kernel
theorem dX2_press_116 : decode cX2_press 116 = .ok (.aload_n 1, 1) := by decide +kernel
theorem dX2_press_117 : decode cX2_press 117 = .ok (.getfield 89, 3) := by decide +kernel
theorem dX2_press_120 : decode cX2_press 120 = .ok (.iload 5, 2) := by decide +kernel
theorem dX2_press_122 : decode cX2_press 122 = .ok (.iaload, 1) := by decide +kernel
theorem dX2_press_123 : decode cX2_press 123 = .ok (.imul, 1) := by decide +kernel
theorem dX2_press_124 : decode cX2_press 124 = .ok (.iload 7, 2) := by decide +kernel
theorem dX2_press_126 : decode cX2_press 126 = .ok (.idiv, 1) := by decide +kernel
theorem dX2_press_127 : decode cX2_press 127 = .ok (.iastore, 1) := by decide +kernel
theorem dX2_press_128 : decode cX2_press 128 = .ok (.aload_n 0, 1) := by decide +kernel
theorem dX2_press_129 : decode cX2_press 129 = .ok (.getfield 30, 3) := by decide +kernel
theorem dX2_press_132 : decode cX2_press 132 = .ok (.iload 5, 2) := by decide +kernel
theorem dX2_press_134 : decode cX2_press 134 = .ok (.iconst 0, 1) := by decide +kernel
theorem dX2_press_135 : decode cX2_press 135 = .ok (.aload_n 0, 1) := by decide +kernel
theorem dX2_press_136 : decode cX2_press 136 = .ok (.getfield 33, 3) := by decide +kernel
theorem dX2_press_139 : decode cX2_press 139 = .ok (.iload 5, 2) := by decide +kernel
theorem dX2_press_141 : decode cX2_press 141 = .ok (.iaload, 1) := by decide +kernel
theorem dX2_press_142 : decode cX2_press 142 = .ok (.aload_n 1, 1) := by decide +kernel
theorem dX2_press_143 : decode cX2_press 143 = .ok (.getfield 92, 3) := by decide +kernel
theorem dX2_press_146 : decode cX2_press 146 = .ok (.iload 5, 2) := by decide +kernel
theorem dX2_press_148 : decode cX2_press 148 = .ok (.iaload, 1) := by decide +kernel
theorem dX2_press_149 : decode cX2_press 149 = .ok (.invokestatic 71, 3) := by decide +kernel
theorem dX2_press_152 : decode cX2_press 152 = .ok (.aload_n 0, 1) := by decide +kernel
theorem dX2_press_153 : decode cX2_press 153 = .ok (.getfield 27, 3) := by decide +kernel
theorem dX2_press_156 : decode cX2_press 156 = .ok (.iload 5, 2) := by decide +kernel
theorem dX2_press_158 : decode cX2_press 158 = .ok (.iaload, 1) := by decide +kernel
theorem dX2_press_159 : decode cX2_press 159 = .ok (.isub, 1) := by decide +kernel
theorem dX2_press_160 : decode cX2_press 160 = .ok (.invokestatic 86, 3) := by decide +kernel
theorem dX2_press_163 : decode cX2_press 163 = .ok (.iastore, 1) := by decide +kernel
theorem dX2_press_164 : decode cX2_press 164 = .ok (.iinc 5 1, 3) := by decide +kernel
theorem dX2_press_167 : decode cX2_press 167 = .ok (.goto (-136), 3) := by decide +kernel
theorem dX2_press_170 : decode cX2_press 170 = .ok (.return_, 1) := by decide +kernel
theorem dX2_farthest_0 : decode cX2_farthest 0 = .ok (.aload_n 0, 1) := by decide +kernel
theorem dX2_farthest_1 : decode cX2_farthest 1 = .ok (.getfield 36, 3) := by decide +kernel
theorem dX2_farthest_4 : decode cX2_farthest 4 = .ok (.ldc 95, 2) := by decide +kernel
theorem dX2_farthest_6 : decode cX2_farthest 6 = .ok (.invokestatic 96, 3) := by decide +kernel
theorem dX2_farthest_9 : decode cX2_farthest 9 = .ok (.aload_n 1, 1) := by decide +kernel
theorem dX2_farthest_10 : decode cX2_farthest 10 = .ok (.getfield 76, 3) := by decide +kernel
theorem dX2_farthest_13 : decode cX2_farthest 13 = .ok (.iconst 1, 1) := by decide +kernel
theorem dX2_farthest_14 : decode cX2_farthest 14 = .ok (.isub, 1) := by decide +kernel
theorem dX2_farthest_15 : decode cX2_farthest 15 = .ok (.istore_n 3, 1) := by decide +kernel
theorem dX2_farthest_16 : decode cX2_farthest 16 = .ok (.iload_n 3, 1) := by decide +kernel
theorem dX2_farthest_17 : decode cX2_farthest 17 = .ok (.ifCond .le 108, 3) := by decide +kernel
theorem dX2_farthest_20 : decode cX2_farthest 20 = .ok (.aload_n 1, 1) := by decide +kernel
theorem dX2_farthest_21 : decode cX2_farthest 21 = .ok (.getfield 80, 3) := by decide +kernel
theorem dX2_farthest_24 : decode cX2_farthest 24 = .ok (.iload_n 3, 1) := by decide +kernel
theorem dX2_farthest_25 : decode cX2_farthest 25 = .ok (.iaload, 1) := by decide +kernel
theorem dX2_farthest_26 : decode cX2_farthest 26 = .ok (.istore 4, 2) := by decide +kernel
theorem dX2_farthest_28 : decode cX2_farthest 28 = .ok (.aload_n 1, 1) := by decide +kernel
theorem dX2_farthest_29 : decode cX2_farthest 29 = .ok (.getfield 89, 3) := by decide +kernel
theorem dX2_farthest_32 : decode cX2_farthest 32 = .ok (.iload_n 3, 1) := by decide +kernel
theorem dX2_farthest_33 : decode cX2_farthest 33 = .ok (.iaload, 1) := by decide +kernel
theorem dX2_farthest_34 : decode cX2_farthest 34 = .ok (.istore 5, 2) := by decide +kernel
theorem dX2_farthest_36 : decode cX2_farthest 36 = .ok (.aload_n 0, 1) := by decide +kernel
theorem dX2_farthest_37 : decode cX2_farthest 37 = .ok (.aload_n 1, 1) := by decide +kernel
theorem dX2_farthest_38 : decode cX2_farthest 38 = .ok (.iload_n 3, 1) := by decide +kernel
theorem dX2_farthest_39 : decode cX2_farthest 39 = .ok (.iload_n 2, 1) := by decide +kernel
theorem dX2_farthest_40 : decode cX2_farthest 40 = .ok (.invokevirtual 102, 3) := by decide +kernel
theorem dX2_farthest_43 : decode cX2_farthest 43 = .ok (.istore 6, 2) := by decide +kernel
theorem dX2_farthest_45 : decode cX2_farthest 45 = .ok (.iload 6, 2) := by decide +kernel
theorem dX2_farthest_47 : decode cX2_farthest 47 = .ok (.ldc 95, 2) := by decide +kernel
theorem dX2_farthest_49 : decode cX2_farthest 49 = .ok (.if_icmp .ge 70, 3) := by decide +kernel
theorem dX2_farthest_52 : decode cX2_farthest 52 = .ok (.iload 5, 2) := by decide +kernel
theorem dX2_farthest_54 : decode cX2_farthest 54 = .ok (.ifCond .le 65, 3) := by decide +kernel
theorem dX2_farthest_57 : decode cX2_farthest 57 = .ok (.iload 4, 2) := by decide +kernel
theorem dX2_farthest_59 : decode cX2_farthest 59 = .ok (.ifCond .lt 60, 3) := by decide +kernel
theorem dX2_farthest_62 : decode cX2_farthest 62 = .ok (.iload 4, 2) := by decide +kernel
theorem dX2_farthest_64 : decode cX2_farthest 64 = .ok (.iload_n 3, 1) := by decide +kernel
theorem dX2_farthest_65 : decode cX2_farthest 65 = .ok (.if_icmp .ge 54, 3) := by decide +kernel
theorem dX2_farthest_68 : decode cX2_farthest 68 = .ok (.iload 6, 2) := by decide +kernel
theorem dX2_farthest_70 : decode cX2_farthest 70 = .ok (.iconst 1, 1) := by decide +kernel
theorem dX2_farthest_71 : decode cX2_farthest 71 = .ok (.iadd, 1) := by decide +kernel
theorem dX2_farthest_72 : decode cX2_farthest 72 = .ok (.aload_n 1, 1) := by decide +kernel
theorem dX2_farthest_73 : decode cX2_farthest 73 = .ok (.getfield 83, 3) := by decide +kernel
theorem dX2_farthest_76 : decode cX2_farthest 76 = .ok (.iload_n 3, 1) := by decide +kernel
theorem dX2_farthest_77 : decode cX2_farthest 77 = .ok (.iaload, 1) := by decide +kernel
theorem dX2_farthest_78 : decode cX2_farthest 78 = .ok (.imul, 1) := by decide +kernel
theorem dX2_farthest_79 : decode cX2_farthest 79 = .ok (.iconst 1, 1) := by decide +kernel
theorem dX2_farthest_80 : decode cX2_farthest 80 = .ok (.isub, 1) := by decide +kernel
theorem dX2_farthest_81 : decode cX2_farthest 81 = .ok (.iload 5, 2) := by decide +kernel
theorem dX2_farthest_83 : decode cX2_farthest 83 = .ok (.idiv, 1) := by decide +kernel
theorem dX2_farthest_84 : decode cX2_farthest 84 = .ok (.istore 7, 2) := by decide +kernel
theorem dX2_farthest_86 : decode cX2_farthest 86 = .ok (.aload_n 0, 1) := by decide +kernel
theorem dX2_farthest_87 : decode cX2_farthest 87 = .ok (.getfield 36, 3) := by decide +kernel
theorem dX2_farthest_90 : decode cX2_farthest 90 = .ok (.iload 4, 2) := by decide +kernel
theorem dX2_farthest_92 : decode cX2_farthest 92 = .ok (.aload_n 0, 1) := by decide +kernel
theorem dX2_farthest_93 : decode cX2_farthest 93 = .ok (.getfield 36, 3) := by decide +kernel
theorem dX2_farthest_96 : decode cX2_farthest 96 = .ok (.iload 4, 2) := by decide +kernel
theorem dX2_farthest_98 : decode cX2_farthest 98 = .ok (.iaload, 1) := by decide +kernel
theorem dX2_farthest_99 : decode cX2_farthest 99 = .ok (.aload_n 0, 1) := by decide +kernel
theorem dX2_farthest_100 : decode cX2_farthest 100 = .ok (.getfield 9, 3) := by decide +kernel
theorem dX2_farthest_103 : decode cX2_farthest 103 = .ok (.iload_n 3, 1) := by decide +kernel
theorem dX2_farthest_104 : decode cX2_farthest 104 = .ok (.iaload, 1) := by decide +kernel
theorem dX2_farthest_105 : decode cX2_farthest 105 = .ok (.aload_n 0, 1) := by decide +kernel
theorem dX2_farthest_106 : decode cX2_farthest 106 = .ok (.getfield 21, 3) := by decide +kernel
theorem dX2_farthest_109 : decode cX2_farthest 109 = .ok (.iload_n 3, 1) := by decide +kernel
theorem dX2_farthest_110 : decode cX2_farthest 110 = .ok (.iaload, 1) := by decide +kernel
theorem dX2_farthest_111 : decode cX2_farthest 111 = .ok (.iadd, 1) := by decide +kernel
theorem dX2_farthest_112 : decode cX2_farthest 112 = .ok (.iload 7, 2) := by decide +kernel
theorem dX2_farthest_114 : decode cX2_farthest 114 = .ok (.iadd, 1) := by decide +kernel
theorem dX2_farthest_115 : decode cX2_farthest 115 = .ok (.invokestatic 71, 3) := by decide +kernel
theorem dX2_farthest_118 : decode cX2_farthest 118 = .ok (.iastore, 1) := by decide +kernel
theorem dX2_farthest_119 : decode cX2_farthest 119 = .ok (.iinc 3 (-1), 3) := by decide +kernel
theorem dX2_farthest_122 : decode cX2_farthest 122 = .ok (.goto (-106), 3) := by decide +kernel
theorem dX2_farthest_125 : decode cX2_farthest 125 = .ok (.aload_n 1, 1) := by decide +kernel
theorem dX2_farthest_126 : decode cX2_farthest 126 = .ok (.getfield 92, 3) := by decide +kernel
theorem dX2_farthest_129 : decode cX2_farthest 129 = .ok (.iconst 0, 1) := by decide +kernel
theorem dX2_farthest_130 : decode cX2_farthest 130 = .ok (.iaload, 1) := by decide +kernel
theorem dX2_farthest_131 : decode cX2_farthest 131 = .ok (.aload_n 0, 1) := by decide +kernel
theorem dX2_farthest_132 : decode cX2_farthest 132 = .ok (.getfield 36, 3) := by decide +kernel
theorem dX2_farthest_135 : decode cX2_farthest 135 = .ok (.iconst 0, 1) := by decide +kernel
theorem dX2_farthest_136 : decode cX2_farthest 136 = .ok (.iaload, 1) := by decide +kernel
theorem dX2_farthest_137 : decode cX2_farthest 137 = .ok (.invokestatic 71, 3) := by decide +kernel
theorem dX2_farthest_140 : decode cX2_farthest 140 = .ok (.ireturn, 1) := by decide +kernel
theorem dX2_mostAsked_0 : decode cX2_mostAsked 0 = .ok (.aload_n 1, 1) := by decide +kernel
theorem dX2_mostAsked_1 : decode cX2_mostAsked 1 = .ok (.getfield 106, 3) := by decide +kernel
theorem dX2_mostAsked_4 : decode cX2_mostAsked 4 = .ok (.iload_n 2, 1) := by decide +kernel
theorem dX2_mostAsked_5 : decode cX2_mostAsked 5 = .ok (.iaload, 1) := by decide +kernel
theorem dX2_mostAsked_6 : decode cX2_mostAsked 6 = .ok (.iconst 1, 1) := by decide +kernel
theorem dX2_mostAsked_7 : decode cX2_mostAsked 7 = .ok (.if_icmp .ne 17, 3) := by decide +kernel
theorem dX2_mostAsked_10 : decode cX2_mostAsked 10 = .ok (.aload_n 0, 1) := by decide +kernel
theorem dX2_mostAsked_11 : decode cX2_mostAsked 11 = .ok (.getfield 15, 3) := by decide +kernel
theorem dX2_mostAsked_14 : decode cX2_mostAsked 14 = .ok (.iload_n 2, 1) := by decide +kernel
theorem dX2_mostAsked_15 : decode cX2_mostAsked 15 = .ok (.iaload, 1) := by decide +kernel
theorem dX2_mostAsked_16 : decode cX2_mostAsked 16 = .ok (.iload_n 3, 1) := by decide +kernel
theorem dX2_mostAsked_17 : decode cX2_mostAsked 17 = .ok (.if_icmp .gt 7, 3) := by decide +kernel
theorem dX2_mostAsked_20 : decode cX2_mostAsked 20 = .ok (.iconst 1, 1) := by decide +kernel
theorem dX2_mostAsked_21 : decode cX2_mostAsked 21 = .ok (.goto 4, 3) := by decide +kernel
theorem dX2_mostAsked_24 : decode cX2_mostAsked 24 = .ok (.iconst 0, 1) := by decide +kernel
theorem dX2_mostAsked_25 : decode cX2_mostAsked 25 = .ok (.istore 4, 2) := by decide +kernel
theorem dX2_mostAsked_27 : decode cX2_mostAsked 27 = .ok (.iload 4, 2) := by decide +kernel
theorem dX2_mostAsked_29 : decode cX2_mostAsked 29 = .ok (.ifCond .eq 8, 3) := by decide +kernel
theorem dX2_mostAsked_32 : decode cX2_mostAsked 32 = .ok (.ldc 95, 2) := by decide +kernel
theorem dX2_mostAsked_34 : decode cX2_mostAsked 34 = .ok (.goto 9, 3) := by decide +kernel
theorem dX2_mostAsked_37 : decode cX2_mostAsked 37 = .ok (.aload_n 1, 1) := by decide +kernel
theorem dX2_mostAsked_38 : decode cX2_mostAsked 38 = .ok (.getfield 92, 3) := by decide +kernel
theorem dX2_mostAsked_41 : decode cX2_mostAsked 41 = .ok (.iload_n 2, 1) := by decide +kernel
theorem dX2_mostAsked_42 : decode cX2_mostAsked 42 = .ok (.iaload, 1) := by decide +kernel
theorem dX2_mostAsked_43 : decode cX2_mostAsked 43 = .ok (.istore 5, 2) := by decide +kernel
theorem dX2_mostAsked_45 : decode cX2_mostAsked 45 = .ok (.aload_n 0, 1) := by decide +kernel
theorem dX2_mostAsked_46 : decode cX2_mostAsked 46 = .ok (.getfield 36, 3) := by decide +kernel
theorem dX2_mostAsked_49 : decode cX2_mostAsked 49 = .ok (.iload_n 2, 1) := by decide +kernel
theorem dX2_mostAsked_50 : decode cX2_mostAsked 50 = .ok (.iaload, 1) := by decide +kernel
theorem dX2_mostAsked_51 : decode cX2_mostAsked 51 = .ok (.aload_n 1, 1) := by decide +kernel
theorem dX2_mostAsked_52 : decode cX2_mostAsked 52 = .ok (.getfield 92, 3) := by decide +kernel
theorem dX2_mostAsked_55 : decode cX2_mostAsked 55 = .ok (.iload_n 2, 1) := by decide +kernel
theorem dX2_mostAsked_56 : decode cX2_mostAsked 56 = .ok (.iaload, 1) := by decide +kernel
theorem dX2_mostAsked_57 : decode cX2_mostAsked 57 = .ok (.aload_n 0, 1) := by decide +kernel
theorem dX2_mostAsked_58 : decode cX2_mostAsked 58 = .ok (.getfield 27, 3) := by decide +kernel
theorem dX2_mostAsked_61 : decode cX2_mostAsked 61 = .ok (.iload_n 2, 1) := by decide +kernel
theorem dX2_mostAsked_62 : decode cX2_mostAsked 62 = .ok (.iaload, 1) := by decide +kernel
theorem dX2_mostAsked_63 : decode cX2_mostAsked 63 = .ok (.isub, 1) := by decide +kernel
theorem dX2_mostAsked_64 : decode cX2_mostAsked 64 = .ok (.if_icmp .ge 23, 3) := by decide +kernel
theorem dX2_mostAsked_67 : decode cX2_mostAsked 67 = .ok (.iload 5, 2) := by decide +kernel
theorem dX2_mostAsked_69 : decode cX2_mostAsked 69 = .ok (.aload_n 0, 1) := by decide +kernel
theorem dX2_mostAsked_70 : decode cX2_mostAsked 70 = .ok (.getfield 36, 3) := by decide +kernel
theorem dX2_mostAsked_73 : decode cX2_mostAsked 73 = .ok (.iload_n 2, 1) := by decide +kernel
theorem dX2_mostAsked_74 : decode cX2_mostAsked 74 = .ok (.iaload, 1) := by decide +kernel
theorem dX2_mostAsked_75 : decode cX2_mostAsked 75 = .ok (.aload_n 0, 1) := by decide +kernel
theorem dX2_mostAsked_76 : decode cX2_mostAsked 76 = .ok (.getfield 27, 3) := by decide +kernel
theorem dX2_mostAsked_79 : decode cX2_mostAsked 79 = .ok (.iload_n 2, 1) := by decide +kernel
theorem dX2_mostAsked_80 : decode cX2_mostAsked 80 = .ok (.iaload, 1) := by decide +kernel
theorem dX2_mostAsked_81 : decode cX2_mostAsked 81 = .ok (.iadd, 1) := by decide +kernel
theorem dX2_mostAsked_82 : decode cX2_mostAsked 82 = .ok (.invokestatic 71, 3) := by decide +kernel
theorem dX2_mostAsked_85 : decode cX2_mostAsked 85 = .ok (.istore 5, 2) := by decide +kernel
theorem dX2_mostAsked_87 : decode cX2_mostAsked 87 = .ok (.iload 5, 2) := by decide +kernel
theorem dX2_mostAsked_89 : decode cX2_mostAsked 89 = .ok (.ireturn, 1) := by decide +kernel
theorem dX2_bend_0 : decode cX2_bend 0 = .ok (.iconst 1, 1) := by decide +kernel
theorem dX2_bend_1 : decode cX2_bend 1 = .ok (.istore_n 2, 1) := by decide +kernel
theorem dX2_bend_2 : decode cX2_bend 2 = .ok (.iload_n 2, 1) := by decide +kernel
theorem dX2_bend_3 : decode cX2_bend 3 = .ok (.aload_n 1, 1) := by decide +kernel
theorem dX2_bend_4 : decode cX2_bend 4 = .ok (.getfield 76, 3) := by decide +kernel
theorem dX2_bend_7 : decode cX2_bend 7 = .ok (.if_icmp .ge 57, 3) := by decide +kernel
theorem dX2_bend_10 : decode cX2_bend 10 = .ok (.aload_n 0, 1) := by decide +kernel
theorem dX2_bend_11 : decode cX2_bend 11 = .ok (.getfield 33, 3) := by decide +kernel
theorem dX2_bend_14 : decode cX2_bend 14 = .ok (.iload_n 2, 1) := by decide +kernel
theorem dX2_bend_15 : decode cX2_bend 15 = .ok (.iaload, 1) := by decide +kernel
theorem dX2_bend_16 : decode cX2_bend 16 = .ok (.aload_n 1, 1) := by decide +kernel
theorem dX2_bend_17 : decode cX2_bend 17 = .ok (.getfield 92, 3) := by decide +kernel
theorem dX2_bend_20 : decode cX2_bend 20 = .ok (.iload_n 2, 1) := by decide +kernel
theorem dX2_bend_21 : decode cX2_bend 21 = .ok (.iaload, 1) := by decide +kernel
theorem dX2_bend_22 : decode cX2_bend 22 = .ok (.isub, 1) := by decide +kernel
theorem dX2_bend_23 : decode cX2_bend 23 = .ok (.istore_n 3, 1) := by decide +kernel
theorem dX2_bend_24 : decode cX2_bend 24 = .ok (.aload_n 1, 1) := by decide +kernel
theorem dX2_bend_25 : decode cX2_bend 25 = .ok (.getfield 106, 3) := by decide +kernel
theorem dX2_bend_28 : decode cX2_bend 28 = .ok (.iload_n 2, 1) := by decide +kernel
theorem dX2_bend_29 : decode cX2_bend 29 = .ok (.iaload, 1) := by decide +kernel
theorem dX2_bend_30 : decode cX2_bend 30 = .ok (.iconst 1, 1) := by decide +kernel
theorem dX2_bend_31 : decode cX2_bend 31 = .ok (.if_icmp .ne 27, 3) := by decide +kernel
theorem dX2_bend_34 : decode cX2_bend 34 = .ok (.iload_n 3, 1) := by decide +kernel
theorem dX2_bend_35 : decode cX2_bend 35 = .ok (.ifCond .le 23, 3) := by decide +kernel
theorem dX2_bend_38 : decode cX2_bend 38 = .ok (.aload_n 0, 1) := by decide +kernel
theorem dX2_bend_39 : decode cX2_bend 39 = .ok (.getfield 27, 3) := by decide +kernel
theorem dX2_bend_42 : decode cX2_bend 42 = .ok (.iload_n 2, 1) := by decide +kernel
theorem dX2_bend_43 : decode cX2_bend 43 = .ok (.sipush 9999, 3) := by decide +kernel
theorem dX2_bend_46 : decode cX2_bend 46 = .ok (.aload_n 0, 1) := by decide +kernel
theorem dX2_bend_47 : decode cX2_bend 47 = .ok (.getfield 27, 3) := by decide +kernel
theorem dX2_bend_50 : decode cX2_bend 50 = .ok (.iload_n 2, 1) := by decide +kernel
theorem dX2_bend_51 : decode cX2_bend 51 = .ok (.iaload, 1) := by decide +kernel
theorem dX2_bend_52 : decode cX2_bend 52 = .ok (.iload_n 3, 1) := by decide +kernel
theorem dX2_bend_53 : decode cX2_bend 53 = .ok (.iadd, 1) := by decide +kernel
theorem dX2_bend_54 : decode cX2_bend 54 = .ok (.invokestatic 71, 3) := by decide +kernel
theorem dX2_bend_57 : decode cX2_bend 57 = .ok (.iastore, 1) := by decide +kernel
theorem dX2_bend_58 : decode cX2_bend 58 = .ok (.iinc 2 1, 3) := by decide +kernel
theorem dX2_bend_61 : decode cX2_bend 61 = .ok (.goto (-59), 3) := by decide +kernel
theorem dX2_bend_64 : decode cX2_bend 64 = .ok (.return_, 1) := by decide +kernel
theorem dX2_isOver_0 : decode cX2_isOver 0 = .ok (.iload_n 2, 1) := by decide +kernel
theorem dX2_isOver_1 : decode cX2_isOver 1 = .ok (.iconst 0, 1) := by decide +kernel
theorem dX2_isOver_2 : decode cX2_isOver 2 = .ok (.bipush 23, 2) := by decide +kernel
theorem dX2_isOver_4 : decode cX2_isOver 4 = .ok (.invokestatic 42, 3) := by decide +kernel
theorem dX2_isOver_7 : decode cX2_isOver 7 = .ok (.ifCond .ne 5, 3) := by decide +kernel
theorem dX2_isOver_10 : decode cX2_isOver 10 = .ok (.iconst 0, 1) := by decide +kernel
theorem dX2_isOver_11 : decode cX2_isOver 11 = .ok (.ireturn, 1) := by decide +kernel
theorem dX2_isOver_12 : decode cX2_isOver 12 = .ok (.aload_n 1, 1) := by decide +kernel
theorem dX2_isOver_13 : decode cX2_isOver 13 = .ok (.getfield 80, 3) := by decide +kernel
theorem dX2_isOver_16 : decode cX2_isOver 16 = .ok (.iload_n 2, 1) := by decide +kernel
theorem dX2_isOver_17 : decode cX2_isOver 17 = .ok (.iaload, 1) := by decide +kernel
theorem dX2_isOver_18 : decode cX2_isOver 18 = .ok (.istore_n 3, 1) := by decide +kernel
theorem dX2_isOver_19 : decode cX2_isOver 19 = .ok (.aload_n 1, 1) := by decide +kernel
theorem dX2_isOver_20 : decode cX2_isOver 20 = .ok (.getfield 106, 3) := by decide +kernel
theorem dX2_isOver_23 : decode cX2_isOver 23 = .ok (.iload_n 2, 1) := by decide +kernel
theorem dX2_isOver_24 : decode cX2_isOver 24 = .ok (.iaload, 1) := by decide +kernel
theorem dX2_isOver_25 : decode cX2_isOver 25 = .ok (.iconst 5, 1) := by decide +kernel
theorem dX2_isOver_26 : decode cX2_isOver 26 = .ok (.if_icmp .ne 17, 3) := by decide +kernel
theorem dX2_isOver_29 : decode cX2_isOver 29 = .ok (.iload_n 3, 1) := by decide +kernel
theorem dX2_isOver_30 : decode cX2_isOver 30 = .ok (.iconst 0, 1) := by decide +kernel
theorem dX2_isOver_31 : decode cX2_isOver 31 = .ok (.bipush 23, 2) := by decide +kernel
theorem dX2_isOver_33 : decode cX2_isOver 33 = .ok (.invokestatic 42, 3) := by decide +kernel
theorem dX2_isOver_36 : decode cX2_isOver 36 = .ok (.ifCond .eq 7, 3) := by decide +kernel
theorem dX2_isOver_39 : decode cX2_isOver 39 = .ok (.iconst 1, 1) := by decide +kernel
theorem dX2_isOver_40 : decode cX2_isOver 40 = .ok (.goto 4, 3) := by decide +kernel
theorem dX2_isOver_43 : decode cX2_isOver 43 = .ok (.iconst 0, 1) := by decide +kernel
theorem dX2_isOver_44 : decode cX2_isOver 44 = .ok (.istore 4, 2) := by decide +kernel
theorem dX2_isOver_46 : decode cX2_isOver 46 = .ok (.iload 4, 2) := by decide +kernel
theorem dX2_isOver_48 : decode cX2_isOver 48 = .ok (.ifCond .eq 12, 3) := by decide +kernel
theorem dX2_isOver_51 : decode cX2_isOver 51 = .ok (.aload_n 0, 1) := by decide +kernel
theorem dX2_isOver_52 : decode cX2_isOver 52 = .ok (.getfield 30, 3) := by decide +kernel
theorem dX2_isOver_55 : decode cX2_isOver 55 = .ok (.iload_n 3, 1) := by decide +kernel
theorem dX2_isOver_56 : decode cX2_isOver 56 = .ok (.iaload, 1) := by decide +kernel
theorem dX2_isOver_57 : decode cX2_isOver 57 = .ok (.goto 9, 3) := by decide +kernel
theorem dX2_isOver_60 : decode cX2_isOver 60 = .ok (.aload_n 0, 1) := by decide +kernel
theorem dX2_isOver_61 : decode cX2_isOver 61 = .ok (.getfield 30, 3) := by decide +kernel
theorem dX2_isOver_64 : decode cX2_isOver 64 = .ok (.iload_n 2, 1) := by decide +kernel
theorem dX2_isOver_65 : decode cX2_isOver 65 = .ok (.iaload, 1) := by decide +kernel
theorem dX2_isOver_66 : decode cX2_isOver 66 = .ok (.istore 5, 2) := by decide +kernel
theorem dX2_isOver_68 : decode cX2_isOver 68 = .ok (.iload 5, 2) := by decide +kernel
theorem dX2_isOver_70 : decode cX2_isOver 70 = .ok (.aload_n 0, 1) := by decide +kernel
theorem dX2_isOver_71 : decode cX2_isOver 71 = .ok (.getfield 18, 3) := by decide +kernel
theorem dX2_isOver_74 : decode cX2_isOver 74 = .ok (.iload_n 2, 1) := by decide +kernel
theorem dX2_isOver_75 : decode cX2_isOver 75 = .ok (.iaload, 1) := by decide +kernel
theorem dX2_isOver_76 : decode cX2_isOver 76 = .ok (.aload_n 0, 1) := by decide +kernel
theorem dX2_isOver_77 : decode cX2_isOver 77 = .ok (.getfield 24, 3) := by decide +kernel
theorem dX2_isOver_80 : decode cX2_isOver 80 = .ok (.iload_n 2, 1) := by decide +kernel
theorem dX2_isOver_81 : decode cX2_isOver 81 = .ok (.iaload, 1) := by decide +kernel
theorem dX2_isOver_82 : decode cX2_isOver 82 = .ok (.iadd, 1) := by decide +kernel
theorem dX2_isOver_83 : decode cX2_isOver 83 = .ok (.if_icmp .lt 7, 3) := by decide +kernel
theorem dX2_isOver_86 : decode cX2_isOver 86 = .ok (.iconst 1, 1) := by decide +kernel
theorem dX2_isOver_87 : decode cX2_isOver 87 = .ok (.goto 4, 3) := by decide +kernel
theorem dX2_isOver_90 : decode cX2_isOver 90 = .ok (.iconst 0, 1) := by decide +kernel
theorem dX2_isOver_91 : decode cX2_isOver 91 = .ok (.ireturn, 1) := by decide +kernel
theorem dX2_isShut_0 : decode cX2_isShut 0 = .ok (.iconst 0, 1) := by decide +kernel
theorem dX2_isShut_1 : decode cX2_isShut 1 = .ok (.istore_n 2, 1) := by decide +kernel
theorem dX2_isShut_2 : decode cX2_isShut 2 = .ok (.iconst 0, 1) := by decide +kernel
theorem dX2_isShut_3 : decode cX2_isShut 3 = .ok (.istore_n 3, 1) := by decide +kernel
theorem dX2_isShut_4 : decode cX2_isShut 4 = .ok (.iload_n 3, 1) := by decide +kernel
theorem dX2_isShut_5 : decode cX2_isShut 5 = .ok (.aload_n 1, 1) := by decide +kernel
theorem dX2_isShut_6 : decode cX2_isShut 6 = .ok (.getfield 76, 3) := by decide +kernel
theorem dX2_isShut_9 : decode cX2_isShut 9 = .ok (.if_icmp .ge 32, 3) := by decide +kernel
theorem dX2_isShut_12 : decode cX2_isShut 12 = .ok (.aload_n 1, 1) := by decide +kernel
theorem dX2_isShut_13 : decode cX2_isShut 13 = .ok (.getfield 106, 3) := by decide +kernel
theorem dX2_isShut_16 : decode cX2_isShut 16 = .ok (.iload_n 3, 1) := by decide +kernel
theorem dX2_isShut_17 : decode cX2_isShut 17 = .ok (.iaload, 1) := by decide +kernel
theorem dX2_isShut_18 : decode cX2_isShut 18 = .ok (.iconst 2, 1) := by decide +kernel
theorem dX2_isShut_19 : decode cX2_isShut 19 = .ok (.if_icmp .ne 16, 3) := by decide +kernel
theorem dX2_isShut_22 : decode cX2_isShut 22 = .ok (.iconst 1, 1) := by decide +kernel
theorem dX2_isShut_23 : decode cX2_isShut 23 = .ok (.istore_n 2, 1) := by decide +kernel
theorem dX2_isShut_24 : decode cX2_isShut 24 = .ok (.aload_n 0, 1) := by decide +kernel
theorem dX2_isShut_25 : decode cX2_isShut 25 = .ok (.aload_n 1, 1) := by decide +kernel
theorem dX2_isShut_26 : decode cX2_isShut 26 = .ok (.iload_n 3, 1) := by decide +kernel
theorem dX2_isShut_27 : decode cX2_isShut 27 = .ok (.invokevirtual 109, 3) := by decide +kernel
theorem dX2_isShut_30 : decode cX2_isShut 30 = .ok (.ifCond .ne 5, 3) := by decide +kernel
theorem dX2_isShut_33 : decode cX2_isShut 33 = .ok (.iconst 0, 1) := by decide +kernel
theorem dX2_isShut_34 : decode cX2_isShut 34 = .ok (.ireturn, 1) := by decide +kernel
theorem dX2_isShut_35 : decode cX2_isShut 35 = .ok (.iinc 3 1, 3) := by decide +kernel
theorem dX2_isShut_38 : decode cX2_isShut 38 = .ok (.goto (-34), 3) := by decide +kernel
theorem dX2_isShut_41 : decode cX2_isShut 41 = .ok (.iload_n 2, 1) := by decide +kernel
theorem dX2_isShut_42 : decode cX2_isShut 42 = .ok (.ireturn, 1) := by decide +kernel
theorem dX2_looksShut_0 : decode cX2_looksShut 0 = .ok (.iconst 0, 1) := by decide +kernel
theorem dX2_looksShut_1 : decode cX2_looksShut 1 = .ok (.istore_n 3, 1) := by decide +kernel
theorem dX2_looksShut_2 : decode cX2_looksShut 2 = .ok (.iload_n 3, 1) := by decide +kernel
theorem dX2_looksShut_3 : decode cX2_looksShut 3 = .ok (.aload_n 1, 1) := by decide +kernel
theorem dX2_looksShut_4 : decode cX2_looksShut 4 = .ok (.getfield 76, 3) := by decide +kernel
theorem dX2_looksShut_7 : decode cX2_looksShut 7 = .ok (.if_icmp .ge 34, 3) := by decide +kernel
theorem dX2_looksShut_10 : decode cX2_looksShut 10 = .ok (.iload_n 2, 1) := by decide +kernel
theorem dX2_looksShut_11 : decode cX2_looksShut 11 = .ok (.aload_n 1, 1) := by decide +kernel
theorem dX2_looksShut_12 : decode cX2_looksShut 12 = .ok (.getfield 106, 3) := by decide +kernel
theorem dX2_looksShut_15 : decode cX2_looksShut 15 = .ok (.iload_n 3, 1) := by decide +kernel
theorem dX2_looksShut_16 : decode cX2_looksShut 16 = .ok (.iaload, 1) := by decide +kernel
theorem dX2_looksShut_17 : decode cX2_looksShut 17 = .ok (.invokestatic 113, 3) := by decide +kernel
theorem dX2_looksShut_20 : decode cX2_looksShut 20 = .ok (.iand, 1) := by decide +kernel
theorem dX2_looksShut_21 : decode cX2_looksShut 21 = .ok (.ifCond .eq 14, 3) := by decide +kernel
theorem dX2_looksShut_24 : decode cX2_looksShut 24 = .ok (.aload_n 0, 1) := by decide +kernel
theorem dX2_looksShut_25 : decode cX2_looksShut 25 = .ok (.aload_n 1, 1) := by decide +kernel
theorem dX2_looksShut_26 : decode cX2_looksShut 26 = .ok (.iload_n 3, 1) := by decide +kernel
theorem dX2_looksShut_27 : decode cX2_looksShut 27 = .ok (.invokevirtual 109, 3) := by decide +kernel
theorem dX2_looksShut_30 : decode cX2_looksShut 30 = .ok (.ifCond .ne 5, 3) := by decide +kernel
theorem dX2_looksShut_33 : decode cX2_looksShut 33 = .ok (.iconst 0, 1) := by decide +kernel
theorem dX2_looksShut_34 : decode cX2_looksShut 34 = .ok (.ireturn, 1) := by decide +kernel
theorem dX2_looksShut_35 : decode cX2_looksShut 35 = .ok (.iinc 3 1, 3) := by decide +kernel
theorem dX2_looksShut_38 : decode cX2_looksShut 38 = .ok (.goto (-36), 3) := by decide +kernel
theorem dX2_looksShut_41 : decode cX2_looksShut 41 = .ok (.iconst 1, 1) := by decide +kernel
theorem dX2_looksShut_42 : decode cX2_looksShut 42 = .ok (.ireturn, 1) := by decide +kernel
theorem dX2_lookBit_0 : decode cX2_lookBit 0 = .ok (.iload_n 0, 1) := by decide +kernel
theorem dX2_lookBit_1 : decode cX2_lookBit 1 = .ok (.ifCond .ne 5, 3) := by decide +kernel
theorem dX2_lookBit_4 : decode cX2_lookBit 4 = .ok (.iconst 1, 1) := by decide +kernel
theorem dX2_lookBit_5 : decode cX2_lookBit 5 = .ok (.ireturn, 1) := by decide +kernel
theorem dX2_lookBit_6 : decode cX2_lookBit 6 = .ok (.iload_n 0, 1) := by decide +kernel
theorem dX2_lookBit_7 : decode cX2_lookBit 7 = .ok (.iconst 2, 1) := by decide +kernel
theorem dX2_lookBit_8 : decode cX2_lookBit 8 = .ok (.if_icmp .le 11, 3) := by decide +kernel
theorem dX2_lookBit_11 : decode cX2_lookBit 11 = .ok (.iconst 1, 1) := by decide +kernel
theorem dX2_lookBit_12 : decode cX2_lookBit 12 = .ok (.iload_n 0, 1) := by decide +kernel
theorem dX2_lookBit_13 : decode cX2_lookBit 13 = .ok (.iconst 2, 1) := by decide +kernel
theorem dX2_lookBit_14 : decode cX2_lookBit 14 = .ok (.isub, 1) := by decide +kernel
theorem dX2_lookBit_15 : decode cX2_lookBit 15 = .ok (.ishl, 1) := by decide +kernel
theorem dX2_lookBit_16 : decode cX2_lookBit 16 = .ok (.goto 4, 3) := by decide +kernel
theorem dX2_lookBit_19 : decode cX2_lookBit 19 = .ok (.iconst 0, 1) := by decide +kernel
theorem dX2_lookBit_20 : decode cX2_lookBit 20 = .ok (.ireturn, 1) := by decide +kernel
theorem dX2_isUnlike_0 : decode cX2_isUnlike 0 = .ok (.aload_n 0, 1) := by decide +kernel
theorem dX2_isUnlike_1 : decode cX2_isUnlike 1 = .ok (.aload_n 1, 1) := by decide +kernel
theorem dX2_isUnlike_2 : decode cX2_isUnlike 2 = .ok (.iload_n 2, 1) := by decide +kernel
theorem dX2_isUnlike_3 : decode cX2_isUnlike 3 = .ok (.invokevirtual 117, 3) := by decide +kernel
theorem dX2_isUnlike_6 : decode cX2_isUnlike 6 = .ok (.ifCond .eq 15, 3) := by decide +kernel
theorem dX2_isUnlike_9 : decode cX2_isUnlike 9 = .ok (.aload_n 0, 1) := by decide +kernel
theorem dX2_isUnlike_10 : decode cX2_isUnlike 10 = .ok (.aload_n 1, 1) := by decide +kernel
theorem dX2_isUnlike_11 : decode cX2_isUnlike 11 = .ok (.invokevirtual 120, 3) := by decide +kernel
theorem dX2_isUnlike_14 : decode cX2_isUnlike 14 = .ok (.ifCond .ne 7, 3) := by decide +kernel
theorem dX2_isUnlike_17 : decode cX2_isUnlike 17 = .ok (.iconst 1, 1) := by decide +kernel
theorem dX2_isUnlike_18 : decode cX2_isUnlike 18 = .ok (.goto 4, 3) := by decide +kernel
theorem dX2_isUnlike_21 : decode cX2_isUnlike 21 = .ok (.iconst 0, 1) := by decide +kernel
theorem dX2_isUnlike_22 : decode cX2_isUnlike 22 = .ok (.ireturn, 1) := by decide +kernel
theorem dX2_heightItGoes_0 : decode cX2_heightItGoes 0 = .ok (.aload_n 0, 1) := by decide +kernel
theorem dX2_heightItGoes_1 : decode cX2_heightItGoes 1 = .ok (.aload_n 1, 1) := by decide +kernel
theorem dX2_heightItGoes_2 : decode cX2_heightItGoes 2 = .ok (.invokevirtual 124, 3) := by decide +kernel
theorem dX2_heightItGoes_5 : decode cX2_heightItGoes 5 = .ok (.istore_n 3, 1) := by decide +kernel
theorem dX2_heightItGoes_6 : decode cX2_heightItGoes 6 = .ok (.iconst 0, 1) := by decide +kernel
theorem dX2_heightItGoes_7 : decode cX2_heightItGoes 7 = .ok (.istore 4, 2) := by decide +kernel
theorem dX2_heightItGoes_9 : decode cX2_heightItGoes 9 = .ok (.iload 4, 2) := by decide +kernel
theorem dX2_heightItGoes_11 : decode cX2_heightItGoes 11 = .ok (.sipush 400, 3) := by decide +kernel
theorem dX2_heightItGoes_14 : decode cX2_heightItGoes 14 = .ok (.if_icmp .gt 26, 3) := by decide +kernel
theorem dX2_heightItGoes_17 : decode cX2_heightItGoes 17 = .ok (.aload_n 0, 1) := by decide +kernel
theorem dX2_heightItGoes_18 : decode cX2_heightItGoes 18 = .ok (.iload 4, 2) := by decide +kernel
theorem dX2_heightItGoes_20 : decode cX2_heightItGoes 20 = .ok (.iload_n 2, 1) := by decide +kernel
theorem dX2_heightItGoes_21 : decode cX2_heightItGoes 21 = .ok (.imul, 1) := by decide +kernel
theorem dX2_heightItGoes_22 : decode cX2_heightItGoes 22 = .ok (.iload_n 3, 1) := by decide +kernel
theorem dX2_heightItGoes_23 : decode cX2_heightItGoes 23 = .ok (.invokevirtual 128, 3) := by decide +kernel
theorem dX2_heightItGoes_26 : decode cX2_heightItGoes 26 = .ok (.istore_n 3, 1) := by decide +kernel
theorem dX2_heightItGoes_27 : decode cX2_heightItGoes 27 = .ok (.iload_n 3, 1) := by decide +kernel
theorem dX2_heightItGoes_28 : decode cX2_heightItGoes 28 = .ok (.ifCond .ne 6, 3) := by decide +kernel
theorem dX2_heightItGoes_31 : decode cX2_heightItGoes 31 = .ok (.iload 4, 2) := by decide +kernel
theorem dX2_heightItGoes_33 : decode cX2_heightItGoes 33 = .ok (.ireturn, 1) := by decide +kernel
theorem dX2_heightItGoes_34 : decode cX2_heightItGoes 34 = .ok (.iinc 4 1, 3) := by decide +kernel
theorem dX2_heightItGoes_37 : decode cX2_heightItGoes 37 = .ok (.goto (-28), 3) := by decide +kernel
theorem dX2_heightItGoes_40 : decode cX2_heightItGoes 40 = .ok (.bipush (-2), 2) := by decide +kernel
theorem dX2_heightItGoes_42 : decode cX2_heightItGoes 42 = .ok (.ireturn, 1) := by decide +kernel
theorem dX2_gatherHooks_0 : decode cX2_gatherHooks 0 = .ok (.iconst 0, 1) := by decide +kernel
theorem dX2_gatherHooks_1 : decode cX2_gatherHooks 1 = .ok (.istore_n 2, 1) := by decide +kernel
theorem dX2_gatherHooks_2 : decode cX2_gatherHooks 2 = .ok (.iconst 0, 1) := by decide +kernel
theorem dX2_gatherHooks_3 : decode cX2_gatherHooks 3 = .ok (.istore_n 3, 1) := by decide +kernel
theorem dX2_gatherHooks_4 : decode cX2_gatherHooks 4 = .ok (.iload_n 3, 1) := by decide +kernel
theorem dX2_gatherHooks_5 : decode cX2_gatherHooks 5 = .ok (.aload_n 1, 1) := by decide +kernel
theorem dX2_gatherHooks_6 : decode cX2_gatherHooks 6 = .ok (.getfield 76, 3) := by decide +kernel
theorem dX2_gatherHooks_9 : decode cX2_gatherHooks 9 = .ok (.if_icmp .ge 66, 3) := by decide +kernel
theorem dX2_gatherHooks_12 : decode cX2_gatherHooks 12 = .ok (.aload_n 1, 1) := by decide +kernel
theorem dX2_gatherHooks_13 : decode cX2_gatherHooks 13 = .ok (.getfield 106, 3) := by decide +kernel
theorem dX2_gatherHooks_16 : decode cX2_gatherHooks 16 = .ok (.iload_n 3, 1) := by decide +kernel
theorem dX2_gatherHooks_17 : decode cX2_gatherHooks 17 = .ok (.iaload, 1) := by decide +kernel
theorem dX2_gatherHooks_18 : decode cX2_gatherHooks 18 = .ok (.iconst 2, 1) := by decide +kernel
theorem dX2_gatherHooks_19 : decode cX2_gatherHooks 19 = .ok (.if_icmp .ne 50, 3) := by decide +kernel
theorem dX2_gatherHooks_22 : decode cX2_gatherHooks 22 = .ok (.aload_n 0, 1) := by decide +kernel
theorem dX2_gatherHooks_23 : decode cX2_gatherHooks 23 = .ok (.aload_n 1, 1) := by decide +kernel
theorem dX2_gatherHooks_24 : decode cX2_gatherHooks 24 = .ok (.iload_n 3, 1) := by decide +kernel
theorem dX2_gatherHooks_25 : decode cX2_gatherHooks 25 = .ok (.invokevirtual 109, 3) := by decide +kernel
theorem dX2_gatherHooks_28 : decode cX2_gatherHooks 28 = .ok (.ifCond .eq 41, 3) := by decide +kernel
theorem dX2_gatherHooks_31 : decode cX2_gatherHooks 31 = .ok (.aload_n 0, 1) := by decide +kernel
theorem dX2_gatherHooks_32 : decode cX2_gatherHooks 32 = .ok (.getfield 39, 3) := by decide +kernel
theorem dX2_gatherHooks_35 : decode cX2_gatherHooks 35 = .ok (.iload_n 2, 1) := by decide +kernel
theorem dX2_gatherHooks_36 : decode cX2_gatherHooks 36 = .ok (.aload_n 0, 1) := by decide +kernel
theorem dX2_gatherHooks_37 : decode cX2_gatherHooks 37 = .ok (.getfield 15, 3) := by decide +kernel
theorem dX2_gatherHooks_40 : decode cX2_gatherHooks 40 = .ok (.iload_n 3, 1) := by decide +kernel
theorem dX2_gatherHooks_41 : decode cX2_gatherHooks 41 = .ok (.iaload, 1) := by decide +kernel
theorem dX2_gatherHooks_42 : decode cX2_gatherHooks 42 = .ok (.iconst 5, 1) := by decide +kernel
theorem dX2_gatherHooks_43 : decode cX2_gatherHooks 43 = .ok (.aload_n 0, 1) := by decide +kernel
theorem dX2_gatherHooks_44 : decode cX2_gatherHooks 44 = .ok (.getfield 30, 3) := by decide +kernel
theorem dX2_gatherHooks_47 : decode cX2_gatherHooks 47 = .ok (.iload_n 3, 1) := by decide +kernel
theorem dX2_gatherHooks_48 : decode cX2_gatherHooks 48 = .ok (.iaload, 1) := by decide +kernel
theorem dX2_gatherHooks_49 : decode cX2_gatherHooks 49 = .ok (.aload_n 0, 1) := by decide +kernel
theorem dX2_gatherHooks_50 : decode cX2_gatherHooks 50 = .ok (.getfield 18, 3) := by decide +kernel
theorem dX2_gatherHooks_53 : decode cX2_gatherHooks 53 = .ok (.iload_n 3, 1) := by decide +kernel
theorem dX2_gatherHooks_54 : decode cX2_gatherHooks 54 = .ok (.iaload, 1) := by decide +kernel
theorem dX2_gatherHooks_55 : decode cX2_gatherHooks 55 = .ok (.isub, 1) := by decide +kernel
theorem dX2_gatherHooks_56 : decode cX2_gatherHooks 56 = .ok (.aload_n 0, 1) := by decide +kernel
theorem dX2_gatherHooks_57 : decode cX2_gatherHooks 57 = .ok (.getfield 24, 3) := by decide +kernel
theorem dX2_gatherHooks_60 : decode cX2_gatherHooks 60 = .ok (.iload_n 3, 1) := by decide +kernel
theorem dX2_gatherHooks_61 : decode cX2_gatherHooks 61 = .ok (.iaload, 1) := by decide +kernel
theorem dX2_gatherHooks_62 : decode cX2_gatherHooks 62 = .ok (.isub, 1) := by decide +kernel
theorem dX2_gatherHooks_63 : decode cX2_gatherHooks 63 = .ok (.imul, 1) := by decide +kernel
theorem dX2_gatherHooks_64 : decode cX2_gatherHooks 64 = .ok (.iadd, 1) := by decide +kernel
theorem dX2_gatherHooks_65 : decode cX2_gatherHooks 65 = .ok (.iastore, 1) := by decide +kernel
theorem dX2_gatherHooks_66 : decode cX2_gatherHooks 66 = .ok (.iinc 2 1, 3) := by decide +kernel
theorem dX2_gatherHooks_69 : decode cX2_gatherHooks 69 = .ok (.iinc 3 1, 3) := by decide +kernel
theorem dX2_gatherHooks_72 : decode cX2_gatherHooks 72 = .ok (.goto (-68), 3) := by decide +kernel
theorem dX2_gatherHooks_75 : decode cX2_gatherHooks 75 = .ok (.iload_n 2, 1) := by decide +kernel
theorem dX2_gatherHooks_76 : decode cX2_gatherHooks 76 = .ok (.ireturn, 1) := by decide +kernel
theorem dX2_holdAgainst_0 : decode cX2_holdAgainst 0 = .ok (.iload_n 2, 1) := by decide +kernel
theorem dX2_holdAgainst_1 : decode cX2_holdAgainst 1 = .ok (.istore_n 3, 1) := by decide +kernel
theorem dX2_holdAgainst_2 : decode cX2_holdAgainst 2 = .ok (.iconst 0, 1) := by decide +kernel
theorem dX2_holdAgainst_3 : decode cX2_holdAgainst 3 = .ok (.istore 4, 2) := by decide +kernel
theorem dX2_holdAgainst_5 : decode cX2_holdAgainst 5 = .ok (.iload 4, 2) := by decide +kernel
theorem dX2_holdAgainst_7 : decode cX2_holdAgainst 7 = .ok (.bipush 24, 2) := by decide +kernel
theorem dX2_holdAgainst_9 : decode cX2_holdAgainst 9 = .ok (.if_icmp .ge 87, 3) := by decide +kernel
theorem dX2_holdAgainst_12 : decode cX2_holdAgainst 12 = .ok (.iload_n 3, 1) := by decide +kernel
theorem dX2_holdAgainst_13 : decode cX2_holdAgainst 13 = .ok (.ifCond .le 83, 3) := by decide +kernel
theorem dX2_holdAgainst_16 : decode cX2_holdAgainst 16 = .ok (.iload_n 1, 1) := by decide +kernel
theorem dX2_holdAgainst_17 : decode cX2_holdAgainst 17 = .ok (.iload_n 3, 1) := by decide +kernel
theorem dX2_holdAgainst_18 : decode cX2_holdAgainst 18 = .ok (.iadd, 1) := by decide +kernel
theorem dX2_holdAgainst_19 : decode cX2_holdAgainst 19 = .ok (.iconst 1, 1) := by decide +kernel
theorem dX2_holdAgainst_20 : decode cX2_holdAgainst 20 = .ok (.isub, 1) := by decide +kernel
theorem dX2_holdAgainst_21 : decode cX2_holdAgainst 21 = .ok (.iload_n 3, 1) := by decide +kernel
theorem dX2_holdAgainst_22 : decode cX2_holdAgainst 22 = .ok (.idiv, 1) := by decide +kernel
theorem dX2_holdAgainst_23 : decode cX2_holdAgainst 23 = .ok (.istore 5, 2) := by decide +kernel
theorem dX2_holdAgainst_25 : decode cX2_holdAgainst 25 = .ok (.iconst 0, 1) := by decide +kernel
theorem dX2_holdAgainst_26 : decode cX2_holdAgainst 26 = .ok (.istore 6, 2) := by decide +kernel
theorem dX2_holdAgainst_28 : decode cX2_holdAgainst 28 = .ok (.iconst 0, 1) := by decide +kernel
theorem dX2_holdAgainst_29 : decode cX2_holdAgainst 29 = .ok (.istore 7, 2) := by decide +kernel
theorem dX2_holdAgainst_31 : decode cX2_holdAgainst 31 = .ok (.iload 7, 2) := by decide +kernel
theorem dX2_holdAgainst_33 : decode cX2_holdAgainst 33 = .ok (.iload_n 3, 1) := by decide +kernel
theorem dX2_holdAgainst_34 : decode cX2_holdAgainst 34 = .ok (.if_icmp .ge 45, 3) := by decide +kernel
theorem dX2_holdAgainst_37 : decode cX2_holdAgainst 37 = .ok (.iload 7, 2) := by decide +kernel
theorem dX2_holdAgainst_39 : decode cX2_holdAgainst 39 = .ok (.bipush 24, 2) := by decide +kernel
theorem dX2_holdAgainst_41 : decode cX2_holdAgainst 41 = .ok (.if_icmp .ge 38, 3) := by decide +kernel
theorem dX2_holdAgainst_44 : decode cX2_holdAgainst 44 = .ok (.aload_n 0, 1) := by decide +kernel
theorem dX2_holdAgainst_45 : decode cX2_holdAgainst 45 = .ok (.getfield 39, 3) := by decide +kernel
theorem dX2_holdAgainst_48 : decode cX2_holdAgainst 48 = .ok (.iload 7, 2) := by decide +kernel
theorem dX2_holdAgainst_50 : decode cX2_holdAgainst 50 = .ok (.iaload, 1) := by decide +kernel
theorem dX2_holdAgainst_51 : decode cX2_holdAgainst 51 = .ok (.iload 5, 2) := by decide +kernel
theorem dX2_holdAgainst_53 : decode cX2_holdAgainst 53 = .ok (.if_icmp .lt 20, 3) := by decide +kernel
theorem dX2_holdAgainst_56 : decode cX2_holdAgainst 56 = .ok (.aload_n 0, 1) := by decide +kernel
theorem dX2_holdAgainst_57 : decode cX2_holdAgainst 57 = .ok (.getfield 39, 3) := by decide +kernel
theorem dX2_holdAgainst_60 : decode cX2_holdAgainst 60 = .ok (.iload 6, 2) := by decide +kernel
theorem dX2_holdAgainst_62 : decode cX2_holdAgainst 62 = .ok (.aload_n 0, 1) := by decide +kernel
theorem dX2_holdAgainst_63 : decode cX2_holdAgainst 63 = .ok (.getfield 39, 3) := by decide +kernel
theorem dX2_holdAgainst_66 : decode cX2_holdAgainst 66 = .ok (.iload 7, 2) := by decide +kernel
theorem dX2_holdAgainst_68 : decode cX2_holdAgainst 68 = .ok (.iaload, 1) := by decide +kernel
theorem dX2_holdAgainst_69 : decode cX2_holdAgainst 69 = .ok (.iastore, 1) := by decide +kernel
theorem dX2_holdAgainst_70 : decode cX2_holdAgainst 70 = .ok (.iinc 6 1, 3) := by decide +kernel
theorem dX2_holdAgainst_73 : decode cX2_holdAgainst 73 = .ok (.iinc 7 1, 3) := by decide +kernel
theorem dX2_holdAgainst_76 : decode cX2_holdAgainst 76 = .ok (.goto (-45), 3) := by decide +kernel
theorem dX2_holdAgainst_79 : decode cX2_holdAgainst 79 = .ok (.iload 6, 2) := by decide +kernel
theorem dX2_holdAgainst_81 : decode cX2_holdAgainst 81 = .ok (.iload_n 3, 1) := by decide +kernel
theorem dX2_holdAgainst_82 : decode cX2_holdAgainst 82 = .ok (.if_icmp .ne 5, 3) := by decide +kernel
theorem dX2_holdAgainst_85 : decode cX2_holdAgainst 85 = .ok (.iload_n 3, 1) := by decide +kernel
theorem dX2_holdAgainst_86 : decode cX2_holdAgainst 86 = .ok (.ireturn, 1) := by decide +kernel
theorem dX2_holdAgainst_87 : decode cX2_holdAgainst 87 = .ok (.iload 6, 2) := by decide +kernel
theorem dX2_holdAgainst_89 : decode cX2_holdAgainst 89 = .ok (.istore_n 3, 1) := by decide +kernel
theorem dX2_holdAgainst_90 : decode cX2_holdAgainst 90 = .ok (.iinc 4 1, 3) := by decide +kernel
theorem dX2_holdAgainst_93 : decode cX2_holdAgainst 93 = .ok (.goto (-88), 3) := by decide +kernel
theorem dX2_holdAgainst_96 : decode cX2_holdAgainst 96 = .ok (.iload_n 3, 1) := by decide +kernel
theorem dX2_holdAgainst_97 : decode cX2_holdAgainst 97 = .ok (.ireturn, 1) := by decide +kernel
theorem dX3_init_0 : decode cX3_init 0 = .ok (.aload_n 0, 1) := by decide +kernel
theorem dX3_init_1 : decode cX3_init 1 = .ok (.invokespecial 3, 3) := by decide +kernel
theorem dX3_init_4 : decode cX3_init 4 = .ok (.aload_n 0, 1) := by decide +kernel
theorem dX3_init_5 : decode cX3_init 5 = .ok (.iconst 0, 1) := by decide +kernel
theorem dX3_init_6 : decode cX3_init 6 = .ok (.putfield 9, 3) := by decide +kernel
theorem dX3_init_9 : decode cX3_init 9 = .ok (.aload_n 0, 1) := by decide +kernel
theorem dX3_init_10 : decode cX3_init 10 = .ok (.bipush 24, 2) := by decide +kernel
theorem dX3_init_12 : decode cX3_init 12 = .ok (.newarray .int, 2) := by decide +kernel
theorem dX3_init_14 : decode cX3_init 14 = .ok (.putfield 15, 3) := by decide +kernel
theorem dX3_init_17 : decode cX3_init 17 = .ok (.aload_n 0, 1) := by decide +kernel
theorem dX3_init_18 : decode cX3_init 18 = .ok (.bipush 24, 2) := by decide +kernel
theorem dX3_init_20 : decode cX3_init 20 = .ok (.newarray .int, 2) := by decide +kernel
theorem dX3_init_22 : decode cX3_init 22 = .ok (.putfield 19, 3) := by decide +kernel
theorem dX3_init_25 : decode cX3_init 25 = .ok (.aload_n 0, 1) := by decide +kernel
theorem dX3_init_26 : decode cX3_init 26 = .ok (.bipush 24, 2) := by decide +kernel
theorem dX3_init_28 : decode cX3_init 28 = .ok (.newarray .int, 2) := by decide +kernel
theorem dX3_init_30 : decode cX3_init 30 = .ok (.putfield 22, 3) := by decide +kernel
theorem dX3_init_33 : decode cX3_init 33 = .ok (.aload_n 0, 1) := by decide +kernel
theorem dX3_init_34 : decode cX3_init 34 = .ok (.bipush 24, 2) := by decide +kernel
theorem dX3_init_36 : decode cX3_init 36 = .ok (.newarray .int, 2) := by decide +kernel
theorem dX3_init_38 : decode cX3_init 38 = .ok (.putfield 25, 3) := by decide +kernel
theorem dX3_init_41 : decode cX3_init 41 = .ok (.aload_n 0, 1) := by decide +kernel
theorem dX3_init_42 : decode cX3_init 42 = .ok (.bipush 24, 2) := by decide +kernel
theorem dX3_init_44 : decode cX3_init 44 = .ok (.newarray .int, 2) := by decide +kernel
theorem dX3_init_46 : decode cX3_init 46 = .ok (.putfield 28, 3) := by decide +kernel
theorem dX3_init_49 : decode cX3_init 49 = .ok (.aload_n 0, 1) := by decide +kernel
theorem dX3_init_50 : decode cX3_init 50 = .ok (.bipush 24, 2) := by decide +kernel
theorem dX3_init_52 : decode cX3_init 52 = .ok (.newarray .int, 2) := by decide +kernel
theorem dX3_init_54 : decode cX3_init 54 = .ok (.putfield 31, 3) := by decide +kernel
theorem dX3_init_57 : decode cX3_init 57 = .ok (.aload_n 0, 1) := by decide +kernel
theorem dX3_init_58 : decode cX3_init 58 = .ok (.bipush 24, 2) := by decide +kernel
theorem dX3_init_60 : decode cX3_init 60 = .ok (.newarray .int, 2) := by decide +kernel
theorem dX3_init_62 : decode cX3_init 62 = .ok (.putfield 34, 3) := by decide +kernel
theorem dX3_init_65 : decode cX3_init 65 = .ok (.aload_n 0, 1) := by decide +kernel
theorem dX3_init_66 : decode cX3_init 66 = .ok (.bipush 24, 2) := by decide +kernel
theorem dX3_init_68 : decode cX3_init 68 = .ok (.newarray .int, 2) := by decide +kernel
theorem dX3_init_70 : decode cX3_init 70 = .ok (.putfield 37, 3) := by decide +kernel
theorem dX3_init_73 : decode cX3_init 73 = .ok (.aload_n 0, 1) := by decide +kernel
theorem dX3_init_74 : decode cX3_init 74 = .ok (.bipush 24, 2) := by decide +kernel
theorem dX3_init_76 : decode cX3_init 76 = .ok (.newarray .int, 2) := by decide +kernel
theorem dX3_init_78 : decode cX3_init 78 = .ok (.putfield 40, 3) := by decide +kernel
theorem dX3_init_81 : decode cX3_init 81 = .ok (.return_, 1) := by decide +kernel
theorem dX3_takesKind_0 : decode cX3_takesKind 0 = .ok (.aload_n 0, 1) := by decide +kernel
theorem dX3_takesKind_1 : decode cX3_takesKind 1 = .ok (.getfield 9, 3) := by decide +kernel
theorem dX3_takesKind_4 : decode cX3_takesKind 4 = .ok (.bipush 24, 2) := by decide +kernel
theorem dX3_takesKind_6 : decode cX3_takesKind 6 = .ok (.if_icmp .lt 5, 3) := by decide +kernel
theorem dX3_takesKind_9 : decode cX3_takesKind 9 = .ok (.iconst 0, 1) := by decide +kernel
theorem dX3_takesKind_10 : decode cX3_takesKind 10 = .ok (.ireturn, 1) := by decide +kernel
theorem dX3_takesKind_11 : decode cX3_takesKind 11 = .ok (.aload_n 0, 1) := by decide +kernel
theorem dX3_takesKind_12 : decode cX3_takesKind 12 = .ok (.getfield 9, 3) := by decide +kernel
theorem dX3_takesKind_15 : decode cX3_takesKind 15 = .ok (.ifCond .ne 18, 3) := by decide +kernel
theorem dX3_takesKind_18 : decode cX3_takesKind 18 = .ok (.iload_n 1, 1) := by decide +kernel
theorem dX3_takesKind_19 : decode cX3_takesKind 19 = .ok (.ifCond .ne 12, 3) := by decide +kernel
theorem dX3_takesKind_22 : decode cX3_takesKind 22 = .ok (.iload_n 2, 1) := by decide +kernel
theorem dX3_takesKind_23 : decode cX3_takesKind 23 = .ok (.iconst (-1), 1) := by decide +kernel
theorem dX3_takesKind_24 : decode cX3_takesKind 24 = .ok (.if_icmp .ne 7, 3) := by decide +kernel
theorem dX3_takesKind_27 : decode cX3_takesKind 27 = .ok (.iconst 1, 1) := by decide +kernel
theorem dX3_takesKind_28 : decode cX3_takesKind 28 = .ok (.goto 4, 3) := by decide +kernel
theorem dX3_takesKind_31 : decode cX3_takesKind 31 = .ok (.iconst 0, 1) := by decide +kernel
theorem dX3_takesKind_32 : decode cX3_takesKind 32 = .ok (.ireturn, 1) := by decide +kernel
theorem dX3_takesKind_33 : decode cX3_takesKind 33 = .ok (.iload_n 1, 1) := by decide +kernel
theorem dX3_takesKind_34 : decode cX3_takesKind 34 = .ok (.iconst 1, 1) := by decide +kernel
theorem dX3_takesKind_35 : decode cX3_takesKind 35 = .ok (.iconst 5, 1) := by decide +kernel
theorem dX3_takesKind_36 : decode cX3_takesKind 36 = .ok (.invokestatic 43, 3) := by decide +kernel
theorem dX3_takesKind_39 : decode cX3_takesKind 39 = .ok (.ifCond .eq 17, 3) := by decide +kernel
theorem dX3_takesKind_42 : decode cX3_takesKind 42 = .ok (.iload_n 2, 1) := by decide +kernel
theorem dX3_takesKind_43 : decode cX3_takesKind 43 = .ok (.iconst 0, 1) := by decide +kernel
theorem dX3_takesKind_44 : decode cX3_takesKind 44 = .ok (.aload_n 0, 1) := by decide +kernel
theorem dX3_takesKind_45 : decode cX3_takesKind 45 = .ok (.getfield 9, 3) := by decide +kernel
theorem dX3_takesKind_48 : decode cX3_takesKind 48 = .ok (.iconst 1, 1) := by decide +kernel
theorem dX3_takesKind_49 : decode cX3_takesKind 49 = .ok (.isub, 1) := by decide +kernel
theorem dX3_takesKind_50 : decode cX3_takesKind 50 = .ok (.invokestatic 43, 3) := by decide +kernel
theorem dX3_takesKind_53 : decode cX3_takesKind 53 = .ok (.ifCond .ne 5, 3) := by decide +kernel
theorem dX3_takesKind_56 : decode cX3_takesKind 56 = .ok (.iconst 0, 1) := by decide +kernel
theorem dX3_takesKind_57 : decode cX3_takesKind 57 = .ok (.ireturn, 1) := by decide +kernel
theorem dX3_takesKind_58 : decode cX3_takesKind 58 = .ok (.iload_n 1, 1) := by decide +kernel
theorem dX3_takesKind_59 : decode cX3_takesKind 59 = .ok (.iconst 5, 1) := by decide +kernel
theorem dX3_takesKind_60 : decode cX3_takesKind 60 = .ok (.if_icmp .ne 21, 3) := by decide +kernel
theorem dX3_takesKind_63 : decode cX3_takesKind 63 = .ok (.aload_n 0, 1) := by decide +kernel
theorem dX3_takesKind_64 : decode cX3_takesKind 64 = .ok (.getfield 15, 3) := by decide +kernel
theorem dX3_takesKind_67 : decode cX3_takesKind 67 = .ok (.iload_n 2, 1) := by decide +kernel
theorem dX3_takesKind_68 : decode cX3_takesKind 68 = .ok (.iaload, 1) := by decide +kernel
theorem dX3_takesKind_69 : decode cX3_takesKind 69 = .ok (.iconst 2, 1) := by decide +kernel
theorem dX3_takesKind_70 : decode cX3_takesKind 70 = .ok (.if_icmp .ne 7, 3) := by decide +kernel
theorem dX3_takesKind_73 : decode cX3_takesKind 73 = .ok (.iconst 1, 1) := by decide +kernel
theorem dX3_takesKind_74 : decode cX3_takesKind 74 = .ok (.goto 22, 3) := by decide +kernel
theorem dX3_takesKind_77 : decode cX3_takesKind 77 = .ok (.iconst 0, 1) := by decide +kernel
theorem dX3_takesKind_78 : decode cX3_takesKind 78 = .ok (.goto 18, 3) := by decide +kernel
theorem dX3_takesKind_81 : decode cX3_takesKind 81 = .ok (.aload_n 0, 1) := by decide +kernel
theorem dX3_takesKind_82 : decode cX3_takesKind 82 = .ok (.getfield 15, 3) := by decide +kernel
theorem dX3_takesKind_85 : decode cX3_takesKind 85 = .ok (.iload_n 2, 1) := by decide +kernel
theorem dX3_takesKind_86 : decode cX3_takesKind 86 = .ok (.iaload, 1) := by decide +kernel
theorem dX3_takesKind_87 : decode cX3_takesKind 87 = .ok (.iconst 2, 1) := by decide +kernel
theorem dX3_takesKind_88 : decode cX3_takesKind 88 = .ok (.if_icmp .gt 7, 3) := by decide +kernel
theorem dX3_takesKind_91 : decode cX3_takesKind 91 = .ok (.iconst 1, 1) := by decide +kernel
theorem dX3_takesKind_92 : decode cX3_takesKind 92 = .ok (.goto 4, 3) := by decide +kernel
theorem dX3_takesKind_95 : decode cX3_takesKind 95 = .ok (.iconst 0, 1) := by decide +kernel
theorem dX3_takesKind_96 : decode cX3_takesKind 96 = .ok (.ireturn, 1) := by decide +kernel
theorem dX3_add_0 : decode cX3_add 0 = .ok (.aload_n 0, 1) := by decide +kernel
theorem dX3_add_1 : decode cX3_add 1 = .ok (.getfield 9, 3) := by decide +kernel
theorem dX3_add_4 : decode cX3_add 4 = .ok (.bipush 24, 2) := by decide +kernel
theorem dX3_add_6 : decode cX3_add 6 = .ok (.if_icmp .lt 5, 3) := by decide +kernel
theorem dX3_add_9 : decode cX3_add 9 = .ok (.iconst (-1), 1) := by decide +kernel
theorem dX3_add_10 : decode cX3_add 10 = .ok (.ireturn, 1) := by decide +kernel
theorem dX3_add_11 : decode cX3_add 11 = .ok (.aload_n 0, 1) := by decide +kernel
theorem dX3_add_12 : decode cX3_add 12 = .ok (.getfield 9, 3) := by decide +kernel
theorem dX3_add_15 : decode cX3_add 15 = .ok (.istore 8, 2) := by decide +kernel
theorem dX3_add_17 : decode cX3_add 17 = .ok (.aload_n 0, 1) := by decide +kernel
theorem dX3_add_18 : decode cX3_add 18 = .ok (.getfield 15, 3) := by decide +kernel
theorem dX3_add_21 : decode cX3_add 21 = .ok (.iload 8, 2) := by decide +kernel
theorem dX3_add_23 : decode cX3_add 23 = .ok (.iload_n 1, 1) := by decide +kernel
theorem dX3_add_24 : decode cX3_add 24 = .ok (.iastore, 1) := by decide +kernel
theorem dX3_add_25 : decode cX3_add 25 = .ok (.aload_n 0, 1) := by decide +kernel
theorem dX3_add_26 : decode cX3_add 26 = .ok (.getfield 19, 3) := by decide +kernel
theorem dX3_add_29 : decode cX3_add 29 = .ok (.iload 8, 2) := by decide +kernel
theorem dX3_add_31 : decode cX3_add 31 = .ok (.iload_n 2, 1) := by decide +kernel
theorem dX3_add_32 : decode cX3_add 32 = .ok (.iastore, 1) := by decide +kernel
theorem dX3_add_33 : decode cX3_add 33 = .ok (.aload_n 0, 1) := by decide +kernel
theorem dX3_add_34 : decode cX3_add 34 = .ok (.getfield 22, 3) := by decide +kernel
theorem dX3_add_37 : decode cX3_add 37 = .ok (.iload 8, 2) := by decide +kernel
theorem dX3_add_39 : decode cX3_add 39 = .ok (.iload_n 3, 1) := by decide +kernel
theorem dX3_add_40 : decode cX3_add 40 = .ok (.iastore, 1) := by decide +kernel
theorem dX3_add_41 : decode cX3_add 41 = .ok (.aload_n 0, 1) := by decide +kernel
theorem dX3_add_42 : decode cX3_add 42 = .ok (.getfield 25, 3) := by decide +kernel
theorem dX3_add_45 : decode cX3_add 45 = .ok (.iload 8, 2) := by decide +kernel
theorem dX3_add_47 : decode cX3_add 47 = .ok (.iload 4, 2) := by decide +kernel
theorem dX3_add_49 : decode cX3_add 49 = .ok (.bipush 10, 2) := by decide +kernel
theorem dX3_add_51 : decode cX3_add 51 = .ok (.idiv, 1) := by decide +kernel
theorem dX3_add_52 : decode cX3_add 52 = .ok (.iastore, 1) := by decide +kernel
theorem dX3_add_53 : decode cX3_add 53 = .ok (.aload_n 0, 1) := by decide +kernel
theorem dX3_add_54 : decode cX3_add 54 = .ok (.getfield 28, 3) := by decide +kernel
theorem dX3_add_57 : decode cX3_add 57 = .ok (.iload 8, 2) := by decide +kernel
theorem dX3_add_59 : decode cX3_add 59 = .ok (.iload 4, 2) := by decide +kernel
theorem dX3_add_61 : decode cX3_add 61 = .ok (.bipush 10, 2) := by decide +kernel
theorem dX3_add_63 : decode cX3_add 63 = .ok (.irem, 1) := by decide +kernel
theorem dX3_add_64 : decode cX3_add 64 = .ok (.iastore, 1) := by decide +kernel
theorem dX3_add_65 : decode cX3_add 65 = .ok (.aload_n 0, 1) := by decide +kernel
theorem dX3_add_66 : decode cX3_add 66 = .ok (.getfield 31, 3) := by decide +kernel
theorem dX3_add_69 : decode cX3_add 69 = .ok (.iload 8, 2) := by decide +kernel
theorem dX3_add_71 : decode cX3_add 71 = .ok (.iload 5, 2) := by decide +kernel
theorem dX3_add_73 : decode cX3_add 73 = .ok (.iastore, 1) := by decide +kernel
theorem dX3_add_74 : decode cX3_add 74 = .ok (.aload_n 0, 1) := by decide +kernel
theorem dX3_add_75 : decode cX3_add 75 = .ok (.getfield 34, 3) := by decide +kernel
theorem dX3_add_78 : decode cX3_add 78 = .ok (.iload 8, 2) := by decide +kernel
theorem dX3_add_80 : decode cX3_add 80 = .ok (.iload 6, 2) := by decide +kernel
theorem dX3_add_82 : decode cX3_add 82 = .ok (.iastore, 1) := by decide +kernel
theorem dX3_add_83 : decode cX3_add 83 = .ok (.aload_n 0, 1) := by decide +kernel
theorem dX3_add_84 : decode cX3_add 84 = .ok (.getfield 37, 3) := by decide +kernel
theorem dX3_add_87 : decode cX3_add 87 = .ok (.iload 8, 2) := by decide +kernel
theorem dX3_add_89 : decode cX3_add 89 = .ok (.iload 7, 2) := by decide +kernel
theorem dX3_add_91 : decode cX3_add 91 = .ok (.iastore, 1) := by decide +kernel
theorem dX3_add_92 : decode cX3_add 92 = .ok (.aload_n 0, 1) := by decide +kernel
theorem dX3_add_93 : decode cX3_add 93 = .ok (.iload 8, 2) := by decide +kernel
theorem dX3_add_95 : decode cX3_add 95 = .ok (.iconst 1, 1) := by decide +kernel
theorem dX3_add_96 : decode cX3_add 96 = .ok (.iadd, 1) := by decide +kernel
theorem dX3_add_97 : decode cX3_add 97 = .ok (.putfield 9, 3) := by decide +kernel
theorem dX3_add_100 : decode cX3_add 100 = .ok (.iload 8, 2) := by decide +kernel
theorem dX3_add_102 : decode cX3_add 102 = .ok (.ireturn, 1) := by decide +kernel
theorem dX4_init_0 : decode cX4_init 0 = .ok (.aload_n 0, 1) := by decide +kernel
theorem dX4_init_1 : decode cX4_init 1 = .ok (.invokespecial 3, 3) := by decide +kernel
theorem dX4_init_4 : decode cX4_init 4 = .ok (.aload_n 0, 1) := by decide +kernel
theorem dX4_init_5 : decode cX4_init 5 = .ok (.iconst 0, 1) := by decide +kernel
theorem dX4_init_6 : decode cX4_init 6 = .ok (.putfield 9, 3) := by decide +kernel
theorem dX4_init_9 : decode cX4_init 9 = .ok (.aload_n 0, 1) := by decide +kernel
theorem dX4_init_10 : decode cX4_init 10 = .ok (.sipush 480, 3) := by decide +kernel
theorem dX4_init_13 : decode cX4_init 13 = .ok (.newarray .int, 2) := by decide +kernel
theorem dX4_init_15 : decode cX4_init 15 = .ok (.putfield 15, 3) := by decide +kernel
theorem dX4_init_18 : decode cX4_init 18 = .ok (.aload_n 0, 1) := by decide +kernel
theorem dX4_init_19 : decode cX4_init 19 = .ok (.sipush 480, 3) := by decide +kernel
theorem dX4_init_22 : decode cX4_init 22 = .ok (.newarray .int, 2) := by decide +kernel
theorem dX4_init_24 : decode cX4_init 24 = .ok (.putfield 19, 3) := by decide +kernel
theorem dX4_init_27 : decode cX4_init 27 = .ok (.aload_n 0, 1) := by decide +kernel
theorem dX4_init_28 : decode cX4_init 28 = .ok (.sipush 480, 3) := by decide +kernel
theorem dX4_init_31 : decode cX4_init 31 = .ok (.newarray .int, 2) := by decide +kernel
theorem dX4_init_33 : decode cX4_init 33 = .ok (.putfield 22, 3) := by decide +kernel
theorem dX4_init_36 : decode cX4_init 36 = .ok (.aload_n 0, 1) := by decide +kernel
theorem dX4_init_37 : decode cX4_init 37 = .ok (.sipush 480, 3) := by decide +kernel
theorem dX4_init_40 : decode cX4_init 40 = .ok (.newarray .int, 2) := by decide +kernel
theorem dX4_init_42 : decode cX4_init 42 = .ok (.putfield 25, 3) := by decide +kernel
theorem dX4_init_45 : decode cX4_init 45 = .ok (.aload_n 0, 1) := by decide +kernel
theorem dX4_init_46 : decode cX4_init 46 = .ok (.bipush 20, 2) := by decide +kernel
theorem dX4_init_48 : decode cX4_init 48 = .ok (.newarray .int, 2) := by decide +kernel
theorem dX4_init_50 : decode cX4_init 50 = .ok (.putfield 28, 3) := by decide +kernel
theorem dX4_init_53 : decode cX4_init 53 = .ok (.aload_n 0, 1) := by decide +kernel
theorem dX4_init_54 : decode cX4_init 54 = .ok (.bipush 20, 2) := by decide +kernel
theorem dX4_init_56 : decode cX4_init 56 = .ok (.newarray .int, 2) := by decide +kernel
theorem dX4_init_58 : decode cX4_init 58 = .ok (.putfield 31, 3) := by decide +kernel
theorem dX4_init_61 : decode cX4_init 61 = .ok (.return_, 1) := by decide +kernel
theorem dX4_spot_0 : decode cX4_spot 0 = .ok (.iload_n 0, 1) := by decide +kernel
theorem dX4_spot_1 : decode cX4_spot 1 = .ok (.bipush 24, 2) := by decide +kernel
theorem dX4_spot_3 : decode cX4_spot 3 = .ok (.imul, 1) := by decide +kernel
theorem dX4_spot_4 : decode cX4_spot 4 = .ok (.iload_n 1, 1) := by decide +kernel
theorem dX4_spot_5 : decode cX4_spot 5 = .ok (.iadd, 1) := by decide +kernel
theorem dX4_spot_6 : decode cX4_spot 6 = .ok (.ireturn, 1) := by decide +kernel
theorem dX4_add_0 : decode cX4_add 0 = .ok (.aload_n 0, 1) := by decide +kernel
theorem dX4_add_1 : decode cX4_add 1 = .ok (.getfield 9, 3) := by decide +kernel
theorem dX4_add_4 : decode cX4_add 4 = .ok (.bipush 20, 2) := by decide +kernel
theorem dX4_add_6 : decode cX4_add 6 = .ok (.if_icmp .lt 5, 3) := by decide +kernel
theorem dX4_add_9 : decode cX4_add 9 = .ok (.iconst (-1), 1) := by decide +kernel
theorem dX4_add_10 : decode cX4_add 10 = .ok (.ireturn, 1) := by decide +kernel
theorem dX4_add_11 : decode cX4_add 11 = .ok (.aload_n 0, 1) := by decide +kernel
theorem dX4_add_12 : decode cX4_add 12 = .ok (.dup, 1) := by decide +kernel
theorem dX4_add_13 : decode cX4_add 13 = .ok (.getfield 9, 3) := by decide +kernel
theorem dX4_add_16 : decode cX4_add 16 = .ok (.iconst 1, 1) := by decide +kernel
theorem dX4_add_17 : decode cX4_add 17 = .ok (.iadd, 1) := by decide +kernel
theorem dX4_add_18 : decode cX4_add 18 = .ok (.putfield 9, 3) := by decide +kernel
theorem dX4_add_21 : decode cX4_add 21 = .ok (.aload_n 0, 1) := by decide +kernel
theorem dX4_add_22 : decode cX4_add 22 = .ok (.getfield 9, 3) := by decide +kernel
theorem dX4_add_25 : decode cX4_add 25 = .ok (.iconst 1, 1) := by decide +kernel
theorem dX4_add_26 : decode cX4_add 26 = .ok (.isub, 1) := by decide +kernel
theorem dX4_add_27 : decode cX4_add 27 = .ok (.ireturn, 1) := by decide +kernel
theorem dX4_letGo_0 : decode cX4_letGo 0 = .ok (.iload_n 1, 1) := by decide +kernel
theorem dX4_letGo_1 : decode cX4_letGo 1 = .ok (.iconst 0, 1) := by decide +kernel
theorem dX4_letGo_2 : decode cX4_letGo 2 = .ok (.aload_n 0, 1) := by decide +kernel
theorem dX4_letGo_3 : decode cX4_letGo 3 = .ok (.getfield 9, 3) := by decide +kernel
theorem dX4_letGo_6 : decode cX4_letGo 6 = .ok (.iconst 1, 1) := by decide +kernel
theorem dX4_letGo_7 : decode cX4_letGo 7 = .ok (.isub, 1) := by decide +kernel
theorem dX4_letGo_8 : decode cX4_letGo 8 = .ok (.invokestatic 34, 3) := by decide +kernel
theorem dX4_letGo_11 : decode cX4_letGo 11 = .ok (.ifCond .eq 23, 3) := by decide +kernel
theorem dX4_letGo_14 : decode cX4_letGo 14 = .ok (.aload_n 0, 1) := by decide +kernel
theorem dX4_letGo_15 : decode cX4_letGo 15 = .ok (.getfield 25, 3) := by decide +kernel
theorem dX4_letGo_18 : decode cX4_letGo 18 = .ok (.iload_n 1, 1) := by decide +kernel
theorem dX4_letGo_19 : decode cX4_letGo 19 = .ok (.iconst 0, 1) := by decide +kernel
theorem dX4_letGo_20 : decode cX4_letGo 20 = .ok (.invokestatic 38, 3) := by decide +kernel
theorem dX4_letGo_23 : decode cX4_letGo 23 = .ok (.iload_n 1, 1) := by decide +kernel
theorem dX4_letGo_24 : decode cX4_letGo 24 = .ok (.iconst 1, 1) := by decide +kernel
theorem dX4_letGo_25 : decode cX4_letGo 25 = .ok (.iadd, 1) := by decide +kernel
theorem dX4_letGo_26 : decode cX4_letGo 26 = .ok (.iconst 0, 1) := by decide +kernel
theorem dX4_letGo_27 : decode cX4_letGo 27 = .ok (.invokestatic 38, 3) := by decide +kernel
theorem dX4_letGo_30 : decode cX4_letGo 30 = .ok (.iconst 0, 1) := by decide +kernel
theorem dX4_letGo_31 : decode cX4_letGo 31 = .ok (.invokestatic 42, 3) := by decide +kernel
theorem dX4_letGo_34 : decode cX4_letGo 34 = .ok (.return_, 1) := by decide +kernel
theorem dX4_hasTaken_0 : decode cX4_hasTaken 0 = .ok (.iload_n 1, 1) := by decide +kernel
theorem dX4_hasTaken_1 : decode cX4_hasTaken 1 = .ok (.iconst 0, 1) := by decide +kernel
theorem dX4_hasTaken_2 : decode cX4_hasTaken 2 = .ok (.aload_n 0, 1) := by decide +kernel
theorem dX4_hasTaken_3 : decode cX4_hasTaken 3 = .ok (.getfield 9, 3) := by decide +kernel
theorem dX4_hasTaken_6 : decode cX4_hasTaken 6 = .ok (.iconst 1, 1) := by decide +kernel
theorem dX4_hasTaken_7 : decode cX4_hasTaken 7 = .ok (.isub, 1) := by decide +kernel
theorem dX4_hasTaken_8 : decode cX4_hasTaken 8 = .ok (.invokestatic 34, 3) := by decide +kernel
theorem dX4_hasTaken_11 : decode cX4_hasTaken 11 = .ok (.ifCond .eq 21, 3) := by decide +kernel
theorem dX4_hasTaken_14 : decode cX4_hasTaken 14 = .ok (.aload_n 0, 1) := by decide +kernel
theorem dX4_hasTaken_15 : decode cX4_hasTaken 15 = .ok (.getfield 31, 3) := by decide +kernel
theorem dX4_hasTaken_18 : decode cX4_hasTaken 18 = .ok (.iload_n 1, 1) := by decide +kernel
theorem dX4_hasTaken_19 : decode cX4_hasTaken 19 = .ok (.iaload, 1) := by decide +kernel
theorem dX4_hasTaken_20 : decode cX4_hasTaken 20 = .ok (.iload_n 2, 1) := by decide +kernel
theorem dX4_hasTaken_21 : decode cX4_hasTaken 21 = .ok (.ishr, 1) := by decide +kernel
theorem dX4_hasTaken_22 : decode cX4_hasTaken 22 = .ok (.iconst 1, 1) := by decide +kernel
theorem dX4_hasTaken_23 : decode cX4_hasTaken 23 = .ok (.iand, 1) := by decide +kernel
theorem dX4_hasTaken_24 : decode cX4_hasTaken 24 = .ok (.iconst 1, 1) := by decide +kernel
theorem dX4_hasTaken_25 : decode cX4_hasTaken 25 = .ok (.if_icmp .ne 7, 3) := by decide +kernel
theorem dX4_hasTaken_28 : decode cX4_hasTaken 28 = .ok (.iconst 1, 1) := by decide +kernel
theorem dX4_hasTaken_29 : decode cX4_hasTaken 29 = .ok (.goto 4, 3) := by decide +kernel
theorem dX4_hasTaken_32 : decode cX4_hasTaken 32 = .ok (.iconst 0, 1) := by decide +kernel
theorem dX4_hasTaken_33 : decode cX4_hasTaken 33 = .ok (.ireturn, 1) := by decide +kernel
theorem dX4_addFlights_0 : decode cX4_addFlights 0 = .ok (.iload_n 2, 1) := by decide +kernel
theorem dX4_addFlights_1 : decode cX4_addFlights 1 = .ok (.iconst 0, 1) := by decide +kernel
theorem dX4_addFlights_2 : decode cX4_addFlights 2 = .ok (.aload_n 0, 1) := by decide +kernel
theorem dX4_addFlights_3 : decode cX4_addFlights 3 = .ok (.getfield 9, 3) := by decide +kernel
theorem dX4_addFlights_6 : decode cX4_addFlights 6 = .ok (.iconst 1, 1) := by decide +kernel
theorem dX4_addFlights_7 : decode cX4_addFlights 7 = .ok (.isub, 1) := by decide +kernel
theorem dX4_addFlights_8 : decode cX4_addFlights 8 = .ok (.invokestatic 34, 3) := by decide +kernel
theorem dX4_addFlights_11 : decode cX4_addFlights 11 = .ok (.ifCond .ne 4, 3) := by decide +kernel
theorem dX4_addFlights_14 : decode cX4_addFlights 14 = .ok (.return_, 1) := by decide +kernel
theorem dX4_addFlights_15 : decode cX4_addFlights 15 = .ok (.aload_n 0, 1) := by decide +kernel
theorem dX4_addFlights_16 : decode cX4_addFlights 16 = .ok (.getfield 28, 3) := by decide +kernel
theorem dX4_addFlights_19 : decode cX4_addFlights 19 = .ok (.iload_n 2, 1) := by decide +kernel
theorem dX4_addFlights_20 : decode cX4_addFlights 20 = .ok (.iaload, 1) := by decide +kernel
theorem dX4_addFlights_21 : decode cX4_addFlights 21 = .ok (.istore 4, 2) := by decide +kernel
theorem dX4_addFlights_23 : decode cX4_addFlights 23 = .ok (.iload 4, 2) := by decide +kernel
theorem dX4_addFlights_25 : decode cX4_addFlights 25 = .ok (.iload_n 3, 1) := by decide +kernel
theorem dX4_addFlights_26 : decode cX4_addFlights 26 = .ok (.iadd, 1) := by decide +kernel
theorem dX4_addFlights_27 : decode cX4_addFlights 27 = .ok (.ldc 48, 2) := by decide +kernel
theorem dX4_addFlights_29 : decode cX4_addFlights 29 = .ok (.invokestatic 49, 3) := by decide +kernel
theorem dX4_addFlights_32 : decode cX4_addFlights 32 = .ok (.istore 5, 2) := by decide +kernel
theorem dX4_addFlights_34 : decode cX4_addFlights 34 = .ok (.iconst 0, 1) := by decide +kernel
theorem dX4_addFlights_35 : decode cX4_addFlights 35 = .ok (.istore 6, 2) := by decide +kernel
theorem dX4_addFlights_37 : decode cX4_addFlights 37 = .ok (.iload 6, 2) := by decide +kernel
theorem dX4_addFlights_39 : decode cX4_addFlights 39 = .ok (.aload_n 1, 1) := by decide +kernel
theorem dX4_addFlights_40 : decode cX4_addFlights 40 = .ok (.getfield 54, 3) := by decide +kernel
theorem dX4_addFlights_43 : decode cX4_addFlights 43 = .ok (.if_icmp .ge 62, 3) := by decide +kernel
theorem dX4_addFlights_46 : decode cX4_addFlights 46 = .ok (.aload_n 1, 1) := by decide +kernel
theorem dX4_addFlights_47 : decode cX4_addFlights 47 = .ok (.getfield 57, 3) := by decide +kernel
theorem dX4_addFlights_50 : decode cX4_addFlights 50 = .ok (.iload 6, 2) := by decide +kernel
theorem dX4_addFlights_52 : decode cX4_addFlights 52 = .ok (.iaload, 1) := by decide +kernel
theorem dX4_addFlights_53 : decode cX4_addFlights 53 = .ok (.istore 7, 2) := by decide +kernel
theorem dX4_addFlights_55 : decode cX4_addFlights 55 = .ok (.iload 7, 2) := by decide +kernel
theorem dX4_addFlights_57 : decode cX4_addFlights 57 = .ok (.ifCond .le 42, 3) := by decide +kernel
theorem dX4_addFlights_60 : decode cX4_addFlights 60 = .ok (.iload_n 2, 1) := by decide +kernel
theorem dX4_addFlights_61 : decode cX4_addFlights 61 = .ok (.iload 6, 2) := by decide +kernel
theorem dX4_addFlights_63 : decode cX4_addFlights 63 = .ok (.invokestatic 38, 3) := by decide +kernel
theorem dX4_addFlights_66 : decode cX4_addFlights 66 = .ok (.istore 8, 2) := by decide +kernel
theorem dX4_addFlights_68 : decode cX4_addFlights 68 = .ok (.aload_n 0, 1) := by decide +kernel
theorem dX4_addFlights_69 : decode cX4_addFlights 69 = .ok (.getfield 15, 3) := by decide +kernel
theorem dX4_addFlights_72 : decode cX4_addFlights 72 = .ok (.iload 8, 2) := by decide +kernel
theorem dX4_addFlights_74 : decode cX4_addFlights 74 = .ok (.bipush 99, 2) := by decide +kernel
theorem dX4_addFlights_76 : decode cX4_addFlights 76 = .ok (.aload_n 0, 1) := by decide +kernel
theorem dX4_addFlights_77 : decode cX4_addFlights 77 = .ok (.getfield 15, 3) := by decide +kernel
theorem dX4_addFlights_80 : decode cX4_addFlights 80 = .ok (.iload 8, 2) := by decide +kernel
theorem dX4_addFlights_82 : decode cX4_addFlights 82 = .ok (.iaload, 1) := by decide +kernel
theorem dX4_addFlights_83 : decode cX4_addFlights 83 = .ok (.iload 5, 2) := by decide +kernel
theorem dX4_addFlights_85 : decode cX4_addFlights 85 = .ok (.iload 7, 2) := by decide +kernel
theorem dX4_addFlights_87 : decode cX4_addFlights 87 = .ok (.idiv, 1) := by decide +kernel
theorem dX4_addFlights_88 : decode cX4_addFlights 88 = .ok (.iadd, 1) := by decide +kernel
theorem dX4_addFlights_89 : decode cX4_addFlights 89 = .ok (.iload 4, 2) := by decide +kernel
theorem dX4_addFlights_91 : decode cX4_addFlights 91 = .ok (.iload 7, 2) := by decide +kernel
theorem dX4_addFlights_93 : decode cX4_addFlights 93 = .ok (.idiv, 1) := by decide +kernel
theorem dX4_addFlights_94 : decode cX4_addFlights 94 = .ok (.isub, 1) := by decide +kernel
theorem dX4_addFlights_95 : decode cX4_addFlights 95 = .ok (.invokestatic 49, 3) := by decide +kernel
theorem dX4_addFlights_98 : decode cX4_addFlights 98 = .ok (.iastore, 1) := by decide +kernel
theorem dX4_addFlights_99 : decode cX4_addFlights 99 = .ok (.iinc 6 1, 3) := by decide +kernel
theorem dX4_addFlights_102 : decode cX4_addFlights 102 = .ok (.goto (-65), 3) := by decide +kernel
theorem dX4_addFlights_105 : decode cX4_addFlights 105 = .ok (.aload_n 0, 1) := by decide +kernel
theorem dX4_addFlights_106 : decode cX4_addFlights 106 = .ok (.getfield 28, 3) := by decide +kernel
theorem dX4_addFlights_109 : decode cX4_addFlights 109 = .ok (.iload_n 2, 1) := by decide +kernel
theorem dX4_addFlights_110 : decode cX4_addFlights 110 = .ok (.iload 5, 2) := by decide +kernel
theorem dX4_addFlights_112 : decode cX4_addFlights 112 = .ok (.iastore, 1) := by decide +kernel
theorem dX4_addFlights_113 : decode cX4_addFlights 113 = .ok (.return_, 1) := by decide +kernel
theorem dX4_sumOf_0 : decode cX4_sumOf 0 = .ok (.iconst 0, 1) := by decide +kernel
theorem dX4_sumOf_1 : decode cX4_sumOf 1 = .ok (.istore_n 3, 1) := by decide +kernel
theorem dX4_sumOf_2 : decode cX4_sumOf 2 = .ok (.iload_n 2, 1) := by decide +kernel
theorem dX4_sumOf_3 : decode cX4_sumOf 3 = .ok (.iconst 0, 1) := by decide +kernel
theorem dX4_sumOf_4 : decode cX4_sumOf 4 = .ok (.invokestatic 38, 3) := by decide +kernel
theorem dX4_sumOf_7 : decode cX4_sumOf 7 = .ok (.istore 4, 2) := by decide +kernel
theorem dX4_sumOf_9 : decode cX4_sumOf 9 = .ok (.iload 4, 2) := by decide +kernel
theorem dX4_sumOf_11 : decode cX4_sumOf 11 = .ok (.iload_n 2, 1) := by decide +kernel
theorem dX4_sumOf_12 : decode cX4_sumOf 12 = .ok (.iconst 1, 1) := by decide +kernel
theorem dX4_sumOf_13 : decode cX4_sumOf 13 = .ok (.iadd, 1) := by decide +kernel
theorem dX4_sumOf_14 : decode cX4_sumOf 14 = .ok (.iconst 0, 1) := by decide +kernel
theorem dX4_sumOf_15 : decode cX4_sumOf 15 = .ok (.invokestatic 38, 3) := by decide +kernel
theorem dX4_sumOf_18 : decode cX4_sumOf 18 = .ok (.if_icmp .ge 33, 3) := by decide +kernel
theorem dX4_sumOf_21 : decode cX4_sumOf 21 = .ok (.iload_n 3, 1) := by decide +kernel
theorem dX4_sumOf_22 : decode cX4_sumOf 22 = .ok (.iload 4, 2) := by decide +kernel
theorem dX4_sumOf_24 : decode cX4_sumOf 24 = .ok (.iconst 0, 1) := by decide +kernel
theorem dX4_sumOf_25 : decode cX4_sumOf 25 = .ok (.aload_n 1, 1) := by decide +kernel
theorem dX4_sumOf_26 : decode cX4_sumOf 26 = .ok (.arraylength, 1) := by decide +kernel
theorem dX4_sumOf_27 : decode cX4_sumOf 27 = .ok (.iconst 1, 1) := by decide +kernel
theorem dX4_sumOf_28 : decode cX4_sumOf 28 = .ok (.isub, 1) := by decide +kernel
theorem dX4_sumOf_29 : decode cX4_sumOf 29 = .ok (.invokestatic 34, 3) := by decide +kernel
theorem dX4_sumOf_32 : decode cX4_sumOf 32 = .ok (.ifCond .eq 10, 3) := by decide +kernel
theorem dX4_sumOf_35 : decode cX4_sumOf 35 = .ok (.aload_n 1, 1) := by decide +kernel
theorem dX4_sumOf_36 : decode cX4_sumOf 36 = .ok (.iload 4, 2) := by decide +kernel
theorem dX4_sumOf_38 : decode cX4_sumOf 38 = .ok (.iaload, 1) := by decide +kernel
theorem dX4_sumOf_39 : decode cX4_sumOf 39 = .ok (.goto 4, 3) := by decide +kernel
theorem dX4_sumOf_42 : decode cX4_sumOf 42 = .ok (.iconst 0, 1) := by decide +kernel
theorem dX4_sumOf_43 : decode cX4_sumOf 43 = .ok (.iadd, 1) := by decide +kernel
theorem dX4_sumOf_44 : decode cX4_sumOf 44 = .ok (.istore_n 3, 1) := by decide +kernel
theorem dX4_sumOf_45 : decode cX4_sumOf 45 = .ok (.iinc 4 1, 3) := by decide +kernel
theorem dX4_sumOf_48 : decode cX4_sumOf 48 = .ok (.goto (-39), 3) := by decide +kernel
theorem dX4_sumOf_51 : decode cX4_sumOf 51 = .ok (.iload_n 3, 1) := by decide +kernel
theorem dX4_sumOf_52 : decode cX4_sumOf 52 = .ok (.ireturn, 1) := by decide +kernel
theorem dX4_become_0 : decode cX4_become 0 = .ok (.aload_n 0, 1) := by decide +kernel
theorem dX4_become_1 : decode cX4_become 1 = .ok (.aload_n 1, 1) := by decide +kernel
theorem dX4_become_2 : decode cX4_become 2 = .ok (.getfield 9, 3) := by decide +kernel
theorem dX4_become_5 : decode cX4_become 5 = .ok (.putfield 9, 3) := by decide +kernel
theorem dX4_become_8 : decode cX4_become 8 = .ok (.aload_n 1, 1) := by decide +kernel
theorem dX4_become_9 : decode cX4_become 9 = .ok (.getfield 15, 3) := by decide +kernel
theorem dX4_become_12 : decode cX4_become 12 = .ok (.iconst 0, 1) := by decide +kernel
theorem dX4_become_13 : decode cX4_become 13 = .ok (.aload_n 0, 1) := by decide +kernel
theorem dX4_become_14 : decode cX4_become 14 = .ok (.getfield 15, 3) := by decide +kernel
theorem dX4_become_17 : decode cX4_become 17 = .ok (.iconst 0, 1) := by decide +kernel
theorem dX4_become_18 : decode cX4_become 18 = .ok (.aload_n 0, 1) := by decide +kernel
theorem dX4_become_19 : decode cX4_become 19 = .ok (.getfield 15, 3) := by decide +kernel
theorem dX4_become_22 : decode cX4_become 22 = .ok (.arraylength, 1) := by decide +kernel
theorem dX4_become_23 : decode cX4_become 23 = .ok (.invokestatic 60, 3) := by decide +kernel
theorem dX4_become_26 : decode cX4_become 26 = .ok (.aload_n 1, 1) := by decide +kernel
theorem dX4_become_27 : decode cX4_become 27 = .ok (.getfield 19, 3) := by decide +kernel
theorem dX4_become_30 : decode cX4_become 30 = .ok (.iconst 0, 1) := by decide +kernel
theorem dX4_become_31 : decode cX4_become 31 = .ok (.aload_n 0, 1) := by decide +kernel
theorem dX4_become_32 : decode cX4_become 32 = .ok (.getfield 19, 3) := by decide +kernel
theorem dX4_become_35 : decode cX4_become 35 = .ok (.iconst 0, 1) := by decide +kernel
theorem dX4_become_36 : decode cX4_become 36 = .ok (.aload_n 0, 1) := by decide +kernel
theorem dX4_become_37 : decode cX4_become 37 = .ok (.getfield 19, 3) := by decide +kernel
theorem dX4_become_40 : decode cX4_become 40 = .ok (.arraylength, 1) := by decide +kernel
theorem dX4_become_41 : decode cX4_become 41 = .ok (.invokestatic 60, 3) := by decide +kernel
theorem dX4_become_44 : decode cX4_become 44 = .ok (.aload_n 1, 1) := by decide +kernel
theorem dX4_become_45 : decode cX4_become 45 = .ok (.getfield 22, 3) := by decide +kernel
theorem dX4_become_48 : decode cX4_become 48 = .ok (.iconst 0, 1) := by decide +kernel
theorem dX4_become_49 : decode cX4_become 49 = .ok (.aload_n 0, 1) := by decide +kernel
theorem dX4_become_50 : decode cX4_become 50 = .ok (.getfield 22, 3) := by decide +kernel
theorem dX4_become_53 : decode cX4_become 53 = .ok (.iconst 0, 1) := by decide +kernel
theorem dX4_become_54 : decode cX4_become 54 = .ok (.aload_n 0, 1) := by decide +kernel
theorem dX4_become_55 : decode cX4_become 55 = .ok (.getfield 22, 3) := by decide +kernel
theorem dX4_become_58 : decode cX4_become 58 = .ok (.arraylength, 1) := by decide +kernel
theorem dX4_become_59 : decode cX4_become 59 = .ok (.invokestatic 60, 3) := by decide +kernel
theorem dX4_become_62 : decode cX4_become 62 = .ok (.aload_n 1, 1) := by decide +kernel
theorem dX4_become_63 : decode cX4_become 63 = .ok (.getfield 25, 3) := by decide +kernel
theorem dX4_become_66 : decode cX4_become 66 = .ok (.iconst 0, 1) := by decide +kernel
theorem dX4_become_67 : decode cX4_become 67 = .ok (.aload_n 0, 1) := by decide +kernel
theorem dX4_become_68 : decode cX4_become 68 = .ok (.getfield 25, 3) := by decide +kernel
theorem dX4_become_71 : decode cX4_become 71 = .ok (.iconst 0, 1) := by decide +kernel
theorem dX4_become_72 : decode cX4_become 72 = .ok (.aload_n 0, 1) := by decide +kernel
theorem dX4_become_73 : decode cX4_become 73 = .ok (.getfield 25, 3) := by decide +kernel
theorem dX4_become_76 : decode cX4_become 76 = .ok (.arraylength, 1) := by decide +kernel
theorem dX4_become_77 : decode cX4_become 77 = .ok (.invokestatic 60, 3) := by decide +kernel
theorem dX4_become_80 : decode cX4_become 80 = .ok (.aload_n 1, 1) := by decide +kernel
theorem dX4_become_81 : decode cX4_become 81 = .ok (.getfield 28, 3) := by decide +kernel
theorem dX4_become_84 : decode cX4_become 84 = .ok (.iconst 0, 1) := by decide +kernel
theorem dX4_become_85 : decode cX4_become 85 = .ok (.aload_n 0, 1) := by decide +kernel
theorem dX4_become_86 : decode cX4_become 86 = .ok (.getfield 28, 3) := by decide +kernel
theorem dX4_become_89 : decode cX4_become 89 = .ok (.iconst 0, 1) := by decide +kernel
theorem dX4_become_90 : decode cX4_become 90 = .ok (.bipush 20, 2) := by decide +kernel
theorem dX4_become_92 : decode cX4_become 92 = .ok (.invokestatic 60, 3) := by decide +kernel
theorem dX4_become_95 : decode cX4_become 95 = .ok (.aload_n 1, 1) := by decide +kernel
theorem dX4_become_96 : decode cX4_become 96 = .ok (.getfield 31, 3) := by decide +kernel
theorem dX4_become_99 : decode cX4_become 99 = .ok (.iconst 0, 1) := by decide +kernel
theorem dX4_become_100 : decode cX4_become 100 = .ok (.aload_n 0, 1) := by decide +kernel
theorem dX4_become_101 : decode cX4_become 101 = .ok (.getfield 31, 3) := by decide +kernel
theorem dX4_become_104 : decode cX4_become 104 = .ok (.iconst 0, 1) := by decide +kernel
theorem dX4_become_105 : decode cX4_become 105 = .ok (.bipush 20, 2) := by decide +kernel
theorem dX4_become_107 : decode cX4_become 107 = .ok (.invokestatic 60, 3) := by decide +kernel
theorem dX4_become_110 : decode cX4_become 110 = .ok (.return_, 1) := by decide +kernel
theorem dX5_init_0 : decode cX5_init 0 = .ok (.aload_n 0, 1) := by decide +kernel
theorem dX5_init_1 : decode cX5_init 1 = .ok (.invokespecial 3, 3) := by decide +kernel
theorem dX5_init_4 : decode cX5_init 4 = .ok (.aload_n 0, 1) := by decide +kernel
theorem dX5_init_5 : decode cX5_init 5 = .ok (.iconst 0, 1) := by decide +kernel
theorem dX5_init_6 : decode cX5_init 6 = .ok (.putfield 9, 3) := by decide +kernel
theorem dX5_init_9 : decode cX5_init 9 = .ok (.aload_n 0, 1) := by decide +kernel
theorem dX5_init_10 : decode cX5_init 10 = .ok (.iconst 0, 1) := by decide +kernel
theorem dX5_init_11 : decode cX5_init 11 = .ok (.putfield 15, 3) := by decide +kernel
theorem dX5_init_14 : decode cX5_init 14 = .ok (.aload_n 0, 1) := by decide +kernel
theorem dX5_init_15 : decode cX5_init 15 = .ok (.iconst 0, 1) := by decide +kernel
theorem dX5_init_16 : decode cX5_init 16 = .ok (.putfield 18, 3) := by decide +kernel
theorem dX5_init_19 : decode cX5_init 19 = .ok (.aload_n 0, 1) := by decide +kernel
theorem dX5_init_20 : decode cX5_init 20 = .ok (.iconst 0, 1) := by decide +kernel
theorem dX5_init_21 : decode cX5_init 21 = .ok (.putfield 21, 3) := by decide +kernel
theorem dX5_init_24 : decode cX5_init 24 = .ok (.aload_n 0, 1) := by decide +kernel
theorem dX5_init_25 : decode cX5_init 25 = .ok (.bipush 12, 2) := by decide +kernel
theorem dX5_init_27 : decode cX5_init 27 = .ok (.newarray .int, 2) := by decide +kernel
theorem dX5_init_29 : decode cX5_init 29 = .ok (.putfield 24, 3) := by decide +kernel
theorem dX5_init_32 : decode cX5_init 32 = .ok (.aload_n 0, 1) := by decide +kernel
theorem dX5_init_33 : decode cX5_init 33 = .ok (.bipush 12, 2) := by decide +kernel
theorem dX5_init_35 : decode cX5_init 35 = .ok (.newarray .int, 2) := by decide +kernel
theorem dX5_init_37 : decode cX5_init 37 = .ok (.putfield 28, 3) := by decide +kernel
theorem dX5_init_40 : decode cX5_init 40 = .ok (.aload_n 0, 1) := by decide +kernel
theorem dX5_init_41 : decode cX5_init 41 = .ok (.bipush 12, 2) := by decide +kernel
theorem dX5_init_43 : decode cX5_init 43 = .ok (.newarray .int, 2) := by decide +kernel
theorem dX5_init_45 : decode cX5_init 45 = .ok (.putfield 31, 3) := by decide +kernel
theorem dX5_init_48 : decode cX5_init 48 = .ok (.aload_n 0, 1) := by decide +kernel
theorem dX5_init_49 : decode cX5_init 49 = .ok (.bipush 12, 2) := by decide +kernel
theorem dX5_init_51 : decode cX5_init 51 = .ok (.newarray .int, 2) := by decide +kernel
theorem dX5_init_53 : decode cX5_init 53 = .ok (.putfield 34, 3) := by decide +kernel
theorem dX5_init_56 : decode cX5_init 56 = .ok (.aload_n 0, 1) := by decide +kernel
theorem dX5_init_57 : decode cX5_init 57 = .ok (.bipush 12, 2) := by decide +kernel
theorem dX5_init_59 : decode cX5_init 59 = .ok (.newarray .int, 2) := by decide +kernel
theorem dX5_init_61 : decode cX5_init 61 = .ok (.putfield 37, 3) := by decide +kernel
theorem dX5_init_64 : decode cX5_init 64 = .ok (.aload_n 0, 1) := by decide +kernel
theorem dX5_init_65 : decode cX5_init 65 = .ok (.sipush 400, 3) := by decide +kernel
theorem dX5_init_68 : decode cX5_init 68 = .ok (.newarray .int, 2) := by decide +kernel
theorem dX5_init_70 : decode cX5_init 70 = .ok (.putfield 40, 3) := by decide +kernel
theorem dX5_init_73 : decode cX5_init 73 = .ok (.return_, 1) := by decide +kernel
theorem dX5_clear_0 : decode cX5_clear 0 = .ok (.aload_n 0, 1) := by decide +kernel
theorem dX5_clear_1 : decode cX5_clear 1 = .ok (.iconst 0, 1) := by decide +kernel
theorem dX5_clear_2 : decode cX5_clear 2 = .ok (.putfield 18, 3) := by decide +kernel
theorem dX5_clear_5 : decode cX5_clear 5 = .ok (.aload_n 0, 1) := by decide +kernel
theorem dX5_clear_6 : decode cX5_clear 6 = .ok (.iconst 0, 1) := by decide +kernel
theorem dX5_clear_7 : decode cX5_clear 7 = .ok (.putfield 21, 3) := by decide +kernel
theorem dX5_clear_10 : decode cX5_clear 10 = .ok (.return_, 1) := by decide +kernel
theorem dX5_emit_0 : decode cX5_emit 0 = .ok (.aload_n 0, 1) := by decide +kernel
theorem dX5_emit_1 : decode cX5_emit 1 = .ok (.getfield 21, 3) := by decide +kernel
theorem dX5_emit_4 : decode cX5_emit 4 = .ok (.sipush 400, 3) := by decide +kernel
theorem dX5_emit_7 : decode cX5_emit 7 = .ok (.if_icmp .ge 23, 3) := by decide +kernel
theorem dX5_emit_10 : decode cX5_emit 10 = .ok (.aload_n 0, 1) := by decide +kernel
theorem dX5_emit_11 : decode cX5_emit 11 = .ok (.getfield 40, 3) := by decide +kernel
theorem dX5_emit_14 : decode cX5_emit 14 = .ok (.aload_n 0, 1) := by decide +kernel
theorem dX5_emit_15 : decode cX5_emit 15 = .ok (.getfield 21, 3) := by decide +kernel
theorem dX5_emit_18 : decode cX5_emit 18 = .ok (.iload_n 1, 1) := by decide +kernel
theorem dX5_emit_19 : decode cX5_emit 19 = .ok (.iastore, 1) := by decide +kernel
theorem dX5_emit_20 : decode cX5_emit 20 = .ok (.aload_n 0, 1) := by decide +kernel
theorem dX5_emit_21 : decode cX5_emit 21 = .ok (.dup, 1) := by decide +kernel
theorem dX5_emit_22 : decode cX5_emit 22 = .ok (.getfield 21, 3) := by decide +kernel
theorem dX5_emit_25 : decode cX5_emit 25 = .ok (.iconst 1, 1) := by decide +kernel
theorem dX5_emit_26 : decode cX5_emit 26 = .ok (.iadd, 1) := by decide +kernel
theorem dX5_emit_27 : decode cX5_emit 27 = .ok (.putfield 21, 3) := by decide +kernel
theorem dX5_emit_30 : decode cX5_emit 30 = .ok (.return_, 1) := by decide +kernel
theorem dX6_init_0 : decode cX6_init 0 = .ok (.aload_n 0, 1) := by decide +kernel
theorem dX6_init_1 : decode cX6_init 1 = .ok (.invokespecial 3, 3) := by decide +kernel
theorem dX6_init_4 : decode cX6_init 4 = .ok (.aload_n 0, 1) := by decide +kernel
theorem dX6_init_5 : decode cX6_init 5 = .ok (.iconst 0, 1) := by decide +kernel
theorem dX6_init_6 : decode cX6_init 6 = .ok (.putfield 9, 3) := by decide +kernel
theorem dX6_init_9 : decode cX6_init 9 = .ok (.aload_n 0, 1) := by decide +kernel
theorem dX6_init_10 : decode cX6_init 10 = .ok (.bipush 30, 2) := by decide +kernel
theorem dX6_init_12 : decode cX6_init 12 = .ok (.newarray .int, 2) := by decide +kernel
theorem dX6_init_14 : decode cX6_init 14 = .ok (.putfield 15, 3) := by decide +kernel
theorem dX6_init_17 : decode cX6_init 17 = .ok (.aload_n 0, 1) := by decide +kernel
theorem dX6_init_18 : decode cX6_init 18 = .ok (.bipush 30, 2) := by decide +kernel
theorem dX6_init_20 : decode cX6_init 20 = .ok (.newarray .int, 2) := by decide +kernel
theorem dX6_init_22 : decode cX6_init 22 = .ok (.putfield 19, 3) := by decide +kernel
theorem dX6_init_25 : decode cX6_init 25 = .ok (.aload_n 0, 1) := by decide +kernel
theorem dX6_init_26 : decode cX6_init 26 = .ok (.bipush 30, 2) := by decide +kernel
theorem dX6_init_28 : decode cX6_init 28 = .ok (.newarray .int, 2) := by decide +kernel
theorem dX6_init_30 : decode cX6_init 30 = .ok (.putfield 22, 3) := by decide +kernel
theorem dX6_init_33 : decode cX6_init 33 = .ok (.aload_n 0, 1) := by decide +kernel
theorem dX6_init_34 : decode cX6_init 34 = .ok (.bipush 30, 2) := by decide +kernel
theorem dX6_init_36 : decode cX6_init 36 = .ok (.newarray .int, 2) := by decide +kernel
theorem dX6_init_38 : decode cX6_init 38 = .ok (.putfield 25, 3) := by decide +kernel
theorem dX6_init_41 : decode cX6_init 41 = .ok (.aload_n 0, 1) := by decide +kernel
theorem dX6_init_42 : decode cX6_init 42 = .ok (.sipush 480, 3) := by decide +kernel
theorem dX6_init_45 : decode cX6_init 45 = .ok (.newarray .int, 2) := by decide +kernel
theorem dX6_init_47 : decode cX6_init 47 = .ok (.putfield 28, 3) := by decide +kernel
theorem dX6_init_50 : decode cX6_init 50 = .ok (.aload_n 0, 1) := by decide +kernel
theorem dX6_init_51 : decode cX6_init 51 = .ok (.getfield 28, 3) := by decide +kernel
theorem dX6_init_54 : decode cX6_init 54 = .ok (.sipush 10000, 3) := by decide +kernel
theorem dX6_init_57 : decode cX6_init 57 = .ok (.invokestatic 31, 3) := by decide +kernel
theorem dX6_init_60 : decode cX6_init 60 = .ok (.return_, 1) := by decide +kernel
theorem dX6_add_0 : decode cX6_add 0 = .ok (.aload_n 0, 1) := by decide +kernel
theorem dX6_add_1 : decode cX6_add 1 = .ok (.getfield 9, 3) := by decide +kernel
theorem dX6_add_4 : decode cX6_add 4 = .ok (.bipush 30, 2) := by decide +kernel
theorem dX6_add_6 : decode cX6_add 6 = .ok (.if_icmp .lt 5, 3) := by decide +kernel
theorem dX6_add_9 : decode cX6_add 9 = .ok (.iconst (-1), 1) := by decide +kernel
theorem dX6_add_10 : decode cX6_add 10 = .ok (.ireturn, 1) := by decide +kernel
theorem dX6_add_11 : decode cX6_add 11 = .ok (.aload_n 0, 1) := by decide +kernel
theorem dX6_add_12 : decode cX6_add 12 = .ok (.getfield 9, 3) := by decide +kernel
theorem dX6_add_15 : decode cX6_add 15 = .ok (.istore 4, 2) := by decide +kernel
theorem dX6_add_17 : decode cX6_add 17 = .ok (.aload_n 0, 1) := by decide +kernel
theorem dX6_add_18 : decode cX6_add 18 = .ok (.getfield 15, 3) := by decide +kernel
theorem dX6_add_21 : decode cX6_add 21 = .ok (.iload 4, 2) := by decide +kernel
theorem dX6_add_23 : decode cX6_add 23 = .ok (.iload_n 1, 1) := by decide +kernel
theorem dX6_add_24 : decode cX6_add 24 = .ok (.iastore, 1) := by decide +kernel
theorem dX6_add_25 : decode cX6_add 25 = .ok (.aload_n 0, 1) := by decide +kernel
theorem dX6_add_26 : decode cX6_add 26 = .ok (.getfield 19, 3) := by decide +kernel
theorem dX6_add_29 : decode cX6_add 29 = .ok (.iload 4, 2) := by decide +kernel
theorem dX6_add_31 : decode cX6_add 31 = .ok (.iload_n 2, 1) := by decide +kernel
theorem dX6_add_32 : decode cX6_add 32 = .ok (.iastore, 1) := by decide +kernel
theorem dX6_add_33 : decode cX6_add 33 = .ok (.aload_n 0, 1) := by decide +kernel
theorem dX6_add_34 : decode cX6_add 34 = .ok (.getfield 25, 3) := by decide +kernel
theorem dX6_add_37 : decode cX6_add 37 = .ok (.iload 4, 2) := by decide +kernel
theorem dX6_add_39 : decode cX6_add 39 = .ok (.iload_n 3, 1) := by decide +kernel
theorem dX6_add_40 : decode cX6_add 40 = .ok (.iastore, 1) := by decide +kernel
theorem dX6_add_41 : decode cX6_add 41 = .ok (.aload_n 0, 1) := by decide +kernel
theorem dX6_add_42 : decode cX6_add 42 = .ok (.iload 4, 2) := by decide +kernel
theorem dX6_add_44 : decode cX6_add 44 = .ok (.iconst 1, 1) := by decide +kernel
theorem dX6_add_45 : decode cX6_add 45 = .ok (.iadd, 1) := by decide +kernel
theorem dX6_add_46 : decode cX6_add 46 = .ok (.putfield 9, 3) := by decide +kernel
theorem dX6_add_49 : decode cX6_add 49 = .ok (.iload 4, 2) := by decide +kernel
theorem dX6_add_51 : decode cX6_add 51 = .ok (.ireturn, 1) := by decide +kernel
theorem dX6_putReading_0 : decode cX6_putReading 0 = .ok (.iload_n 1, 1) := by decide +kernel
theorem dX6_putReading_1 : decode cX6_putReading 1 = .ok (.bipush 30, 2) := by decide +kernel
theorem dX6_putReading_3 : decode cX6_putReading 3 = .ok (.imul, 1) := by decide +kernel
theorem dX6_putReading_4 : decode cX6_putReading 4 = .ok (.iload_n 2, 1) := by decide +kernel
theorem dX6_putReading_5 : decode cX6_putReading 5 = .ok (.iadd, 1) := by decide +kernel
theorem dX6_putReading_6 : decode cX6_putReading 6 = .ok (.istore 4, 2) := by decide +kernel
theorem dX6_putReading_8 : decode cX6_putReading 8 = .ok (.iload 4, 2) := by decide +kernel
theorem dX6_putReading_10 : decode cX6_putReading 10 = .ok (.iconst 0, 1) := by decide +kernel
theorem dX6_putReading_11 : decode cX6_putReading 11 = .ok (.aload_n 0, 1) := by decide +kernel
theorem dX6_putReading_12 : decode cX6_putReading 12 = .ok (.getfield 28, 3) := by decide +kernel
theorem dX6_putReading_15 : decode cX6_putReading 15 = .ok (.arraylength, 1) := by decide +kernel
theorem dX6_putReading_16 : decode cX6_putReading 16 = .ok (.iconst 1, 1) := by decide +kernel
theorem dX6_putReading_17 : decode cX6_putReading 17 = .ok (.isub, 1) := by decide +kernel
theorem dX6_putReading_18 : decode cX6_putReading 18 = .ok (.invokestatic 37, 3) := by decide +kernel
theorem dX6_putReading_21 : decode cX6_putReading 21 = .ok (.ifCond .eq 21, 3) := by decide +kernel
theorem dX6_putReading_24 : decode cX6_putReading 24 = .ok (.aload_n 0, 1) := by decide +kernel
theorem dX6_putReading_25 : decode cX6_putReading 25 = .ok (.getfield 28, 3) := by decide +kernel
theorem dX6_putReading_28 : decode cX6_putReading 28 = .ok (.iload 4, 2) := by decide +kernel
theorem dX6_putReading_30 : decode cX6_putReading 30 = .ok (.aload_n 0, 1) := by decide +kernel
theorem dX6_putReading_31 : decode cX6_putReading 31 = .ok (.getfield 28, 3) := by decide +kernel
theorem dX6_putReading_34 : decode cX6_putReading 34 = .ok (.iload 4, 2) := by decide +kernel
theorem dX6_putReading_36 : decode cX6_putReading 36 = .ok (.iaload, 1) := by decide +kernel
theorem dX6_putReading_37 : decode cX6_putReading 37 = .ok (.iload_n 3, 1) := by decide +kernel
theorem dX6_putReading_38 : decode cX6_putReading 38 = .ok (.invokestatic 41, 3) := by decide +kernel
theorem dX6_putReading_41 : decode cX6_putReading 41 = .ok (.iastore, 1) := by decide +kernel
theorem dX6_putReading_42 : decode cX6_putReading 42 = .ok (.return_, 1) := by decide +kernel
theorem dX6_gatherKnowing_0 : decode cX6_gatherKnowing 0 = .ok (.iload_n 1, 1) := by decide +kernel
theorem dX6_gatherKnowing_1 : decode cX6_gatherKnowing 1 = .ok (.iconst 0, 1) := by decide +kernel
theorem dX6_gatherKnowing_2 : decode cX6_gatherKnowing 2 = .ok (.bipush 15, 2) := by decide +kernel
theorem dX6_gatherKnowing_4 : decode cX6_gatherKnowing 4 = .ok (.invokestatic 37, 3) := by decide +kernel
theorem dX6_gatherKnowing_7 : decode cX6_gatherKnowing 7 = .ok (.ifCond .ne 4, 3) := by decide +kernel
theorem dX6_gatherKnowing_10 : decode cX6_gatherKnowing 10 = .ok (.return_, 1) := by decide +kernel
theorem dX6_gatherKnowing_11 : decode cX6_gatherKnowing 11 = .ok (.iconst 0, 1) := by decide +kernel
theorem dX6_gatherKnowing_12 : decode cX6_gatherKnowing 12 = .ok (.istore_n 2, 1) := by decide +kernel
theorem dX6_gatherKnowing_13 : decode cX6_gatherKnowing 13 = .ok (.iload_n 2, 1) := by decide +kernel
theorem dX6_gatherKnowing_14 : decode cX6_gatherKnowing 14 = .ok (.aload_n 0, 1) := by decide +kernel
theorem dX6_gatherKnowing_15 : decode cX6_gatherKnowing 15 = .ok (.getfield 9, 3) := by decide +kernel
theorem dX6_gatherKnowing_18 : decode cX6_gatherKnowing 18 = .ok (.if_icmp .ge 70, 3) := by decide +kernel
theorem dX6_gatherKnowing_21 : decode cX6_gatherKnowing 21 = .ok (.aload_n 0, 1) := by decide +kernel
theorem dX6_gatherKnowing_22 : decode cX6_gatherKnowing 22 = .ok (.getfield 28, 3) := by decide +kernel
theorem dX6_gatherKnowing_25 : decode cX6_gatherKnowing 25 = .ok (.iload_n 1, 1) := by decide +kernel
theorem dX6_gatherKnowing_26 : decode cX6_gatherKnowing 26 = .ok (.bipush 30, 2) := by decide +kernel
theorem dX6_gatherKnowing_28 : decode cX6_gatherKnowing 28 = .ok (.imul, 1) := by decide +kernel
theorem dX6_gatherKnowing_29 : decode cX6_gatherKnowing 29 = .ok (.iload_n 2, 1) := by decide +kernel
theorem dX6_gatherKnowing_30 : decode cX6_gatherKnowing 30 = .ok (.iadd, 1) := by decide +kernel
theorem dX6_gatherKnowing_31 : decode cX6_gatherKnowing 31 = .ok (.iaload, 1) := by decide +kernel
theorem dX6_gatherKnowing_32 : decode cX6_gatherKnowing 32 = .ok (.istore_n 3, 1) := by decide +kernel
theorem dX6_gatherKnowing_33 : decode cX6_gatherKnowing 33 = .ok (.iconst 0, 1) := by decide +kernel
theorem dX6_gatherKnowing_34 : decode cX6_gatherKnowing 34 = .ok (.istore 4, 2) := by decide +kernel
theorem dX6_gatherKnowing_36 : decode cX6_gatherKnowing 36 = .ok (.iload 4, 2) := by decide +kernel
theorem dX6_gatherKnowing_38 : decode cX6_gatherKnowing 38 = .ok (.iload_n 2, 1) := by decide +kernel
theorem dX6_gatherKnowing_39 : decode cX6_gatherKnowing 39 = .ok (.if_icmp .ge 36, 3) := by decide +kernel
theorem dX6_gatherKnowing_42 : decode cX6_gatherKnowing 42 = .ok (.aload_n 0, 1) := by decide +kernel
theorem dX6_gatherKnowing_43 : decode cX6_gatherKnowing 43 = .ok (.getfield 25, 3) := by decide +kernel
theorem dX6_gatherKnowing_46 : decode cX6_gatherKnowing 46 = .ok (.iload_n 2, 1) := by decide +kernel
theorem dX6_gatherKnowing_47 : decode cX6_gatherKnowing 47 = .ok (.iaload, 1) := by decide +kernel
theorem dX6_gatherKnowing_48 : decode cX6_gatherKnowing 48 = .ok (.iload 4, 2) := by decide +kernel
theorem dX6_gatherKnowing_50 : decode cX6_gatherKnowing 50 = .ok (.ishr, 1) := by decide +kernel
theorem dX6_gatherKnowing_51 : decode cX6_gatherKnowing 51 = .ok (.iconst 1, 1) := by decide +kernel
theorem dX6_gatherKnowing_52 : decode cX6_gatherKnowing 52 = .ok (.iand, 1) := by decide +kernel
theorem dX6_gatherKnowing_53 : decode cX6_gatherKnowing 53 = .ok (.iconst 1, 1) := by decide +kernel
theorem dX6_gatherKnowing_54 : decode cX6_gatherKnowing 54 = .ok (.if_icmp .ne 15, 3) := by decide +kernel
theorem dX6_gatherKnowing_57 : decode cX6_gatherKnowing 57 = .ok (.iload_n 3, 1) := by decide +kernel
theorem dX6_gatherKnowing_58 : decode cX6_gatherKnowing 58 = .ok (.aload_n 0, 1) := by decide +kernel
theorem dX6_gatherKnowing_59 : decode cX6_gatherKnowing 59 = .ok (.getfield 22, 3) := by decide +kernel
theorem dX6_gatherKnowing_62 : decode cX6_gatherKnowing 62 = .ok (.iload 4, 2) := by decide +kernel
theorem dX6_gatherKnowing_64 : decode cX6_gatherKnowing 64 = .ok (.iaload, 1) := by decide +kernel
theorem dX6_gatherKnowing_65 : decode cX6_gatherKnowing 65 = .ok (.invokestatic 47, 3) := by decide +kernel
theorem dX6_gatherKnowing_68 : decode cX6_gatherKnowing 68 = .ok (.istore_n 3, 1) := by decide +kernel
theorem dX6_gatherKnowing_69 : decode cX6_gatherKnowing 69 = .ok (.iinc 4 1, 3) := by decide +kernel
theorem dX6_gatherKnowing_72 : decode cX6_gatherKnowing 72 = .ok (.goto (-36), 3) := by decide +kernel
theorem dX6_gatherKnowing_75 : decode cX6_gatherKnowing 75 = .ok (.aload_n 0, 1) := by decide +kernel
theorem dX6_gatherKnowing_76 : decode cX6_gatherKnowing 76 = .ok (.getfield 22, 3) := by decide +kernel
theorem dX6_gatherKnowing_79 : decode cX6_gatherKnowing 79 = .ok (.iload_n 2, 1) := by decide +kernel
theorem dX6_gatherKnowing_80 : decode cX6_gatherKnowing 80 = .ok (.iload_n 3, 1) := by decide +kernel
theorem dX6_gatherKnowing_81 : decode cX6_gatherKnowing 81 = .ok (.iastore, 1) := by decide +kernel
theorem dX6_gatherKnowing_82 : decode cX6_gatherKnowing 82 = .ok (.iinc 2 1, 3) := by decide +kernel
theorem dX6_gatherKnowing_85 : decode cX6_gatherKnowing 85 = .ok (.goto (-72), 3) := by decide +kernel
theorem dX6_gatherKnowing_88 : decode cX6_gatherKnowing 88 = .ok (.return_, 1) := by decide +kernel
theorem dX6_warnsOf_0 : decode cX6_warnsOf 0 = .ok (.iconst 0, 1) := by decide +kernel
theorem dX6_warnsOf_1 : decode cX6_warnsOf 1 = .ok (.istore_n 3, 1) := by decide +kernel
theorem dX6_warnsOf_2 : decode cX6_warnsOf 2 = .ok (.iload_n 3, 1) := by decide +kernel
theorem dX6_warnsOf_3 : decode cX6_warnsOf 3 = .ok (.aload_n 0, 1) := by decide +kernel
theorem dX6_warnsOf_4 : decode cX6_warnsOf 4 = .ok (.getfield 9, 3) := by decide +kernel
theorem dX6_warnsOf_7 : decode cX6_warnsOf 7 = .ok (.if_icmp .ge 31, 3) := by decide +kernel
theorem dX6_warnsOf_10 : decode cX6_warnsOf 10 = .ok (.aload_n 0, 1) := by decide +kernel
theorem dX6_warnsOf_11 : decode cX6_warnsOf 11 = .ok (.getfield 15, 3) := by decide +kernel
theorem dX6_warnsOf_14 : decode cX6_warnsOf 14 = .ok (.iload_n 3, 1) := by decide +kernel
theorem dX6_warnsOf_15 : decode cX6_warnsOf 15 = .ok (.iaload, 1) := by decide +kernel
theorem dX6_warnsOf_16 : decode cX6_warnsOf 16 = .ok (.iload_n 1, 1) := by decide +kernel
theorem dX6_warnsOf_17 : decode cX6_warnsOf 17 = .ok (.if_icmp .ne 15, 3) := by decide +kernel
theorem dX6_warnsOf_20 : decode cX6_warnsOf 20 = .ok (.aload_n 0, 1) := by decide +kernel
theorem dX6_warnsOf_21 : decode cX6_warnsOf 21 = .ok (.getfield 22, 3) := by decide +kernel
theorem dX6_warnsOf_24 : decode cX6_warnsOf 24 = .ok (.iload_n 3, 1) := by decide +kernel
theorem dX6_warnsOf_25 : decode cX6_warnsOf 25 = .ok (.iaload, 1) := by decide +kernel
theorem dX6_warnsOf_26 : decode cX6_warnsOf 26 = .ok (.iload_n 2, 1) := by decide +kernel
theorem dX6_warnsOf_27 : decode cX6_warnsOf 27 = .ok (.if_icmp .gt 5, 3) := by decide +kernel
theorem dX6_warnsOf_30 : decode cX6_warnsOf 30 = .ok (.iconst 1, 1) := by decide +kernel
theorem dX6_warnsOf_31 : decode cX6_warnsOf 31 = .ok (.ireturn, 1) := by decide +kernel
theorem dX6_warnsOf_32 : decode cX6_warnsOf 32 = .ok (.iinc 3 1, 3) := by decide +kernel
theorem dX6_warnsOf_35 : decode cX6_warnsOf 35 = .ok (.goto (-33), 3) := by decide +kernel
theorem dX6_warnsOf_38 : decode cX6_warnsOf 38 = .ok (.iconst 0, 1) := by decide +kernel
theorem dX6_warnsOf_39 : decode cX6_warnsOf 39 = .ok (.ireturn, 1) := by decide +kernel
theorem dX6_forgetFrom_0 : decode cX6_forgetFrom 0 = .ok (.iconst 0, 1) := by decide +kernel
theorem dX6_forgetFrom_1 : decode cX6_forgetFrom 1 = .ok (.istore_n 2, 1) := by decide +kernel
theorem dX6_forgetFrom_2 : decode cX6_forgetFrom 2 = .ok (.iload_n 2, 1) := by decide +kernel
theorem dX6_forgetFrom_3 : decode cX6_forgetFrom 3 = .ok (.aload_n 0, 1) := by decide +kernel
theorem dX6_forgetFrom_4 : decode cX6_forgetFrom 4 = .ok (.getfield 9, 3) := by decide +kernel
theorem dX6_forgetFrom_7 : decode cX6_forgetFrom 7 = .ok (.if_icmp .ge 26, 3) := by decide +kernel
theorem dX6_forgetFrom_10 : decode cX6_forgetFrom 10 = .ok (.aload_n 0, 1) := by decide +kernel
theorem dX6_forgetFrom_11 : decode cX6_forgetFrom 11 = .ok (.getfield 15, 3) := by decide +kernel
theorem dX6_forgetFrom_14 : decode cX6_forgetFrom 14 = .ok (.iload_n 2, 1) := by decide +kernel
theorem dX6_forgetFrom_15 : decode cX6_forgetFrom 15 = .ok (.iaload, 1) := by decide +kernel
theorem dX6_forgetFrom_16 : decode cX6_forgetFrom 16 = .ok (.iload_n 1, 1) := by decide +kernel
theorem dX6_forgetFrom_17 : decode cX6_forgetFrom 17 = .ok (.if_icmp .lt 10, 3) := by decide +kernel
theorem dX6_forgetFrom_20 : decode cX6_forgetFrom 20 = .ok (.aload_n 0, 1) := by decide +kernel
theorem dX6_forgetFrom_21 : decode cX6_forgetFrom 21 = .ok (.getfield 15, 3) := by decide +kernel
theorem dX6_forgetFrom_24 : decode cX6_forgetFrom 24 = .ok (.iload_n 2, 1) := by decide +kernel
theorem dX6_forgetFrom_25 : decode cX6_forgetFrom 25 = .ok (.iconst (-1), 1) := by decide +kernel
theorem dX6_forgetFrom_26 : decode cX6_forgetFrom 26 = .ok (.iastore, 1) := by decide +kernel
theorem dX6_forgetFrom_27 : decode cX6_forgetFrom 27 = .ok (.iinc 2 1, 3) := by decide +kernel
theorem dX6_forgetFrom_30 : decode cX6_forgetFrom 30 = .ok (.goto (-28), 3) := by decide +kernel
theorem dX6_forgetFrom_33 : decode cX6_forgetFrom 33 = .ok (.return_, 1) := by decide +kernel
theorem dX7_init_0 : decode cX7_init 0 = .ok (.aload_n 0, 1) := by decide +kernel
theorem dX7_init_1 : decode cX7_init 1 = .ok (.invokespecial 3, 3) := by decide +kernel
theorem dX7_init_4 : decode cX7_init 4 = .ok (.aload_n 0, 1) := by decide +kernel
theorem dX7_init_5 : decode cX7_init 5 = .ok (.new 9, 3) := by decide +kernel
theorem dX7_init_8 : decode cX7_init 8 = .ok (.dup, 1) := by decide +kernel
theorem dX7_init_9 : decode cX7_init 9 = .ok (.invokespecial 11, 3) := by decide +kernel
theorem dX7_init_12 : decode cX7_init 12 = .ok (.putfield 12, 3) := by decide +kernel
theorem dX7_init_15 : decode cX7_init 15 = .ok (.aload_n 0, 1) := by decide +kernel
theorem dX7_init_16 : decode cX7_init 16 = .ok (.new 18, 3) := by decide +kernel
theorem dX7_init_19 : decode cX7_init 19 = .ok (.dup, 1) := by decide +kernel
theorem dX7_init_20 : decode cX7_init 20 = .ok (.invokespecial 20, 3) := by decide +kernel
theorem dX7_init_23 : decode cX7_init 23 = .ok (.putfield 21, 3) := by decide +kernel
theorem dX7_init_26 : decode cX7_init 26 = .ok (.aload_n 0, 1) := by decide +kernel
theorem dX7_init_27 : decode cX7_init 27 = .ok (.iconst 0, 1) := by decide +kernel
theorem dX7_init_28 : decode cX7_init 28 = .ok (.putfield 25, 3) := by decide +kernel
theorem dX7_init_31 : decode cX7_init 31 = .ok (.aload_n 0, 1) := by decide +kernel
theorem dX7_init_32 : decode cX7_init 32 = .ok (.iconst (-1), 1) := by decide +kernel
theorem dX7_init_33 : decode cX7_init 33 = .ok (.putfield 29, 3) := by decide +kernel
theorem dX7_init_36 : decode cX7_init 36 = .ok (.aload_n 0, 1) := by decide +kernel
theorem dX7_init_37 : decode cX7_init 37 = .ok (.iconst 0, 1) := by decide +kernel
theorem dX7_init_38 : decode cX7_init 38 = .ok (.putfield 32, 3) := by decide +kernel
theorem dX7_init_41 : decode cX7_init 41 = .ok (.aload_n 0, 1) := by decide +kernel
theorem dX7_init_42 : decode cX7_init 42 = .ok (.iconst 0, 1) := by decide +kernel
theorem dX7_init_43 : decode cX7_init 43 = .ok (.putfield 35, 3) := by decide +kernel
theorem dX7_init_46 : decode cX7_init 46 = .ok (.aload_n 0, 1) := by decide +kernel
theorem dX7_init_47 : decode cX7_init 47 = .ok (.iconst 0, 1) := by decide +kernel
theorem dX7_init_48 : decode cX7_init 48 = .ok (.putfield 38, 3) := by decide +kernel
theorem dX7_init_51 : decode cX7_init 51 = .ok (.return_, 1) := by decide +kernel
theorem dX7_handOver_0 : decode cX7_handOver 0 = .ok (.aload_n 0, 1) := by decide +kernel
theorem dX7_handOver_1 : decode cX7_handOver 1 = .ok (.getfield 21, 3) := by decide +kernel
theorem dX7_handOver_4 : decode cX7_handOver 4 = .ok (.astore_n 1, 1) := by decide +kernel
theorem dX7_handOver_5 : decode cX7_handOver 5 = .ok (.aload_n 0, 1) := by decide +kernel
theorem dX7_handOver_6 : decode cX7_handOver 6 = .ok (.new 18, 3) := by decide +kernel
theorem dX7_handOver_9 : decode cX7_handOver 9 = .ok (.dup, 1) := by decide +kernel
theorem dX7_handOver_10 : decode cX7_handOver 10 = .ok (.invokespecial 20, 3) := by decide +kernel
theorem dX7_handOver_13 : decode cX7_handOver 13 = .ok (.putfield 21, 3) := by decide +kernel
theorem dX7_handOver_16 : decode cX7_handOver 16 = .ok (.aload_n 1, 1) := by decide +kernel
theorem dX7_handOver_17 : decode cX7_handOver 17 = .ok (.areturn, 1) := by decide +kernel
theorem dX7_compile_0 : decode cX7_compile 0 = .ok (.aload_n 0, 1) := by decide +kernel
theorem dX7_compile_1 : decode cX7_compile 1 = .ok (.getfield 12, 3) := by decide +kernel
theorem dX7_compile_4 : decode cX7_compile 4 = .ok (.invokevirtual 41, 3) := by decide +kernel
theorem dX7_compile_7 : decode cX7_compile 7 = .ok (.aload_n 0, 1) := by decide +kernel
theorem dX7_compile_8 : decode cX7_compile 8 = .ok (.getfield 21, 3) := by decide +kernel
theorem dX7_compile_11 : decode cX7_compile 11 = .ok (.invokevirtual 44, 3) := by decide +kernel
theorem dX7_compile_14 : decode cX7_compile 14 = .ok (.aload_n 0, 1) := by decide +kernel
theorem dX7_compile_15 : decode cX7_compile 15 = .ok (.iconst (-1), 1) := by decide +kernel
theorem dX7_compile_16 : decode cX7_compile 16 = .ok (.putfield 25, 3) := by decide +kernel
theorem dX7_compile_19 : decode cX7_compile 19 = .ok (.aload_n 0, 1) := by decide +kernel
theorem dX7_compile_20 : decode cX7_compile 20 = .ok (.iconst 0, 1) := by decide +kernel
theorem dX7_compile_21 : decode cX7_compile 21 = .ok (.putfield 35, 3) := by decide +kernel
theorem dX7_compile_24 : decode cX7_compile 24 = .ok (.aload_n 0, 1) := by decide +kernel
theorem dX7_compile_25 : decode cX7_compile 25 = .ok (.iconst 0, 1) := by decide +kernel
theorem dX7_compile_26 : decode cX7_compile 26 = .ok (.putfield 38, 3) := by decide +kernel
theorem dX7_compile_29 : decode cX7_compile 29 = .ok (.aload_n 0, 1) := by decide +kernel
theorem dX7_compile_30 : decode cX7_compile 30 = .ok (.invokevirtual 47, 3) := by decide +kernel
theorem dX7_compile_33 : decode cX7_compile 33 = .ok (.iconst 0, 1) := by decide +kernel
theorem dX7_compile_34 : decode cX7_compile 34 = .ok (.istore_n 1, 1) := by decide +kernel
theorem dX7_compile_35 : decode cX7_compile 35 = .ok (.iload_n 1, 1) := by decide +kernel
theorem dX7_compile_36 : decode cX7_compile 36 = .ok (.bipush 12, 2) := by decide +kernel
theorem dX7_compile_38 : decode cX7_compile 38 = .ok (.if_icmp .gt 49, 3) := by decide +kernel
theorem dX7_compile_41 : decode cX7_compile 41 = .ok (.aload_n 0, 1) := by decide +kernel
theorem dX7_compile_42 : decode cX7_compile 42 = .ok (.iload_n 1, 1) := by decide +kernel
theorem dX7_compile_43 : decode cX7_compile 43 = .ok (.invokevirtual 50, 3) := by decide +kernel
theorem dX7_compile_46 : decode cX7_compile 46 = .ok (.ifCond .eq 41, 3) := by decide +kernel
theorem dX7_compile_49 : decode cX7_compile 49 = .ok (.aload_n 0, 1) := by decide +kernel
theorem dX7_compile_50 : decode cX7_compile 50 = .ok (.getfield 29, 3) := by decide +kernel
theorem dX7_compile_53 : decode cX7_compile 53 = .ok (.iconst (-1), 1) := by decide +kernel
theorem dX7_compile_54 : decode cX7_compile 54 = .ok (.if_icmp .eq 33, 3) := by decide +kernel
theorem dX7_compile_57 : decode cX7_compile 57 = .ok (.aload_n 0, 1) := by decide +kernel
theorem dX7_compile_58 : decode cX7_compile 58 = .ok (.getfield 29, 3) := by decide +kernel
theorem dX7_compile_61 : decode cX7_compile 61 = .ok (.bipush 59, 2) := by decide +kernel
theorem dX7_compile_63 : decode cX7_compile 63 = .ok (.if_icmp .eq 14, 3) := by decide +kernel
theorem dX7_compile_66 : decode cX7_compile 66 = .ok (.aload_n 0, 1) := by decide +kernel
theorem dX7_compile_67 : decode cX7_compile 67 = .ok (.iconst 0, 1) := by decide +kernel
theorem dX7_compile_68 : decode cX7_compile 68 = .ok (.invokevirtual 54, 3) := by decide +kernel
theorem dX7_compile_71 : decode cX7_compile 71 = .ok (.pop, 1) := by decide +kernel
theorem dX7_compile_72 : decode cX7_compile 72 = .ok (.aload_n 0, 1) := by decide +kernel
theorem dX7_compile_73 : decode cX7_compile 73 = .ok (.getfield 38, 3) := by decide +kernel
theorem dX7_compile_76 : decode cX7_compile 76 = .ok (.ireturn, 1) := by decide +kernel
theorem dX7_compile_77 : decode cX7_compile 77 = .ok (.aload_n 0, 1) := by decide +kernel
theorem dX7_compile_78 : decode cX7_compile 78 = .ok (.invokevirtual 47, 3) := by decide +kernel
theorem dX7_compile_81 : decode cX7_compile 81 = .ok (.iinc 1 1, 3) := by decide +kernel
theorem dX7_compile_84 : decode cX7_compile 84 = .ok (.goto (-49), 3) := by decide +kernel
theorem dX7_compile_87 : decode cX7_compile 87 = .ok (.aload_n 0, 1) := by decide +kernel
theorem dX7_compile_88 : decode cX7_compile 88 = .ok (.getfield 38, 3) := by decide +kernel
theorem dX7_compile_91 : decode cX7_compile 91 = .ok (.ireturn, 1) := by decide +kernel
theorem dX7_fail_0 : decode cX7_fail 0 = .ok (.aload_n 0, 1) := by decide +kernel
theorem dX7_fail_1 : decode cX7_fail 1 = .ok (.iconst 1, 1) := by decide +kernel
theorem dX7_fail_2 : decode cX7_fail 2 = .ok (.bipush 8, 2) := by decide +kernel
theorem dX7_fail_4 : decode cX7_fail 4 = .ok (.aload_n 0, 1) := by decide +kernel
theorem dX7_fail_5 : decode cX7_fail 5 = .ok (.getfield 12, 3) := by decide +kernel
theorem dX7_fail_8 : decode cX7_fail 8 = .ok (.getfield 57, 3) := by decide +kernel
theorem dX7_fail_11 : decode cX7_fail 11 = .ok (.aload_n 0, 1) := by decide +kernel
theorem dX7_fail_12 : decode cX7_fail 12 = .ok (.getfield 25, 3) := by decide +kernel
theorem dX7_fail_15 : decode cX7_fail 15 = .ok (.iaload, 1) := by decide +kernel
theorem dX7_fail_16 : decode cX7_fail 16 = .ok (.imul, 1) := by decide +kernel
theorem dX7_fail_17 : decode cX7_fail 17 = .ok (.iadd, 1) := by decide +kernel
theorem dX7_fail_18 : decode cX7_fail 18 = .ok (.iload_n 1, 1) := by decide +kernel
theorem dX7_fail_19 : decode cX7_fail 19 = .ok (.iadd, 1) := by decide +kernel
theorem dX7_fail_20 : decode cX7_fail 20 = .ok (.putfield 38, 3) := by decide +kernel
theorem dX7_fail_23 : decode cX7_fail 23 = .ok (.iconst 0, 1) := by decide +kernel
theorem dX7_fail_24 : decode cX7_fail 24 = .ok (.ireturn, 1) := by decide +kernel
theorem dX7_step_0 : decode cX7_step 0 = .ok (.aload_n 0, 1) := by decide +kernel
theorem dX7_step_1 : decode cX7_step 1 = .ok (.getfield 25, 3) := by decide +kernel
theorem dX7_step_4 : decode cX7_step 4 = .ok (.iconst 1, 1) := by decide +kernel
theorem dX7_step_5 : decode cX7_step 5 = .ok (.iadd, 1) := by decide +kernel
theorem dX7_step_6 : decode cX7_step 6 = .ok (.aload_n 0, 1) := by decide +kernel
theorem dX7_step_7 : decode cX7_step 7 = .ok (.getfield 12, 3) := by decide +kernel
theorem dX7_step_10 : decode cX7_step 10 = .ok (.getfield 61, 3) := by decide +kernel
theorem dX7_step_13 : decode cX7_step 13 = .ok (.if_icmp .ge 23, 3) := by decide +kernel
theorem dX7_step_16 : decode cX7_step 16 = .ok (.aload_n 0, 1) := by decide +kernel
theorem dX7_step_17 : decode cX7_step 17 = .ok (.getfield 25, 3) := by decide +kernel
theorem dX7_step_20 : decode cX7_step 20 = .ok (.sipush 400, 3) := by decide +kernel
theorem dX7_step_23 : decode cX7_step 23 = .ok (.if_icmp .ge 13, 3) := by decide +kernel
theorem dX7_step_26 : decode cX7_step 26 = .ok (.aload_n 0, 1) := by decide +kernel
theorem dX7_step_27 : decode cX7_step 27 = .ok (.dup, 1) := by decide +kernel
theorem dX7_step_28 : decode cX7_step 28 = .ok (.getfield 25, 3) := by decide +kernel
theorem dX7_step_31 : decode cX7_step 31 = .ok (.iconst 1, 1) := by decide +kernel
theorem dX7_step_32 : decode cX7_step 32 = .ok (.iadd, 1) := by decide +kernel
theorem dX7_step_33 : decode cX7_step 33 = .ok (.putfield 25, 3) := by decide +kernel
theorem dX7_step_36 : decode cX7_step 36 = .ok (.aload_n 0, 1) := by decide +kernel
theorem dX7_step_37 : decode cX7_step 37 = .ok (.getfield 25, 3) := by decide +kernel
theorem dX7_step_40 : decode cX7_step 40 = .ok (.ifCond .ge 8, 3) := by decide +kernel
theorem dX7_step_43 : decode cX7_step 43 = .ok (.aload_n 0, 1) := by decide +kernel
theorem dX7_step_44 : decode cX7_step 44 = .ok (.iconst 0, 1) := by decide +kernel
theorem dX7_step_45 : decode cX7_step 45 = .ok (.putfield 25, 3) := by decide +kernel
theorem dX7_step_48 : decode cX7_step 48 = .ok (.aload_n 0, 1) := by decide +kernel
theorem dX7_step_49 : decode cX7_step 49 = .ok (.aload_n 0, 1) := by decide +kernel
theorem dX7_step_50 : decode cX7_step 50 = .ok (.getfield 12, 3) := by decide +kernel
theorem dX7_step_53 : decode cX7_step 53 = .ok (.getfield 64, 3) := by decide +kernel
theorem dX7_step_56 : decode cX7_step 56 = .ok (.aload_n 0, 1) := by decide +kernel
theorem dX7_step_57 : decode cX7_step 57 = .ok (.getfield 25, 3) := by decide +kernel
theorem dX7_step_60 : decode cX7_step 60 = .ok (.iaload, 1) := by decide +kernel
theorem dX7_step_61 : decode cX7_step 61 = .ok (.putfield 29, 3) := by decide +kernel
theorem dX7_step_64 : decode cX7_step 64 = .ok (.aload_n 0, 1) := by decide +kernel
theorem dX7_step_65 : decode cX7_step 65 = .ok (.aload_n 0, 1) := by decide +kernel
theorem dX7_step_66 : decode cX7_step 66 = .ok (.getfield 12, 3) := by decide +kernel
theorem dX7_step_69 : decode cX7_step 69 = .ok (.getfield 66, 3) := by decide +kernel
theorem dX7_step_72 : decode cX7_step 72 = .ok (.aload_n 0, 1) := by decide +kernel
theorem dX7_step_73 : decode cX7_step 73 = .ok (.getfield 25, 3) := by decide +kernel
theorem dX7_step_76 : decode cX7_step 76 = .ok (.iaload, 1) := by decide +kernel
theorem dX7_step_77 : decode cX7_step 77 = .ok (.putfield 32, 3) := by decide +kernel
theorem dX7_step_80 : decode cX7_step 80 = .ok (.return_, 1) := by decide +kernel
theorem dX7_readClause_0 : decode cX7_readClause 0 = .ok (.aload_n 0, 1) := by decide +kernel
theorem dX7_readClause_1 : decode cX7_readClause 1 = .ok (.getfield 29, 3) := by decide +kernel
theorem dX7_readClause_4 : decode cX7_readClause 4 = .ok (.sipush 260, 3) := by decide +kernel
theorem dX7_readClause_7 : decode cX7_readClause 7 = .ok (.sipush 263, 3) := by decide +kernel
theorem dX7_readClause_10 : decode cX7_readClause 10 = .ok (.invokestatic 68, 3) := by decide +kernel
theorem dX7_readClause_13 : decode cX7_readClause 13 = .ok (.ifCond .ne 9, 3) := by decide +kernel
theorem dX7_readClause_16 : decode cX7_readClause 16 = .ok (.aload_n 0, 1) := by decide +kernel
theorem dX7_readClause_17 : decode cX7_readClause 17 = .ok (.iconst 0, 1) := by decide +kernel
theorem dX7_readClause_18 : decode cX7_readClause 18 = .ok (.invokevirtual 54, 3) := by decide +kernel
theorem dX7_readClause_21 : decode cX7_readClause 21 = .ok (.ireturn, 1) := by decide +kernel
theorem dX7_readClause_22 : decode cX7_readClause 22 = .ok (.iload_n 1, 1) := by decide +kernel
theorem dX7_readClause_23 : decode cX7_readClause 23 = .ok (.bipush 12, 2) := by decide +kernel
theorem dX7_readClause_25 : decode cX7_readClause 25 = .ok (.if_icmp .lt 9, 3) := by decide +kernel
theorem dX7_readClause_28 : decode cX7_readClause 28 = .ok (.aload_n 0, 1) := by decide +kernel
theorem dX7_readClause_29 : decode cX7_readClause 29 = .ok (.iconst 4, 1) := by decide +kernel
theorem dX7_readClause_30 : decode cX7_readClause 30 = .ok (.invokevirtual 54, 3) := by decide +kernel
theorem dX7_readClause_33 : decode cX7_readClause 33 = .ok (.ireturn, 1) := by decide +kernel
theorem dX7_readClause_34 : decode cX7_readClause 34 = .ok (.aload_n 0, 1) := by decide +kernel
theorem dX7_readClause_35 : decode cX7_readClause 35 = .ok (.getfield 29, 3) := by decide +kernel
theorem dX7_readClause_38 : decode cX7_readClause 38 = .ok (.sipush 260, 3) := by decide +kernel
theorem dX7_readClause_41 : decode cX7_readClause 41 = .ok (.isub, 1) := by decide +kernel
theorem dX7_readClause_42 : decode cX7_readClause 42 = .ok (.istore_n 2, 1) := by decide +kernel
theorem dX7_readClause_43 : decode cX7_readClause 43 = .ok (.aload_n 0, 1) := by decide +kernel
theorem dX7_readClause_44 : decode cX7_readClause 44 = .ok (.getfield 21, 3) := by decide +kernel
theorem dX7_readClause_47 : decode cX7_readClause 47 = .ok (.getfield 72, 3) := by decide +kernel
theorem dX7_readClause_50 : decode cX7_readClause 50 = .ok (.iload_n 1, 1) := by decide +kernel
theorem dX7_readClause_51 : decode cX7_readClause 51 = .ok (.iload_n 2, 1) := by decide +kernel
theorem dX7_readClause_52 : decode cX7_readClause 52 = .ok (.iastore, 1) := by decide +kernel
theorem dX7_readClause_53 : decode cX7_readClause 53 = .ok (.aload_n 0, 1) := by decide +kernel
theorem dX7_readClause_54 : decode cX7_readClause 54 = .ok (.invokevirtual 47, 3) := by decide +kernel
theorem dX7_readClause_57 : decode cX7_readClause 57 = .ok (.aload_n 0, 1) := by decide +kernel
theorem dX7_readClause_58 : decode cX7_readClause 58 = .ok (.iload_n 2, 1) := by decide +kernel
theorem dX7_readClause_59 : decode cX7_readClause 59 = .ok (.iload_n 1, 1) := by decide +kernel
theorem dX7_readClause_60 : decode cX7_readClause 60 = .ok (.invokevirtual 75, 3) := by decide +kernel
theorem dX7_readClause_63 : decode cX7_readClause 63 = .ok (.ifCond .ne 5, 3) := by decide +kernel
theorem dX7_readClause_66 : decode cX7_readClause 66 = .ok (.iconst 0, 1) := by decide +kernel
theorem dX7_readClause_67 : decode cX7_readClause 67 = .ok (.ireturn, 1) := by decide +kernel
theorem dX7_readClause_68 : decode cX7_readClause 68 = .ok (.aload_n 0, 1) := by decide +kernel
theorem dX7_readClause_69 : decode cX7_readClause 69 = .ok (.getfield 21, 3) := by decide +kernel
theorem dX7_readClause_72 : decode cX7_readClause 72 = .ok (.getfield 79, 3) := by decide +kernel
theorem dX7_readClause_75 : decode cX7_readClause 75 = .ok (.iload_n 1, 1) := by decide +kernel
theorem dX7_readClause_76 : decode cX7_readClause 76 = .ok (.aload_n 0, 1) := by decide +kernel
theorem dX7_readClause_77 : decode cX7_readClause 77 = .ok (.getfield 21, 3) := by decide +kernel
theorem dX7_readClause_80 : decode cX7_readClause 80 = .ok (.getfield 82, 3) := by decide +kernel
theorem dX7_readClause_83 : decode cX7_readClause 83 = .ok (.iastore, 1) := by decide +kernel
theorem dX7_readClause_84 : decode cX7_readClause 84 = .ok (.aload_n 0, 1) := by decide +kernel
theorem dX7_readClause_85 : decode cX7_readClause 85 = .ok (.getfield 29, 3) := by decide +kernel
theorem dX7_readClause_88 : decode cX7_readClause 88 = .ok (.sipush 276, 3) := by decide +kernel
theorem dX7_readClause_91 : decode cX7_readClause 91 = .ok (.if_icmp .ne 17, 3) := by decide +kernel
theorem dX7_readClause_94 : decode cX7_readClause 94 = .ok (.aload_n 0, 1) := by decide +kernel
theorem dX7_readClause_95 : decode cX7_readClause 95 = .ok (.invokevirtual 47, 3) := by decide +kernel
theorem dX7_readClause_98 : decode cX7_readClause 98 = .ok (.aload_n 0, 1) := by decide +kernel
theorem dX7_readClause_99 : decode cX7_readClause 99 = .ok (.iconst 0, 1) := by decide +kernel
theorem dX7_readClause_100 : decode cX7_readClause 100 = .ok (.invokevirtual 85, 3) := by decide +kernel
theorem dX7_readClause_103 : decode cX7_readClause 103 = .ok (.ifCond .ne 5, 3) := by decide +kernel
theorem dX7_readClause_106 : decode cX7_readClause 106 = .ok (.iconst 0, 1) := by decide +kernel
theorem dX7_readClause_107 : decode cX7_readClause 107 = .ok (.ireturn, 1) := by decide +kernel
theorem dX7_readClause_108 : decode cX7_readClause 108 = .ok (.aload_n 0, 1) := by decide +kernel
theorem dX7_readClause_109 : decode cX7_readClause 109 = .ok (.getfield 21, 3) := by decide +kernel
theorem dX7_readClause_112 : decode cX7_readClause 112 = .ok (.getfield 88, 3) := by decide +kernel
theorem dX7_readClause_115 : decode cX7_readClause 115 = .ok (.iload_n 1, 1) := by decide +kernel
theorem dX7_readClause_116 : decode cX7_readClause 116 = .ok (.aload_n 0, 1) := by decide +kernel
theorem dX7_readClause_117 : decode cX7_readClause 117 = .ok (.getfield 21, 3) := by decide +kernel
theorem dX7_readClause_120 : decode cX7_readClause 120 = .ok (.getfield 82, 3) := by decide +kernel
theorem dX7_readClause_123 : decode cX7_readClause 123 = .ok (.iastore, 1) := by decide +kernel
theorem dX7_readClause_124 : decode cX7_readClause 124 = .ok (.aload_n 0, 1) := by decide +kernel
theorem dX7_readClause_125 : decode cX7_readClause 125 = .ok (.getfield 21, 3) := by decide +kernel
theorem dX7_readClause_128 : decode cX7_readClause 128 = .ok (.iload_n 1, 1) := by decide +kernel
theorem dX7_readClause_129 : decode cX7_readClause 129 = .ok (.iconst 1, 1) := by decide +kernel
theorem dX7_readClause_130 : decode cX7_readClause 130 = .ok (.iadd, 1) := by decide +kernel
theorem dX7_readClause_131 : decode cX7_readClause 131 = .ok (.putfield 91, 3) := by decide +kernel
theorem dX7_readClause_134 : decode cX7_readClause 134 = .ok (.iconst 1, 1) := by decide +kernel
theorem dX7_readClause_135 : decode cX7_readClause 135 = .ok (.ireturn, 1) := by decide +kernel
theorem dX7_readBody_0 : decode cX7_readBody 0 = .ok (.iload_n 1, 1) := by decide +kernel
theorem dX7_readBody_1 : decode cX7_readBody 1 = .ok (.tableswitch 60 0 2 #[27, 33, 54], 27) := by decide +kernel
theorem dX7_readBody_28 : decode cX7_readBody 28 = .ok (.aload_n 0, 1) := by decide +kernel
theorem dX7_readBody_29 : decode cX7_readBody 29 = .ok (.iload_n 2, 1) := by decide +kernel
theorem dX7_readBody_30 : decode cX7_readBody 30 = .ok (.invokevirtual 94, 3) := by decide +kernel
theorem dX7_readBody_33 : decode cX7_readBody 33 = .ok (.ireturn, 1) := by decide +kernel
theorem dX7_readBody_34 : decode cX7_readBody 34 = .ok (.aload_n 0, 1) := by decide +kernel
theorem dX7_readBody_35 : decode cX7_readBody 35 = .ok (.getfield 21, 3) := by decide +kernel
theorem dX7_readBody_38 : decode cX7_readBody 38 = .ok (.getfield 97, 3) := by decide +kernel
theorem dX7_readBody_41 : decode cX7_readBody 41 = .ok (.iload_n 2, 1) := by decide +kernel
theorem dX7_readBody_42 : decode cX7_readBody 42 = .ok (.aload_n 0, 1) := by decide +kernel
theorem dX7_readBody_43 : decode cX7_readBody 43 = .ok (.getfield 21, 3) := by decide +kernel
theorem dX7_readBody_46 : decode cX7_readBody 46 = .ok (.getfield 82, 3) := by decide +kernel
theorem dX7_readBody_49 : decode cX7_readBody 49 = .ok (.iastore, 1) := by decide +kernel
theorem dX7_readBody_50 : decode cX7_readBody 50 = .ok (.aload_n 0, 1) := by decide +kernel
theorem dX7_readBody_51 : decode cX7_readBody 51 = .ok (.invokevirtual 98, 3) := by decide +kernel
theorem dX7_readBody_54 : decode cX7_readBody 54 = .ok (.ireturn, 1) := by decide +kernel
theorem dX7_readBody_55 : decode cX7_readBody 55 = .ok (.aload_n 0, 1) := by decide +kernel
theorem dX7_readBody_56 : decode cX7_readBody 56 = .ok (.iload_n 2, 1) := by decide +kernel
theorem dX7_readBody_57 : decode cX7_readBody 57 = .ok (.invokevirtual 102, 3) := by decide +kernel
theorem dX7_readBody_60 : decode cX7_readBody 60 = .ok (.ireturn, 1) := by decide +kernel
theorem dX7_readBody_61 : decode cX7_readBody 61 = .ok (.iconst 1, 1) := by decide +kernel
theorem dX7_readBody_62 : decode cX7_readBody 62 = .ok (.ireturn, 1) := by decide +kernel
theorem dX7_readMust_0 : decode cX7_readMust 0 = .ok (.aload_n 0, 1) := by decide +kernel
theorem dX7_readMust_1 : decode cX7_readMust 1 = .ok (.bipush 9, 2) := by decide +kernel
theorem dX7_readMust_3 : decode cX7_readMust 3 = .ok (.invokevirtual 105, 3) := by decide +kernel
theorem dX7_readMust_6 : decode cX7_readMust 6 = .ok (.ifCond .ne 5, 3) := by decide +kernel
theorem dX7_readMust_9 : decode cX7_readMust 9 = .ok (.iconst 0, 1) := by decide +kernel
theorem dX7_readMust_10 : decode cX7_readMust 10 = .ok (.ireturn, 1) := by decide +kernel
theorem dX7_readMust_11 : decode cX7_readMust 11 = .ok (.aload_n 0, 1) := by decide +kernel
theorem dX7_readMust_12 : decode cX7_readMust 12 = .ok (.getfield 21, 3) := by decide +kernel
theorem dX7_readMust_15 : decode cX7_readMust 15 = .ok (.getfield 97, 3) := by decide +kernel
theorem dX7_readMust_18 : decode cX7_readMust 18 = .ok (.iload_n 1, 1) := by decide +kernel
theorem dX7_readMust_19 : decode cX7_readMust 19 = .ok (.aload_n 0, 1) := by decide +kernel
theorem dX7_readMust_20 : decode cX7_readMust 20 = .ok (.getfield 32, 3) := by decide +kernel
theorem dX7_readMust_23 : decode cX7_readMust 23 = .ok (.iastore, 1) := by decide +kernel
theorem dX7_readMust_24 : decode cX7_readMust 24 = .ok (.aload_n 0, 1) := by decide +kernel
theorem dX7_readMust_25 : decode cX7_readMust 25 = .ok (.invokevirtual 47, 3) := by decide +kernel
theorem dX7_readMust_28 : decode cX7_readMust 28 = .ok (.aload_n 0, 1) := by decide +kernel
theorem dX7_readMust_29 : decode cX7_readMust 29 = .ok (.getfield 29, 3) := by decide +kernel
theorem dX7_readMust_32 : decode cX7_readMust 32 = .ok (.sipush 275, 3) := by decide +kernel
theorem dX7_readMust_35 : decode cX7_readMust 35 = .ok (.if_icmp .eq 9, 3) := by decide +kernel
theorem dX7_readMust_38 : decode cX7_readMust 38 = .ok (.aload_n 0, 1) := by decide +kernel
theorem dX7_readMust_39 : decode cX7_readMust 39 = .ok (.iconst 0, 1) := by decide +kernel
theorem dX7_readMust_40 : decode cX7_readMust 40 = .ok (.invokevirtual 54, 3) := by decide +kernel
theorem dX7_readMust_43 : decode cX7_readMust 43 = .ok (.ireturn, 1) := by decide +kernel
theorem dX7_readMust_44 : decode cX7_readMust 44 = .ok (.aload_n 0, 1) := by decide +kernel
theorem dX7_readMust_45 : decode cX7_readMust 45 = .ok (.invokevirtual 47, 3) := by decide +kernel
theorem dX7_readMust_48 : decode cX7_readMust 48 = .ok (.aload_n 0, 1) := by decide +kernel
theorem dX7_readMust_49 : decode cX7_readMust 49 = .ok (.sipush 999, 3) := by decide +kernel
theorem dX7_readMust_52 : decode cX7_readMust 52 = .ok (.invokevirtual 105, 3) := by decide +kernel
theorem dX7_readMust_55 : decode cX7_readMust 55 = .ok (.ifCond .ne 5, 3) := by decide +kernel
theorem dX7_readMust_58 : decode cX7_readMust 58 = .ok (.iconst 0, 1) := by decide +kernel
theorem dX7_readMust_59 : decode cX7_readMust 59 = .ok (.ireturn, 1) := by decide +kernel
theorem dX7_readMust_60 : decode cX7_readMust 60 = .ok (.aload_n 0, 1) := by decide +kernel
theorem dX7_readMust_61 : decode cX7_readMust 61 = .ok (.getfield 21, 3) := by decide +kernel
theorem dX7_readMust_64 : decode cX7_readMust 64 = .ok (.getfield 108, 3) := by decide +kernel
theorem dX7_readMust_67 : decode cX7_readMust 67 = .ok (.iload_n 1, 1) := by decide +kernel
theorem dX7_readMust_68 : decode cX7_readMust 68 = .ok (.aload_n 0, 1) := by decide +kernel
theorem dX7_readMust_69 : decode cX7_readMust 69 = .ok (.getfield 32, 3) := by decide +kernel
theorem dX7_readMust_72 : decode cX7_readMust 72 = .ok (.iastore, 1) := by decide +kernel
theorem dX7_readMust_73 : decode cX7_readMust 73 = .ok (.aload_n 0, 1) := by decide +kernel
theorem dX7_readMust_74 : decode cX7_readMust 74 = .ok (.invokevirtual 47, 3) := by decide +kernel
theorem dX7_readMust_77 : decode cX7_readMust 77 = .ok (.iconst 1, 1) := by decide +kernel
theorem dX7_readMust_78 : decode cX7_readMust 78 = .ok (.ireturn, 1) := by decide +kernel
theorem dX7_isNumberTo_0 : decode cX7_isNumberTo 0 = .ok (.aload_n 0, 1) := by decide +kernel
theorem dX7_isNumberTo_1 : decode cX7_isNumberTo 1 = .ok (.getfield 29, 3) := by decide +kernel
theorem dX7_isNumberTo_4 : decode cX7_isNumberTo 4 = .ok (.sipush 256, 3) := by decide +kernel
theorem dX7_isNumberTo_7 : decode cX7_isNumberTo 7 = .ok (.if_icmp .eq 9, 3) := by decide +kernel
theorem dX7_isNumberTo_10 : decode cX7_isNumberTo 10 = .ok (.aload_n 0, 1) := by decide +kernel
theorem dX7_isNumberTo_11 : decode cX7_isNumberTo 11 = .ok (.iconst 0, 1) := by decide +kernel
theorem dX7_isNumberTo_12 : decode cX7_isNumberTo 12 = .ok (.invokevirtual 54, 3) := by decide +kernel
theorem dX7_isNumberTo_15 : decode cX7_isNumberTo 15 = .ok (.ireturn, 1) := by decide +kernel
theorem dX7_isNumberTo_16 : decode cX7_isNumberTo 16 = .ok (.aload_n 0, 1) := by decide +kernel
theorem dX7_isNumberTo_17 : decode cX7_isNumberTo 17 = .ok (.getfield 32, 3) := by decide +kernel
theorem dX7_isNumberTo_20 : decode cX7_isNumberTo 20 = .ok (.iconst 0, 1) := by decide +kernel
theorem dX7_isNumberTo_21 : decode cX7_isNumberTo 21 = .ok (.iload_n 1, 1) := by decide +kernel
theorem dX7_isNumberTo_22 : decode cX7_isNumberTo 22 = .ok (.invokestatic 68, 3) := by decide +kernel
theorem dX7_isNumberTo_25 : decode cX7_isNumberTo 25 = .ok (.ifCond .ne 11, 3) := by decide +kernel
theorem dX7_isNumberTo_28 : decode cX7_isNumberTo 28 = .ok (.aload_n 0, 1) := by decide +kernel
theorem dX7_isNumberTo_29 : decode cX7_isNumberTo 29 = .ok (.iconst 1, 1) := by decide +kernel
theorem dX7_isNumberTo_30 : decode cX7_isNumberTo 30 = .ok (.invokevirtual 54, 3) := by decide +kernel
theorem dX7_isNumberTo_33 : decode cX7_isNumberTo 33 = .ok (.ifCond .eq 7, 3) := by decide +kernel
theorem dX7_isNumberTo_36 : decode cX7_isNumberTo 36 = .ok (.iconst 1, 1) := by decide +kernel
theorem dX7_isNumberTo_37 : decode cX7_isNumberTo 37 = .ok (.goto 4, 3) := by decide +kernel
theorem dX7_isNumberTo_40 : decode cX7_isNumberTo 40 = .ok (.iconst 0, 1) := by decide +kernel
theorem dX7_isNumberTo_41 : decode cX7_isNumberTo 41 = .ok (.ireturn, 1) := by decide +kernel
theorem dX7_readLook_0 : decode cX7_readLook 0 = .ok (.aload_n 0, 1) := by decide +kernel
theorem dX7_readLook_1 : decode cX7_readLook 1 = .ok (.getfield 29, 3) := by decide +kernel
theorem dX7_readLook_4 : decode cX7_readLook 4 = .ok (.sipush 264, 3) := by decide +kernel
theorem dX7_readLook_7 : decode cX7_readLook 7 = .ok (.sipush 267, 3) := by decide +kernel
theorem dX7_readLook_10 : decode cX7_readLook 10 = .ok (.invokestatic 68, 3) := by decide +kernel
theorem dX7_readLook_13 : decode cX7_readLook 13 = .ok (.ifCond .ne 9, 3) := by decide +kernel
theorem dX7_readLook_16 : decode cX7_readLook 16 = .ok (.aload_n 0, 1) := by decide +kernel
theorem dX7_readLook_17 : decode cX7_readLook 17 = .ok (.iconst 0, 1) := by decide +kernel
theorem dX7_readLook_18 : decode cX7_readLook 18 = .ok (.invokevirtual 54, 3) := by decide +kernel
theorem dX7_readLook_21 : decode cX7_readLook 21 = .ok (.ireturn, 1) := by decide +kernel
theorem dX7_readLook_22 : decode cX7_readLook 22 = .ok (.aload_n 0, 1) := by decide +kernel
theorem dX7_readLook_23 : decode cX7_readLook 23 = .ok (.getfield 21, 3) := by decide +kernel
theorem dX7_readLook_26 : decode cX7_readLook 26 = .ok (.getfield 97, 3) := by decide +kernel
theorem dX7_readLook_29 : decode cX7_readLook 29 = .ok (.iload_n 1, 1) := by decide +kernel
theorem dX7_readLook_30 : decode cX7_readLook 30 = .ok (.iconst 1, 1) := by decide +kernel
theorem dX7_readLook_31 : decode cX7_readLook 31 = .ok (.aload_n 0, 1) := by decide +kernel
theorem dX7_readLook_32 : decode cX7_readLook 32 = .ok (.getfield 29, 3) := by decide +kernel
theorem dX7_readLook_35 : decode cX7_readLook 35 = .ok (.sipush 264, 3) := by decide +kernel
theorem dX7_readLook_38 : decode cX7_readLook 38 = .ok (.isub, 1) := by decide +kernel
theorem dX7_readLook_39 : decode cX7_readLook 39 = .ok (.ishl, 1) := by decide +kernel
theorem dX7_readLook_40 : decode cX7_readLook 40 = .ok (.iastore, 1) := by decide +kernel
theorem dX7_readLook_41 : decode cX7_readLook 41 = .ok (.aload_n 0, 1) := by decide +kernel
theorem dX7_readLook_42 : decode cX7_readLook 42 = .ok (.invokevirtual 47, 3) := by decide +kernel
theorem dX7_readLook_45 : decode cX7_readLook 45 = .ok (.iconst 1, 1) := by decide +kernel
theorem dX7_readLook_46 : decode cX7_readLook 46 = .ok (.ireturn, 1) := by decide +kernel
theorem dX7_readTest_0 : decode cX7_readTest 0 = .ok (.aload_n 0, 1) := by decide +kernel
theorem dX7_readTest_1 : decode cX7_readTest 1 = .ok (.iload_n 1, 1) := by decide +kernel
theorem dX7_readTest_2 : decode cX7_readTest 2 = .ok (.invokevirtual 111, 3) := by decide +kernel
theorem dX7_readTest_5 : decode cX7_readTest 5 = .ok (.ifCond .ne 5, 3) := by decide +kernel
theorem dX7_readTest_8 : decode cX7_readTest 8 = .ok (.iconst 0, 1) := by decide +kernel
theorem dX7_readTest_9 : decode cX7_readTest 9 = .ok (.ireturn, 1) := by decide +kernel
theorem dX7_readTest_10 : decode cX7_readTest 10 = .ok (.iconst 0, 1) := by decide +kernel
theorem dX7_readTest_11 : decode cX7_readTest 11 = .ok (.istore_n 2, 1) := by decide +kernel
theorem dX7_readTest_12 : decode cX7_readTest 12 = .ok (.iconst 0, 1) := by decide +kernel
theorem dX7_readTest_13 : decode cX7_readTest 13 = .ok (.istore_n 3, 1) := by decide +kernel
theorem dX7_readTest_14 : decode cX7_readTest 14 = .ok (.iload_n 3, 1) := by decide +kernel
theorem dX7_readTest_15 : decode cX7_readTest 15 = .ok (.sipush 400, 3) := by decide +kernel
theorem dX7_readTest_18 : decode cX7_readTest 18 = .ok (.if_icmp .ge 107, 3) := by decide +kernel
theorem dX7_readTest_21 : decode cX7_readTest 21 = .ok (.aload_n 0, 1) := by decide +kernel
theorem dX7_readTest_22 : decode cX7_readTest 22 = .ok (.getfield 29, 3) := by decide +kernel
theorem dX7_readTest_25 : decode cX7_readTest 25 = .ok (.sipush 278, 3) := by decide +kernel
theorem dX7_readTest_28 : decode cX7_readTest 28 = .ok (.if_icmp .eq 13, 3) := by decide +kernel
theorem dX7_readTest_31 : decode cX7_readTest 31 = .ok (.aload_n 0, 1) := by decide +kernel
theorem dX7_readTest_32 : decode cX7_readTest 32 = .ok (.getfield 29, 3) := by decide +kernel
theorem dX7_readTest_35 : decode cX7_readTest 35 = .ok (.sipush 277, 3) := by decide +kernel
theorem dX7_readTest_38 : decode cX7_readTest 38 = .ok (.if_icmp .ne 87, 3) := by decide +kernel
theorem dX7_readTest_41 : decode cX7_readTest 41 = .ok (.aload_n 0, 1) := by decide +kernel
theorem dX7_readTest_42 : decode cX7_readTest 42 = .ok (.getfield 29, 3) := by decide +kernel
theorem dX7_readTest_45 : decode cX7_readTest 45 = .ok (.sipush 278, 3) := by decide +kernel
theorem dX7_readTest_48 : decode cX7_readTest 48 = .ok (.if_icmp .ne 7, 3) := by decide +kernel
theorem dX7_readTest_51 : decode cX7_readTest 51 = .ok (.iconst 1, 1) := by decide +kernel
theorem dX7_readTest_52 : decode cX7_readTest 52 = .ok (.goto 4, 3) := by decide +kernel
theorem dX7_readTest_55 : decode cX7_readTest 55 = .ok (.iconst 0, 1) := by decide +kernel
theorem dX7_readTest_56 : decode cX7_readTest 56 = .ok (.istore 4, 2) := by decide +kernel
theorem dX7_readTest_58 : decode cX7_readTest 58 = .ok (.iload 4, 2) := by decide +kernel
theorem dX7_readTest_60 : decode cX7_readTest 60 = .ok (.ifCond .ne 16, 3) := by decide +kernel
theorem dX7_readTest_63 : decode cX7_readTest 63 = .ok (.iload_n 2, 1) := by decide +kernel
theorem dX7_readTest_64 : decode cX7_readTest 64 = .ok (.ifCond .eq 12, 3) := by decide +kernel
theorem dX7_readTest_67 : decode cX7_readTest 67 = .ok (.aload_n 0, 1) := by decide +kernel
theorem dX7_readTest_68 : decode cX7_readTest 68 = .ok (.getfield 21, 3) := by decide +kernel
theorem dX7_readTest_71 : decode cX7_readTest 71 = .ok (.bipush (-17), 2) := by decide +kernel
theorem dX7_readTest_73 : decode cX7_readTest 73 = .ok (.invokevirtual 114, 3) := by decide +kernel
theorem dX7_readTest_76 : decode cX7_readTest 76 = .ok (.iload_n 2, 1) := by decide +kernel
theorem dX7_readTest_77 : decode cX7_readTest 77 = .ok (.ifCond .ne 8, 3) := by decide +kernel
theorem dX7_readTest_80 : decode cX7_readTest 80 = .ok (.iload 4, 2) := by decide +kernel
theorem dX7_readTest_82 : decode cX7_readTest 82 = .ok (.ifCond .ne 7, 3) := by decide +kernel
theorem dX7_readTest_85 : decode cX7_readTest 85 = .ok (.iconst 1, 1) := by decide +kernel
theorem dX7_readTest_86 : decode cX7_readTest 86 = .ok (.goto 4, 3) := by decide +kernel
theorem dX7_readTest_89 : decode cX7_readTest 89 = .ok (.iconst 0, 1) := by decide +kernel
theorem dX7_readTest_90 : decode cX7_readTest 90 = .ok (.istore_n 2, 1) := by decide +kernel
theorem dX7_readTest_91 : decode cX7_readTest 91 = .ok (.aload_n 0, 1) := by decide +kernel
theorem dX7_readTest_92 : decode cX7_readTest 92 = .ok (.invokevirtual 47, 3) := by decide +kernel
theorem dX7_readTest_95 : decode cX7_readTest 95 = .ok (.aload_n 0, 1) := by decide +kernel
theorem dX7_readTest_96 : decode cX7_readTest 96 = .ok (.iload_n 1, 1) := by decide +kernel
theorem dX7_readTest_97 : decode cX7_readTest 97 = .ok (.invokevirtual 111, 3) := by decide +kernel
theorem dX7_readTest_100 : decode cX7_readTest 100 = .ok (.ifCond .ne 5, 3) := by decide +kernel
theorem dX7_readTest_103 : decode cX7_readTest 103 = .ok (.iconst 0, 1) := by decide +kernel
theorem dX7_readTest_104 : decode cX7_readTest 104 = .ok (.ireturn, 1) := by decide +kernel
theorem dX7_readTest_105 : decode cX7_readTest 105 = .ok (.iload 4, 2) := by decide +kernel
theorem dX7_readTest_107 : decode cX7_readTest 107 = .ok (.ifCond .eq 12, 3) := by decide +kernel
theorem dX7_readTest_110 : decode cX7_readTest 110 = .ok (.aload_n 0, 1) := by decide +kernel
theorem dX7_readTest_111 : decode cX7_readTest 111 = .ok (.getfield 21, 3) := by decide +kernel
theorem dX7_readTest_114 : decode cX7_readTest 114 = .ok (.bipush (-16), 2) := by decide +kernel
theorem dX7_readTest_116 : decode cX7_readTest 116 = .ok (.invokevirtual 114, 3) := by decide +kernel
theorem dX7_readTest_119 : decode cX7_readTest 119 = .ok (.iinc 3 1, 3) := by decide +kernel
theorem dX7_readTest_122 : decode cX7_readTest 122 = .ok (.goto (-108), 3) := by decide +kernel
theorem dX7_readTest_125 : decode cX7_readTest 125 = .ok (.iload_n 2, 1) := by decide +kernel
theorem dX7_readTest_126 : decode cX7_readTest 126 = .ok (.ifCond .eq 12, 3) := by decide +kernel
theorem dX7_readTest_129 : decode cX7_readTest 129 = .ok (.aload_n 0, 1) := by decide +kernel
theorem dX7_readTest_130 : decode cX7_readTest 130 = .ok (.getfield 21, 3) := by decide +kernel
theorem dX7_readTest_133 : decode cX7_readTest 133 = .ok (.bipush (-17), 2) := by decide +kernel
theorem dX7_readTest_135 : decode cX7_readTest 135 = .ok (.invokevirtual 114, 3) := by decide +kernel
theorem dX7_readTest_138 : decode cX7_readTest 138 = .ok (.iconst 1, 1) := by decide +kernel
theorem dX7_readTest_139 : decode cX7_readTest 139 = .ok (.ireturn, 1) := by decide +kernel
theorem dX7_readFact_0 : decode cX7_readFact 0 = .ok (.aload_n 0, 1) := by decide +kernel
theorem dX7_readFact_1 : decode cX7_readFact 1 = .ok (.getfield 29, 3) := by decide +kernel
theorem dX7_readFact_4 : decode cX7_readFact 4 = .ok (.sipush 279, 3) := by decide +kernel
theorem dX7_readFact_7 : decode cX7_readFact 7 = .ok (.if_icmp .eq 12, 3) := by decide +kernel
theorem dX7_readFact_10 : decode cX7_readFact 10 = .ok (.aload_n 0, 1) := by decide +kernel
theorem dX7_readFact_11 : decode cX7_readFact 11 = .ok (.getfield 29, 3) := by decide +kernel
theorem dX7_readFact_14 : decode cX7_readFact 14 = .ok (.bipush 91, 2) := by decide +kernel
theorem dX7_readFact_16 : decode cX7_readFact 16 = .ok (.if_icmp .ne 11, 3) := by decide +kernel
theorem dX7_readFact_19 : decode cX7_readFact 19 = .ok (.aload_n 0, 1) := by decide +kernel
theorem dX7_readFact_20 : decode cX7_readFact 20 = .ok (.iload_n 1, 1) := by decide +kernel
theorem dX7_readFact_21 : decode cX7_readFact 21 = .ok (.iconst 1, 1) := by decide +kernel
theorem dX7_readFact_22 : decode cX7_readFact 22 = .ok (.iadd, 1) := by decide +kernel
theorem dX7_readFact_23 : decode cX7_readFact 23 = .ok (.invokevirtual 118, 3) := by decide +kernel
theorem dX7_readFact_26 : decode cX7_readFact 26 = .ok (.ireturn, 1) := by decide +kernel
theorem dX7_readFact_27 : decode cX7_readFact 27 = .ok (.aload_n 0, 1) := by decide +kernel
theorem dX7_readFact_28 : decode cX7_readFact 28 = .ok (.invokevirtual 98, 3) := by decide +kernel
theorem dX7_readFact_31 : decode cX7_readFact 31 = .ok (.ifCond .ne 5, 3) := by decide +kernel
theorem dX7_readFact_34 : decode cX7_readFact 34 = .ok (.iconst 0, 1) := by decide +kernel
theorem dX7_readFact_35 : decode cX7_readFact 35 = .ok (.ireturn, 1) := by decide +kernel
theorem dX7_readFact_36 : decode cX7_readFact 36 = .ok (.aload_n 0, 1) := by decide +kernel
theorem dX7_readFact_37 : decode cX7_readFact 37 = .ok (.invokevirtual 121, 3) := by decide +kernel
theorem dX7_readFact_40 : decode cX7_readFact 40 = .ok (.istore_n 2, 1) := by decide +kernel
theorem dX7_readFact_41 : decode cX7_readFact 41 = .ok (.iload_n 2, 1) := by decide +kernel
theorem dX7_readFact_42 : decode cX7_readFact 42 = .ok (.ifCond .ne 9, 3) := by decide +kernel
theorem dX7_readFact_45 : decode cX7_readFact 45 = .ok (.aload_n 0, 1) := by decide +kernel
theorem dX7_readFact_46 : decode cX7_readFact 46 = .ok (.iconst 0, 1) := by decide +kernel
theorem dX7_readFact_47 : decode cX7_readFact 47 = .ok (.invokevirtual 54, 3) := by decide +kernel
theorem dX7_readFact_50 : decode cX7_readFact 50 = .ok (.ireturn, 1) := by decide +kernel
theorem dX7_readFact_51 : decode cX7_readFact 51 = .ok (.aload_n 0, 1) := by decide +kernel
theorem dX7_readFact_52 : decode cX7_readFact 52 = .ok (.getfield 35, 3) := by decide +kernel
theorem dX7_readFact_55 : decode cX7_readFact 55 = .ok (.bipush 60, 2) := by decide +kernel
theorem dX7_readFact_57 : decode cX7_readFact 57 = .ok (.if_icmp .lt 9, 3) := by decide +kernel
theorem dX7_readFact_60 : decode cX7_readFact 60 = .ok (.aload_n 0, 1) := by decide +kernel
theorem dX7_readFact_61 : decode cX7_readFact 61 = .ok (.iconst 3, 1) := by decide +kernel
theorem dX7_readFact_62 : decode cX7_readFact 62 = .ok (.invokevirtual 54, 3) := by decide +kernel
theorem dX7_readFact_65 : decode cX7_readFact 65 = .ok (.ireturn, 1) := by decide +kernel
theorem dX7_readFact_66 : decode cX7_readFact 66 = .ok (.aload_n 0, 1) := by decide +kernel
theorem dX7_readFact_67 : decode cX7_readFact 67 = .ok (.dup, 1) := by decide +kernel
theorem dX7_readFact_68 : decode cX7_readFact 68 = .ok (.getfield 35, 3) := by decide +kernel
theorem dX7_readFact_71 : decode cX7_readFact 71 = .ok (.iconst 1, 1) := by decide +kernel
theorem dX7_readFact_72 : decode cX7_readFact 72 = .ok (.iadd, 1) := by decide +kernel
theorem dX7_readFact_73 : decode cX7_readFact 73 = .ok (.putfield 35, 3) := by decide +kernel
theorem dX7_readFact_76 : decode cX7_readFact 76 = .ok (.aload_n 0, 1) := by decide +kernel
theorem dX7_readFact_77 : decode cX7_readFact 77 = .ok (.invokevirtual 47, 3) := by decide +kernel
theorem dX7_readFact_80 : decode cX7_readFact 80 = .ok (.aload_n 0, 1) := by decide +kernel
theorem dX7_readFact_81 : decode cX7_readFact 81 = .ok (.invokevirtual 98, 3) := by decide +kernel
theorem dX7_readFact_84 : decode cX7_readFact 84 = .ok (.ifCond .ne 5, 3) := by decide +kernel
theorem dX7_readFact_87 : decode cX7_readFact 87 = .ok (.iconst 0, 1) := by decide +kernel
theorem dX7_readFact_88 : decode cX7_readFact 88 = .ok (.ireturn, 1) := by decide +kernel
theorem dX7_readFact_89 : decode cX7_readFact 89 = .ok (.aload_n 0, 1) := by decide +kernel
theorem dX7_readFact_90 : decode cX7_readFact 90 = .ok (.getfield 21, 3) := by decide +kernel
theorem dX7_readFact_93 : decode cX7_readFact 93 = .ok (.iload_n 2, 1) := by decide +kernel
theorem dX7_readFact_94 : decode cX7_readFact 94 = .ok (.invokevirtual 114, 3) := by decide +kernel
theorem dX7_readFact_97 : decode cX7_readFact 97 = .ok (.iconst 1, 1) := by decide +kernel
theorem dX7_readFact_98 : decode cX7_readFact 98 = .ok (.ireturn, 1) := by decide +kernel
theorem dX7_readInner_0 : decode cX7_readInner 0 = .ok (.iload_n 1, 1) := by decide +kernel
theorem dX7_readInner_1 : decode cX7_readInner 1 = .ok (.bipush 10, 2) := by decide +kernel
theorem dX7_readInner_3 : decode cX7_readInner 3 = .ok (.if_icmp .le 9, 3) := by decide +kernel
theorem dX7_readInner_6 : decode cX7_readInner 6 = .ok (.aload_n 0, 1) := by decide +kernel
theorem dX7_readInner_7 : decode cX7_readInner 7 = .ok (.iconst 2, 1) := by decide +kernel
theorem dX7_readInner_8 : decode cX7_readInner 8 = .ok (.invokevirtual 54, 3) := by decide +kernel
theorem dX7_readInner_11 : decode cX7_readInner 11 = .ok (.ireturn, 1) := by decide +kernel
theorem dX7_readInner_12 : decode cX7_readInner 12 = .ok (.aload_n 0, 1) := by decide +kernel
theorem dX7_readInner_13 : decode cX7_readInner 13 = .ok (.getfield 29, 3) := by decide +kernel
theorem dX7_readInner_16 : decode cX7_readInner 16 = .ok (.sipush 279, 3) := by decide +kernel
theorem dX7_readInner_19 : decode cX7_readInner 19 = .ok (.if_icmp .ne 7, 3) := by decide +kernel
theorem dX7_readInner_22 : decode cX7_readInner 22 = .ok (.iconst 1, 1) := by decide +kernel
theorem dX7_readInner_23 : decode cX7_readInner 23 = .ok (.goto 4, 3) := by decide +kernel
theorem dX7_readInner_26 : decode cX7_readInner 26 = .ok (.iconst 0, 1) := by decide +kernel
theorem dX7_readInner_27 : decode cX7_readInner 27 = .ok (.istore_n 2, 1) := by decide +kernel
theorem dX7_readInner_28 : decode cX7_readInner 28 = .ok (.aload_n 0, 1) := by decide +kernel
theorem dX7_readInner_29 : decode cX7_readInner 29 = .ok (.invokevirtual 47, 3) := by decide +kernel
theorem dX7_readInner_32 : decode cX7_readInner 32 = .ok (.iload_n 2, 1) := by decide +kernel
theorem dX7_readInner_33 : decode cX7_readInner 33 = .ok (.ifCond .eq 14, 3) := by decide +kernel
theorem dX7_readInner_36 : decode cX7_readInner 36 = .ok (.aload_n 0, 1) := by decide +kernel
theorem dX7_readInner_37 : decode cX7_readInner 37 = .ok (.iload_n 1, 1) := by decide +kernel
theorem dX7_readInner_38 : decode cX7_readInner 38 = .ok (.invokevirtual 111, 3) := by decide +kernel
theorem dX7_readInner_41 : decode cX7_readInner 41 = .ok (.ifCond .ne 16, 3) := by decide +kernel
theorem dX7_readInner_44 : decode cX7_readInner 44 = .ok (.goto 11, 3) := by decide +kernel
theorem dX7_readInner_47 : decode cX7_readInner 47 = .ok (.aload_n 0, 1) := by decide +kernel
theorem dX7_readInner_48 : decode cX7_readInner 48 = .ok (.iload_n 1, 1) := by decide +kernel
theorem dX7_readInner_49 : decode cX7_readInner 49 = .ok (.invokevirtual 85, 3) := by decide +kernel
theorem dX7_readInner_52 : decode cX7_readInner 52 = .ok (.ifCond .ne 5, 3) := by decide +kernel
theorem dX7_readInner_55 : decode cX7_readInner 55 = .ok (.iconst 0, 1) := by decide +kernel
theorem dX7_readInner_56 : decode cX7_readInner 56 = .ok (.ireturn, 1) := by decide +kernel
theorem dX7_readInner_57 : decode cX7_readInner 57 = .ok (.iload_n 2, 1) := by decide +kernel
theorem dX7_readInner_58 : decode cX7_readInner 58 = .ok (.ifCond .eq 14, 3) := by decide +kernel
theorem dX7_readInner_61 : decode cX7_readInner 61 = .ok (.aload_n 0, 1) := by decide +kernel
theorem dX7_readInner_62 : decode cX7_readInner 62 = .ok (.getfield 21, 3) := by decide +kernel
theorem dX7_readInner_65 : decode cX7_readInner 65 = .ok (.bipush (-8), 2) := by decide +kernel
theorem dX7_readInner_67 : decode cX7_readInner 67 = .ok (.invokevirtual 114, 3) := by decide +kernel
theorem dX7_readInner_70 : decode cX7_readInner 70 = .ok (.iconst 1, 1) := by decide +kernel
theorem dX7_readInner_71 : decode cX7_readInner 71 = .ok (.ireturn, 1) := by decide +kernel
theorem dX7_readInner_72 : decode cX7_readInner 72 = .ok (.aload_n 0, 1) := by decide +kernel
theorem dX7_readInner_73 : decode cX7_readInner 73 = .ok (.getfield 29, 3) := by decide +kernel
theorem dX7_readInner_76 : decode cX7_readInner 76 = .ok (.bipush 93, 2) := by decide +kernel
theorem dX7_readInner_78 : decode cX7_readInner 78 = .ok (.if_icmp .eq 9, 3) := by decide +kernel
theorem dX7_readInner_81 : decode cX7_readInner 81 = .ok (.aload_n 0, 1) := by decide +kernel
theorem dX7_readInner_82 : decode cX7_readInner 82 = .ok (.iconst 0, 1) := by decide +kernel
theorem dX7_readInner_83 : decode cX7_readInner 83 = .ok (.invokevirtual 54, 3) := by decide +kernel
theorem dX7_readInner_86 : decode cX7_readInner 86 = .ok (.ireturn, 1) := by decide +kernel
theorem dX7_readInner_87 : decode cX7_readInner 87 = .ok (.aload_n 0, 1) := by decide +kernel
theorem dX7_readInner_88 : decode cX7_readInner 88 = .ok (.invokevirtual 47, 3) := by decide +kernel
theorem dX7_readInner_91 : decode cX7_readInner 91 = .ok (.iconst 1, 1) := by decide +kernel
theorem dX7_readInner_92 : decode cX7_readInner 92 = .ok (.ireturn, 1) := by decide +kernel
theorem dX7_comparing_0 : decode cX7_comparing 0 = .ok (.aload_n 0, 1) := by decide +kernel
theorem dX7_comparing_1 : decode cX7_comparing 1 = .ok (.getfield 29, 3) := by decide +kernel
theorem dX7_comparing_4 : decode cX7_comparing 4 = .ok (.lookupswitch 67 #[(60, 52), (61, 58), (62, 64), (257, 55), (258, 61)], 52) := by decide +kernel
theorem dX7_comparing_56 : decode cX7_comparing 56 = .ok (.bipush (-11), 2) := by decide +kernel
theorem dX7_comparing_58 : decode cX7_comparing 58 = .ok (.ireturn, 1) := by decide +kernel
theorem dX7_comparing_59 : decode cX7_comparing 59 = .ok (.bipush (-12), 2) := by decide +kernel
theorem dX7_comparing_61 : decode cX7_comparing 61 = .ok (.ireturn, 1) := by decide +kernel
theorem dX7_comparing_62 : decode cX7_comparing 62 = .ok (.bipush (-13), 2) := by decide +kernel
theorem dX7_comparing_64 : decode cX7_comparing 64 = .ok (.ireturn, 1) := by decide +kernel
theorem dX7_comparing_65 : decode cX7_comparing 65 = .ok (.bipush (-14), 2) := by decide +kernel
theorem dX7_comparing_67 : decode cX7_comparing 67 = .ok (.ireturn, 1) := by decide +kernel
theorem dX7_comparing_68 : decode cX7_comparing 68 = .ok (.bipush (-15), 2) := by decide +kernel
theorem dX7_comparing_70 : decode cX7_comparing 70 = .ok (.ireturn, 1) := by decide +kernel
theorem dX7_comparing_71 : decode cX7_comparing 71 = .ok (.iconst 0, 1) := by decide +kernel
theorem dX7_comparing_72 : decode cX7_comparing 72 = .ok (.ireturn, 1) := by decide +kernel
theorem dX7_readSum_0 : decode cX7_readSum 0 = .ok (.aload_n 0, 1) := by decide +kernel
theorem dX7_readSum_1 : decode cX7_readSum 1 = .ok (.invokevirtual 125, 3) := by decide +kernel
theorem dX7_readSum_4 : decode cX7_readSum 4 = .ok (.ifCond .ne 5, 3) := by decide +kernel
theorem dX7_readSum_7 : decode cX7_readSum 7 = .ok (.iconst 0, 1) := by decide +kernel
theorem dX7_readSum_8 : decode cX7_readSum 8 = .ok (.ireturn, 1) := by decide +kernel
theorem dX7_readSum_9 : decode cX7_readSum 9 = .ok (.iconst 0, 1) := by decide +kernel
theorem dX7_readSum_10 : decode cX7_readSum 10 = .ok (.istore_n 1, 1) := by decide +kernel
theorem dX7_readSum_11 : decode cX7_readSum 11 = .ok (.iload_n 1, 1) := by decide +kernel
theorem dX7_readSum_12 : decode cX7_readSum 12 = .ok (.sipush 400, 3) := by decide +kernel
theorem dX7_readSum_15 : decode cX7_readSum 15 = .ok (.if_icmp .ge 65, 3) := by decide +kernel
theorem dX7_readSum_18 : decode cX7_readSum 18 = .ok (.aload_n 0, 1) := by decide +kernel
theorem dX7_readSum_19 : decode cX7_readSum 19 = .ok (.getfield 29, 3) := by decide +kernel
theorem dX7_readSum_22 : decode cX7_readSum 22 = .ok (.bipush 43, 2) := by decide +kernel
theorem dX7_readSum_24 : decode cX7_readSum 24 = .ok (.if_icmp .eq 12, 3) := by decide +kernel
theorem dX7_readSum_27 : decode cX7_readSum 27 = .ok (.aload_n 0, 1) := by decide +kernel
theorem dX7_readSum_28 : decode cX7_readSum 28 = .ok (.getfield 29, 3) := by decide +kernel
theorem dX7_readSum_31 : decode cX7_readSum 31 = .ok (.bipush 45, 2) := by decide +kernel
theorem dX7_readSum_33 : decode cX7_readSum 33 = .ok (.if_icmp .ne 47, 3) := by decide +kernel
theorem dX7_readSum_36 : decode cX7_readSum 36 = .ok (.aload_n 0, 1) := by decide +kernel
theorem dX7_readSum_37 : decode cX7_readSum 37 = .ok (.getfield 29, 3) := by decide +kernel
theorem dX7_readSum_40 : decode cX7_readSum 40 = .ok (.bipush 43, 2) := by decide +kernel
theorem dX7_readSum_42 : decode cX7_readSum 42 = .ok (.if_icmp .ne 8, 3) := by decide +kernel
theorem dX7_readSum_45 : decode cX7_readSum 45 = .ok (.bipush (-9), 2) := by decide +kernel
theorem dX7_readSum_47 : decode cX7_readSum 47 = .ok (.goto 5, 3) := by decide +kernel
theorem dX7_readSum_50 : decode cX7_readSum 50 = .ok (.bipush (-10), 2) := by decide +kernel
theorem dX7_readSum_52 : decode cX7_readSum 52 = .ok (.istore_n 2, 1) := by decide +kernel
theorem dX7_readSum_53 : decode cX7_readSum 53 = .ok (.aload_n 0, 1) := by decide +kernel
theorem dX7_readSum_54 : decode cX7_readSum 54 = .ok (.invokevirtual 47, 3) := by decide +kernel
theorem dX7_readSum_57 : decode cX7_readSum 57 = .ok (.aload_n 0, 1) := by decide +kernel
theorem dX7_readSum_58 : decode cX7_readSum 58 = .ok (.invokevirtual 125, 3) := by decide +kernel
theorem dX7_readSum_61 : decode cX7_readSum 61 = .ok (.ifCond .ne 5, 3) := by decide +kernel
theorem dX7_readSum_64 : decode cX7_readSum 64 = .ok (.iconst 0, 1) := by decide +kernel
theorem dX7_readSum_65 : decode cX7_readSum 65 = .ok (.ireturn, 1) := by decide +kernel
theorem dX7_readSum_66 : decode cX7_readSum 66 = .ok (.aload_n 0, 1) := by decide +kernel
theorem dX7_readSum_67 : decode cX7_readSum 67 = .ok (.getfield 21, 3) := by decide +kernel
theorem dX7_readSum_70 : decode cX7_readSum 70 = .ok (.iload_n 2, 1) := by decide +kernel
theorem dX7_readSum_71 : decode cX7_readSum 71 = .ok (.invokevirtual 114, 3) := by decide +kernel
theorem dX7_readSum_74 : decode cX7_readSum 74 = .ok (.iinc 1 1, 3) := by decide +kernel
theorem dX7_readSum_77 : decode cX7_readSum 77 = .ok (.goto (-66), 3) := by decide +kernel
theorem dX7_readSum_80 : decode cX7_readSum 80 = .ok (.iconst 1, 1) := by decide +kernel
theorem dX7_readSum_81 : decode cX7_readSum 81 = .ok (.ireturn, 1) := by decide +kernel
theorem dX7_readValue_0 : decode cX7_readValue 0 = .ok (.aload_n 0, 1) := by decide +kernel
theorem dX7_readValue_1 : decode cX7_readValue 1 = .ok (.getfield 29, 3) := by decide +kernel
theorem dX7_readValue_4 : decode cX7_readValue 4 = .ok (.sipush 268, 3) := by decide +kernel
theorem dX7_readValue_7 : decode cX7_readValue 7 = .ok (.sipush 274, 3) := by decide +kernel
theorem dX7_readValue_10 : decode cX7_readValue 10 = .ok (.invokestatic 68, 3) := by decide +kernel
theorem dX7_readValue_13 : decode cX7_readValue 13 = .ok (.istore_n 1, 1) := by decide +kernel
theorem dX7_readValue_14 : decode cX7_readValue 14 = .ok (.aload_n 0, 1) := by decide +kernel
theorem dX7_readValue_15 : decode cX7_readValue 15 = .ok (.getfield 29, 3) := by decide +kernel
theorem dX7_readValue_18 : decode cX7_readValue 18 = .ok (.sipush 256, 3) := by decide +kernel
theorem dX7_readValue_21 : decode cX7_readValue 21 = .ok (.if_icmp .eq 13, 3) := by decide +kernel
theorem dX7_readValue_24 : decode cX7_readValue 24 = .ok (.iload_n 1, 1) := by decide +kernel
theorem dX7_readValue_25 : decode cX7_readValue 25 = .ok (.ifCond .ne 9, 3) := by decide +kernel
theorem dX7_readValue_28 : decode cX7_readValue 28 = .ok (.aload_n 0, 1) := by decide +kernel
theorem dX7_readValue_29 : decode cX7_readValue 29 = .ok (.iconst 0, 1) := by decide +kernel
theorem dX7_readValue_30 : decode cX7_readValue 30 = .ok (.invokevirtual 54, 3) := by decide +kernel
theorem dX7_readValue_33 : decode cX7_readValue 33 = .ok (.ireturn, 1) := by decide +kernel
theorem dX7_readValue_34 : decode cX7_readValue 34 = .ok (.iload_n 1, 1) := by decide +kernel
theorem dX7_readValue_35 : decode cX7_readValue 35 = .ok (.ifCond .ne 17, 3) := by decide +kernel
theorem dX7_readValue_38 : decode cX7_readValue 38 = .ok (.aload_n 0, 1) := by decide +kernel
theorem dX7_readValue_39 : decode cX7_readValue 39 = .ok (.getfield 32, 3) := by decide +kernel
theorem dX7_readValue_42 : decode cX7_readValue 42 = .ok (.iconst (-1), 1) := by decide +kernel
theorem dX7_readValue_43 : decode cX7_readValue 43 = .ok (.if_icmp .ne 9, 3) := by decide +kernel
theorem dX7_readValue_46 : decode cX7_readValue 46 = .ok (.aload_n 0, 1) := by decide +kernel
theorem dX7_readValue_47 : decode cX7_readValue 47 = .ok (.iconst 1, 1) := by decide +kernel
theorem dX7_readValue_48 : decode cX7_readValue 48 = .ok (.invokevirtual 54, 3) := by decide +kernel
theorem dX7_readValue_51 : decode cX7_readValue 51 = .ok (.ireturn, 1) := by decide +kernel
theorem dX7_readValue_52 : decode cX7_readValue 52 = .ok (.aload_n 0, 1) := by decide +kernel
theorem dX7_readValue_53 : decode cX7_readValue 53 = .ok (.getfield 35, 3) := by decide +kernel
theorem dX7_readValue_56 : decode cX7_readValue 56 = .ok (.bipush 60, 2) := by decide +kernel
theorem dX7_readValue_58 : decode cX7_readValue 58 = .ok (.if_icmp .lt 9, 3) := by decide +kernel
theorem dX7_readValue_61 : decode cX7_readValue 61 = .ok (.aload_n 0, 1) := by decide +kernel
theorem dX7_readValue_62 : decode cX7_readValue 62 = .ok (.iconst 3, 1) := by decide +kernel
theorem dX7_readValue_63 : decode cX7_readValue 63 = .ok (.invokevirtual 54, 3) := by decide +kernel
theorem dX7_readValue_66 : decode cX7_readValue 66 = .ok (.ireturn, 1) := by decide +kernel
theorem dX7_readValue_67 : decode cX7_readValue 67 = .ok (.aload_n 0, 1) := by decide +kernel
theorem dX7_readValue_68 : decode cX7_readValue 68 = .ok (.dup, 1) := by decide +kernel
theorem dX7_readValue_69 : decode cX7_readValue 69 = .ok (.getfield 35, 3) := by decide +kernel
theorem dX7_readValue_72 : decode cX7_readValue 72 = .ok (.iconst 1, 1) := by decide +kernel
theorem dX7_readValue_73 : decode cX7_readValue 73 = .ok (.iadd, 1) := by decide +kernel
theorem dX7_readValue_74 : decode cX7_readValue 74 = .ok (.putfield 35, 3) := by decide +kernel
theorem dX7_readValue_77 : decode cX7_readValue 77 = .ok (.aload_n 0, 1) := by decide +kernel
theorem dX7_readValue_78 : decode cX7_readValue 78 = .ok (.getfield 21, 3) := by decide +kernel
theorem dX7_readValue_81 : decode cX7_readValue 81 = .ok (.iload_n 1, 1) := by decide +kernel
theorem dX7_readValue_82 : decode cX7_readValue 82 = .ok (.ifCond .eq 14, 3) := by decide +kernel
theorem dX7_readValue_85 : decode cX7_readValue 85 = .ok (.sipush 267, 3) := by decide +kernel
theorem dX7_readValue_88 : decode cX7_readValue 88 = .ok (.aload_n 0, 1) := by decide +kernel
theorem dX7_readValue_89 : decode cX7_readValue 89 = .ok (.getfield 29, 3) := by decide +kernel
theorem dX7_readValue_92 : decode cX7_readValue 92 = .ok (.isub, 1) := by decide +kernel
theorem dX7_readValue_93 : decode cX7_readValue 93 = .ok (.goto 7, 3) := by decide +kernel
theorem dX7_readValue_96 : decode cX7_readValue 96 = .ok (.aload_n 0, 1) := by decide +kernel
theorem dX7_readValue_97 : decode cX7_readValue 97 = .ok (.getfield 32, 3) := by decide +kernel
theorem dX7_readValue_100 : decode cX7_readValue 100 = .ok (.invokevirtual 114, 3) := by decide +kernel
theorem dX7_readValue_103 : decode cX7_readValue 103 = .ok (.aload_n 0, 1) := by decide +kernel
theorem dX7_readValue_104 : decode cX7_readValue 104 = .ok (.invokevirtual 47, 3) := by decide +kernel
theorem dX7_readValue_107 : decode cX7_readValue 107 = .ok (.iconst 1, 1) := by decide +kernel
theorem dX7_readValue_108 : decode cX7_readValue 108 = .ok (.ireturn, 1) := by decide +kernel
theorem dX8_init_0 : decode cX8_init 0 = .ok (.aload_n 0, 1) := by decide +kernel
theorem dX8_init_1 : decode cX8_init 1 = .ok (.invokespecial 3, 3) := by decide +kernel
theorem dX8_init_4 : decode cX8_init 4 = .ok (.aload_n 0, 1) := by decide +kernel
theorem dX8_init_5 : decode cX8_init 5 = .ok (.iconst 0, 1) := by decide +kernel
theorem dX8_init_6 : decode cX8_init 6 = .ok (.putfield 9, 3) := by decide +kernel
theorem dX8_init_9 : decode cX8_init 9 = .ok (.aload_n 0, 1) := by decide +kernel
theorem dX8_init_10 : decode cX8_init 10 = .ok (.sipush 200, 3) := by decide +kernel
theorem dX8_init_13 : decode cX8_init 13 = .ok (.newarray .int, 2) := by decide +kernel
theorem dX8_init_15 : decode cX8_init 15 = .ok (.putfield 15, 3) := by decide +kernel
theorem dX8_init_18 : decode cX8_init 18 = .ok (.aload_n 0, 1) := by decide +kernel
theorem dX8_init_19 : decode cX8_init 19 = .ok (.sipush 200, 3) := by decide +kernel
theorem dX8_init_22 : decode cX8_init 22 = .ok (.newarray .int, 2) := by decide +kernel
theorem dX8_init_24 : decode cX8_init 24 = .ok (.putfield 19, 3) := by decide +kernel
theorem dX8_init_27 : decode cX8_init 27 = .ok (.aload_n 0, 1) := by decide +kernel
theorem dX8_init_28 : decode cX8_init 28 = .ok (.sipush 200, 3) := by decide +kernel
theorem dX8_init_31 : decode cX8_init 31 = .ok (.newarray .int, 2) := by decide +kernel
theorem dX8_init_33 : decode cX8_init 33 = .ok (.putfield 22, 3) := by decide +kernel
theorem dX8_init_36 : decode cX8_init 36 = .ok (.aload_n 0, 1) := by decide +kernel
theorem dX8_init_37 : decode cX8_init 37 = .ok (.sipush 200, 3) := by decide +kernel
theorem dX8_init_40 : decode cX8_init 40 = .ok (.newarray .int, 2) := by decide +kernel
theorem dX8_init_42 : decode cX8_init 42 = .ok (.putfield 25, 3) := by decide +kernel
theorem dX8_init_45 : decode cX8_init 45 = .ok (.aload_n 0, 1) := by decide +kernel
theorem dX8_init_46 : decode cX8_init 46 = .ok (.sipush 200, 3) := by decide +kernel
theorem dX8_init_49 : decode cX8_init 49 = .ok (.newarray .int, 2) := by decide +kernel
theorem dX8_init_51 : decode cX8_init 51 = .ok (.putfield 28, 3) := by decide +kernel
theorem dX8_init_54 : decode cX8_init 54 = .ok (.aload_n 0, 1) := by decide +kernel
theorem dX8_init_55 : decode cX8_init 55 = .ok (.sipush 200, 3) := by decide +kernel
theorem dX8_init_58 : decode cX8_init 58 = .ok (.newarray .int, 2) := by decide +kernel
theorem dX8_init_60 : decode cX8_init 60 = .ok (.putfield 31, 3) := by decide +kernel
theorem dX8_init_63 : decode cX8_init 63 = .ok (.aload_n 0, 1) := by decide +kernel
theorem dX8_init_64 : decode cX8_init 64 = .ok (.sipush 200, 3) := by decide +kernel
theorem dX8_init_67 : decode cX8_init 67 = .ok (.newarray .int, 2) := by decide +kernel
theorem dX8_init_69 : decode cX8_init 69 = .ok (.putfield 34, 3) := by decide +kernel
theorem dX8_init_72 : decode cX8_init 72 = .ok (.aload_n 0, 1) := by decide +kernel
theorem dX8_init_73 : decode cX8_init 73 = .ok (.sipush 200, 3) := by decide +kernel
theorem dX8_init_76 : decode cX8_init 76 = .ok (.newarray .int, 2) := by decide +kernel
theorem dX8_init_78 : decode cX8_init 78 = .ok (.putfield 37, 3) := by decide +kernel
theorem dX8_init_81 : decode cX8_init 81 = .ok (.aload_n 0, 1) := by decide +kernel
theorem dX8_init_82 : decode cX8_init 82 = .ok (.iconst 0, 1) := by decide +kernel
theorem dX8_init_83 : decode cX8_init 83 = .ok (.putfield 40, 3) := by decide +kernel
theorem dX8_init_86 : decode cX8_init 86 = .ok (.aload_n 0, 1) := by decide +kernel
theorem dX8_init_87 : decode cX8_init 87 = .ok (.bipush 100, 2) := by decide +kernel
theorem dX8_init_89 : decode cX8_init 89 = .ok (.newarray .int, 2) := by decide +kernel
theorem dX8_init_91 : decode cX8_init 91 = .ok (.putfield 43, 3) := by decide +kernel
theorem dX8_init_94 : decode cX8_init 94 = .ok (.aload_n 0, 1) := by decide +kernel
theorem dX8_init_95 : decode cX8_init 95 = .ok (.bipush 100, 2) := by decide +kernel
theorem dX8_init_97 : decode cX8_init 97 = .ok (.newarray .int, 2) := by decide +kernel
theorem dX8_init_99 : decode cX8_init 99 = .ok (.putfield 46, 3) := by decide +kernel
theorem dX8_init_102 : decode cX8_init 102 = .ok (.aload_n 0, 1) := by decide +kernel
theorem dX8_init_103 : decode cX8_init 103 = .ok (.bipush 100, 2) := by decide +kernel
theorem dX8_init_105 : decode cX8_init 105 = .ok (.newarray .boolean, 2) := by decide +kernel
theorem dX8_init_107 : decode cX8_init 107 = .ok (.putfield 49, 3) := by decide +kernel
theorem dX8_init_110 : decode cX8_init 110 = .ok (.aload_n 0, 1) := by decide +kernel
theorem dX8_init_111 : decode cX8_init 111 = .ok (.getfield 34, 3) := by decide +kernel
theorem dX8_init_114 : decode cX8_init 114 = .ok (.iconst (-1), 1) := by decide +kernel
theorem dX8_init_115 : decode cX8_init 115 = .ok (.invokestatic 53, 3) := by decide +kernel
theorem dX8_init_118 : decode cX8_init 118 = .ok (.return_, 1) := by decide +kernel
theorem dX8_put_0 : decode cX8_put 0 = .ok (.aload_n 0, 1) := by decide +kernel
theorem dX8_put_1 : decode cX8_put 1 = .ok (.getfield 9, 3) := by decide +kernel
theorem dX8_put_4 : decode cX8_put 4 = .ok (.sipush 200, 3) := by decide +kernel
theorem dX8_put_7 : decode cX8_put 7 = .ok (.if_icmp .ge 14, 3) := by decide +kernel
theorem dX8_put_10 : decode cX8_put 10 = .ok (.iload_n 1, 1) := by decide +kernel
theorem dX8_put_11 : decode cX8_put 11 = .ok (.iconst 0, 1) := by decide +kernel
theorem dX8_put_12 : decode cX8_put 12 = .ok (.sipush 199, 3) := by decide +kernel
theorem dX8_put_15 : decode cX8_put 15 = .ok (.invokestatic 59, 3) := by decide +kernel
theorem dX8_put_18 : decode cX8_put 18 = .ok (.ifCond .ne 5, 3) := by decide +kernel
theorem dX8_put_21 : decode cX8_put 21 = .ok (.iconst (-1), 1) := by decide +kernel
theorem dX8_put_22 : decode cX8_put 22 = .ok (.ireturn, 1) := by decide +kernel
theorem dX8_put_23 : decode cX8_put 23 = .ok (.aload_n 0, 1) := by decide +kernel
theorem dX8_put_24 : decode cX8_put 24 = .ok (.getfield 9, 3) := by decide +kernel
theorem dX8_put_27 : decode cX8_put 27 = .ok (.istore 4, 2) := by decide +kernel
theorem dX8_put_29 : decode cX8_put 29 = .ok (.aload_n 0, 1) := by decide +kernel
theorem dX8_put_30 : decode cX8_put 30 = .ok (.iload_n 2, 1) := by decide +kernel
theorem dX8_put_31 : decode cX8_put 31 = .ok (.iload_n 3, 1) := by decide +kernel
theorem dX8_put_32 : decode cX8_put 32 = .ok (.invokevirtual 63, 3) := by decide +kernel
theorem dX8_put_35 : decode cX8_put 35 = .ok (.istore 5, 2) := by decide +kernel
theorem dX8_put_37 : decode cX8_put 37 = .ok (.aload_n 0, 1) := by decide +kernel
theorem dX8_put_38 : decode cX8_put 38 = .ok (.getfield 15, 3) := by decide +kernel
theorem dX8_put_41 : decode cX8_put 41 = .ok (.iload 4, 2) := by decide +kernel
theorem dX8_put_43 : decode cX8_put 43 = .ok (.iload_n 1, 1) := by decide +kernel
theorem dX8_put_44 : decode cX8_put 44 = .ok (.iastore, 1) := by decide +kernel
theorem dX8_put_45 : decode cX8_put 45 = .ok (.aload_n 0, 1) := by decide +kernel
theorem dX8_put_46 : decode cX8_put 46 = .ok (.getfield 19, 3) := by decide +kernel
theorem dX8_put_49 : decode cX8_put 49 = .ok (.iload 4, 2) := by decide +kernel
theorem dX8_put_51 : decode cX8_put 51 = .ok (.iload_n 2, 1) := by decide +kernel
theorem dX8_put_52 : decode cX8_put 52 = .ok (.iastore, 1) := by decide +kernel
theorem dX8_put_53 : decode cX8_put 53 = .ok (.aload_n 0, 1) := by decide +kernel
theorem dX8_put_54 : decode cX8_put 54 = .ok (.getfield 22, 3) := by decide +kernel
theorem dX8_put_57 : decode cX8_put 57 = .ok (.iload 4, 2) := by decide +kernel
theorem dX8_put_59 : decode cX8_put 59 = .ok (.iload_n 3, 1) := by decide +kernel
theorem dX8_put_60 : decode cX8_put 60 = .ok (.iastore, 1) := by decide +kernel
theorem dX8_put_61 : decode cX8_put 61 = .ok (.aload_n 0, 1) := by decide +kernel
theorem dX8_put_62 : decode cX8_put 62 = .ok (.getfield 25, 3) := by decide +kernel
theorem dX8_put_65 : decode cX8_put 65 = .ok (.iload 4, 2) := by decide +kernel
theorem dX8_put_67 : decode cX8_put 67 = .ok (.iload 5, 2) := by decide +kernel
theorem dX8_put_69 : decode cX8_put 69 = .ok (.iastore, 1) := by decide +kernel
theorem dX8_put_70 : decode cX8_put 70 = .ok (.aload_n 0, 1) := by decide +kernel
theorem dX8_put_71 : decode cX8_put 71 = .ok (.getfield 28, 3) := by decide +kernel
theorem dX8_put_74 : decode cX8_put 74 = .ok (.iload 4, 2) := by decide +kernel
theorem dX8_put_76 : decode cX8_put 76 = .ok (.aload_n 0, 1) := by decide +kernel
theorem dX8_put_77 : decode cX8_put 77 = .ok (.getfield 34, 3) := by decide +kernel
theorem dX8_put_80 : decode cX8_put 80 = .ok (.iload_n 1, 1) := by decide +kernel
theorem dX8_put_81 : decode cX8_put 81 = .ok (.iaload, 1) := by decide +kernel
theorem dX8_put_82 : decode cX8_put 82 = .ok (.iastore, 1) := by decide +kernel
theorem dX8_put_83 : decode cX8_put 83 = .ok (.aload_n 0, 1) := by decide +kernel
theorem dX8_put_84 : decode cX8_put 84 = .ok (.getfield 34, 3) := by decide +kernel
theorem dX8_put_87 : decode cX8_put 87 = .ok (.iload_n 1, 1) := by decide +kernel
theorem dX8_put_88 : decode cX8_put 88 = .ok (.iload 4, 2) := by decide +kernel
theorem dX8_put_90 : decode cX8_put 90 = .ok (.iastore, 1) := by decide +kernel
theorem dX8_put_91 : decode cX8_put 91 = .ok (.aload_n 0, 1) := by decide +kernel
theorem dX8_put_92 : decode cX8_put 92 = .ok (.getfield 31, 3) := by decide +kernel
theorem dX8_put_95 : decode cX8_put 95 = .ok (.iload 4, 2) := by decide +kernel
theorem dX8_put_97 : decode cX8_put 97 = .ok (.iload 5, 2) := by decide +kernel
theorem dX8_put_99 : decode cX8_put 99 = .ok (.iload 4, 2) := by decide +kernel
theorem dX8_put_101 : decode cX8_put 101 = .ok (.if_icmp .ge 13, 3) := by decide +kernel
theorem dX8_put_104 : decode cX8_put 104 = .ok (.aload_n 0, 1) := by decide +kernel
theorem dX8_put_105 : decode cX8_put 105 = .ok (.getfield 37, 3) := by decide +kernel
theorem dX8_put_108 : decode cX8_put 108 = .ok (.iload 5, 2) := by decide +kernel
theorem dX8_put_110 : decode cX8_put 110 = .ok (.iaload, 1) := by decide +kernel
theorem dX8_put_111 : decode cX8_put 111 = .ok (.goto 4, 3) := by decide +kernel
theorem dX8_put_114 : decode cX8_put 114 = .ok (.iconst (-1), 1) := by decide +kernel
theorem dX8_put_115 : decode cX8_put 115 = .ok (.iastore, 1) := by decide +kernel
theorem dX8_put_116 : decode cX8_put 116 = .ok (.aload_n 0, 1) := by decide +kernel
theorem dX8_put_117 : decode cX8_put 117 = .ok (.getfield 37, 3) := by decide +kernel
theorem dX8_put_120 : decode cX8_put 120 = .ok (.iload 5, 2) := by decide +kernel
theorem dX8_put_122 : decode cX8_put 122 = .ok (.iload 4, 2) := by decide +kernel
theorem dX8_put_124 : decode cX8_put 124 = .ok (.iastore, 1) := by decide +kernel
theorem dX8_put_125 : decode cX8_put 125 = .ok (.aload_n 0, 1) := by decide +kernel
theorem dX8_put_126 : decode cX8_put 126 = .ok (.iload 4, 2) := by decide +kernel
theorem dX8_put_128 : decode cX8_put 128 = .ok (.iconst 1, 1) := by decide +kernel
theorem dX8_put_129 : decode cX8_put 129 = .ok (.iadd, 1) := by decide +kernel
theorem dX8_put_130 : decode cX8_put 130 = .ok (.putfield 9, 3) := by decide +kernel
theorem dX8_put_133 : decode cX8_put 133 = .ok (.iload 4, 2) := by decide +kernel
theorem dX8_put_135 : decode cX8_put 135 = .ok (.ireturn, 1) := by decide +kernel
theorem dX8_findTurn_0 : decode cX8_findTurn 0 = .ok (.iconst 0, 1) := by decide +kernel
theorem dX8_findTurn_1 : decode cX8_findTurn 1 = .ok (.istore_n 3, 1) := by decide +kernel
theorem dX8_findTurn_2 : decode cX8_findTurn 2 = .ok (.iload_n 3, 1) := by decide +kernel
theorem dX8_findTurn_3 : decode cX8_findTurn 3 = .ok (.aload_n 0, 1) := by decide +kernel
theorem dX8_findTurn_4 : decode cX8_findTurn 4 = .ok (.getfield 9, 3) := by decide +kernel
theorem dX8_findTurn_7 : decode cX8_findTurn 7 = .ok (.if_icmp .ge 31, 3) := by decide +kernel
theorem dX8_findTurn_10 : decode cX8_findTurn 10 = .ok (.aload_n 0, 1) := by decide +kernel
theorem dX8_findTurn_11 : decode cX8_findTurn 11 = .ok (.getfield 19, 3) := by decide +kernel
theorem dX8_findTurn_14 : decode cX8_findTurn 14 = .ok (.iload_n 3, 1) := by decide +kernel
theorem dX8_findTurn_15 : decode cX8_findTurn 15 = .ok (.iaload, 1) := by decide +kernel
theorem dX8_findTurn_16 : decode cX8_findTurn 16 = .ok (.iload_n 1, 1) := by decide +kernel
theorem dX8_findTurn_17 : decode cX8_findTurn 17 = .ok (.if_icmp .ne 15, 3) := by decide +kernel
theorem dX8_findTurn_20 : decode cX8_findTurn 20 = .ok (.aload_n 0, 1) := by decide +kernel
theorem dX8_findTurn_21 : decode cX8_findTurn 21 = .ok (.getfield 22, 3) := by decide +kernel
theorem dX8_findTurn_24 : decode cX8_findTurn 24 = .ok (.iload_n 3, 1) := by decide +kernel
theorem dX8_findTurn_25 : decode cX8_findTurn 25 = .ok (.iaload, 1) := by decide +kernel
theorem dX8_findTurn_26 : decode cX8_findTurn 26 = .ok (.iload_n 2, 1) := by decide +kernel
theorem dX8_findTurn_27 : decode cX8_findTurn 27 = .ok (.if_icmp .ne 5, 3) := by decide +kernel
theorem dX8_findTurn_30 : decode cX8_findTurn 30 = .ok (.iload_n 3, 1) := by decide +kernel
theorem dX8_findTurn_31 : decode cX8_findTurn 31 = .ok (.ireturn, 1) := by decide +kernel
theorem dX8_findTurn_32 : decode cX8_findTurn 32 = .ok (.iinc 3 1, 3) := by decide +kernel
theorem dX8_findTurn_35 : decode cX8_findTurn 35 = .ok (.goto (-33), 3) := by decide +kernel
theorem dX8_findTurn_38 : decode cX8_findTurn 38 = .ok (.aload_n 0, 1) := by decide +kernel
theorem dX8_findTurn_39 : decode cX8_findTurn 39 = .ok (.getfield 9, 3) := by decide +kernel
theorem dX8_findTurn_42 : decode cX8_findTurn 42 = .ok (.ireturn, 1) := by decide +kernel
theorem dX8_putSeen_0 : decode cX8_putSeen 0 = .ok (.aload_n 0, 1) := by decide +kernel
theorem dX8_putSeen_1 : decode cX8_putSeen 1 = .ok (.getfield 40, 3) := by decide +kernel
theorem dX8_putSeen_4 : decode cX8_putSeen 4 = .ok (.bipush 100, 2) := by decide +kernel
theorem dX8_putSeen_6 : decode cX8_putSeen 6 = .ok (.if_icmp .lt 5, 3) := by decide +kernel
theorem dX8_putSeen_9 : decode cX8_putSeen 9 = .ok (.iconst (-1), 1) := by decide +kernel
theorem dX8_putSeen_10 : decode cX8_putSeen 10 = .ok (.ireturn, 1) := by decide +kernel
theorem dX8_putSeen_11 : decode cX8_putSeen 11 = .ok (.aload_n 0, 1) := by decide +kernel
theorem dX8_putSeen_12 : decode cX8_putSeen 12 = .ok (.getfield 43, 3) := by decide +kernel
theorem dX8_putSeen_15 : decode cX8_putSeen 15 = .ok (.aload_n 0, 1) := by decide +kernel
theorem dX8_putSeen_16 : decode cX8_putSeen 16 = .ok (.getfield 40, 3) := by decide +kernel
theorem dX8_putSeen_19 : decode cX8_putSeen 19 = .ok (.iload_n 1, 1) := by decide +kernel
theorem dX8_putSeen_20 : decode cX8_putSeen 20 = .ok (.iastore, 1) := by decide +kernel
theorem dX8_putSeen_21 : decode cX8_putSeen 21 = .ok (.aload_n 0, 1) := by decide +kernel
theorem dX8_putSeen_22 : decode cX8_putSeen 22 = .ok (.getfield 46, 3) := by decide +kernel
theorem dX8_putSeen_25 : decode cX8_putSeen 25 = .ok (.aload_n 0, 1) := by decide +kernel
theorem dX8_putSeen_26 : decode cX8_putSeen 26 = .ok (.getfield 40, 3) := by decide +kernel
theorem dX8_putSeen_29 : decode cX8_putSeen 29 = .ok (.iload_n 2, 1) := by decide +kernel
theorem dX8_putSeen_30 : decode cX8_putSeen 30 = .ok (.iastore, 1) := by decide +kernel
theorem dX8_putSeen_31 : decode cX8_putSeen 31 = .ok (.aload_n 0, 1) := by decide +kernel
theorem dX8_putSeen_32 : decode cX8_putSeen 32 = .ok (.getfield 49, 3) := by decide +kernel
theorem dX8_putSeen_35 : decode cX8_putSeen 35 = .ok (.aload_n 0, 1) := by decide +kernel
theorem dX8_putSeen_36 : decode cX8_putSeen 36 = .ok (.getfield 40, 3) := by decide +kernel
theorem dX8_putSeen_39 : decode cX8_putSeen 39 = .ok (.iload_n 3, 1) := by decide +kernel
theorem dX8_putSeen_40 : decode cX8_putSeen 40 = .ok (.bastore, 1) := by decide +kernel
theorem dX8_putSeen_41 : decode cX8_putSeen 41 = .ok (.aload_n 0, 1) := by decide +kernel
theorem dX8_putSeen_42 : decode cX8_putSeen 42 = .ok (.dup, 1) := by decide +kernel
theorem dX8_putSeen_43 : decode cX8_putSeen 43 = .ok (.getfield 40, 3) := by decide +kernel
theorem dX8_putSeen_46 : decode cX8_putSeen 46 = .ok (.iconst 1, 1) := by decide +kernel
theorem dX8_putSeen_47 : decode cX8_putSeen 47 = .ok (.iadd, 1) := by decide +kernel
theorem dX8_putSeen_48 : decode cX8_putSeen 48 = .ok (.putfield 40, 3) := by decide +kernel
theorem dX8_putSeen_51 : decode cX8_putSeen 51 = .ok (.aload_n 0, 1) := by decide +kernel
theorem dX8_putSeen_52 : decode cX8_putSeen 52 = .ok (.getfield 40, 3) := by decide +kernel
theorem dX8_putSeen_55 : decode cX8_putSeen 55 = .ok (.ireturn, 1) := by decide +kernel
theorem dX8_tasksOf_0 : decode cX8_tasksOf 0 = .ok (.iconst 0, 1) := by decide +kernel
theorem dX8_tasksOf_1 : decode cX8_tasksOf 1 = .ok (.istore_n 2, 1) := by decide +kernel
theorem dX8_tasksOf_2 : decode cX8_tasksOf 2 = .ok (.iconst 0, 1) := by decide +kernel
theorem dX8_tasksOf_3 : decode cX8_tasksOf 3 = .ok (.istore_n 3, 1) := by decide +kernel
theorem dX8_tasksOf_4 : decode cX8_tasksOf 4 = .ok (.iload_n 3, 1) := by decide +kernel
theorem dX8_tasksOf_5 : decode cX8_tasksOf 5 = .ok (.bipush 10, 2) := by decide +kernel
theorem dX8_tasksOf_7 : decode cX8_tasksOf 7 = .ok (.if_icmp .ge 46, 3) := by decide +kernel
theorem dX8_tasksOf_10 : decode cX8_tasksOf 10 = .ok (.iload_n 1, 1) := by decide +kernel
theorem dX8_tasksOf_11 : decode cX8_tasksOf 11 = .ok (.bipush 10, 2) := by decide +kernel
theorem dX8_tasksOf_13 : decode cX8_tasksOf 13 = .ok (.imul, 1) := by decide +kernel
theorem dX8_tasksOf_14 : decode cX8_tasksOf 14 = .ok (.iload_n 3, 1) := by decide +kernel
theorem dX8_tasksOf_15 : decode cX8_tasksOf 15 = .ok (.iadd, 1) := by decide +kernel
theorem dX8_tasksOf_16 : decode cX8_tasksOf 16 = .ok (.istore 4, 2) := by decide +kernel
theorem dX8_tasksOf_18 : decode cX8_tasksOf 18 = .ok (.iload 4, 2) := by decide +kernel
theorem dX8_tasksOf_20 : decode cX8_tasksOf 20 = .ok (.iconst 0, 1) := by decide +kernel
theorem dX8_tasksOf_21 : decode cX8_tasksOf 21 = .ok (.sipush 199, 3) := by decide +kernel
theorem dX8_tasksOf_24 : decode cX8_tasksOf 24 = .ok (.invokestatic 59, 3) := by decide +kernel
theorem dX8_tasksOf_27 : decode cX8_tasksOf 27 = .ok (.ifCond .eq 20, 3) := by decide +kernel
theorem dX8_tasksOf_30 : decode cX8_tasksOf 30 = .ok (.aload_n 0, 1) := by decide +kernel
theorem dX8_tasksOf_31 : decode cX8_tasksOf 31 = .ok (.getfield 34, 3) := by decide +kernel
theorem dX8_tasksOf_34 : decode cX8_tasksOf 34 = .ok (.iload 4, 2) := by decide +kernel
theorem dX8_tasksOf_36 : decode cX8_tasksOf 36 = .ok (.iaload, 1) := by decide +kernel
theorem dX8_tasksOf_37 : decode cX8_tasksOf 37 = .ok (.iconst (-1), 1) := by decide +kernel
theorem dX8_tasksOf_38 : decode cX8_tasksOf 38 = .ok (.if_icmp .eq 9, 3) := by decide +kernel
theorem dX8_tasksOf_41 : decode cX8_tasksOf 41 = .ok (.iload_n 2, 1) := by decide +kernel
theorem dX8_tasksOf_42 : decode cX8_tasksOf 42 = .ok (.iconst 1, 1) := by decide +kernel
theorem dX8_tasksOf_43 : decode cX8_tasksOf 43 = .ok (.iload_n 3, 1) := by decide +kernel
theorem dX8_tasksOf_44 : decode cX8_tasksOf 44 = .ok (.ishl, 1) := by decide +kernel
theorem dX8_tasksOf_45 : decode cX8_tasksOf 45 = .ok (.ior, 1) := by decide +kernel
theorem dX8_tasksOf_46 : decode cX8_tasksOf 46 = .ok (.istore_n 2, 1) := by decide +kernel
theorem dX8_tasksOf_47 : decode cX8_tasksOf 47 = .ok (.iinc 3 1, 3) := by decide +kernel
theorem dX8_tasksOf_50 : decode cX8_tasksOf 50 = .ok (.goto (-46), 3) := by decide +kernel
theorem dX8_tasksOf_53 : decode cX8_tasksOf 53 = .ok (.iload_n 2, 1) := by decide +kernel
theorem dX8_tasksOf_54 : decode cX8_tasksOf 54 = .ok (.ireturn, 1) := by decide +kernel
theorem dX8_forgetFrom_0 : decode cX8_forgetFrom 0 = .ok (.aload_n 0, 1) := by decide +kernel
theorem dX8_forgetFrom_1 : decode cX8_forgetFrom 1 = .ok (.getfield 9, 3) := by decide +kernel
theorem dX8_forgetFrom_4 : decode cX8_forgetFrom 4 = .ok (.istore_n 2, 1) := by decide +kernel
theorem dX8_forgetFrom_5 : decode cX8_forgetFrom 5 = .ok (.aload_n 0, 1) := by decide +kernel
theorem dX8_forgetFrom_6 : decode cX8_forgetFrom 6 = .ok (.iconst 0, 1) := by decide +kernel
theorem dX8_forgetFrom_7 : decode cX8_forgetFrom 7 = .ok (.putfield 9, 3) := by decide +kernel
theorem dX8_forgetFrom_10 : decode cX8_forgetFrom 10 = .ok (.aload_n 0, 1) := by decide +kernel
theorem dX8_forgetFrom_11 : decode cX8_forgetFrom 11 = .ok (.getfield 34, 3) := by decide +kernel
theorem dX8_forgetFrom_14 : decode cX8_forgetFrom 14 = .ok (.iconst (-1), 1) := by decide +kernel
theorem dX8_forgetFrom_15 : decode cX8_forgetFrom 15 = .ok (.invokestatic 53, 3) := by decide +kernel
theorem dX8_forgetFrom_18 : decode cX8_forgetFrom 18 = .ok (.iconst 0, 1) := by decide +kernel
theorem dX8_forgetFrom_19 : decode cX8_forgetFrom 19 = .ok (.istore_n 3, 1) := by decide +kernel
theorem dX8_forgetFrom_20 : decode cX8_forgetFrom 20 = .ok (.iload_n 3, 1) := by decide +kernel
theorem dX8_forgetFrom_21 : decode cX8_forgetFrom 21 = .ok (.iload_n 2, 1) := by decide +kernel
theorem dX8_forgetFrom_22 : decode cX8_forgetFrom 22 = .ok (.if_icmp .ge 52, 3) := by decide +kernel
theorem dX8_forgetFrom_25 : decode cX8_forgetFrom 25 = .ok (.iload_n 3, 1) := by decide +kernel
theorem dX8_forgetFrom_26 : decode cX8_forgetFrom 26 = .ok (.sipush 200, 3) := by decide +kernel
theorem dX8_forgetFrom_29 : decode cX8_forgetFrom 29 = .ok (.if_icmp .ge 45, 3) := by decide +kernel
theorem dX8_forgetFrom_32 : decode cX8_forgetFrom 32 = .ok (.aload_n 0, 1) := by decide +kernel
theorem dX8_forgetFrom_33 : decode cX8_forgetFrom 33 = .ok (.getfield 15, 3) := by decide +kernel
theorem dX8_forgetFrom_36 : decode cX8_forgetFrom 36 = .ok (.iload_n 3, 1) := by decide +kernel
theorem dX8_forgetFrom_37 : decode cX8_forgetFrom 37 = .ok (.iaload, 1) := by decide +kernel
theorem dX8_forgetFrom_38 : decode cX8_forgetFrom 38 = .ok (.iload_n 1, 1) := by decide +kernel
theorem dX8_forgetFrom_39 : decode cX8_forgetFrom 39 = .ok (.bipush 10, 2) := by decide +kernel
theorem dX8_forgetFrom_41 : decode cX8_forgetFrom 41 = .ok (.imul, 1) := by decide +kernel
theorem dX8_forgetFrom_42 : decode cX8_forgetFrom 42 = .ok (.if_icmp .ge 26, 3) := by decide +kernel
theorem dX8_forgetFrom_45 : decode cX8_forgetFrom 45 = .ok (.aload_n 0, 1) := by decide +kernel
theorem dX8_forgetFrom_46 : decode cX8_forgetFrom 46 = .ok (.aload_n 0, 1) := by decide +kernel
theorem dX8_forgetFrom_47 : decode cX8_forgetFrom 47 = .ok (.getfield 15, 3) := by decide +kernel
theorem dX8_forgetFrom_50 : decode cX8_forgetFrom 50 = .ok (.iload_n 3, 1) := by decide +kernel
theorem dX8_forgetFrom_51 : decode cX8_forgetFrom 51 = .ok (.iaload, 1) := by decide +kernel
theorem dX8_forgetFrom_52 : decode cX8_forgetFrom 52 = .ok (.aload_n 0, 1) := by decide +kernel
theorem dX8_forgetFrom_53 : decode cX8_forgetFrom 53 = .ok (.getfield 19, 3) := by decide +kernel
theorem dX8_forgetFrom_56 : decode cX8_forgetFrom 56 = .ok (.iload_n 3, 1) := by decide +kernel
theorem dX8_forgetFrom_57 : decode cX8_forgetFrom 57 = .ok (.iaload, 1) := by decide +kernel
theorem dX8_forgetFrom_58 : decode cX8_forgetFrom 58 = .ok (.aload_n 0, 1) := by decide +kernel
theorem dX8_forgetFrom_59 : decode cX8_forgetFrom 59 = .ok (.getfield 22, 3) := by decide +kernel
theorem dX8_forgetFrom_62 : decode cX8_forgetFrom 62 = .ok (.iload_n 3, 1) := by decide +kernel
theorem dX8_forgetFrom_63 : decode cX8_forgetFrom 63 = .ok (.iaload, 1) := by decide +kernel
theorem dX8_forgetFrom_64 : decode cX8_forgetFrom 64 = .ok (.invokevirtual 67, 3) := by decide +kernel
theorem dX8_forgetFrom_67 : decode cX8_forgetFrom 67 = .ok (.pop, 1) := by decide +kernel
theorem dX8_forgetFrom_68 : decode cX8_forgetFrom 68 = .ok (.iinc 3 1, 3) := by decide +kernel
theorem dX8_forgetFrom_71 : decode cX8_forgetFrom 71 = .ok (.goto (-51), 3) := by decide +kernel
theorem dX8_forgetFrom_74 : decode cX8_forgetFrom 74 = .ok (.aload_n 0, 1) := by decide +kernel
theorem dX8_forgetFrom_75 : decode cX8_forgetFrom 75 = .ok (.getfield 40, 3) := by decide +kernel
theorem dX8_forgetFrom_78 : decode cX8_forgetFrom 78 = .ok (.istore_n 3, 1) := by decide +kernel
theorem dX8_forgetFrom_79 : decode cX8_forgetFrom 79 = .ok (.aload_n 0, 1) := by decide +kernel
theorem dX8_forgetFrom_80 : decode cX8_forgetFrom 80 = .ok (.iconst 0, 1) := by decide +kernel
theorem dX8_forgetFrom_81 : decode cX8_forgetFrom 81 = .ok (.putfield 40, 3) := by decide +kernel
theorem dX8_forgetFrom_84 : decode cX8_forgetFrom 84 = .ok (.iconst 0, 1) := by decide +kernel
theorem dX8_forgetFrom_85 : decode cX8_forgetFrom 85 = .ok (.istore 4, 2) := by decide +kernel
theorem dX8_forgetFrom_87 : decode cX8_forgetFrom 87 = .ok (.iload 4, 2) := by decide +kernel
theorem dX8_forgetFrom_89 : decode cX8_forgetFrom 89 = .ok (.iload_n 3, 1) := by decide +kernel
theorem dX8_forgetFrom_90 : decode cX8_forgetFrom 90 = .ok (.if_icmp .ge 56, 3) := by decide +kernel
theorem dX8_forgetFrom_93 : decode cX8_forgetFrom 93 = .ok (.iload 4, 2) := by decide +kernel
theorem dX8_forgetFrom_95 : decode cX8_forgetFrom 95 = .ok (.bipush 100, 2) := by decide +kernel
theorem dX8_forgetFrom_97 : decode cX8_forgetFrom 97 = .ok (.if_icmp .ge 49, 3) := by decide +kernel
theorem dX8_forgetFrom_100 : decode cX8_forgetFrom 100 = .ok (.aload_n 0, 1) := by decide +kernel
theorem dX8_forgetFrom_101 : decode cX8_forgetFrom 101 = .ok (.getfield 43, 3) := by decide +kernel
theorem dX8_forgetFrom_104 : decode cX8_forgetFrom 104 = .ok (.iload 4, 2) := by decide +kernel
theorem dX8_forgetFrom_106 : decode cX8_forgetFrom 106 = .ok (.iaload, 1) := by decide +kernel
theorem dX8_forgetFrom_107 : decode cX8_forgetFrom 107 = .ok (.iload_n 1, 1) := by decide +kernel
theorem dX8_forgetFrom_108 : decode cX8_forgetFrom 108 = .ok (.bipush 10, 2) := by decide +kernel
theorem dX8_forgetFrom_110 : decode cX8_forgetFrom 110 = .ok (.imul, 1) := by decide +kernel
theorem dX8_forgetFrom_111 : decode cX8_forgetFrom 111 = .ok (.if_icmp .ge 29, 3) := by decide +kernel
theorem dX8_forgetFrom_114 : decode cX8_forgetFrom 114 = .ok (.aload_n 0, 1) := by decide +kernel
theorem dX8_forgetFrom_115 : decode cX8_forgetFrom 115 = .ok (.aload_n 0, 1) := by decide +kernel
theorem dX8_forgetFrom_116 : decode cX8_forgetFrom 116 = .ok (.getfield 43, 3) := by decide +kernel
theorem dX8_forgetFrom_119 : decode cX8_forgetFrom 119 = .ok (.iload 4, 2) := by decide +kernel
theorem dX8_forgetFrom_121 : decode cX8_forgetFrom 121 = .ok (.iaload, 1) := by decide +kernel
theorem dX8_forgetFrom_122 : decode cX8_forgetFrom 122 = .ok (.aload_n 0, 1) := by decide +kernel
theorem dX8_forgetFrom_123 : decode cX8_forgetFrom 123 = .ok (.getfield 46, 3) := by decide +kernel
theorem dX8_forgetFrom_126 : decode cX8_forgetFrom 126 = .ok (.iload 4, 2) := by decide +kernel
theorem dX8_forgetFrom_128 : decode cX8_forgetFrom 128 = .ok (.iaload, 1) := by decide +kernel
theorem dX8_forgetFrom_129 : decode cX8_forgetFrom 129 = .ok (.aload_n 0, 1) := by decide +kernel
theorem dX8_forgetFrom_130 : decode cX8_forgetFrom 130 = .ok (.getfield 49, 3) := by decide +kernel
theorem dX8_forgetFrom_133 : decode cX8_forgetFrom 133 = .ok (.iload 4, 2) := by decide +kernel
theorem dX8_forgetFrom_135 : decode cX8_forgetFrom 135 = .ok (.baload, 1) := by decide +kernel
theorem dX8_forgetFrom_136 : decode cX8_forgetFrom 136 = .ok (.invokevirtual 71, 3) := by decide +kernel
theorem dX8_forgetFrom_139 : decode cX8_forgetFrom 139 = .ok (.pop, 1) := by decide +kernel
theorem dX8_forgetFrom_140 : decode cX8_forgetFrom 140 = .ok (.iinc 4 1, 3) := by decide +kernel
theorem dX8_forgetFrom_143 : decode cX8_forgetFrom 143 = .ok (.goto (-56), 3) := by decide +kernel
theorem dX8_forgetFrom_146 : decode cX8_forgetFrom 146 = .ok (.return_, 1) := by decide +kernel
theorem dX9_init_0 : decode cX9_init 0 = .ok (.aload_n 0, 1) := by decide +kernel
theorem dX9_init_1 : decode cX9_init 1 = .ok (.invokespecial 3, 3) := by decide +kernel
theorem dX9_init_4 : decode cX9_init 4 = .ok (.aload_n 0, 1) := by decide +kernel
theorem dX9_init_5 : decode cX9_init 5 = .ok (.iconst 0, 1) := by decide +kernel
theorem dX9_init_6 : decode cX9_init 6 = .ok (.putfield 9, 3) := by decide +kernel
theorem dX9_init_9 : decode cX9_init 9 = .ok (.aload_n 0, 1) := by decide +kernel
theorem dX9_init_10 : decode cX9_init 10 = .ok (.iconst 0, 1) := by decide +kernel
theorem dX9_init_11 : decode cX9_init 11 = .ok (.putfield 15, 3) := by decide +kernel
theorem dX9_init_14 : decode cX9_init 14 = .ok (.aload_n 0, 1) := by decide +kernel
theorem dX9_init_15 : decode cX9_init 15 = .ok (.iconst 0, 1) := by decide +kernel
theorem dX9_init_16 : decode cX9_init 16 = .ok (.putfield 18, 3) := by decide +kernel
theorem dX9_init_19 : decode cX9_init 19 = .ok (.aload_n 0, 1) := by decide +kernel
theorem dX9_init_20 : decode cX9_init 20 = .ok (.sipush 400, 3) := by decide +kernel
theorem dX9_init_23 : decode cX9_init 23 = .ok (.newarray .int, 2) := by decide +kernel
theorem dX9_init_25 : decode cX9_init 25 = .ok (.putfield 21, 3) := by decide +kernel
theorem dX9_init_28 : decode cX9_init 28 = .ok (.aload_n 0, 1) := by decide +kernel
theorem dX9_init_29 : decode cX9_init 29 = .ok (.sipush 401, 3) := by decide +kernel
theorem dX9_init_32 : decode cX9_init 32 = .ok (.newarray .int, 2) := by decide +kernel
theorem dX9_init_34 : decode cX9_init 34 = .ok (.putfield 25, 3) := by decide +kernel
theorem dX9_init_37 : decode cX9_init 37 = .ok (.aload_n 0, 1) := by decide +kernel
theorem dX9_init_38 : decode cX9_init 38 = .ok (.sipush 401, 3) := by decide +kernel
theorem dX9_init_41 : decode cX9_init 41 = .ok (.newarray .int, 2) := by decide +kernel
theorem dX9_init_43 : decode cX9_init 43 = .ok (.putfield 28, 3) := by decide +kernel
theorem dX9_init_46 : decode cX9_init 46 = .ok (.aload_n 0, 1) := by decide +kernel
theorem dX9_init_47 : decode cX9_init 47 = .ok (.sipush 401, 3) := by decide +kernel
theorem dX9_init_50 : decode cX9_init 50 = .ok (.newarray .int, 2) := by decide +kernel
theorem dX9_init_52 : decode cX9_init 52 = .ok (.putfield 31, 3) := by decide +kernel
theorem dX9_init_55 : decode cX9_init 55 = .ok (.return_, 1) := by decide +kernel
theorem dX9_put_0 : decode cX9_put 0 = .ok (.bipush 24, 2) := by decide +kernel
theorem dX9_put_2 : decode cX9_put 2 = .ok (.istore_n 2, 1) := by decide +kernel
theorem dX9_put_3 : decode cX9_put 3 = .ok (.iload_n 2, 1) := by decide +kernel
theorem dX9_put_4 : decode cX9_put 4 = .ok (.ifCond .lt 45, 3) := by decide +kernel
theorem dX9_put_7 : decode cX9_put 7 = .ok (.aload_n 0, 1) := by decide +kernel
theorem dX9_put_8 : decode cX9_put 8 = .ok (.getfield 9, 3) := by decide +kernel
theorem dX9_put_11 : decode cX9_put 11 = .ok (.sipush 400, 3) := by decide +kernel
theorem dX9_put_14 : decode cX9_put 14 = .ok (.if_icmp .ge 35, 3) := by decide +kernel
theorem dX9_put_17 : decode cX9_put 17 = .ok (.aload_n 0, 1) := by decide +kernel
theorem dX9_put_18 : decode cX9_put 18 = .ok (.getfield 21, 3) := by decide +kernel
theorem dX9_put_21 : decode cX9_put 21 = .ok (.aload_n 0, 1) := by decide +kernel
theorem dX9_put_22 : decode cX9_put 22 = .ok (.getfield 9, 3) := by decide +kernel
theorem dX9_put_25 : decode cX9_put 25 = .ok (.iload_n 1, 1) := by decide +kernel
theorem dX9_put_26 : decode cX9_put 26 = .ok (.iload_n 2, 1) := by decide +kernel
theorem dX9_put_27 : decode cX9_put 27 = .ok (.iushr, 1) := by decide +kernel
theorem dX9_put_28 : decode cX9_put 28 = .ok (.sipush 255, 3) := by decide +kernel
theorem dX9_put_31 : decode cX9_put 31 = .ok (.iand, 1) := by decide +kernel
theorem dX9_put_32 : decode cX9_put 32 = .ok (.iastore, 1) := by decide +kernel
theorem dX9_put_33 : decode cX9_put 33 = .ok (.aload_n 0, 1) := by decide +kernel
theorem dX9_put_34 : decode cX9_put 34 = .ok (.dup, 1) := by decide +kernel
theorem dX9_put_35 : decode cX9_put 35 = .ok (.getfield 9, 3) := by decide +kernel
theorem dX9_put_38 : decode cX9_put 38 = .ok (.iconst 1, 1) := by decide +kernel
theorem dX9_put_39 : decode cX9_put 39 = .ok (.iadd, 1) := by decide +kernel
theorem dX9_put_40 : decode cX9_put 40 = .ok (.putfield 9, 3) := by decide +kernel
theorem dX9_put_43 : decode cX9_put 43 = .ok (.iinc 2 (-8), 3) := by decide +kernel
theorem dX9_put_46 : decode cX9_put 46 = .ok (.goto (-43), 3) := by decide +kernel
theorem dX9_put_49 : decode cX9_put 49 = .ok (.return_, 1) := by decide +kernel
theorem dX9_split_0 : decode cX9_split 0 = .ok (.aload_n 0, 1) := by decide +kernel
theorem dX9_split_1 : decode cX9_split 1 = .ok (.iconst 0, 1) := by decide +kernel
theorem dX9_split_2 : decode cX9_split 2 = .ok (.putfield 18, 3) := by decide +kernel
theorem dX9_split_5 : decode cX9_split 5 = .ok (.aload_n 0, 1) := by decide +kernel
theorem dX9_split_6 : decode cX9_split 6 = .ok (.iconst 0, 1) := by decide +kernel
theorem dX9_split_7 : decode cX9_split 7 = .ok (.putfield 15, 3) := by decide +kernel
theorem dX9_split_10 : decode cX9_split 10 = .ok (.iconst 0, 1) := by decide +kernel
theorem dX9_split_11 : decode cX9_split 11 = .ok (.istore_n 1, 1) := by decide +kernel
theorem dX9_split_12 : decode cX9_split 12 = .ok (.iload_n 1, 1) := by decide +kernel
theorem dX9_split_13 : decode cX9_split 13 = .ok (.sipush 400, 3) := by decide +kernel
theorem dX9_split_16 : decode cX9_split 16 = .ok (.if_icmp .gt 52, 3) := by decide +kernel
theorem dX9_split_19 : decode cX9_split 19 = .ok (.aload_n 0, 1) := by decide +kernel
theorem dX9_split_20 : decode cX9_split 20 = .ok (.invokevirtual 34, 3) := by decide +kernel
theorem dX9_split_23 : decode cX9_split 23 = .ok (.aload_n 0, 1) := by decide +kernel
theorem dX9_split_24 : decode cX9_split 24 = .ok (.getfield 28, 3) := by decide +kernel
theorem dX9_split_27 : decode cX9_split 27 = .ok (.iload_n 1, 1) := by decide +kernel
theorem dX9_split_28 : decode cX9_split 28 = .ok (.aload_n 0, 1) := by decide +kernel
theorem dX9_split_29 : decode cX9_split 29 = .ok (.getfield 18, 3) := by decide +kernel
theorem dX9_split_32 : decode cX9_split 32 = .ok (.iastore, 1) := by decide +kernel
theorem dX9_split_33 : decode cX9_split 33 = .ok (.aload_n 0, 1) := by decide +kernel
theorem dX9_split_34 : decode cX9_split 34 = .ok (.getfield 25, 3) := by decide +kernel
theorem dX9_split_37 : decode cX9_split 37 = .ok (.iload_n 1, 1) := by decide +kernel
theorem dX9_split_38 : decode cX9_split 38 = .ok (.aload_n 0, 1) := by decide +kernel
theorem dX9_split_39 : decode cX9_split 39 = .ok (.iload_n 1, 1) := by decide +kernel
theorem dX9_split_40 : decode cX9_split 40 = .ok (.invokevirtual 37, 3) := by decide +kernel
theorem dX9_split_43 : decode cX9_split 43 = .ok (.iastore, 1) := by decide +kernel
theorem dX9_split_44 : decode cX9_split 44 = .ok (.aload_n 0, 1) := by decide +kernel
theorem dX9_split_45 : decode cX9_split 45 = .ok (.iload_n 1, 1) := by decide +kernel
theorem dX9_split_46 : decode cX9_split 46 = .ok (.iconst 1, 1) := by decide +kernel
theorem dX9_split_47 : decode cX9_split 47 = .ok (.iadd, 1) := by decide +kernel
theorem dX9_split_48 : decode cX9_split 48 = .ok (.putfield 15, 3) := by decide +kernel
theorem dX9_split_51 : decode cX9_split 51 = .ok (.aload_n 0, 1) := by decide +kernel
theorem dX9_split_52 : decode cX9_split 52 = .ok (.getfield 25, 3) := by decide +kernel
theorem dX9_split_55 : decode cX9_split 55 = .ok (.iload_n 1, 1) := by decide +kernel
theorem dX9_split_56 : decode cX9_split 56 = .ok (.iaload, 1) := by decide +kernel
theorem dX9_split_57 : decode cX9_split 57 = .ok (.iconst (-1), 1) := by decide +kernel
theorem dX9_split_58 : decode cX9_split 58 = .ok (.if_icmp .ne 4, 3) := by decide +kernel
theorem dX9_split_61 : decode cX9_split 61 = .ok (.return_, 1) := by decide +kernel
theorem dX9_split_62 : decode cX9_split 62 = .ok (.iinc 1 1, 3) := by decide +kernel
theorem dX9_split_65 : decode cX9_split 65 = .ok (.goto (-53), 3) := by decide +kernel
theorem dX9_split_68 : decode cX9_split 68 = .ok (.return_, 1) := by decide +kernel
theorem dX9_byteAt_0 : decode cX9_byteAt 0 = .ok (.iload_n 1, 1) := by decide +kernel
theorem dX9_byteAt_1 : decode cX9_byteAt 1 = .ok (.ifCond .lt 27, 3) := by decide +kernel
theorem dX9_byteAt_4 : decode cX9_byteAt 4 = .ok (.iload_n 1, 1) := by decide +kernel
theorem dX9_byteAt_5 : decode cX9_byteAt 5 = .ok (.aload_n 0, 1) := by decide +kernel
theorem dX9_byteAt_6 : decode cX9_byteAt 6 = .ok (.getfield 9, 3) := by decide +kernel
theorem dX9_byteAt_9 : decode cX9_byteAt 9 = .ok (.if_icmp .ge 19, 3) := by decide +kernel
theorem dX9_byteAt_12 : decode cX9_byteAt 12 = .ok (.iload_n 1, 1) := by decide +kernel
theorem dX9_byteAt_13 : decode cX9_byteAt 13 = .ok (.sipush 400, 3) := by decide +kernel
theorem dX9_byteAt_16 : decode cX9_byteAt 16 = .ok (.if_icmp .ge 12, 3) := by decide +kernel
theorem dX9_byteAt_19 : decode cX9_byteAt 19 = .ok (.aload_n 0, 1) := by decide +kernel
theorem dX9_byteAt_20 : decode cX9_byteAt 20 = .ok (.getfield 21, 3) := by decide +kernel
theorem dX9_byteAt_23 : decode cX9_byteAt 23 = .ok (.iload_n 1, 1) := by decide +kernel
theorem dX9_byteAt_24 : decode cX9_byteAt 24 = .ok (.iaload, 1) := by decide +kernel
theorem dX9_byteAt_25 : decode cX9_byteAt 25 = .ok (.goto 4, 3) := by decide +kernel
theorem dX9_byteAt_28 : decode cX9_byteAt 28 = .ok (.iconst (-1), 1) := by decide +kernel
theorem dX9_byteAt_29 : decode cX9_byteAt 29 = .ok (.ireturn, 1) := by decide +kernel
theorem dX9_skipBlanks_0 : decode cX9_skipBlanks 0 = .ok (.iconst 0, 1) := by decide +kernel
theorem dX9_skipBlanks_1 : decode cX9_skipBlanks 1 = .ok (.istore_n 1, 1) := by decide +kernel
theorem dX9_skipBlanks_2 : decode cX9_skipBlanks 2 = .ok (.iload_n 1, 1) := by decide +kernel
theorem dX9_skipBlanks_3 : decode cX9_skipBlanks 3 = .ok (.sipush 400, 3) := by decide +kernel
theorem dX9_skipBlanks_6 : decode cX9_skipBlanks 6 = .ok (.if_icmp .ge 32, 3) := by decide +kernel
theorem dX9_skipBlanks_9 : decode cX9_skipBlanks 9 = .ok (.aload_n 0, 1) := by decide +kernel
theorem dX9_skipBlanks_10 : decode cX9_skipBlanks 10 = .ok (.aload_n 0, 1) := by decide +kernel
theorem dX9_skipBlanks_11 : decode cX9_skipBlanks 11 = .ok (.getfield 18, 3) := by decide +kernel
theorem dX9_skipBlanks_14 : decode cX9_skipBlanks 14 = .ok (.invokevirtual 41, 3) := by decide +kernel
theorem dX9_skipBlanks_17 : decode cX9_skipBlanks 17 = .ok (.bipush 32, 2) := by decide +kernel
theorem dX9_skipBlanks_19 : decode cX9_skipBlanks 19 = .ok (.if_icmp .ne 19, 3) := by decide +kernel
theorem dX9_skipBlanks_22 : decode cX9_skipBlanks 22 = .ok (.aload_n 0, 1) := by decide +kernel
theorem dX9_skipBlanks_23 : decode cX9_skipBlanks 23 = .ok (.dup, 1) := by decide +kernel
theorem dX9_skipBlanks_24 : decode cX9_skipBlanks 24 = .ok (.getfield 18, 3) := by decide +kernel
theorem dX9_skipBlanks_27 : decode cX9_skipBlanks 27 = .ok (.iconst 1, 1) := by decide +kernel
theorem dX9_skipBlanks_28 : decode cX9_skipBlanks 28 = .ok (.iadd, 1) := by decide +kernel
theorem dX9_skipBlanks_29 : decode cX9_skipBlanks 29 = .ok (.putfield 18, 3) := by decide +kernel
theorem dX9_skipBlanks_32 : decode cX9_skipBlanks 32 = .ok (.iinc 1 1, 3) := by decide +kernel
theorem dX9_skipBlanks_35 : decode cX9_skipBlanks 35 = .ok (.goto (-33), 3) := by decide +kernel
theorem dX9_skipBlanks_38 : decode cX9_skipBlanks 38 = .ok (.return_, 1) := by decide +kernel
theorem dX9_splitOne_0 : decode cX9_splitOne 0 = .ok (.aload_n 0, 1) := by decide +kernel
theorem dX9_splitOne_1 : decode cX9_splitOne 1 = .ok (.aload_n 0, 1) := by decide +kernel
theorem dX9_splitOne_2 : decode cX9_splitOne 2 = .ok (.getfield 18, 3) := by decide +kernel
theorem dX9_splitOne_5 : decode cX9_splitOne 5 = .ok (.invokevirtual 41, 3) := by decide +kernel
theorem dX9_splitOne_8 : decode cX9_splitOne 8 = .ok (.istore_n 2, 1) := by decide +kernel
theorem dX9_splitOne_9 : decode cX9_splitOne 9 = .ok (.iload_n 2, 1) := by decide +kernel
theorem dX9_splitOne_10 : decode cX9_splitOne 10 = .ok (.invokestatic 44, 3) := by decide +kernel
theorem dX9_splitOne_13 : decode cX9_splitOne 13 = .ok (.ifCond .eq 17, 3) := by decide +kernel
theorem dX9_splitOne_16 : decode cX9_splitOne 16 = .ok (.aload_n 0, 1) := by decide +kernel
theorem dX9_splitOne_17 : decode cX9_splitOne 17 = .ok (.getfield 31, 3) := by decide +kernel
theorem dX9_splitOne_20 : decode cX9_splitOne 20 = .ok (.iload_n 1, 1) := by decide +kernel
theorem dX9_splitOne_21 : decode cX9_splitOne 21 = .ok (.aload_n 0, 1) := by decide +kernel
theorem dX9_splitOne_22 : decode cX9_splitOne 22 = .ok (.invokevirtual 48, 3) := by decide +kernel
theorem dX9_splitOne_25 : decode cX9_splitOne 25 = .ok (.iastore, 1) := by decide +kernel
theorem dX9_splitOne_26 : decode cX9_splitOne 26 = .ok (.sipush 256, 3) := by decide +kernel
theorem dX9_splitOne_29 : decode cX9_splitOne 29 = .ok (.ireturn, 1) := by decide +kernel
theorem dX9_splitOne_30 : decode cX9_splitOne 30 = .ok (.iload_n 2, 1) := by decide +kernel
theorem dX9_splitOne_31 : decode cX9_splitOne 31 = .ok (.invokestatic 52, 3) := by decide +kernel
theorem dX9_splitOne_34 : decode cX9_splitOne 34 = .ok (.ifCond .eq 8, 3) := by decide +kernel
theorem dX9_splitOne_37 : decode cX9_splitOne 37 = .ok (.aload_n 0, 1) := by decide +kernel
theorem dX9_splitOne_38 : decode cX9_splitOne 38 = .ok (.invokevirtual 55, 3) := by decide +kernel
theorem dX9_splitOne_41 : decode cX9_splitOne 41 = .ok (.ireturn, 1) := by decide +kernel
theorem dX9_splitOne_42 : decode cX9_splitOne 42 = .ok (.aload_n 0, 1) := by decide +kernel
theorem dX9_splitOne_43 : decode cX9_splitOne 43 = .ok (.dup, 1) := by decide +kernel
theorem dX9_splitOne_44 : decode cX9_splitOne 44 = .ok (.getfield 18, 3) := by decide +kernel
theorem dX9_splitOne_47 : decode cX9_splitOne 47 = .ok (.iload_n 2, 1) := by decide +kernel
theorem dX9_splitOne_48 : decode cX9_splitOne 48 = .ok (.iconst (-1), 1) := by decide +kernel
theorem dX9_splitOne_49 : decode cX9_splitOne 49 = .ok (.if_icmp .ne 7, 3) := by decide +kernel
theorem dX9_splitOne_52 : decode cX9_splitOne 52 = .ok (.iconst 0, 1) := by decide +kernel
theorem dX9_splitOne_53 : decode cX9_splitOne 53 = .ok (.goto 4, 3) := by decide +kernel
theorem dX9_splitOne_56 : decode cX9_splitOne 56 = .ok (.iconst 1, 1) := by decide +kernel
theorem dX9_splitOne_57 : decode cX9_splitOne 57 = .ok (.iadd, 1) := by decide +kernel
theorem dX9_splitOne_58 : decode cX9_splitOne 58 = .ok (.putfield 18, 3) := by decide +kernel
theorem dX9_splitOne_61 : decode cX9_splitOne 61 = .ok (.iload_n 2, 1) := by decide +kernel
theorem dX9_splitOne_62 : decode cX9_splitOne 62 = .ok (.bipush 60, 2) := by decide +kernel
theorem dX9_splitOne_64 : decode cX9_splitOne 64 = .ok (.if_icmp .eq 9, 3) := by decide +kernel
theorem dX9_splitOne_67 : decode cX9_splitOne 67 = .ok (.iload_n 2, 1) := by decide +kernel
theorem dX9_splitOne_68 : decode cX9_splitOne 68 = .ok (.bipush 62, 2) := by decide +kernel
theorem dX9_splitOne_70 : decode cX9_splitOne 70 = .ok (.if_icmp .ne 42, 3) := by decide +kernel
theorem dX9_splitOne_73 : decode cX9_splitOne 73 = .ok (.aload_n 0, 1) := by decide +kernel
theorem dX9_splitOne_74 : decode cX9_splitOne 74 = .ok (.aload_n 0, 1) := by decide +kernel
theorem dX9_splitOne_75 : decode cX9_splitOne 75 = .ok (.getfield 18, 3) := by decide +kernel
theorem dX9_splitOne_78 : decode cX9_splitOne 78 = .ok (.invokevirtual 41, 3) := by decide +kernel
theorem dX9_splitOne_81 : decode cX9_splitOne 81 = .ok (.bipush 61, 2) := by decide +kernel
theorem dX9_splitOne_83 : decode cX9_splitOne 83 = .ok (.if_icmp .ne 29, 3) := by decide +kernel
theorem dX9_splitOne_86 : decode cX9_splitOne 86 = .ok (.aload_n 0, 1) := by decide +kernel
theorem dX9_splitOne_87 : decode cX9_splitOne 87 = .ok (.dup, 1) := by decide +kernel
theorem dX9_splitOne_88 : decode cX9_splitOne 88 = .ok (.getfield 18, 3) := by decide +kernel
theorem dX9_splitOne_91 : decode cX9_splitOne 91 = .ok (.iconst 1, 1) := by decide +kernel
theorem dX9_splitOne_92 : decode cX9_splitOne 92 = .ok (.iadd, 1) := by decide +kernel
theorem dX9_splitOne_93 : decode cX9_splitOne 93 = .ok (.putfield 18, 3) := by decide +kernel
theorem dX9_splitOne_96 : decode cX9_splitOne 96 = .ok (.iload_n 2, 1) := by decide +kernel
theorem dX9_splitOne_97 : decode cX9_splitOne 97 = .ok (.bipush 60, 2) := by decide +kernel
theorem dX9_splitOne_99 : decode cX9_splitOne 99 = .ok (.if_icmp .ne 9, 3) := by decide +kernel
theorem dX9_splitOne_102 : decode cX9_splitOne 102 = .ok (.sipush 257, 3) := by decide +kernel
theorem dX9_splitOne_105 : decode cX9_splitOne 105 = .ok (.goto 6, 3) := by decide +kernel
theorem dX9_splitOne_108 : decode cX9_splitOne 108 = .ok (.sipush 258, 3) := by decide +kernel
theorem dX9_splitOne_111 : decode cX9_splitOne 111 = .ok (.ireturn, 1) := by decide +kernel
theorem dX9_splitOne_112 : decode cX9_splitOne 112 = .ok (.iload_n 2, 1) := by decide +kernel
theorem dX9_splitOne_113 : decode cX9_splitOne 113 = .ok (.ireturn, 1) := by decide +kernel
theorem dX9_splitNumber_0 : decode cX9_splitNumber 0 = .ok (.iconst 0, 1) := by decide +kernel
theorem dX9_splitNumber_1 : decode cX9_splitNumber 1 = .ok (.istore_n 1, 1) := by decide +kernel
theorem dX9_splitNumber_2 : decode cX9_splitNumber 2 = .ok (.iconst 0, 1) := by decide +kernel
theorem dX9_splitNumber_3 : decode cX9_splitNumber 3 = .ok (.istore_n 2, 1) := by decide +kernel
theorem dX9_splitNumber_4 : decode cX9_splitNumber 4 = .ok (.iload_n 2, 1) := by decide +kernel
theorem dX9_splitNumber_5 : decode cX9_splitNumber 5 = .ok (.sipush 400, 3) := by decide +kernel
theorem dX9_splitNumber_8 : decode cX9_splitNumber 8 = .ok (.if_icmp .ge 59, 3) := by decide +kernel
theorem dX9_splitNumber_11 : decode cX9_splitNumber 11 = .ok (.aload_n 0, 1) := by decide +kernel
theorem dX9_splitNumber_12 : decode cX9_splitNumber 12 = .ok (.aload_n 0, 1) := by decide +kernel
theorem dX9_splitNumber_13 : decode cX9_splitNumber 13 = .ok (.getfield 18, 3) := by decide +kernel
theorem dX9_splitNumber_16 : decode cX9_splitNumber 16 = .ok (.invokevirtual 41, 3) := by decide +kernel
theorem dX9_splitNumber_19 : decode cX9_splitNumber 19 = .ok (.invokestatic 44, 3) := by decide +kernel
