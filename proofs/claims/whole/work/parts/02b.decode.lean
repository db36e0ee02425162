theorem dX7_scanTape_84 : decode cX7_scanTape 84 = .ok (.iinc 2 1, 3) := by decide +kernel
theorem dX7_scanTape_87 : decode cX7_scanTape 87 = .ok (.goto (-78), 3) := by decide +kernel
theorem dX7_scanTape_90 : decode cX7_scanTape 90 = .ok (.return_, 1) := by decide +kernel
theorem dX7_skipBlanks_0 : decode cX7_skipBlanks 0 = .ok (.aload_n 0, 1) := by decide +kernel
theorem dX7_skipBlanks_1 : decode cX7_skipBlanks 1 = .ok (.getfield 26, 3) := by decide +kernel
theorem dX7_skipBlanks_4 : decode cX7_skipBlanks 4 = .ok (.aload_n 0, 1) := by decide +kernel
theorem dX7_skipBlanks_5 : decode cX7_skipBlanks 5 = .ok (.getfield 22, 3) := by decide +kernel
theorem dX7_skipBlanks_8 : decode cX7_skipBlanks 8 = .ok (.getfield 41, 3) := by decide +kernel
theorem dX7_skipBlanks_11 : decode cX7_skipBlanks 11 = .ok (.if_icmp .ge 33, 3) := by decide +kernel
theorem dX7_skipBlanks_14 : decode cX7_skipBlanks 14 = .ok (.aload_n 0, 1) := by decide +kernel
theorem dX7_skipBlanks_15 : decode cX7_skipBlanks 15 = .ok (.getfield 22, 3) := by decide +kernel
theorem dX7_skipBlanks_18 : decode cX7_skipBlanks 18 = .ok (.aload_n 0, 1) := by decide +kernel
theorem dX7_skipBlanks_19 : decode cX7_skipBlanks 19 = .ok (.getfield 26, 3) := by decide +kernel
theorem dX7_skipBlanks_22 : decode cX7_skipBlanks 22 = .ok (.invokevirtual 46, 3) := by decide +kernel
theorem dX7_skipBlanks_25 : decode cX7_skipBlanks 25 = .ok (.invokestatic 50, 3) := by decide +kernel
theorem dX7_skipBlanks_28 : decode cX7_skipBlanks 28 = .ok (.ifCond .eq 16, 3) := by decide +kernel
theorem dX7_skipBlanks_31 : decode cX7_skipBlanks 31 = .ok (.aload_n 0, 1) := by decide +kernel
theorem dX7_skipBlanks_32 : decode cX7_skipBlanks 32 = .ok (.dup, 1) := by decide +kernel
theorem dX7_skipBlanks_33 : decode cX7_skipBlanks 33 = .ok (.getfield 26, 3) := by decide +kernel
theorem dX7_skipBlanks_36 : decode cX7_skipBlanks 36 = .ok (.iconst 1, 1) := by decide +kernel
theorem dX7_skipBlanks_37 : decode cX7_skipBlanks 37 = .ok (.iadd, 1) := by decide +kernel
theorem dX7_skipBlanks_38 : decode cX7_skipBlanks 38 = .ok (.putfield 26, 3) := by decide +kernel
theorem dX7_skipBlanks_41 : decode cX7_skipBlanks 41 = .ok (.goto (-41), 3) := by decide +kernel
theorem dX7_skipBlanks_44 : decode cX7_skipBlanks 44 = .ok (.return_, 1) := by decide +kernel
theorem dX7_scanToken_0 : decode cX7_scanToken 0 = .ok (.aload_n 0, 1) := by decide +kernel
theorem dX7_scanToken_1 : decode cX7_scanToken 1 = .ok (.lconst 0, 1) := by decide +kernel
theorem dX7_scanToken_2 : decode cX7_scanToken 2 = .ok (.putfield 37, 3) := by decide +kernel
theorem dX7_scanToken_5 : decode cX7_scanToken 5 = .ok (.aload_n 0, 1) := by decide +kernel
theorem dX7_scanToken_6 : decode cX7_scanToken 6 = .ok (.getfield 22, 3) := by decide +kernel
theorem dX7_scanToken_9 : decode cX7_scanToken 9 = .ok (.aload_n 0, 1) := by decide +kernel
theorem dX7_scanToken_10 : decode cX7_scanToken 10 = .ok (.getfield 26, 3) := by decide +kernel
theorem dX7_scanToken_13 : decode cX7_scanToken 13 = .ok (.invokevirtual 46, 3) := by decide +kernel
theorem dX7_scanToken_16 : decode cX7_scanToken 16 = .ok (.istore_n 1, 1) := by decide +kernel
theorem dX7_scanToken_17 : decode cX7_scanToken 17 = .ok (.iload_n 1, 1) := by decide +kernel
theorem dX7_scanToken_18 : decode cX7_scanToken 18 = .ok (.iconst (-1), 1) := by decide +kernel
theorem dX7_scanToken_19 : decode cX7_scanToken 19 = .ok (.if_icmp .ne 7, 3) := by decide +kernel
theorem dX7_scanToken_22 : decode cX7_scanToken 22 = .ok (.sipush 258, 3) := by decide +kernel
theorem dX7_scanToken_25 : decode cX7_scanToken 25 = .ok (.ireturn, 1) := by decide +kernel
theorem dX7_scanToken_26 : decode cX7_scanToken 26 = .ok (.iload_n 1, 1) := by decide +kernel
theorem dX7_scanToken_27 : decode cX7_scanToken 27 = .ok (.invokestatic 54, 3) := by decide +kernel
theorem dX7_scanToken_30 : decode cX7_scanToken 30 = .ok (.ifCond .eq 8, 3) := by decide +kernel
theorem dX7_scanToken_33 : decode cX7_scanToken 33 = .ok (.aload_n 0, 1) := by decide +kernel
theorem dX7_scanToken_34 : decode cX7_scanToken 34 = .ok (.invokevirtual 57, 3) := by decide +kernel
theorem dX7_scanToken_37 : decode cX7_scanToken 37 = .ok (.ireturn, 1) := by decide +kernel
theorem dX7_scanToken_38 : decode cX7_scanToken 38 = .ok (.iload_n 1, 1) := by decide +kernel
theorem dX7_scanToken_39 : decode cX7_scanToken 39 = .ok (.invokestatic 60, 3) := by decide +kernel
theorem dX7_scanToken_42 : decode cX7_scanToken 42 = .ok (.ifCond .eq 8, 3) := by decide +kernel
theorem dX7_scanToken_45 : decode cX7_scanToken 45 = .ok (.aload_n 0, 1) := by decide +kernel
theorem dX7_scanToken_46 : decode cX7_scanToken 46 = .ok (.invokevirtual 63, 3) := by decide +kernel
theorem dX7_scanToken_49 : decode cX7_scanToken 49 = .ok (.ireturn, 1) := by decide +kernel
theorem dX7_scanToken_50 : decode cX7_scanToken 50 = .ok (.aload_n 0, 1) := by decide +kernel
theorem dX7_scanToken_51 : decode cX7_scanToken 51 = .ok (.dup, 1) := by decide +kernel
theorem dX7_scanToken_52 : decode cX7_scanToken 52 = .ok (.getfield 26, 3) := by decide +kernel
theorem dX7_scanToken_55 : decode cX7_scanToken 55 = .ok (.iconst 1, 1) := by decide +kernel
theorem dX7_scanToken_56 : decode cX7_scanToken 56 = .ok (.iadd, 1) := by decide +kernel
theorem dX7_scanToken_57 : decode cX7_scanToken 57 = .ok (.putfield 26, 3) := by decide +kernel
theorem dX7_scanToken_60 : decode cX7_scanToken 60 = .ok (.iload_n 1, 1) := by decide +kernel
theorem dX7_scanToken_61 : decode cX7_scanToken 61 = .ok (.invokestatic 66, 3) := by decide +kernel
theorem dX7_scanToken_64 : decode cX7_scanToken 64 = .ok (.ifCond .eq 7, 3) := by decide +kernel
theorem dX7_scanToken_67 : decode cX7_scanToken 67 = .ok (.iload_n 1, 1) := by decide +kernel
theorem dX7_scanToken_68 : decode cX7_scanToken 68 = .ok (.goto 6, 3) := by decide +kernel
theorem dX7_scanToken_71 : decode cX7_scanToken 71 = .ok (.sipush 259, 3) := by decide +kernel
theorem dX7_scanToken_74 : decode cX7_scanToken 74 = .ok (.ireturn, 1) := by decide +kernel
theorem dX7_scanWord_0 : decode cX7_scanWord 0 = .ok (.aload_n 0, 1) := by decide +kernel
theorem dX7_scanWord_1 : decode cX7_scanWord 1 = .ok (.getfield 26, 3) := by decide +kernel
theorem dX7_scanWord_4 : decode cX7_scanWord 4 = .ok (.istore_n 1, 1) := by decide +kernel
theorem dX7_scanWord_5 : decode cX7_scanWord 5 = .ok (.aload_n 0, 1) := by decide +kernel
theorem dX7_scanWord_6 : decode cX7_scanWord 6 = .ok (.getfield 26, 3) := by decide +kernel
theorem dX7_scanWord_9 : decode cX7_scanWord 9 = .ok (.aload_n 0, 1) := by decide +kernel
theorem dX7_scanWord_10 : decode cX7_scanWord 10 = .ok (.getfield 22, 3) := by decide +kernel
theorem dX7_scanWord_13 : decode cX7_scanWord 13 = .ok (.getfield 41, 3) := by decide +kernel
theorem dX7_scanWord_16 : decode cX7_scanWord 16 = .ok (.if_icmp .ge 74, 3) := by decide +kernel
theorem dX7_scanWord_19 : decode cX7_scanWord 19 = .ok (.aload_n 0, 1) := by decide +kernel
theorem dX7_scanWord_20 : decode cX7_scanWord 20 = .ok (.getfield 22, 3) := by decide +kernel
theorem dX7_scanWord_23 : decode cX7_scanWord 23 = .ok (.aload_n 0, 1) := by decide +kernel
theorem dX7_scanWord_24 : decode cX7_scanWord 24 = .ok (.getfield 26, 3) := by decide +kernel
theorem dX7_scanWord_27 : decode cX7_scanWord 27 = .ok (.invokevirtual 46, 3) := by decide +kernel
theorem dX7_scanWord_30 : decode cX7_scanWord 30 = .ok (.invokestatic 54, 3) := by decide +kernel
theorem dX7_scanWord_33 : decode cX7_scanWord 33 = .ok (.ifCond .ne 20, 3) := by decide +kernel
theorem dX7_scanWord_36 : decode cX7_scanWord 36 = .ok (.aload_n 0, 1) := by decide +kernel
theorem dX7_scanWord_37 : decode cX7_scanWord 37 = .ok (.getfield 22, 3) := by decide +kernel
theorem dX7_scanWord_40 : decode cX7_scanWord 40 = .ok (.aload_n 0, 1) := by decide +kernel
theorem dX7_scanWord_41 : decode cX7_scanWord 41 = .ok (.getfield 26, 3) := by decide +kernel
theorem dX7_scanWord_44 : decode cX7_scanWord 44 = .ok (.invokevirtual 46, 3) := by decide +kernel
theorem dX7_scanWord_47 : decode cX7_scanWord 47 = .ok (.invokestatic 60, 3) := by decide +kernel
theorem dX7_scanWord_50 : decode cX7_scanWord 50 = .ok (.ifCond .eq 40, 3) := by decide +kernel
theorem dX7_scanWord_53 : decode cX7_scanWord 53 = .ok (.aload_n 0, 1) := by decide +kernel
theorem dX7_scanWord_54 : decode cX7_scanWord 54 = .ok (.aload_n 0, 1) := by decide +kernel
theorem dX7_scanWord_55 : decode cX7_scanWord 55 = .ok (.getfield 37, 3) := by decide +kernel
theorem dX7_scanWord_58 : decode cX7_scanWord 58 = .ok (.bipush 8, 2) := by decide +kernel
theorem dX7_scanWord_60 : decode cX7_scanWord 60 = .ok (.lshl, 1) := by decide +kernel
theorem dX7_scanWord_61 : decode cX7_scanWord 61 = .ok (.aload_n 0, 1) := by decide +kernel
theorem dX7_scanWord_62 : decode cX7_scanWord 62 = .ok (.getfield 22, 3) := by decide +kernel
theorem dX7_scanWord_65 : decode cX7_scanWord 65 = .ok (.aload_n 0, 1) := by decide +kernel
theorem dX7_scanWord_66 : decode cX7_scanWord 66 = .ok (.getfield 26, 3) := by decide +kernel
theorem dX7_scanWord_69 : decode cX7_scanWord 69 = .ok (.invokevirtual 46, 3) := by decide +kernel
theorem dX7_scanWord_72 : decode cX7_scanWord 72 = .ok (.i2l, 1) := by decide +kernel
theorem dX7_scanWord_73 : decode cX7_scanWord 73 = .ok (.lor, 1) := by decide +kernel
theorem dX7_scanWord_74 : decode cX7_scanWord 74 = .ok (.putfield 37, 3) := by decide +kernel
theorem dX7_scanWord_77 : decode cX7_scanWord 77 = .ok (.aload_n 0, 1) := by decide +kernel
theorem dX7_scanWord_78 : decode cX7_scanWord 78 = .ok (.dup, 1) := by decide +kernel
theorem dX7_scanWord_79 : decode cX7_scanWord 79 = .ok (.getfield 26, 3) := by decide +kernel
theorem dX7_scanWord_82 : decode cX7_scanWord 82 = .ok (.iconst 1, 1) := by decide +kernel
theorem dX7_scanWord_83 : decode cX7_scanWord 83 = .ok (.iadd, 1) := by decide +kernel
theorem dX7_scanWord_84 : decode cX7_scanWord 84 = .ok (.putfield 26, 3) := by decide +kernel
theorem dX7_scanWord_87 : decode cX7_scanWord 87 = .ok (.goto (-82), 3) := by decide +kernel
theorem dX7_scanWord_90 : decode cX7_scanWord 90 = .ok (.aload_n 0, 1) := by decide +kernel
theorem dX7_scanWord_91 : decode cX7_scanWord 91 = .ok (.getfield 26, 3) := by decide +kernel
theorem dX7_scanWord_94 : decode cX7_scanWord 94 = .ok (.iload_n 1, 1) := by decide +kernel
theorem dX7_scanWord_95 : decode cX7_scanWord 95 = .ok (.isub, 1) := by decide +kernel
theorem dX7_scanWord_96 : decode cX7_scanWord 96 = .ok (.bipush 8, 2) := by decide +kernel
theorem dX7_scanWord_98 : decode cX7_scanWord 98 = .ok (.if_icmp .le 9, 3) := by decide +kernel
theorem dX7_scanWord_101 : decode cX7_scanWord 101 = .ok (.sipush 259, 3) := by decide +kernel
theorem dX7_scanWord_104 : decode cX7_scanWord 104 = .ok (.goto 10, 3) := by decide +kernel
theorem dX7_scanWord_107 : decode cX7_scanWord 107 = .ok (.aload_n 0, 1) := by decide +kernel
theorem dX7_scanWord_108 : decode cX7_scanWord 108 = .ok (.getfield 37, 3) := by decide +kernel
theorem dX7_scanWord_111 : decode cX7_scanWord 111 = .ok (.invokestatic 69, 3) := by decide +kernel
theorem dX7_scanWord_114 : decode cX7_scanWord 114 = .ok (.ireturn, 1) := by decide +kernel
theorem dX7_scanNumber_0 : decode cX7_scanNumber 0 = .ok (.aload_n 0, 1) := by decide +kernel
theorem dX7_scanNumber_1 : decode cX7_scanNumber 1 = .ok (.getfield 26, 3) := by decide +kernel
theorem dX7_scanNumber_4 : decode cX7_scanNumber 4 = .ok (.istore_n 1, 1) := by decide +kernel
theorem dX7_scanNumber_5 : decode cX7_scanNumber 5 = .ok (.aload_n 0, 1) := by decide +kernel
theorem dX7_scanNumber_6 : decode cX7_scanNumber 6 = .ok (.getfield 26, 3) := by decide +kernel
theorem dX7_scanNumber_9 : decode cX7_scanNumber 9 = .ok (.aload_n 0, 1) := by decide +kernel
theorem dX7_scanNumber_10 : decode cX7_scanNumber 10 = .ok (.getfield 22, 3) := by decide +kernel
theorem dX7_scanNumber_13 : decode cX7_scanNumber 13 = .ok (.getfield 41, 3) := by decide +kernel
theorem dX7_scanNumber_16 : decode cX7_scanNumber 16 = .ok (.if_icmp .ge 62, 3) := by decide +kernel
theorem dX7_scanNumber_19 : decode cX7_scanNumber 19 = .ok (.aload_n 0, 1) := by decide +kernel
theorem dX7_scanNumber_20 : decode cX7_scanNumber 20 = .ok (.getfield 22, 3) := by decide +kernel
theorem dX7_scanNumber_23 : decode cX7_scanNumber 23 = .ok (.aload_n 0, 1) := by decide +kernel
theorem dX7_scanNumber_24 : decode cX7_scanNumber 24 = .ok (.getfield 26, 3) := by decide +kernel
theorem dX7_scanNumber_27 : decode cX7_scanNumber 27 = .ok (.invokevirtual 46, 3) := by decide +kernel
theorem dX7_scanNumber_30 : decode cX7_scanNumber 30 = .ok (.invokestatic 60, 3) := by decide +kernel
theorem dX7_scanNumber_33 : decode cX7_scanNumber 33 = .ok (.ifCond .eq 45, 3) := by decide +kernel
theorem dX7_scanNumber_36 : decode cX7_scanNumber 36 = .ok (.aload_n 0, 1) := by decide +kernel
theorem dX7_scanNumber_37 : decode cX7_scanNumber 37 = .ok (.aload_n 0, 1) := by decide +kernel
theorem dX7_scanNumber_38 : decode cX7_scanNumber 38 = .ok (.getfield 37, 3) := by decide +kernel
theorem dX7_scanNumber_41 : decode cX7_scanNumber 41 = .ok (.ldc2_w 73, 3) := by decide +kernel
theorem dX7_scanNumber_44 : decode cX7_scanNumber 44 = .ok (.lmul, 1) := by decide +kernel
theorem dX7_scanNumber_45 : decode cX7_scanNumber 45 = .ok (.aload_n 0, 1) := by decide +kernel
theorem dX7_scanNumber_46 : decode cX7_scanNumber 46 = .ok (.getfield 22, 3) := by decide +kernel
theorem dX7_scanNumber_49 : decode cX7_scanNumber 49 = .ok (.aload_n 0, 1) := by decide +kernel
theorem dX7_scanNumber_50 : decode cX7_scanNumber 50 = .ok (.getfield 26, 3) := by decide +kernel
theorem dX7_scanNumber_53 : decode cX7_scanNumber 53 = .ok (.invokevirtual 46, 3) := by decide +kernel
theorem dX7_scanNumber_56 : decode cX7_scanNumber 56 = .ok (.i2l, 1) := by decide +kernel
theorem dX7_scanNumber_57 : decode cX7_scanNumber 57 = .ok (.ladd, 1) := by decide +kernel
theorem dX7_scanNumber_58 : decode cX7_scanNumber 58 = .ok (.ldc2_w 75, 3) := by decide +kernel
theorem dX7_scanNumber_61 : decode cX7_scanNumber 61 = .ok (.lsub, 1) := by decide +kernel
theorem dX7_scanNumber_62 : decode cX7_scanNumber 62 = .ok (.putfield 37, 3) := by decide +kernel
theorem dX7_scanNumber_65 : decode cX7_scanNumber 65 = .ok (.aload_n 0, 1) := by decide +kernel
theorem dX7_scanNumber_66 : decode cX7_scanNumber 66 = .ok (.dup, 1) := by decide +kernel
theorem dX7_scanNumber_67 : decode cX7_scanNumber 67 = .ok (.getfield 26, 3) := by decide +kernel
theorem dX7_scanNumber_70 : decode cX7_scanNumber 70 = .ok (.iconst 1, 1) := by decide +kernel
theorem dX7_scanNumber_71 : decode cX7_scanNumber 71 = .ok (.iadd, 1) := by decide +kernel
theorem dX7_scanNumber_72 : decode cX7_scanNumber 72 = .ok (.putfield 26, 3) := by decide +kernel
theorem dX7_scanNumber_75 : decode cX7_scanNumber 75 = .ok (.goto (-70), 3) := by decide +kernel
theorem dX7_scanNumber_78 : decode cX7_scanNumber 78 = .ok (.aload_n 0, 1) := by decide +kernel
theorem dX7_scanNumber_79 : decode cX7_scanNumber 79 = .ok (.getfield 26, 3) := by decide +kernel
theorem dX7_scanNumber_82 : decode cX7_scanNumber 82 = .ok (.iload_n 1, 1) := by decide +kernel
theorem dX7_scanNumber_83 : decode cX7_scanNumber 83 = .ok (.isub, 1) := by decide +kernel
theorem dX7_scanNumber_84 : decode cX7_scanNumber 84 = .ok (.iconst 4, 1) := by decide +kernel
theorem dX7_scanNumber_85 : decode cX7_scanNumber 85 = .ok (.if_icmp .le 9, 3) := by decide +kernel
theorem dX7_scanNumber_88 : decode cX7_scanNumber 88 = .ok (.sipush 259, 3) := by decide +kernel
theorem dX7_scanNumber_91 : decode cX7_scanNumber 91 = .ok (.goto 6, 3) := by decide +kernel
theorem dX7_scanNumber_94 : decode cX7_scanNumber 94 = .ok (.sipush 257, 3) := by decide +kernel
theorem dX7_scanNumber_97 : decode cX7_scanNumber 97 = .ok (.ireturn, 1) := by decide +kernel
theorem dX7_kindOfWord_0 : decode cX7_kindOfWord 0 = .ok (.lload_n 0, 1) := by decide +kernel
theorem dX7_kindOfWord_1 : decode cX7_kindOfWord 1 = .ok (.ldc2_w 77, 3) := by decide +kernel
theorem dX7_kindOfWord_4 : decode cX7_kindOfWord 4 = .ok (.lcmp, 1) := by decide +kernel
theorem dX7_kindOfWord_5 : decode cX7_kindOfWord 5 = .ok (.ifCond .ne 7, 3) := by decide +kernel
theorem dX7_kindOfWord_8 : decode cX7_kindOfWord 8 = .ok (.sipush 260, 3) := by decide +kernel
theorem dX7_kindOfWord_11 : decode cX7_kindOfWord 11 = .ok (.ireturn, 1) := by decide +kernel
theorem dX7_kindOfWord_12 : decode cX7_kindOfWord 12 = .ok (.lload_n 0, 1) := by decide +kernel
theorem dX7_kindOfWord_13 : decode cX7_kindOfWord 13 = .ok (.ldc2_w 79, 3) := by decide +kernel
theorem dX7_kindOfWord_16 : decode cX7_kindOfWord 16 = .ok (.lcmp, 1) := by decide +kernel
theorem dX7_kindOfWord_17 : decode cX7_kindOfWord 17 = .ok (.ifCond .ne 7, 3) := by decide +kernel
theorem dX7_kindOfWord_20 : decode cX7_kindOfWord 20 = .ok (.sipush 261, 3) := by decide +kernel
theorem dX7_kindOfWord_23 : decode cX7_kindOfWord 23 = .ok (.ireturn, 1) := by decide +kernel
theorem dX7_kindOfWord_24 : decode cX7_kindOfWord 24 = .ok (.lload_n 0, 1) := by decide +kernel
theorem dX7_kindOfWord_25 : decode cX7_kindOfWord 25 = .ok (.ldc2_w 81, 3) := by decide +kernel
theorem dX7_kindOfWord_28 : decode cX7_kindOfWord 28 = .ok (.lcmp, 1) := by decide +kernel
theorem dX7_kindOfWord_29 : decode cX7_kindOfWord 29 = .ok (.ifCond .ne 7, 3) := by decide +kernel
theorem dX7_kindOfWord_32 : decode cX7_kindOfWord 32 = .ok (.sipush 262, 3) := by decide +kernel
theorem dX7_kindOfWord_35 : decode cX7_kindOfWord 35 = .ok (.ireturn, 1) := by decide +kernel
theorem dX7_kindOfWord_36 : decode cX7_kindOfWord 36 = .ok (.lload_n 0, 1) := by decide +kernel
theorem dX7_kindOfWord_37 : decode cX7_kindOfWord 37 = .ok (.ldc2_w 83, 3) := by decide +kernel
theorem dX7_kindOfWord_40 : decode cX7_kindOfWord 40 = .ok (.lcmp, 1) := by decide +kernel
theorem dX7_kindOfWord_41 : decode cX7_kindOfWord 41 = .ok (.ifCond .ne 7, 3) := by decide +kernel
theorem dX7_kindOfWord_44 : decode cX7_kindOfWord 44 = .ok (.sipush 263, 3) := by decide +kernel
theorem dX7_kindOfWord_47 : decode cX7_kindOfWord 47 = .ok (.ireturn, 1) := by decide +kernel
theorem dX7_kindOfWord_48 : decode cX7_kindOfWord 48 = .ok (.lload_n 0, 1) := by decide +kernel
theorem dX7_kindOfWord_49 : decode cX7_kindOfWord 49 = .ok (.ldc2_w 85, 3) := by decide +kernel
theorem dX7_kindOfWord_52 : decode cX7_kindOfWord 52 = .ok (.lcmp, 1) := by decide +kernel
theorem dX7_kindOfWord_53 : decode cX7_kindOfWord 53 = .ok (.ifCond .ne 7, 3) := by decide +kernel
theorem dX7_kindOfWord_56 : decode cX7_kindOfWord 56 = .ok (.sipush 264, 3) := by decide +kernel
theorem dX7_kindOfWord_59 : decode cX7_kindOfWord 59 = .ok (.ireturn, 1) := by decide +kernel
theorem dX7_kindOfWord_60 : decode cX7_kindOfWord 60 = .ok (.lload_n 0, 1) := by decide +kernel
theorem dX7_kindOfWord_61 : decode cX7_kindOfWord 61 = .ok (.ldc2_w 87, 3) := by decide +kernel
theorem dX7_kindOfWord_64 : decode cX7_kindOfWord 64 = .ok (.lcmp, 1) := by decide +kernel
theorem dX7_kindOfWord_65 : decode cX7_kindOfWord 65 = .ok (.ifCond .ne 7, 3) := by decide +kernel
theorem dX7_kindOfWord_68 : decode cX7_kindOfWord 68 = .ok (.sipush 265, 3) := by decide +kernel
theorem dX7_kindOfWord_71 : decode cX7_kindOfWord 71 = .ok (.ireturn, 1) := by decide +kernel
theorem dX7_kindOfWord_72 : decode cX7_kindOfWord 72 = .ok (.lload_n 0, 1) := by decide +kernel
theorem dX7_kindOfWord_73 : decode cX7_kindOfWord 73 = .ok (.ldc2_w 89, 3) := by decide +kernel
theorem dX7_kindOfWord_76 : decode cX7_kindOfWord 76 = .ok (.lcmp, 1) := by decide +kernel
theorem dX7_kindOfWord_77 : decode cX7_kindOfWord 77 = .ok (.ifCond .ne 7, 3) := by decide +kernel
theorem dX7_kindOfWord_80 : decode cX7_kindOfWord 80 = .ok (.sipush 266, 3) := by decide +kernel
theorem dX7_kindOfWord_83 : decode cX7_kindOfWord 83 = .ok (.ireturn, 1) := by decide +kernel
theorem dX7_kindOfWord_84 : decode cX7_kindOfWord 84 = .ok (.lload_n 0, 1) := by decide +kernel
theorem dX7_kindOfWord_85 : decode cX7_kindOfWord 85 = .ok (.ldc2_w 91, 3) := by decide +kernel
theorem dX7_kindOfWord_88 : decode cX7_kindOfWord 88 = .ok (.lcmp, 1) := by decide +kernel
theorem dX7_kindOfWord_89 : decode cX7_kindOfWord 89 = .ok (.ifCond .ne 7, 3) := by decide +kernel
theorem dX7_kindOfWord_92 : decode cX7_kindOfWord 92 = .ok (.sipush 267, 3) := by decide +kernel
theorem dX7_kindOfWord_95 : decode cX7_kindOfWord 95 = .ok (.ireturn, 1) := by decide +kernel
theorem dX7_kindOfWord_96 : decode cX7_kindOfWord 96 = .ok (.lload_n 0, 1) := by decide +kernel
theorem dX7_kindOfWord_97 : decode cX7_kindOfWord 97 = .ok (.ldc2_w 93, 3) := by decide +kernel
theorem dX7_kindOfWord_100 : decode cX7_kindOfWord 100 = .ok (.lcmp, 1) := by decide +kernel
theorem dX7_kindOfWord_101 : decode cX7_kindOfWord 101 = .ok (.ifCond .ne 9, 3) := by decide +kernel
theorem dX7_kindOfWord_104 : decode cX7_kindOfWord 104 = .ok (.sipush 268, 3) := by decide +kernel
theorem dX7_kindOfWord_107 : decode cX7_kindOfWord 107 = .ok (.goto 6, 3) := by decide +kernel
theorem dX7_kindOfWord_110 : decode cX7_kindOfWord 110 = .ok (.sipush 256, 3) := by decide +kernel
theorem dX7_kindOfWord_113 : decode cX7_kindOfWord 113 = .ok (.ireturn, 1) := by decide +kernel
theorem dX7_isBlank_0 : decode cX7_isBlank 0 = .ok (.iload_n 0, 1) := by decide +kernel
theorem dX7_isBlank_1 : decode cX7_isBlank 1 = .ok (.bipush 9, 2) := by decide +kernel
theorem dX7_isBlank_3 : decode cX7_isBlank 3 = .ok (.if_icmp .eq 21, 3) := by decide +kernel
theorem dX7_isBlank_6 : decode cX7_isBlank 6 = .ok (.iload_n 0, 1) := by decide +kernel
theorem dX7_isBlank_7 : decode cX7_isBlank 7 = .ok (.bipush 10, 2) := by decide +kernel
theorem dX7_isBlank_9 : decode cX7_isBlank 9 = .ok (.if_icmp .eq 15, 3) := by decide +kernel
theorem dX7_isBlank_12 : decode cX7_isBlank 12 = .ok (.iload_n 0, 1) := by decide +kernel
theorem dX7_isBlank_13 : decode cX7_isBlank 13 = .ok (.bipush 13, 2) := by decide +kernel
theorem dX7_isBlank_15 : decode cX7_isBlank 15 = .ok (.if_icmp .eq 9, 3) := by decide +kernel
theorem dX7_isBlank_18 : decode cX7_isBlank 18 = .ok (.iload_n 0, 1) := by decide +kernel
theorem dX7_isBlank_19 : decode cX7_isBlank 19 = .ok (.bipush 32, 2) := by decide +kernel
theorem dX7_isBlank_21 : decode cX7_isBlank 21 = .ok (.if_icmp .ne 7, 3) := by decide +kernel
theorem dX7_isBlank_24 : decode cX7_isBlank 24 = .ok (.iconst 1, 1) := by decide +kernel
theorem dX7_isBlank_25 : decode cX7_isBlank 25 = .ok (.goto 4, 3) := by decide +kernel
theorem dX7_isBlank_28 : decode cX7_isBlank 28 = .ok (.iconst 0, 1) := by decide +kernel
theorem dX7_isBlank_29 : decode cX7_isBlank 29 = .ok (.ireturn, 1) := by decide +kernel
theorem dX7_isLetter_0 : decode cX7_isLetter 0 = .ok (.iload_n 0, 1) := by decide +kernel
theorem dX7_isLetter_1 : decode cX7_isLetter 1 = .ok (.bipush 97, 2) := by decide +kernel
theorem dX7_isLetter_3 : decode cX7_isLetter 3 = .ok (.if_icmp .lt 13, 3) := by decide +kernel
theorem dX7_isLetter_6 : decode cX7_isLetter 6 = .ok (.iload_n 0, 1) := by decide +kernel
theorem dX7_isLetter_7 : decode cX7_isLetter 7 = .ok (.bipush 122, 2) := by decide +kernel
theorem dX7_isLetter_9 : decode cX7_isLetter 9 = .ok (.if_icmp .gt 7, 3) := by decide +kernel
theorem dX7_isLetter_12 : decode cX7_isLetter 12 = .ok (.iconst 1, 1) := by decide +kernel
theorem dX7_isLetter_13 : decode cX7_isLetter 13 = .ok (.goto 4, 3) := by decide +kernel
theorem dX7_isLetter_16 : decode cX7_isLetter 16 = .ok (.iconst 0, 1) := by decide +kernel
theorem dX7_isLetter_17 : decode cX7_isLetter 17 = .ok (.ireturn, 1) := by decide +kernel
theorem dX7_isDigit_0 : decode cX7_isDigit 0 = .ok (.iload_n 0, 1) := by decide +kernel
theorem dX7_isDigit_1 : decode cX7_isDigit 1 = .ok (.bipush 48, 2) := by decide +kernel
theorem dX7_isDigit_3 : decode cX7_isDigit 3 = .ok (.if_icmp .lt 13, 3) := by decide +kernel
theorem dX7_isDigit_6 : decode cX7_isDigit 6 = .ok (.iload_n 0, 1) := by decide +kernel
theorem dX7_isDigit_7 : decode cX7_isDigit 7 = .ok (.bipush 57, 2) := by decide +kernel
theorem dX7_isDigit_9 : decode cX7_isDigit 9 = .ok (.if_icmp .gt 7, 3) := by decide +kernel
theorem dX7_isDigit_12 : decode cX7_isDigit 12 = .ok (.iconst 1, 1) := by decide +kernel
theorem dX7_isDigit_13 : decode cX7_isDigit 13 = .ok (.goto 4, 3) := by decide +kernel
theorem dX7_isDigit_16 : decode cX7_isDigit 16 = .ok (.iconst 0, 1) := by decide +kernel
theorem dX7_isDigit_17 : decode cX7_isDigit 17 = .ok (.ireturn, 1) := by decide +kernel
theorem dX7_isSign_0 : decode cX7_isSign 0 = .ok (.iload_n 0, 1) := by decide +kernel
theorem dX7_isSign_1 : decode cX7_isSign 1 = .ok (.bipush 59, 2) := by decide +kernel
theorem dX7_isSign_3 : decode cX7_isSign 3 = .ok (.if_icmp .eq 45, 3) := by decide +kernel
theorem dX7_isSign_6 : decode cX7_isSign 6 = .ok (.iload_n 0, 1) := by decide +kernel
theorem dX7_isSign_7 : decode cX7_isSign 7 = .ok (.bipush 44, 2) := by decide +kernel
theorem dX7_isSign_9 : decode cX7_isSign 9 = .ok (.if_icmp .eq 39, 3) := by decide +kernel
theorem dX7_isSign_12 : decode cX7_isSign 12 = .ok (.iload_n 0, 1) := by decide +kernel
theorem dX7_isSign_13 : decode cX7_isSign 13 = .ok (.bipush 61, 2) := by decide +kernel
theorem dX7_isSign_15 : decode cX7_isSign 15 = .ok (.if_icmp .eq 33, 3) := by decide +kernel
theorem dX7_isSign_18 : decode cX7_isSign 18 = .ok (.iload_n 0, 1) := by decide +kernel
theorem dX7_isSign_19 : decode cX7_isSign 19 = .ok (.bipush 43, 2) := by decide +kernel
theorem dX7_isSign_21 : decode cX7_isSign 21 = .ok (.if_icmp .eq 27, 3) := by decide +kernel
theorem dX7_isSign_24 : decode cX7_isSign 24 = .ok (.iload_n 0, 1) := by decide +kernel
theorem dX7_isSign_25 : decode cX7_isSign 25 = .ok (.bipush 45, 2) := by decide +kernel
theorem dX7_isSign_27 : decode cX7_isSign 27 = .ok (.if_icmp .eq 21, 3) := by decide +kernel
theorem dX7_isSign_30 : decode cX7_isSign 30 = .ok (.iload_n 0, 1) := by decide +kernel
theorem dX7_isSign_31 : decode cX7_isSign 31 = .ok (.bipush 42, 2) := by decide +kernel
theorem dX7_isSign_33 : decode cX7_isSign 33 = .ok (.if_icmp .eq 15, 3) := by decide +kernel
theorem dX7_isSign_36 : decode cX7_isSign 36 = .ok (.iload_n 0, 1) := by decide +kernel
theorem dX7_isSign_37 : decode cX7_isSign 37 = .ok (.bipush 40, 2) := by decide +kernel
theorem dX7_isSign_39 : decode cX7_isSign 39 = .ok (.if_icmp .eq 9, 3) := by decide +kernel
theorem dX7_isSign_42 : decode cX7_isSign 42 = .ok (.iload_n 0, 1) := by decide +kernel
theorem dX7_isSign_43 : decode cX7_isSign 43 = .ok (.bipush 41, 2) := by decide +kernel
theorem dX7_isSign_45 : decode cX7_isSign 45 = .ok (.if_icmp .ne 7, 3) := by decide +kernel
theorem dX7_isSign_48 : decode cX7_isSign 48 = .ok (.iconst 1, 1) := by decide +kernel
theorem dX7_isSign_49 : decode cX7_isSign 49 = .ok (.goto 4, 3) := by decide +kernel
theorem dX7_isSign_52 : decode cX7_isSign 52 = .ok (.iconst 0, 1) := by decide +kernel
theorem dX7_isSign_53 : decode cX7_isSign 53 = .ok (.ireturn, 1) := by decide +kernel
theorem dX8_init_0 : decode cX8_init 0 = .ok (.aload_n 0, 1) := by decide +kernel
theorem dX8_init_1 : decode cX8_init 1 = .ok (.invokespecial 3, 3) := by decide +kernel
theorem dX8_init_4 : decode cX8_init 4 = .ok (.aload_n 0, 1) := by decide +kernel
theorem dX8_init_5 : decode cX8_init 5 = .ok (.bipush 56, 2) := by decide +kernel
theorem dX8_init_7 : decode cX8_init 7 = .ok (.newarray .long, 2) := by decide +kernel
theorem dX8_init_9 : decode cX8_init 9 = .ok (.putfield 9, 3) := by decide +kernel
theorem dX8_init_12 : decode cX8_init 12 = .ok (.aload_n 0, 1) := by decide +kernel
theorem dX8_init_13 : decode cX8_init 13 = .ok (.sipush 400, 3) := by decide +kernel
theorem dX8_init_16 : decode cX8_init 16 = .ok (.newarray .long, 2) := by decide +kernel
theorem dX8_init_18 : decode cX8_init 18 = .ok (.putfield 15, 3) := by decide +kernel
theorem dX8_init_21 : decode cX8_init 21 = .ok (.aload_n 0, 1) := by decide +kernel
theorem dX8_init_22 : decode cX8_init 22 = .ok (.aload_n 1, 1) := by decide +kernel
theorem dX8_init_23 : decode cX8_init 23 = .ok (.putfield 18, 3) := by decide +kernel
theorem dX8_init_26 : decode cX8_init 26 = .ok (.aload_n 0, 1) := by decide +kernel
theorem dX8_init_27 : decode cX8_init 27 = .ok (.aload_n 2, 1) := by decide +kernel
theorem dX8_init_28 : decode cX8_init 28 = .ok (.putfield 22, 3) := by decide +kernel
theorem dX8_init_31 : decode cX8_init 31 = .ok (.return_, 1) := by decide +kernel
theorem dX8_settle_0 : decode cX8_settle 0 = .ok (.aload_n 0, 1) := by decide +kernel
theorem dX8_settle_1 : decode cX8_settle 1 = .ok (.getfield 18, 3) := by decide +kernel
theorem dX8_settle_4 : decode cX8_settle 4 = .ok (.iload_n 1, 1) := by decide +kernel
theorem dX8_settle_5 : decode cX8_settle 5 = .ok (.invokevirtual 26, 3) := by decide +kernel
theorem dX8_settle_8 : decode cX8_settle 8 = .ok (.ifCond .ne 4, 3) := by decide +kernel
theorem dX8_settle_11 : decode cX8_settle 11 = .ok (.return_, 1) := by decide +kernel
theorem dX8_settle_12 : decode cX8_settle 12 = .ok (.aload_n 0, 1) := by decide +kernel
theorem dX8_settle_13 : decode cX8_settle 13 = .ok (.getfield 18, 3) := by decide +kernel
theorem dX8_settle_16 : decode cX8_settle 16 = .ok (.getfield 32, 3) := by decide +kernel
theorem dX8_settle_19 : decode cX8_settle 19 = .ok (.iload_n 1, 1) := by decide +kernel
theorem dX8_settle_20 : decode cX8_settle 20 = .ok (.iaload, 1) := by decide +kernel
theorem dX8_settle_21 : decode cX8_settle 21 = .ok (.sipush 400, 3) := by decide +kernel
theorem dX8_settle_24 : decode cX8_settle 24 = .ok (.invokestatic 36, 3) := by decide +kernel
theorem dX8_settle_27 : decode cX8_settle 27 = .ok (.istore_n 2, 1) := by decide +kernel
theorem dX8_settle_28 : decode cX8_settle 28 = .ok (.iconst 0, 1) := by decide +kernel
theorem dX8_settle_29 : decode cX8_settle 29 = .ok (.istore_n 3, 1) := by decide +kernel
theorem dX8_settle_30 : decode cX8_settle 30 = .ok (.iload_n 3, 1) := by decide +kernel
theorem dX8_settle_31 : decode cX8_settle 31 = .ok (.bipush 8, 2) := by decide +kernel
theorem dX8_settle_33 : decode cX8_settle 33 = .ok (.if_icmp .ge 76, 3) := by decide +kernel
theorem dX8_settle_36 : decode cX8_settle 36 = .ok (.aload_n 0, 1) := by decide +kernel
theorem dX8_settle_37 : decode cX8_settle 37 = .ok (.iconst 0, 1) := by decide +kernel
theorem dX8_settle_38 : decode cX8_settle 38 = .ok (.putfield 42, 3) := by decide +kernel
theorem dX8_settle_41 : decode cX8_settle 41 = .ok (.aload_n 0, 1) := by decide +kernel
theorem dX8_settle_42 : decode cX8_settle 42 = .ok (.getfield 18, 3) := by decide +kernel
theorem dX8_settle_45 : decode cX8_settle 45 = .ok (.iload_n 1, 1) := by decide +kernel
theorem dX8_settle_46 : decode cX8_settle 46 = .ok (.invokevirtual 46, 3) := by decide +kernel
theorem dX8_settle_49 : decode cX8_settle 49 = .ok (.istore 4, 2) := by decide +kernel
theorem dX8_settle_51 : decode cX8_settle 51 = .ok (.iload 4, 2) := by decide +kernel
theorem dX8_settle_53 : decode cX8_settle 53 = .ok (.iload_n 2, 1) := by decide +kernel
theorem dX8_settle_54 : decode cX8_settle 54 = .ok (.if_icmp .ge 34, 3) := by decide +kernel
theorem dX8_settle_57 : decode cX8_settle 57 = .ok (.aload_n 0, 1) := by decide +kernel
theorem dX8_settle_58 : decode cX8_settle 58 = .ok (.aload_n 0, 1) := by decide +kernel
theorem dX8_settle_59 : decode cX8_settle 59 = .ok (.getfield 18, 3) := by decide +kernel
theorem dX8_settle_62 : decode cX8_settle 62 = .ok (.getfield 50, 3) := by decide +kernel
theorem dX8_settle_65 : decode cX8_settle 65 = .ok (.iload 4, 2) := by decide +kernel
theorem dX8_settle_67 : decode cX8_settle 67 = .ok (.iaload, 1) := by decide +kernel
theorem dX8_settle_68 : decode cX8_settle 68 = .ok (.aload_n 0, 1) := by decide +kernel
theorem dX8_settle_69 : decode cX8_settle 69 = .ok (.getfield 18, 3) := by decide +kernel
theorem dX8_settle_72 : decode cX8_settle 72 = .ok (.getfield 53, 3) := by decide +kernel
theorem dX8_settle_75 : decode cX8_settle 75 = .ok (.iload 4, 2) := by decide +kernel
theorem dX8_settle_77 : decode cX8_settle 77 = .ok (.iaload, 1) := by decide +kernel
theorem dX8_settle_78 : decode cX8_settle 78 = .ok (.iload_n 3, 1) := by decide +kernel
theorem dX8_settle_79 : decode cX8_settle 79 = .ok (.invokevirtual 56, 3) := by decide +kernel
theorem dX8_settle_82 : decode cX8_settle 82 = .ok (.iinc 4 1, 3) := by decide +kernel
theorem dX8_settle_85 : decode cX8_settle 85 = .ok (.goto (-34), 3) := by decide +kernel
theorem dX8_settle_88 : decode cX8_settle 88 = .ok (.aload_n 0, 1) := by decide +kernel
theorem dX8_settle_89 : decode cX8_settle 89 = .ok (.getfield 9, 3) := by decide +kernel
theorem dX8_settle_92 : decode cX8_settle 92 = .ok (.iload_n 1, 1) := by decide +kernel
theorem dX8_settle_93 : decode cX8_settle 93 = .ok (.bipush 8, 2) := by decide +kernel
theorem dX8_settle_95 : decode cX8_settle 95 = .ok (.imul, 1) := by decide +kernel
theorem dX8_settle_96 : decode cX8_settle 96 = .ok (.iload_n 3, 1) := by decide +kernel
theorem dX8_settle_97 : decode cX8_settle 97 = .ok (.iadd, 1) := by decide +kernel
theorem dX8_settle_98 : decode cX8_settle 98 = .ok (.aload_n 0, 1) := by decide +kernel
theorem dX8_settle_99 : decode cX8_settle 99 = .ok (.invokevirtual 60, 3) := by decide +kernel
theorem dX8_settle_102 : decode cX8_settle 102 = .ok (.lastore, 1) := by decide +kernel
theorem dX8_settle_103 : decode cX8_settle 103 = .ok (.iinc 3 1, 3) := by decide +kernel
theorem dX8_settle_106 : decode cX8_settle 106 = .ok (.goto (-76), 3) := by decide +kernel
theorem dX8_settle_109 : decode cX8_settle 109 = .ok (.return_, 1) := by decide +kernel
theorem dX8_perform_0 : decode cX8_perform 0 = .ok (.iload_n 1, 1) := by decide +kernel
theorem dX8_perform_1 : decode cX8_perform 1 = .ok (.tableswitch 119 256 267 #[72, 63, 119, 119, 119, 119, 119, 119, 119, 105, 105, 105], 63) := by decide +kernel
theorem dX8_perform_64 : decode cX8_perform 64 = .ok (.aload_n 0, 1) := by decide +kernel
theorem dX8_perform_65 : decode cX8_perform 65 = .ok (.iload_n 2, 1) := by decide +kernel
theorem dX8_perform_66 : decode cX8_perform 66 = .ok (.i2l, 1) := by decide +kernel
theorem dX8_perform_67 : decode cX8_perform 67 = .ok (.invokevirtual 64, 3) := by decide +kernel
theorem dX8_perform_70 : decode cX8_perform 70 = .ok (.goto 74, 3) := by decide +kernel
theorem dX8_perform_73 : decode cX8_perform 73 = .ok (.aload_n 0, 1) := by decide +kernel
theorem dX8_perform_74 : decode cX8_perform 74 = .ok (.aload_n 0, 1) := by decide +kernel
theorem dX8_perform_75 : decode cX8_perform 75 = .ok (.getfield 18, 3) := by decide +kernel
theorem dX8_perform_78 : decode cX8_perform 78 = .ok (.iload_n 2, 1) := by decide +kernel
theorem dX8_perform_79 : decode cX8_perform 79 = .ok (.invokevirtual 26, 3) := by decide +kernel
theorem dX8_perform_82 : decode cX8_perform 82 = .ok (.ifCond .eq 17, 3) := by decide +kernel
theorem dX8_perform_85 : decode cX8_perform 85 = .ok (.aload_n 0, 1) := by decide +kernel
theorem dX8_perform_86 : decode cX8_perform 86 = .ok (.getfield 9, 3) := by decide +kernel
theorem dX8_perform_89 : decode cX8_perform 89 = .ok (.iload_n 2, 1) := by decide +kernel
theorem dX8_perform_90 : decode cX8_perform 90 = .ok (.bipush 8, 2) := by decide +kernel
theorem dX8_perform_92 : decode cX8_perform 92 = .ok (.imul, 1) := by decide +kernel
theorem dX8_perform_93 : decode cX8_perform 93 = .ok (.iload_n 3, 1) := by decide +kernel
theorem dX8_perform_94 : decode cX8_perform 94 = .ok (.iadd, 1) := by decide +kernel
theorem dX8_perform_95 : decode cX8_perform 95 = .ok (.laload, 1) := by decide +kernel
theorem dX8_perform_96 : decode cX8_perform 96 = .ok (.goto 4, 3) := by decide +kernel
theorem dX8_perform_99 : decode cX8_perform 99 = .ok (.lconst 0, 1) := by decide +kernel
theorem dX8_perform_100 : decode cX8_perform 100 = .ok (.invokevirtual 64, 3) := by decide +kernel
theorem dX8_perform_103 : decode cX8_perform 103 = .ok (.goto 41, 3) := by decide +kernel
theorem dX8_perform_106 : decode cX8_perform 106 = .ok (.aload_n 0, 1) := by decide +kernel
theorem dX8_perform_107 : decode cX8_perform 107 = .ok (.aload_n 0, 1) := by decide +kernel
theorem dX8_perform_108 : decode cX8_perform 108 = .ok (.iload_n 1, 1) := by decide +kernel
theorem dX8_perform_109 : decode cX8_perform 109 = .ok (.iload_n 2, 1) := by decide +kernel
theorem dX8_perform_110 : decode cX8_perform 110 = .ok (.iload_n 3, 1) := by decide +kernel
theorem dX8_perform_111 : decode cX8_perform 111 = .ok (.invokevirtual 68, 3) := by decide +kernel
theorem dX8_perform_114 : decode cX8_perform 114 = .ok (.invokevirtual 64, 3) := by decide +kernel
theorem dX8_perform_117 : decode cX8_perform 117 = .ok (.goto 27, 3) := by decide +kernel
theorem dX8_perform_120 : decode cX8_perform 120 = .ok (.aload_n 0, 1) := by decide +kernel
theorem dX8_perform_121 : decode cX8_perform 121 = .ok (.invokevirtual 60, 3) := by decide +kernel
theorem dX8_perform_124 : decode cX8_perform 124 = .ok (.lstore 4, 2) := by decide +kernel
theorem dX8_perform_126 : decode cX8_perform 126 = .ok (.aload_n 0, 1) := by decide +kernel
theorem dX8_perform_127 : decode cX8_perform 127 = .ok (.invokevirtual 60, 3) := by decide +kernel
theorem dX8_perform_130 : decode cX8_perform 130 = .ok (.lstore 6, 2) := by decide +kernel
theorem dX8_perform_132 : decode cX8_perform 132 = .ok (.aload_n 0, 1) := by decide +kernel
theorem dX8_perform_133 : decode cX8_perform 133 = .ok (.iload_n 1, 1) := by decide +kernel
theorem dX8_perform_134 : decode cX8_perform 134 = .ok (.lload 6, 2) := by decide +kernel
theorem dX8_perform_136 : decode cX8_perform 136 = .ok (.lload 4, 2) := by decide +kernel
theorem dX8_perform_138 : decode cX8_perform 138 = .ok (.invokestatic 72, 3) := by decide +kernel
theorem dX8_perform_141 : decode cX8_perform 141 = .ok (.invokevirtual 64, 3) := by decide +kernel
theorem dX8_perform_144 : decode cX8_perform 144 = .ok (.return_, 1) := by decide +kernel
theorem dX8_figure_0 : decode cX8_figure 0 = .ok (.iload_n 2, 1) := by decide +kernel
theorem dX8_figure_1 : decode cX8_figure 1 = .ok (.bipush 6, 2) := by decide +kernel
theorem dX8_figure_3 : decode cX8_figure 3 = .ok (.invokestatic 76, 3) := by decide +kernel
theorem dX8_figure_6 : decode cX8_figure 6 = .ok (.ifCond .ne 5, 3) := by decide +kernel
theorem dX8_figure_9 : decode cX8_figure 9 = .ok (.lconst 0, 1) := by decide +kernel
theorem dX8_figure_10 : decode cX8_figure 10 = .ok (.lreturn, 1) := by decide +kernel
theorem dX8_figure_11 : decode cX8_figure 11 = .ok (.iload_n 2, 1) := by decide +kernel
theorem dX8_figure_12 : decode cX8_figure 12 = .ok (.bipush 8, 2) := by decide +kernel
theorem dX8_figure_14 : decode cX8_figure 14 = .ok (.imul, 1) := by decide +kernel
theorem dX8_figure_15 : decode cX8_figure 15 = .ok (.iload_n 3, 1) := by decide +kernel
theorem dX8_figure_16 : decode cX8_figure 16 = .ok (.iadd, 1) := by decide +kernel
theorem dX8_figure_17 : decode cX8_figure 17 = .ok (.istore 4, 2) := by decide +kernel
theorem dX8_figure_19 : decode cX8_figure 19 = .ok (.iload_n 1, 1) := by decide +kernel
theorem dX8_figure_20 : decode cX8_figure 20 = .ok (.sipush 265, 3) := by decide +kernel
theorem dX8_figure_23 : decode cX8_figure 23 = .ok (.if_icmp .ne 17, 3) := by decide +kernel
theorem dX8_figure_26 : decode cX8_figure 26 = .ok (.aload_n 0, 1) := by decide +kernel
theorem dX8_figure_27 : decode cX8_figure 27 = .ok (.getfield 22, 3) := by decide +kernel
theorem dX8_figure_30 : decode cX8_figure 30 = .ok (.getfield 80, 3) := by decide +kernel
theorem dX8_figure_33 : decode cX8_figure 33 = .ok (.getfield 86, 3) := by decide +kernel
theorem dX8_figure_36 : decode cX8_figure 36 = .ok (.iload 4, 2) := by decide +kernel
theorem dX8_figure_38 : decode cX8_figure 38 = .ok (.laload, 1) := by decide +kernel
theorem dX8_figure_39 : decode cX8_figure 39 = .ok (.lreturn, 1) := by decide +kernel
theorem dX8_figure_40 : decode cX8_figure 40 = .ok (.iload_n 1, 1) := by decide +kernel
theorem dX8_figure_41 : decode cX8_figure 41 = .ok (.sipush 266, 3) := by decide +kernel
theorem dX8_figure_44 : decode cX8_figure 44 = .ok (.if_icmp .ne 19, 3) := by decide +kernel
theorem dX8_figure_47 : decode cX8_figure 47 = .ok (.aload_n 0, 1) := by decide +kernel
theorem dX8_figure_48 : decode cX8_figure 48 = .ok (.getfield 22, 3) := by decide +kernel
theorem dX8_figure_51 : decode cX8_figure 51 = .ok (.getfield 80, 3) := by decide +kernel
theorem dX8_figure_54 : decode cX8_figure 54 = .ok (.getfield 91, 3) := by decide +kernel
theorem dX8_figure_57 : decode cX8_figure 57 = .ok (.iload 4, 2) := by decide +kernel
theorem dX8_figure_59 : decode cX8_figure 59 = .ok (.laload, 1) := by decide +kernel
theorem dX8_figure_60 : decode cX8_figure 60 = .ok (.goto 16, 3) := by decide +kernel
theorem dX8_figure_63 : decode cX8_figure 63 = .ok (.aload_n 0, 1) := by decide +kernel
theorem dX8_figure_64 : decode cX8_figure 64 = .ok (.getfield 22, 3) := by decide +kernel
theorem dX8_figure_67 : decode cX8_figure 67 = .ok (.getfield 80, 3) := by decide +kernel
theorem dX8_figure_70 : decode cX8_figure 70 = .ok (.getfield 94, 3) := by decide +kernel
theorem dX8_figure_73 : decode cX8_figure 73 = .ok (.iload 4, 2) := by decide +kernel
theorem dX8_figure_75 : decode cX8_figure 75 = .ok (.laload, 1) := by decide +kernel
theorem dX8_figure_76 : decode cX8_figure 76 = .ok (.lreturn, 1) := by decide +kernel
theorem dX8_joined_0 : decode cX8_joined 0 = .ok (.iload_n 0, 1) := by decide +kernel
theorem dX8_joined_1 : decode cX8_joined 1 = .ok (.tableswitch 43 42 45 #[39, 31, 43, 35], 31) := by decide +kernel
theorem dX8_joined_32 : decode cX8_joined 32 = .ok (.lload_n 1, 1) := by decide +kernel
theorem dX8_joined_33 : decode cX8_joined 33 = .ok (.lload_n 3, 1) := by decide +kernel
theorem dX8_joined_34 : decode cX8_joined 34 = .ok (.ladd, 1) := by decide +kernel
theorem dX8_joined_35 : decode cX8_joined 35 = .ok (.lreturn, 1) := by decide +kernel
theorem dX8_joined_36 : decode cX8_joined 36 = .ok (.lload_n 1, 1) := by decide +kernel
theorem dX8_joined_37 : decode cX8_joined 37 = .ok (.lload_n 3, 1) := by decide +kernel
theorem dX8_joined_38 : decode cX8_joined 38 = .ok (.lsub, 1) := by decide +kernel
theorem dX8_joined_39 : decode cX8_joined 39 = .ok (.lreturn, 1) := by decide +kernel
theorem dX8_joined_40 : decode cX8_joined 40 = .ok (.lload_n 1, 1) := by decide +kernel
theorem dX8_joined_41 : decode cX8_joined 41 = .ok (.lload_n 3, 1) := by decide +kernel
theorem dX8_joined_42 : decode cX8_joined 42 = .ok (.lmul, 1) := by decide +kernel
theorem dX8_joined_43 : decode cX8_joined 43 = .ok (.lreturn, 1) := by decide +kernel
theorem dX8_joined_44 : decode cX8_joined 44 = .ok (.lload_n 1, 1) := by decide +kernel
theorem dX8_joined_45 : decode cX8_joined 45 = .ok (.lload_n 3, 1) := by decide +kernel
theorem dX8_joined_46 : decode cX8_joined 46 = .ok (.invokestatic 97, 3) := by decide +kernel
theorem dX8_joined_49 : decode cX8_joined 49 = .ok (.lreturn, 1) := by decide +kernel
theorem dX8_push_0 : decode cX8_push 0 = .ok (.aload_n 0, 1) := by decide +kernel
theorem dX8_push_1 : decode cX8_push 1 = .ok (.getfield 42, 3) := by decide +kernel
theorem dX8_push_4 : decode cX8_push 4 = .ok (.sipush 400, 3) := by decide +kernel
theorem dX8_push_7 : decode cX8_push 7 = .ok (.if_icmp .ge 23, 3) := by decide +kernel
theorem dX8_push_10 : decode cX8_push 10 = .ok (.aload_n 0, 1) := by decide +kernel
theorem dX8_push_11 : decode cX8_push 11 = .ok (.getfield 15, 3) := by decide +kernel
theorem dX8_push_14 : decode cX8_push 14 = .ok (.aload_n 0, 1) := by decide +kernel
theorem dX8_push_15 : decode cX8_push 15 = .ok (.getfield 42, 3) := by decide +kernel
theorem dX8_push_18 : decode cX8_push 18 = .ok (.lload_n 1, 1) := by decide +kernel
theorem dX8_push_19 : decode cX8_push 19 = .ok (.lastore, 1) := by decide +kernel
theorem dX8_push_20 : decode cX8_push 20 = .ok (.aload_n 0, 1) := by decide +kernel
theorem dX8_push_21 : decode cX8_push 21 = .ok (.dup, 1) := by decide +kernel
theorem dX8_push_22 : decode cX8_push 22 = .ok (.getfield 42, 3) := by decide +kernel
theorem dX8_push_25 : decode cX8_push 25 = .ok (.iconst 1, 1) := by decide +kernel
theorem dX8_push_26 : decode cX8_push 26 = .ok (.iadd, 1) := by decide +kernel
theorem dX8_push_27 : decode cX8_push 27 = .ok (.putfield 42, 3) := by decide +kernel
theorem dX8_push_30 : decode cX8_push 30 = .ok (.return_, 1) := by decide +kernel
theorem dX8_pop_0 : decode cX8_pop 0 = .ok (.aload_n 0, 1) := by decide +kernel
theorem dX8_pop_1 : decode cX8_pop 1 = .ok (.getfield 42, 3) := by decide +kernel
theorem dX8_pop_4 : decode cX8_pop 4 = .ok (.ifCond .gt 5, 3) := by decide +kernel
theorem dX8_pop_7 : decode cX8_pop 7 = .ok (.lconst 0, 1) := by decide +kernel
theorem dX8_pop_8 : decode cX8_pop 8 = .ok (.lreturn, 1) := by decide +kernel
theorem dX8_pop_9 : decode cX8_pop 9 = .ok (.aload_n 0, 1) := by decide +kernel
theorem dX8_pop_10 : decode cX8_pop 10 = .ok (.dup, 1) := by decide +kernel
theorem dX8_pop_11 : decode cX8_pop 11 = .ok (.getfield 42, 3) := by decide +kernel
theorem dX8_pop_14 : decode cX8_pop 14 = .ok (.iconst 1, 1) := by decide +kernel
theorem dX8_pop_15 : decode cX8_pop 15 = .ok (.isub, 1) := by decide +kernel
theorem dX8_pop_16 : decode cX8_pop 16 = .ok (.putfield 42, 3) := by decide +kernel
theorem dX8_pop_19 : decode cX8_pop 19 = .ok (.aload_n 0, 1) := by decide +kernel
theorem dX8_pop_20 : decode cX8_pop 20 = .ok (.getfield 15, 3) := by decide +kernel
theorem dX8_pop_23 : decode cX8_pop 23 = .ok (.aload_n 0, 1) := by decide +kernel
theorem dX8_pop_24 : decode cX8_pop 24 = .ok (.getfield 42, 3) := by decide +kernel
theorem dX8_pop_27 : decode cX8_pop 27 = .ok (.laload, 1) := by decide +kernel
theorem dX8_pop_28 : decode cX8_pop 28 = .ok (.lreturn, 1) := by decide +kernel
theorem dX9_init_0 : decode cX9_init 0 = .ok (.aload_n 0, 1) := by decide +kernel
theorem dX9_init_1 : decode cX9_init 1 = .ok (.invokespecial 3, 3) := by decide +kernel
theorem dX9_init_4 : decode cX9_init 4 = .ok (.aload_n 0, 1) := by decide +kernel
theorem dX9_init_5 : decode cX9_init 5 = .ok (.iconst 0, 1) := by decide +kernel
theorem dX9_init_6 : decode cX9_init 6 = .ok (.putfield 9, 3) := by decide +kernel
theorem dX9_init_9 : decode cX9_init 9 = .ok (.aload_n 0, 1) := by decide +kernel
theorem dX9_init_10 : decode cX9_init 10 = .ok (.iconst 1, 1) := by decide +kernel
theorem dX9_init_11 : decode cX9_init 11 = .ok (.putfield 15, 3) := by decide +kernel
theorem dX9_init_14 : decode cX9_init 14 = .ok (.aload_n 0, 1) := by decide +kernel
theorem dX9_init_15 : decode cX9_init 15 = .ok (.iconst 0, 1) := by decide +kernel
theorem dX9_init_16 : decode cX9_init 16 = .ok (.putfield 18, 3) := by decide +kernel
theorem dX9_init_19 : decode cX9_init 19 = .ok (.aload_n 0, 1) := by decide +kernel
theorem dX9_init_20 : decode cX9_init 20 = .ok (.iconst 0, 1) := by decide +kernel
theorem dX9_init_21 : decode cX9_init 21 = .ok (.putfield 21, 3) := by decide +kernel
theorem dX9_init_24 : decode cX9_init 24 = .ok (.aload_n 0, 1) := by decide +kernel
theorem dX9_init_25 : decode cX9_init 25 = .ok (.iconst 3, 1) := by decide +kernel
theorem dX9_init_26 : decode cX9_init 26 = .ok (.newarray .int, 2) := by decide +kernel
theorem dX9_init_28 : decode cX9_init 28 = .ok (.dup, 1) := by decide +kernel
theorem dX9_init_29 : decode cX9_init 29 = .ok (.iconst 0, 1) := by decide +kernel
theorem dX9_init_30 : decode cX9_init 30 = .ok (.iconst (-1), 1) := by decide +kernel
theorem dX9_init_31 : decode cX9_init 31 = .ok (.iastore, 1) := by decide +kernel
theorem dX9_init_32 : decode cX9_init 32 = .ok (.dup, 1) := by decide +kernel
theorem dX9_init_33 : decode cX9_init 33 = .ok (.iconst 1, 1) := by decide +kernel
theorem dX9_init_34 : decode cX9_init 34 = .ok (.iconst (-1), 1) := by decide +kernel
theorem dX9_init_35 : decode cX9_init 35 = .ok (.iastore, 1) := by decide +kernel
theorem dX9_init_36 : decode cX9_init 36 = .ok (.dup, 1) := by decide +kernel
theorem dX9_init_37 : decode cX9_init 37 = .ok (.iconst 2, 1) := by decide +kernel
theorem dX9_init_38 : decode cX9_init 38 = .ok (.iconst (-1), 1) := by decide +kernel
theorem dX9_init_39 : decode cX9_init 39 = .ok (.iastore, 1) := by decide +kernel
theorem dX9_init_40 : decode cX9_init 40 = .ok (.putfield 24, 3) := by decide +kernel
theorem dX9_init_43 : decode cX9_init 43 = .ok (.aload_n 0, 1) := by decide +kernel
theorem dX9_init_44 : decode cX9_init 44 = .ok (.bipush 7, 2) := by decide +kernel
theorem dX9_init_46 : decode cX9_init 46 = .ok (.newarray .int, 2) := by decide +kernel
theorem dX9_init_48 : decode cX9_init 48 = .ok (.putfield 28, 3) := by decide +kernel
theorem dX9_init_51 : decode cX9_init 51 = .ok (.aload_n 0, 1) := by decide +kernel
theorem dX9_init_52 : decode cX9_init 52 = .ok (.bipush 7, 2) := by decide +kernel
theorem dX9_init_54 : decode cX9_init 54 = .ok (.newarray .int, 2) := by decide +kernel
theorem dX9_init_56 : decode cX9_init 56 = .ok (.putfield 31, 3) := by decide +kernel
theorem dX9_init_59 : decode cX9_init 59 = .ok (.aload_n 0, 1) := by decide +kernel
theorem dX9_init_60 : decode cX9_init 60 = .ok (.bipush 7, 2) := by decide +kernel
theorem dX9_init_62 : decode cX9_init 62 = .ok (.newarray .int, 2) := by decide +kernel
theorem dX9_init_64 : decode cX9_init 64 = .ok (.putfield 34, 3) := by decide +kernel
theorem dX9_init_67 : decode cX9_init 67 = .ok (.aload_n 0, 1) := by decide +kernel
theorem dX9_init_68 : decode cX9_init 68 = .ok (.bipush 7, 2) := by decide +kernel
theorem dX9_init_70 : decode cX9_init 70 = .ok (.newarray .int, 2) := by decide +kernel
theorem dX9_init_72 : decode cX9_init 72 = .ok (.putfield 37, 3) := by decide +kernel
theorem dX9_init_75 : decode cX9_init 75 = .ok (.aload_n 0, 1) := by decide +kernel
theorem dX9_init_76 : decode cX9_init 76 = .ok (.aload_n 1, 1) := by decide +kernel
theorem dX9_init_77 : decode cX9_init 77 = .ok (.putfield 40, 3) := by decide +kernel
theorem dX9_init_80 : decode cX9_init 80 = .ok (.aload_n 0, 1) := by decide +kernel
theorem dX9_init_81 : decode cX9_init 81 = .ok (.aload_n 2, 1) := by decide +kernel
theorem dX9_init_82 : decode cX9_init 82 = .ok (.putfield 44, 3) := by decide +kernel
theorem dX9_init_85 : decode cX9_init 85 = .ok (.aload_n 0, 1) := by decide +kernel
theorem dX9_init_86 : decode cX9_init 86 = .ok (.aload_n 3, 1) := by decide +kernel
theorem dX9_init_87 : decode cX9_init 87 = .ok (.putfield 48, 3) := by decide +kernel
theorem dX9_init_90 : decode cX9_init 90 = .ok (.aload_n 0, 1) := by decide +kernel
theorem dX9_init_91 : decode cX9_init 91 = .ok (.aload 4, 2) := by decide +kernel
theorem dX9_init_93 : decode cX9_init 93 = .ok (.putfield 52, 3) := by decide +kernel
theorem dX9_init_96 : decode cX9_init 96 = .ok (.return_, 1) := by decide +kernel
theorem dX9_startAnew_0 : decode cX9_startAnew 0 = .ok (.aload_n 0, 1) := by decide +kernel
theorem dX9_startAnew_1 : decode cX9_startAnew 1 = .ok (.iconst 0, 1) := by decide +kernel
theorem dX9_startAnew_2 : decode cX9_startAnew 2 = .ok (.putfield 18, 3) := by decide +kernel
theorem dX9_startAnew_5 : decode cX9_startAnew 5 = .ok (.aload_n 0, 1) := by decide +kernel
theorem dX9_startAnew_6 : decode cX9_startAnew 6 = .ok (.iconst 0, 1) := by decide +kernel
theorem dX9_startAnew_7 : decode cX9_startAnew 7 = .ok (.putfield 21, 3) := by decide +kernel
theorem dX9_startAnew_10 : decode cX9_startAnew 10 = .ok (.iconst 0, 1) := by decide +kernel
theorem dX9_startAnew_11 : decode cX9_startAnew 11 = .ok (.istore_n 1, 1) := by decide +kernel
theorem dX9_startAnew_12 : decode cX9_startAnew 12 = .ok (.iload_n 1, 1) := by decide +kernel
theorem dX9_startAnew_13 : decode cX9_startAnew 13 = .ok (.iconst 3, 1) := by decide +kernel
theorem dX9_startAnew_14 : decode cX9_startAnew 14 = .ok (.if_icmp .ge 16, 3) := by decide +kernel
theorem dX9_startAnew_17 : decode cX9_startAnew 17 = .ok (.aload_n 0, 1) := by decide +kernel
theorem dX9_startAnew_18 : decode cX9_startAnew 18 = .ok (.getfield 24, 3) := by decide +kernel
theorem dX9_startAnew_21 : decode cX9_startAnew 21 = .ok (.iload_n 1, 1) := by decide +kernel
theorem dX9_startAnew_22 : decode cX9_startAnew 22 = .ok (.iconst (-1), 1) := by decide +kernel
theorem dX9_startAnew_23 : decode cX9_startAnew 23 = .ok (.iastore, 1) := by decide +kernel
theorem dX9_startAnew_24 : decode cX9_startAnew 24 = .ok (.iinc 1 1, 3) := by decide +kernel
theorem dX9_startAnew_27 : decode cX9_startAnew 27 = .ok (.goto (-15), 3) := by decide +kernel
theorem dX9_startAnew_30 : decode cX9_startAnew 30 = .ok (.iconst 0, 1) := by decide +kernel
theorem dX9_startAnew_31 : decode cX9_startAnew 31 = .ok (.istore_n 1, 1) := by decide +kernel
theorem dX9_startAnew_32 : decode cX9_startAnew 32 = .ok (.iload_n 1, 1) := by decide +kernel
theorem dX9_startAnew_33 : decode cX9_startAnew 33 = .ok (.bipush 7, 2) := by decide +kernel
theorem dX9_startAnew_35 : decode cX9_startAnew 35 = .ok (.if_icmp .ge 23, 3) := by decide +kernel
theorem dX9_startAnew_38 : decode cX9_startAnew 38 = .ok (.aload_n 0, 1) := by decide +kernel
theorem dX9_startAnew_39 : decode cX9_startAnew 39 = .ok (.getfield 28, 3) := by decide +kernel
theorem dX9_startAnew_42 : decode cX9_startAnew 42 = .ok (.iload_n 1, 1) := by decide +kernel
theorem dX9_startAnew_43 : decode cX9_startAnew 43 = .ok (.iload_n 1, 1) := by decide +kernel
theorem dX9_startAnew_44 : decode cX9_startAnew 44 = .ok (.iastore, 1) := by decide +kernel
theorem dX9_startAnew_45 : decode cX9_startAnew 45 = .ok (.aload_n 0, 1) := by decide +kernel
theorem dX9_startAnew_46 : decode cX9_startAnew 46 = .ok (.getfield 34, 3) := by decide +kernel
theorem dX9_startAnew_49 : decode cX9_startAnew 49 = .ok (.iload_n 1, 1) := by decide +kernel
theorem dX9_startAnew_50 : decode cX9_startAnew 50 = .ok (.iconst 0, 1) := by decide +kernel
theorem dX9_startAnew_51 : decode cX9_startAnew 51 = .ok (.iastore, 1) := by decide +kernel
theorem dX9_startAnew_52 : decode cX9_startAnew 52 = .ok (.iinc 1 1, 3) := by decide +kernel
theorem dX9_startAnew_55 : decode cX9_startAnew 55 = .ok (.goto (-23), 3) := by decide +kernel
theorem dX9_startAnew_58 : decode cX9_startAnew 58 = .ok (.return_, 1) := by decide +kernel
theorem dX9_isDone_0 : decode cX9_isDone 0 = .ok (.aload_n 0, 1) := by decide +kernel
theorem dX9_isDone_1 : decode cX9_isDone 1 = .ok (.getfield 18, 3) := by decide +kernel
theorem dX9_isDone_4 : decode cX9_isDone 4 = .ok (.iload_n 1, 1) := by decide +kernel
theorem dX9_isDone_5 : decode cX9_isDone 5 = .ok (.ishr, 1) := by decide +kernel
theorem dX9_isDone_6 : decode cX9_isDone 6 = .ok (.iconst 1, 1) := by decide +kernel
theorem dX9_isDone_7 : decode cX9_isDone 7 = .ok (.iand, 1) := by decide +kernel
theorem dX9_isDone_8 : decode cX9_isDone 8 = .ok (.ifCond .eq 7, 3) := by decide +kernel
theorem dX9_isDone_11 : decode cX9_isDone 11 = .ok (.iconst 1, 1) := by decide +kernel
theorem dX9_isDone_12 : decode cX9_isDone 12 = .ok (.goto 4, 3) := by decide +kernel
theorem dX9_isDone_15 : decode cX9_isDone 15 = .ok (.iconst 0, 1) := by decide +kernel
theorem dX9_isDone_16 : decode cX9_isDone 16 = .ok (.ireturn, 1) := by decide +kernel
theorem dX9_isUnderWay_0 : decode cX9_isUnderWay 0 = .ok (.aload_n 0, 1) := by decide +kernel
theorem dX9_isUnderWay_1 : decode cX9_isUnderWay 1 = .ok (.getfield 21, 3) := by decide +kernel
theorem dX9_isUnderWay_4 : decode cX9_isUnderWay 4 = .ok (.iload_n 1, 1) := by decide +kernel
theorem dX9_isUnderWay_5 : decode cX9_isUnderWay 5 = .ok (.ishr, 1) := by decide +kernel
theorem dX9_isUnderWay_6 : decode cX9_isUnderWay 6 = .ok (.iconst 1, 1) := by decide +kernel
theorem dX9_isUnderWay_7 : decode cX9_isUnderWay 7 = .ok (.iand, 1) := by decide +kernel
theorem dX9_isUnderWay_8 : decode cX9_isUnderWay 8 = .ok (.ifCond .eq 7, 3) := by decide +kernel
theorem dX9_isUnderWay_11 : decode cX9_isUnderWay 11 = .ok (.iconst 1, 1) := by decide +kernel
theorem dX9_isUnderWay_12 : decode cX9_isUnderWay 12 = .ok (.goto 4, 3) := by decide +kernel
theorem dX9_isUnderWay_15 : decode cX9_isUnderWay 15 = .ok (.iconst 0, 1) := by decide +kernel
theorem dX9_isUnderWay_16 : decode cX9_isUnderWay 16 = .ok (.ireturn, 1) := by decide +kernel
theorem dX9_undo_0 : decode cX9_undo 0 = .ok (.iconst 0, 1) := by decide +kernel
theorem dX9_undo_1 : decode cX9_undo 1 = .ok (.istore_n 2, 1) := by decide +kernel
theorem dX9_undo_2 : decode cX9_undo 2 = .ok (.iconst 0, 1) := by decide +kernel
theorem dX9_undo_3 : decode cX9_undo 3 = .ok (.istore_n 3, 1) := by decide +kernel
theorem dX9_undo_4 : decode cX9_undo 4 = .ok (.iload_n 3, 1) := by decide +kernel
theorem dX9_undo_5 : decode cX9_undo 5 = .ok (.aload_n 0, 1) := by decide +kernel
theorem dX9_undo_6 : decode cX9_undo 6 = .ok (.getfield 40, 3) := by decide +kernel
theorem dX9_undo_9 : decode cX9_undo 9 = .ok (.getfield 56, 3) := by decide +kernel
theorem dX9_undo_12 : decode cX9_undo 12 = .ok (.if_icmp .ge 31, 3) := by decide +kernel
theorem dX9_undo_15 : decode cX9_undo 15 = .ok (.aload_n 0, 1) := by decide +kernel
theorem dX9_undo_16 : decode cX9_undo 16 = .ok (.getfield 40, 3) := by decide +kernel
theorem dX9_undo_19 : decode cX9_undo 19 = .ok (.getfield 61, 3) := by decide +kernel
theorem dX9_undo_22 : decode cX9_undo 22 = .ok (.iload_n 3, 1) := by decide +kernel
theorem dX9_undo_23 : decode cX9_undo 23 = .ok (.iaload, 1) := by decide +kernel
theorem dX9_undo_24 : decode cX9_undo 24 = .ok (.iload_n 1, 1) := by decide +kernel
theorem dX9_undo_25 : decode cX9_undo 25 = .ok (.ishr, 1) := by decide +kernel
theorem dX9_undo_26 : decode cX9_undo 26 = .ok (.iconst 1, 1) := by decide +kernel
theorem dX9_undo_27 : decode cX9_undo 27 = .ok (.iand, 1) := by decide +kernel
theorem dX9_undo_28 : decode cX9_undo 28 = .ok (.ifCond .eq 9, 3) := by decide +kernel
theorem dX9_undo_31 : decode cX9_undo 31 = .ok (.iload_n 2, 1) := by decide +kernel
theorem dX9_undo_32 : decode cX9_undo 32 = .ok (.iconst 1, 1) := by decide +kernel
theorem dX9_undo_33 : decode cX9_undo 33 = .ok (.iload_n 3, 1) := by decide +kernel
theorem dX9_undo_34 : decode cX9_undo 34 = .ok (.ishl, 1) := by decide +kernel
theorem dX9_undo_35 : decode cX9_undo 35 = .ok (.ior, 1) := by decide +kernel
theorem dX9_undo_36 : decode cX9_undo 36 = .ok (.istore_n 2, 1) := by decide +kernel
theorem dX9_undo_37 : decode cX9_undo 37 = .ok (.iinc 3 1, 3) := by decide +kernel
theorem dX9_undo_40 : decode cX9_undo 40 = .ok (.goto (-36), 3) := by decide +kernel
theorem dX9_undo_43 : decode cX9_undo 43 = .ok (.aload_n 0, 1) := by decide +kernel
theorem dX9_undo_44 : decode cX9_undo 44 = .ok (.dup, 1) := by decide +kernel
theorem dX9_undo_45 : decode cX9_undo 45 = .ok (.getfield 18, 3) := by decide +kernel
theorem dX9_undo_48 : decode cX9_undo 48 = .ok (.iload_n 2, 1) := by decide +kernel
theorem dX9_undo_49 : decode cX9_undo 49 = .ok (.iconst (-1), 1) := by decide +kernel
theorem dX9_undo_50 : decode cX9_undo 50 = .ok (.ixor, 1) := by decide +kernel
theorem dX9_undo_51 : decode cX9_undo 51 = .ok (.iand, 1) := by decide +kernel
theorem dX9_undo_52 : decode cX9_undo 52 = .ok (.putfield 18, 3) := by decide +kernel
theorem dX9_undo_55 : decode cX9_undo 55 = .ok (.aload_n 0, 1) := by decide +kernel
theorem dX9_undo_56 : decode cX9_undo 56 = .ok (.dup, 1) := by decide +kernel
theorem dX9_undo_57 : decode cX9_undo 57 = .ok (.getfield 21, 3) := by decide +kernel
theorem dX9_undo_60 : decode cX9_undo 60 = .ok (.iload_n 2, 1) := by decide +kernel
theorem dX9_undo_61 : decode cX9_undo 61 = .ok (.iconst (-1), 1) := by decide +kernel
theorem dX9_undo_62 : decode cX9_undo 62 = .ok (.ixor, 1) := by decide +kernel
theorem dX9_undo_63 : decode cX9_undo 63 = .ok (.iand, 1) := by decide +kernel
theorem dX9_undo_64 : decode cX9_undo 64 = .ok (.putfield 21, 3) := by decide +kernel
theorem dX9_undo_67 : decode cX9_undo 67 = .ok (.iconst 0, 1) := by decide +kernel
theorem dX9_undo_68 : decode cX9_undo 68 = .ok (.istore_n 3, 1) := by decide +kernel
theorem dX9_undo_69 : decode cX9_undo 69 = .ok (.iload_n 3, 1) := by decide +kernel
theorem dX9_undo_70 : decode cX9_undo 70 = .ok (.iconst 3, 1) := by decide +kernel
theorem dX9_undo_71 : decode cX9_undo 71 = .ok (.if_icmp .ge 39, 3) := by decide +kernel
theorem dX9_undo_74 : decode cX9_undo 74 = .ok (.aload_n 0, 1) := by decide +kernel
theorem dX9_undo_75 : decode cX9_undo 75 = .ok (.getfield 24, 3) := by decide +kernel
theorem dX9_undo_78 : decode cX9_undo 78 = .ok (.iload_n 3, 1) := by decide +kernel
theorem dX9_undo_79 : decode cX9_undo 79 = .ok (.iaload, 1) := by decide +kernel
theorem dX9_undo_80 : decode cX9_undo 80 = .ok (.iconst (-1), 1) := by decide +kernel
theorem dX9_undo_81 : decode cX9_undo 81 = .ok (.if_icmp .eq 23, 3) := by decide +kernel
theorem dX9_undo_84 : decode cX9_undo 84 = .ok (.aload_n 0, 1) := by decide +kernel
theorem dX9_undo_85 : decode cX9_undo 85 = .ok (.aload_n 0, 1) := by decide +kernel
theorem dX9_undo_86 : decode cX9_undo 86 = .ok (.getfield 24, 3) := by decide +kernel
theorem dX9_undo_89 : decode cX9_undo 89 = .ok (.iload_n 3, 1) := by decide +kernel
theorem dX9_undo_90 : decode cX9_undo 90 = .ok (.iaload, 1) := by decide +kernel
theorem dX9_undo_91 : decode cX9_undo 91 = .ok (.invokevirtual 64, 3) := by decide +kernel
theorem dX9_undo_94 : decode cX9_undo 94 = .ok (.ifCond .ne 10, 3) := by decide +kernel
theorem dX9_undo_97 : decode cX9_undo 97 = .ok (.aload_n 0, 1) := by decide +kernel
theorem dX9_undo_98 : decode cX9_undo 98 = .ok (.getfield 24, 3) := by decide +kernel
theorem dX9_undo_101 : decode cX9_undo 101 = .ok (.iload_n 3, 1) := by decide +kernel
theorem dX9_undo_102 : decode cX9_undo 102 = .ok (.iconst (-1), 1) := by decide +kernel
theorem dX9_undo_103 : decode cX9_undo 103 = .ok (.iastore, 1) := by decide +kernel
theorem dX9_undo_104 : decode cX9_undo 104 = .ok (.iinc 3 1, 3) := by decide +kernel
theorem dX9_undo_107 : decode cX9_undo 107 = .ok (.goto (-38), 3) := by decide +kernel
theorem dX9_undo_110 : decode cX9_undo 110 = .ok (.return_, 1) := by decide +kernel
theorem dX9_passTick_0 : decode cX9_passTick 0 = .ok (.aload_n 0, 1) := by decide +kernel
theorem dX9_passTick_1 : decode cX9_passTick 1 = .ok (.dup, 1) := by decide +kernel
theorem dX9_passTick_2 : decode cX9_passTick 2 = .ok (.getfield 9, 3) := by decide +kernel
theorem dX9_passTick_5 : decode cX9_passTick 5 = .ok (.iconst 1, 1) := by decide +kernel
theorem dX9_passTick_6 : decode cX9_passTick 6 = .ok (.iadd, 1) := by decide +kernel
theorem dX9_passTick_7 : decode cX9_passTick 7 = .ok (.putfield 9, 3) := by decide +kernel
theorem dX9_passTick_10 : decode cX9_passTick 10 = .ok (.iconst 0, 1) := by decide +kernel
theorem dX9_passTick_11 : decode cX9_passTick 11 = .ok (.istore_n 1, 1) := by decide +kernel
theorem dX9_passTick_12 : decode cX9_passTick 12 = .ok (.iload_n 1, 1) := by decide +kernel
theorem dX9_passTick_13 : decode cX9_passTick 13 = .ok (.aload_n 0, 1) := by decide +kernel
theorem dX9_passTick_14 : decode cX9_passTick 14 = .ok (.getfield 15, 3) := by decide +kernel
theorem dX9_passTick_17 : decode cX9_passTick 17 = .ok (.if_icmp .ge 24, 3) := by decide +kernel
theorem dX9_passTick_20 : decode cX9_passTick 20 = .ok (.aload_n 0, 1) := by decide +kernel
theorem dX9_passTick_21 : decode cX9_passTick 21 = .ok (.getfield 24, 3) := by decide +kernel
theorem dX9_passTick_24 : decode cX9_passTick 24 = .ok (.iload_n 1, 1) := by decide +kernel
theorem dX9_passTick_25 : decode cX9_passTick 25 = .ok (.iaload, 1) := by decide +kernel
theorem dX9_passTick_26 : decode cX9_passTick 26 = .ok (.iconst (-1), 1) := by decide +kernel
theorem dX9_passTick_27 : decode cX9_passTick 27 = .ok (.if_icmp .ne 8, 3) := by decide +kernel
theorem dX9_passTick_30 : decode cX9_passTick 30 = .ok (.aload_n 0, 1) := by decide +kernel
theorem dX9_passTick_31 : decode cX9_passTick 31 = .ok (.iload_n 1, 1) := by decide +kernel
theorem dX9_passTick_32 : decode cX9_passTick 32 = .ok (.invokevirtual 68, 3) := by decide +kernel
theorem dX9_passTick_35 : decode cX9_passTick 35 = .ok (.iinc 1 1, 3) := by decide +kernel
theorem dX9_passTick_38 : decode cX9_passTick 38 = .ok (.goto (-26), 3) := by decide +kernel
theorem dX9_passTick_41 : decode cX9_passTick 41 = .ok (.iconst 0, 1) := by decide +kernel
theorem dX9_passTick_42 : decode cX9_passTick 42 = .ok (.istore_n 1, 1) := by decide +kernel
theorem dX9_passTick_43 : decode cX9_passTick 43 = .ok (.iload_n 1, 1) := by decide +kernel
theorem dX9_passTick_44 : decode cX9_passTick 44 = .ok (.aload_n 0, 1) := by decide +kernel
theorem dX9_passTick_45 : decode cX9_passTick 45 = .ok (.getfield 15, 3) := by decide +kernel
theorem dX9_passTick_48 : decode cX9_passTick 48 = .ok (.if_icmp .ge 14, 3) := by decide +kernel
theorem dX9_passTick_51 : decode cX9_passTick 51 = .ok (.aload_n 0, 1) := by decide +kernel
theorem dX9_passTick_52 : decode cX9_passTick 52 = .ok (.iload_n 1, 1) := by decide +kernel
theorem dX9_passTick_53 : decode cX9_passTick 53 = .ok (.invokevirtual 72, 3) := by decide +kernel
theorem dX9_passTick_56 : decode cX9_passTick 56 = .ok (.iinc 1 1, 3) := by decide +kernel
theorem dX9_passTick_59 : decode cX9_passTick 59 = .ok (.goto (-16), 3) := by decide +kernel
theorem dX9_passTick_62 : decode cX9_passTick 62 = .ok (.return_, 1) := by decide +kernel
theorem dX9_beginAt_0 : decode cX9_beginAt 0 = .ok (.aload_n 0, 1) := by decide +kernel
theorem dX9_beginAt_1 : decode cX9_beginAt 1 = .ok (.invokevirtual 75, 3) := by decide +kernel
theorem dX9_beginAt_4 : decode cX9_beginAt 4 = .ok (.istore_n 2, 1) := by decide +kernel
theorem dX9_beginAt_5 : decode cX9_beginAt 5 = .ok (.aload_n 0, 1) := by decide +kernel
theorem dX9_beginAt_6 : decode cX9_beginAt 6 = .ok (.getfield 40, 3) := by decide +kernel
theorem dX9_beginAt_9 : decode cX9_beginAt 9 = .ok (.iload_n 2, 1) := by decide +kernel
theorem dX9_beginAt_10 : decode cX9_beginAt 10 = .ok (.invokevirtual 79, 3) := by decide +kernel
theorem dX9_beginAt_13 : decode cX9_beginAt 13 = .ok (.ifCond .eq 29, 3) := by decide +kernel
theorem dX9_beginAt_16 : decode cX9_beginAt 16 = .ok (.aload_n 0, 1) := by decide +kernel
theorem dX9_beginAt_17 : decode cX9_beginAt 17 = .ok (.getfield 24, 3) := by decide +kernel
theorem dX9_beginAt_20 : decode cX9_beginAt 20 = .ok (.iload_n 1, 1) := by decide +kernel
theorem dX9_beginAt_21 : decode cX9_beginAt 21 = .ok (.iload_n 2, 1) := by decide +kernel
theorem dX9_beginAt_22 : decode cX9_beginAt 22 = .ok (.iastore, 1) := by decide +kernel
theorem dX9_beginAt_23 : decode cX9_beginAt 23 = .ok (.aload_n 0, 1) := by decide +kernel
theorem dX9_beginAt_24 : decode cX9_beginAt 24 = .ok (.dup, 1) := by decide +kernel
theorem dX9_beginAt_25 : decode cX9_beginAt 25 = .ok (.getfield 21, 3) := by decide +kernel
theorem dX9_beginAt_28 : decode cX9_beginAt 28 = .ok (.iconst 1, 1) := by decide +kernel
theorem dX9_beginAt_29 : decode cX9_beginAt 29 = .ok (.iload_n 2, 1) := by decide +kernel
theorem dX9_beginAt_30 : decode cX9_beginAt 30 = .ok (.ishl, 1) := by decide +kernel
theorem dX9_beginAt_31 : decode cX9_beginAt 31 = .ok (.ior, 1) := by decide +kernel
theorem dX9_beginAt_32 : decode cX9_beginAt 32 = .ok (.putfield 21, 3) := by decide +kernel
theorem dX9_beginAt_35 : decode cX9_beginAt 35 = .ok (.aload_n 0, 1) := by decide +kernel
theorem dX9_beginAt_36 : decode cX9_beginAt 36 = .ok (.getfield 37, 3) := by decide +kernel
theorem dX9_beginAt_39 : decode cX9_beginAt 39 = .ok (.iload_n 2, 1) := by decide +kernel
theorem dX9_beginAt_40 : decode cX9_beginAt 40 = .ok (.iconst 0, 1) := by decide +kernel
theorem dX9_beginAt_41 : decode cX9_beginAt 41 = .ok (.iastore, 1) := by decide +kernel
theorem dX9_beginAt_42 : decode cX9_beginAt 42 = .ok (.return_, 1) := by decide +kernel
theorem dX9_firstReady_0 : decode cX9_firstReady 0 = .ok (.iconst 0, 1) := by decide +kernel
theorem dX9_firstReady_1 : decode cX9_firstReady 1 = .ok (.istore_n 1, 1) := by decide +kernel
theorem dX9_firstReady_2 : decode cX9_firstReady 2 = .ok (.iload_n 1, 1) := by decide +kernel
theorem dX9_firstReady_3 : decode cX9_firstReady 3 = .ok (.aload_n 0, 1) := by decide +kernel
theorem dX9_firstReady_4 : decode cX9_firstReady 4 = .ok (.getfield 40, 3) := by decide +kernel
theorem dX9_firstReady_7 : decode cX9_firstReady 7 = .ok (.getfield 56, 3) := by decide +kernel
theorem dX9_firstReady_10 : decode cX9_firstReady 10 = .ok (.if_icmp .ge 29, 3) := by decide +kernel
theorem dX9_firstReady_13 : decode cX9_firstReady 13 = .ok (.aload_n 0, 1) := by decide +kernel
theorem dX9_firstReady_14 : decode cX9_firstReady 14 = .ok (.aload_n 0, 1) := by decide +kernel
theorem dX9_firstReady_15 : decode cX9_firstReady 15 = .ok (.getfield 28, 3) := by decide +kernel
theorem dX9_firstReady_18 : decode cX9_firstReady 18 = .ok (.iload_n 1, 1) := by decide +kernel
theorem dX9_firstReady_19 : decode cX9_firstReady 19 = .ok (.iaload, 1) := by decide +kernel
theorem dX9_firstReady_20 : decode cX9_firstReady 20 = .ok (.invokevirtual 82, 3) := by decide +kernel
theorem dX9_firstReady_23 : decode cX9_firstReady 23 = .ok (.ifCond .eq 10, 3) := by decide +kernel
theorem dX9_firstReady_26 : decode cX9_firstReady 26 = .ok (.aload_n 0, 1) := by decide +kernel
theorem dX9_firstReady_27 : decode cX9_firstReady 27 = .ok (.getfield 28, 3) := by decide +kernel
theorem dX9_firstReady_30 : decode cX9_firstReady 30 = .ok (.iload_n 1, 1) := by decide +kernel
theorem dX9_firstReady_31 : decode cX9_firstReady 31 = .ok (.iaload, 1) := by decide +kernel
theorem dX9_firstReady_32 : decode cX9_firstReady 32 = .ok (.ireturn, 1) := by decide +kernel
theorem dX9_firstReady_33 : decode cX9_firstReady 33 = .ok (.iinc 1 1, 3) := by decide +kernel
theorem dX9_firstReady_36 : decode cX9_firstReady 36 = .ok (.goto (-34), 3) := by decide +kernel
theorem dX9_firstReady_39 : decode cX9_firstReady 39 = .ok (.iconst (-1), 1) := by decide +kernel
theorem dX9_firstReady_40 : decode cX9_firstReady 40 = .ok (.ireturn, 1) := by decide +kernel
theorem dX9_isReady_0 : decode cX9_isReady 0 = .ok (.aload_n 0, 1) := by decide +kernel
theorem dX9_isReady_1 : decode cX9_isReady 1 = .ok (.getfield 40, 3) := by decide +kernel
theorem dX9_isReady_4 : decode cX9_isReady 4 = .ok (.iload_n 1, 1) := by decide +kernel
theorem dX9_isReady_5 : decode cX9_isReady 5 = .ok (.invokevirtual 79, 3) := by decide +kernel
theorem dX9_isReady_8 : decode cX9_isReady 8 = .ok (.ifCond .eq 64, 3) := by decide +kernel
theorem dX9_isReady_11 : decode cX9_isReady 11 = .ok (.aload_n 0, 1) := by decide +kernel
theorem dX9_isReady_12 : decode cX9_isReady 12 = .ok (.iload_n 1, 1) := by decide +kernel
theorem dX9_isReady_13 : decode cX9_isReady 13 = .ok (.invokevirtual 85, 3) := by decide +kernel
theorem dX9_isReady_16 : decode cX9_isReady 16 = .ok (.ifCond .ne 56, 3) := by decide +kernel
theorem dX9_isReady_19 : decode cX9_isReady 19 = .ok (.aload_n 0, 1) := by decide +kernel
theorem dX9_isReady_20 : decode cX9_isReady 20 = .ok (.iload_n 1, 1) := by decide +kernel
theorem dX9_isReady_21 : decode cX9_isReady 21 = .ok (.invokevirtual 64, 3) := by decide +kernel
theorem dX9_isReady_24 : decode cX9_isReady 24 = .ok (.ifCond .ne 48, 3) := by decide +kernel
theorem dX9_isReady_27 : decode cX9_isReady 27 = .ok (.aload_n 0, 1) := by decide +kernel
theorem dX9_isReady_28 : decode cX9_isReady 28 = .ok (.getfield 40, 3) := by decide +kernel
theorem dX9_isReady_31 : decode cX9_isReady 31 = .ok (.getfield 88, 3) := by decide +kernel
theorem dX9_isReady_34 : decode cX9_isReady 34 = .ok (.iload_n 1, 1) := by decide +kernel
theorem dX9_isReady_35 : decode cX9_isReady 35 = .ok (.iaload, 1) := by decide +kernel
theorem dX9_isReady_36 : decode cX9_isReady 36 = .ok (.aload_n 0, 1) := by decide +kernel
theorem dX9_isReady_37 : decode cX9_isReady 37 = .ok (.getfield 44, 3) := by decide +kernel
theorem dX9_isReady_40 : decode cX9_isReady 40 = .ok (.getfield 91, 3) := by decide +kernel
theorem dX9_isReady_43 : decode cX9_isReady 43 = .ok (.iconst (-1), 1) := by decide +kernel
theorem dX9_isReady_44 : decode cX9_isReady 44 = .ok (.ixor, 1) := by decide +kernel
theorem dX9_isReady_45 : decode cX9_isReady 45 = .ok (.iand, 1) := by decide +kernel
theorem dX9_isReady_46 : decode cX9_isReady 46 = .ok (.ifCond .ne 26, 3) := by decide +kernel
theorem dX9_isReady_49 : decode cX9_isReady 49 = .ok (.aload_n 0, 1) := by decide +kernel
theorem dX9_isReady_50 : decode cX9_isReady 50 = .ok (.getfield 40, 3) := by decide +kernel
theorem dX9_isReady_53 : decode cX9_isReady 53 = .ok (.getfield 96, 3) := by decide +kernel
theorem dX9_isReady_56 : decode cX9_isReady 56 = .ok (.iload_n 1, 1) := by decide +kernel
theorem dX9_isReady_57 : decode cX9_isReady 57 = .ok (.iaload, 1) := by decide +kernel
theorem dX9_isReady_58 : decode cX9_isReady 58 = .ok (.aload_n 0, 1) := by decide +kernel
theorem dX9_isReady_59 : decode cX9_isReady 59 = .ok (.getfield 18, 3) := by decide +kernel
theorem dX9_isReady_62 : decode cX9_isReady 62 = .ok (.iconst (-1), 1) := by decide +kernel
theorem dX9_isReady_63 : decode cX9_isReady 63 = .ok (.ixor, 1) := by decide +kernel
theorem dX9_isReady_64 : decode cX9_isReady 64 = .ok (.iand, 1) := by decide +kernel
theorem dX9_isReady_65 : decode cX9_isReady 65 = .ok (.ifCond .ne 7, 3) := by decide +kernel
theorem dX9_isReady_68 : decode cX9_isReady 68 = .ok (.iconst 1, 1) := by decide +kernel
theorem dX9_isReady_69 : decode cX9_isReady 69 = .ok (.goto 4, 3) := by decide +kernel
theorem dX9_isReady_72 : decode cX9_isReady 72 = .ok (.iconst 0, 1) := by decide +kernel
theorem dX9_isReady_73 : decode cX9_isReady 73 = .ok (.ireturn, 1) := by decide +kernel
theorem dX9_workAt_0 : decode cX9_workAt 0 = .ok (.aload_n 0, 1) := by decide +kernel
theorem dX9_workAt_1 : decode cX9_workAt 1 = .ok (.getfield 24, 3) := by decide +kernel
theorem dX9_workAt_4 : decode cX9_workAt 4 = .ok (.iload_n 1, 1) := by decide +kernel
theorem dX9_workAt_5 : decode cX9_workAt 5 = .ok (.iaload, 1) := by decide +kernel
theorem dX9_workAt_6 : decode cX9_workAt 6 = .ok (.istore_n 2, 1) := by decide +kernel
theorem dX9_workAt_7 : decode cX9_workAt 7 = .ok (.aload_n 0, 1) := by decide +kernel
theorem dX9_workAt_8 : decode cX9_workAt 8 = .ok (.getfield 40, 3) := by decide +kernel
theorem dX9_workAt_11 : decode cX9_workAt 11 = .ok (.iload_n 2, 1) := by decide +kernel
theorem dX9_workAt_12 : decode cX9_workAt 12 = .ok (.invokevirtual 79, 3) := by decide +kernel
theorem dX9_workAt_15 : decode cX9_workAt 15 = .ok (.ifCond .eq 43, 3) := by decide +kernel
theorem dX9_workAt_18 : decode cX9_workAt 18 = .ok (.aload_n 0, 1) := by decide +kernel
theorem dX9_workAt_19 : decode cX9_workAt 19 = .ok (.getfield 37, 3) := by decide +kernel
theorem dX9_workAt_22 : decode cX9_workAt 22 = .ok (.iload_n 2, 1) := by decide +kernel
theorem dX9_workAt_23 : decode cX9_workAt 23 = .ok (.dup2, 1) := by decide +kernel
theorem dX9_workAt_24 : decode cX9_workAt 24 = .ok (.iaload, 1) := by decide +kernel
theorem dX9_workAt_25 : decode cX9_workAt 25 = .ok (.iconst 1, 1) := by decide +kernel
theorem dX9_workAt_26 : decode cX9_workAt 26 = .ok (.iadd, 1) := by decide +kernel
theorem dX9_workAt_27 : decode cX9_workAt 27 = .ok (.iastore, 1) := by decide +kernel
theorem dX9_workAt_28 : decode cX9_workAt 28 = .ok (.aload_n 0, 1) := by decide +kernel
theorem dX9_workAt_29 : decode cX9_workAt 29 = .ok (.getfield 37, 3) := by decide +kernel
theorem dX9_workAt_32 : decode cX9_workAt 32 = .ok (.iload_n 2, 1) := by decide +kernel
theorem dX9_workAt_33 : decode cX9_workAt 33 = .ok (.iaload, 1) := by decide +kernel
theorem dX9_workAt_34 : decode cX9_workAt 34 = .ok (.aload_n 0, 1) := by decide +kernel
theorem dX9_workAt_35 : decode cX9_workAt 35 = .ok (.getfield 40, 3) := by decide +kernel
theorem dX9_workAt_38 : decode cX9_workAt 38 = .ok (.getfield 99, 3) := by decide +kernel
theorem dX9_workAt_41 : decode cX9_workAt 41 = .ok (.iload_n 2, 1) := by decide +kernel
theorem dX9_workAt_42 : decode cX9_workAt 42 = .ok (.iaload, 1) := by decide +kernel
theorem dX9_workAt_43 : decode cX9_workAt 43 = .ok (.if_icmp .lt 15, 3) := by decide +kernel
theorem dX9_workAt_46 : decode cX9_workAt 46 = .ok (.aload_n 0, 1) := by decide +kernel
theorem dX9_workAt_47 : decode cX9_workAt 47 = .ok (.getfield 24, 3) := by decide +kernel
theorem dX9_workAt_50 : decode cX9_workAt 50 = .ok (.iload_n 1, 1) := by decide +kernel
theorem dX9_workAt_51 : decode cX9_workAt 51 = .ok (.iconst (-1), 1) := by decide +kernel
theorem dX9_workAt_52 : decode cX9_workAt 52 = .ok (.iastore, 1) := by decide +kernel
theorem dX9_workAt_53 : decode cX9_workAt 53 = .ok (.aload_n 0, 1) := by decide +kernel
theorem dX9_workAt_54 : decode cX9_workAt 54 = .ok (.iload_n 2, 1) := by decide +kernel
theorem dX9_workAt_55 : decode cX9_workAt 55 = .ok (.invokevirtual 102, 3) := by decide +kernel
theorem dX9_workAt_58 : decode cX9_workAt 58 = .ok (.return_, 1) := by decide +kernel
theorem dX9_finish_0 : decode cX9_finish 0 = .ok (.aload_n 0, 1) := by decide +kernel
theorem dX9_finish_1 : decode cX9_finish 1 = .ok (.dup, 1) := by decide +kernel
theorem dX9_finish_2 : decode cX9_finish 2 = .ok (.getfield 21, 3) := by decide +kernel
theorem dX9_finish_5 : decode cX9_finish 5 = .ok (.iconst 1, 1) := by decide +kernel
theorem dX9_finish_6 : decode cX9_finish 6 = .ok (.iload_n 1, 1) := by decide +kernel
theorem dX9_finish_7 : decode cX9_finish 7 = .ok (.ishl, 1) := by decide +kernel
theorem dX9_finish_8 : decode cX9_finish 8 = .ok (.iconst (-1), 1) := by decide +kernel
theorem dX9_finish_9 : decode cX9_finish 9 = .ok (.ixor, 1) := by decide +kernel
theorem dX9_finish_10 : decode cX9_finish 10 = .ok (.iand, 1) := by decide +kernel
theorem dX9_finish_11 : decode cX9_finish 11 = .ok (.putfield 21, 3) := by decide +kernel
theorem dX9_finish_14 : decode cX9_finish 14 = .ok (.aload_n 0, 1) := by decide +kernel
theorem dX9_finish_15 : decode cX9_finish 15 = .ok (.dup, 1) := by decide +kernel
theorem dX9_finish_16 : decode cX9_finish 16 = .ok (.getfield 18, 3) := by decide +kernel
theorem dX9_finish_19 : decode cX9_finish 19 = .ok (.iconst 1, 1) := by decide +kernel
theorem dX9_finish_20 : decode cX9_finish 20 = .ok (.iload_n 1, 1) := by decide +kernel
theorem dX9_finish_21 : decode cX9_finish 21 = .ok (.ishl, 1) := by decide +kernel
theorem dX9_finish_22 : decode cX9_finish 22 = .ok (.ior, 1) := by decide +kernel
theorem dX9_finish_23 : decode cX9_finish 23 = .ok (.putfield 18, 3) := by decide +kernel
theorem dX9_finish_26 : decode cX9_finish 26 = .ok (.aload_n 0, 1) := by decide +kernel
theorem dX9_finish_27 : decode cX9_finish 27 = .ok (.getfield 31, 3) := by decide +kernel
theorem dX9_finish_30 : decode cX9_finish 30 = .ok (.iload_n 1, 1) := by decide +kernel
theorem dX9_finish_31 : decode cX9_finish 31 = .ok (.aload_n 0, 1) := by decide +kernel
theorem dX9_finish_32 : decode cX9_finish 32 = .ok (.getfield 9, 3) := by decide +kernel
theorem dX9_finish_35 : decode cX9_finish 35 = .ok (.iastore, 1) := by decide +kernel
theorem dX9_finish_36 : decode cX9_finish 36 = .ok (.aload_n 0, 1) := by decide +kernel
theorem dX9_finish_37 : decode cX9_finish 37 = .ok (.getfield 34, 3) := by decide +kernel
theorem dX9_finish_40 : decode cX9_finish 40 = .ok (.iload_n 1, 1) := by decide +kernel
theorem dX9_finish_41 : decode cX9_finish 41 = .ok (.dup2, 1) := by decide +kernel
theorem dX9_finish_42 : decode cX9_finish 42 = .ok (.iaload, 1) := by decide +kernel
theorem dX9_finish_43 : decode cX9_finish 43 = .ok (.iconst 1, 1) := by decide +kernel
theorem dX9_finish_44 : decode cX9_finish 44 = .ok (.iadd, 1) := by decide +kernel
theorem dX9_finish_45 : decode cX9_finish 45 = .ok (.iastore, 1) := by decide +kernel
theorem dX9_finish_46 : decode cX9_finish 46 = .ok (.aload_n 0, 1) := by decide +kernel
theorem dX9_finish_47 : decode cX9_finish 47 = .ok (.getfield 48, 3) := by decide +kernel
theorem dX9_finish_50 : decode cX9_finish 50 = .ok (.iload_n 1, 1) := by decide +kernel
theorem dX9_finish_51 : decode cX9_finish 51 = .ok (.invokevirtual 105, 3) := by decide +kernel
theorem dX9_finish_54 : decode cX9_finish 54 = .ok (.aload_n 0, 1) := by decide +kernel
theorem dX9_finish_55 : decode cX9_finish 55 = .ok (.getfield 40, 3) := by decide +kernel
theorem dX9_finish_58 : decode cX9_finish 58 = .ok (.iload_n 1, 1) := by decide +kernel
theorem dX9_finish_59 : decode cX9_finish 59 = .ok (.invokevirtual 110, 3) := by decide +kernel
theorem dX9_finish_62 : decode cX9_finish 62 = .ok (.ifCond .eq 11, 3) := by decide +kernel
theorem dX9_finish_65 : decode cX9_finish 65 = .ok (.aload_n 0, 1) := by decide +kernel
theorem dX9_finish_66 : decode cX9_finish 66 = .ok (.getfield 52, 3) := by decide +kernel
theorem dX9_finish_69 : decode cX9_finish 69 = .ok (.iload_n 1, 1) := by decide +kernel
theorem dX9_finish_70 : decode cX9_finish 70 = .ok (.invokevirtual 113, 3) := by decide +kernel
theorem dX9_finish_73 : decode cX9_finish 73 = .ok (.return_, 1) := by decide +kernel
theorem dX10_init_0 : decode cX10_init 0 = .ok (.aload_n 0, 1) := by decide +kernel
theorem dX10_init_1 : decode cX10_init 1 = .ok (.invokespecial 3, 3) := by decide +kernel
theorem dX10_init_4 : decode cX10_init 4 = .ok (.aload_n 0, 1) := by decide +kernel
theorem dX10_init_5 : decode cX10_init 5 = .ok (.new 9, 3) := by decide +kernel
theorem dX10_init_8 : decode cX10_init 8 = .ok (.dup, 1) := by decide +kernel
theorem dX10_init_9 : decode cX10_init 9 = .ok (.invokespecial 11, 3) := by decide +kernel
theorem dX10_init_12 : decode cX10_init 12 = .ok (.putfield 12, 3) := by decide +kernel
theorem dX10_init_15 : decode cX10_init 15 = .ok (.aload_n 0, 1) := by decide +kernel
theorem dX10_init_16 : decode cX10_init 16 = .ok (.new 16, 3) := by decide +kernel
theorem dX10_init_19 : decode cX10_init 19 = .ok (.dup, 1) := by decide +kernel
theorem dX10_init_20 : decode cX10_init 20 = .ok (.aload_n 0, 1) := by decide +kernel
theorem dX10_init_21 : decode cX10_init 21 = .ok (.getfield 12, 3) := by decide +kernel
theorem dX10_init_24 : decode cX10_init 24 = .ok (.invokespecial 18, 3) := by decide +kernel
theorem dX10_init_27 : decode cX10_init 27 = .ok (.putfield 21, 3) := by decide +kernel
theorem dX10_init_30 : decode cX10_init 30 = .ok (.aload_n 0, 1) := by decide +kernel
theorem dX10_init_31 : decode cX10_init 31 = .ok (.new 25, 3) := by decide +kernel
theorem dX10_init_34 : decode cX10_init 34 = .ok (.dup, 1) := by decide +kernel
theorem dX10_init_35 : decode cX10_init 35 = .ok (.aload_n 0, 1) := by decide +kernel
theorem dX10_init_36 : decode cX10_init 36 = .ok (.getfield 21, 3) := by decide +kernel
theorem dX10_init_39 : decode cX10_init 39 = .ok (.new 27, 3) := by decide +kernel
theorem dX10_init_42 : decode cX10_init 42 = .ok (.dup, 1) := by decide +kernel
theorem dX10_init_43 : decode cX10_init 43 = .ok (.invokespecial 29, 3) := by decide +kernel
theorem dX10_init_46 : decode cX10_init 46 = .ok (.invokespecial 30, 3) := by decide +kernel
theorem dX10_init_49 : decode cX10_init 49 = .ok (.putfield 33, 3) := by decide +kernel
theorem dX10_init_52 : decode cX10_init 52 = .ok (.aload_n 0, 1) := by decide +kernel
theorem dX10_init_53 : decode cX10_init 53 = .ok (.new 27, 3) := by decide +kernel
theorem dX10_init_56 : decode cX10_init 56 = .ok (.dup, 1) := by decide +kernel
theorem dX10_init_57 : decode cX10_init 57 = .ok (.invokespecial 29, 3) := by decide +kernel
theorem dX10_init_60 : decode cX10_init 60 = .ok (.putfield 37, 3) := by decide +kernel
theorem dX10_init_63 : decode cX10_init 63 = .ok (.aload_n 0, 1) := by decide +kernel
theorem dX10_init_64 : decode cX10_init 64 = .ok (.new 41, 3) := by decide +kernel
theorem dX10_init_67 : decode cX10_init 67 = .ok (.dup, 1) := by decide +kernel
theorem dX10_init_68 : decode cX10_init 68 = .ok (.invokespecial 43, 3) := by decide +kernel
theorem dX10_init_71 : decode cX10_init 71 = .ok (.putfield 44, 3) := by decide +kernel
theorem dX10_init_74 : decode cX10_init 74 = .ok (.new 48, 3) := by decide +kernel
theorem dX10_init_77 : decode cX10_init 77 = .ok (.dup, 1) := by decide +kernel
theorem dX10_init_78 : decode cX10_init 78 = .ok (.aload_n 0, 1) := by decide +kernel
theorem dX10_init_79 : decode cX10_init 79 = .ok (.getfield 37, 3) := by decide +kernel
theorem dX10_init_82 : decode cX10_init 82 = .ok (.aload_n 0, 1) := by decide +kernel
theorem dX10_init_83 : decode cX10_init 83 = .ok (.getfield 44, 3) := by decide +kernel
theorem dX10_init_86 : decode cX10_init 86 = .ok (.invokespecial 50, 3) := by decide +kernel
theorem dX10_init_89 : decode cX10_init 89 = .ok (.astore_n 1, 1) := by decide +kernel
theorem dX10_init_90 : decode cX10_init 90 = .ok (.aload_n 0, 1) := by decide +kernel
theorem dX10_init_91 : decode cX10_init 91 = .ok (.new 53, 3) := by decide +kernel
theorem dX10_init_94 : decode cX10_init 94 = .ok (.dup, 1) := by decide +kernel
theorem dX10_init_95 : decode cX10_init 95 = .ok (.aload_n 1, 1) := by decide +kernel
theorem dX10_init_96 : decode cX10_init 96 = .ok (.invokespecial 55, 3) := by decide +kernel
theorem dX10_init_99 : decode cX10_init 99 = .ok (.putfield 58, 3) := by decide +kernel
theorem dX10_init_102 : decode cX10_init 102 = .ok (.aload_n 0, 1) := by decide +kernel
theorem dX10_init_103 : decode cX10_init 103 = .ok (.new 62, 3) := by decide +kernel
theorem dX10_init_106 : decode cX10_init 106 = .ok (.dup, 1) := by decide +kernel
theorem dX10_init_107 : decode cX10_init 107 = .ok (.aload_n 0, 1) := by decide +kernel
theorem dX10_init_108 : decode cX10_init 108 = .ok (.getfield 37, 3) := by decide +kernel
theorem dX10_init_111 : decode cX10_init 111 = .ok (.aload_n 0, 1) := by decide +kernel
theorem dX10_init_112 : decode cX10_init 112 = .ok (.getfield 44, 3) := by decide +kernel
theorem dX10_init_115 : decode cX10_init 115 = .ok (.aload_n 1, 1) := by decide +kernel
theorem dX10_init_116 : decode cX10_init 116 = .ok (.aload_n 0, 1) := by decide +kernel
theorem dX10_init_117 : decode cX10_init 117 = .ok (.getfield 58, 3) := by decide +kernel
theorem dX10_init_120 : decode cX10_init 120 = .ok (.invokespecial 64, 3) := by decide +kernel
theorem dX10_init_123 : decode cX10_init 123 = .ok (.putfield 67, 3) := by decide +kernel
theorem dX10_init_126 : decode cX10_init 126 = .ok (.aload_n 0, 1) := by decide +kernel
theorem dX10_init_127 : decode cX10_init 127 = .ok (.new 71, 3) := by decide +kernel
theorem dX10_init_130 : decode cX10_init 130 = .ok (.dup, 1) := by decide +kernel
theorem dX10_init_131 : decode cX10_init 131 = .ok (.aload_n 0, 1) := by decide +kernel
theorem dX10_init_132 : decode cX10_init 132 = .ok (.getfield 37, 3) := by decide +kernel
theorem dX10_init_135 : decode cX10_init 135 = .ok (.aload_n 0, 1) := by decide +kernel
theorem dX10_init_136 : decode cX10_init 136 = .ok (.getfield 44, 3) := by decide +kernel
theorem dX10_init_139 : decode cX10_init 139 = .ok (.aload_n 0, 1) := by decide +kernel
theorem dX10_init_140 : decode cX10_init 140 = .ok (.getfield 67, 3) := by decide +kernel
theorem dX10_init_143 : decode cX10_init 143 = .ok (.invokespecial 73, 3) := by decide +kernel
theorem dX10_init_146 : decode cX10_init 146 = .ok (.putfield 76, 3) := by decide +kernel
theorem dX10_init_149 : decode cX10_init 149 = .ok (.return_, 1) := by decide +kernel
theorem dX10_feed_0 : decode cX10_feed 0 = .ok (.aload_n 0, 1) := by decide +kernel
theorem dX10_feed_1 : decode cX10_feed 1 = .ok (.getfield 12, 3) := by decide +kernel
theorem dX10_feed_4 : decode cX10_feed 4 = .ok (.getfield 80, 3) := by decide +kernel
theorem dX10_feed_7 : decode cX10_feed 7 = .ok (.sipush 1980, 3) := by decide +kernel
theorem dX10_feed_10 : decode cX10_feed 10 = .ok (.if_icmp .le 5, 3) := by decide +kernel
theorem dX10_feed_13 : decode cX10_feed 13 = .ok (.iconst (-1), 1) := by decide +kernel
theorem dX10_feed_14 : decode cX10_feed 14 = .ok (.ireturn, 1) := by decide +kernel
theorem dX10_feed_15 : decode cX10_feed 15 = .ok (.aload_n 0, 1) := by decide +kernel
theorem dX10_feed_16 : decode cX10_feed 16 = .ok (.getfield 12, 3) := by decide +kernel
theorem dX10_feed_19 : decode cX10_feed 19 = .ok (.iload_n 1, 1) := by decide +kernel
theorem dX10_feed_20 : decode cX10_feed 20 = .ok (.invokevirtual 84, 3) := by decide +kernel
theorem dX10_feed_23 : decode cX10_feed 23 = .ok (.aload_n 0, 1) := by decide +kernel
theorem dX10_feed_24 : decode cX10_feed 24 = .ok (.getfield 12, 3) := by decide +kernel
theorem dX10_feed_27 : decode cX10_feed 27 = .ok (.iload_n 2, 1) := by decide +kernel
theorem dX10_feed_28 : decode cX10_feed 28 = .ok (.invokevirtual 84, 3) := by decide +kernel
theorem dX10_feed_31 : decode cX10_feed 31 = .ok (.aload_n 0, 1) := by decide +kernel
theorem dX10_feed_32 : decode cX10_feed 32 = .ok (.getfield 12, 3) := by decide +kernel
theorem dX10_feed_35 : decode cX10_feed 35 = .ok (.iload_n 3, 1) := by decide +kernel
theorem dX10_feed_36 : decode cX10_feed 36 = .ok (.invokevirtual 84, 3) := by decide +kernel
theorem dX10_feed_39 : decode cX10_feed 39 = .ok (.aload_n 0, 1) := by decide +kernel
theorem dX10_feed_40 : decode cX10_feed 40 = .ok (.getfield 12, 3) := by decide +kernel
theorem dX10_feed_43 : decode cX10_feed 43 = .ok (.iload 4, 2) := by decide +kernel
theorem dX10_feed_45 : decode cX10_feed 45 = .ok (.invokevirtual 84, 3) := by decide +kernel
theorem dX10_feed_48 : decode cX10_feed 48 = .ok (.aload_n 0, 1) := by decide +kernel
theorem dX10_feed_49 : decode cX10_feed 49 = .ok (.getfield 12, 3) := by decide +kernel
theorem dX10_feed_52 : decode cX10_feed 52 = .ok (.iload 5, 2) := by decide +kernel
theorem dX10_feed_54 : decode cX10_feed 54 = .ok (.invokevirtual 84, 3) := by decide +kernel
theorem dX10_feed_57 : decode cX10_feed 57 = .ok (.aload_n 0, 1) := by decide +kernel
theorem dX10_feed_58 : decode cX10_feed 58 = .ok (.getfield 12, 3) := by decide +kernel
theorem dX10_feed_61 : decode cX10_feed 61 = .ok (.getfield 80, 3) := by decide +kernel
theorem dX10_feed_64 : decode cX10_feed 64 = .ok (.ireturn, 1) := by decide +kernel
theorem dX10_back_0 : decode cX10_back 0 = .ok (.iload_n 1, 1) := by decide +kernel
theorem dX10_back_1 : decode cX10_back 1 = .ok (.ifCond .lt 14, 3) := by decide +kernel
theorem dX10_back_4 : decode cX10_back 4 = .ok (.iload_n 1, 1) := by decide +kernel
theorem dX10_back_5 : decode cX10_back 5 = .ok (.aload_n 0, 1) := by decide +kernel
theorem dX10_back_6 : decode cX10_back 6 = .ok (.getfield 12, 3) := by decide +kernel
theorem dX10_back_9 : decode cX10_back 9 = .ok (.getfield 80, 3) := by decide +kernel
theorem dX10_back_12 : decode cX10_back 12 = .ok (.if_icmp .le 5, 3) := by decide +kernel
theorem dX10_back_15 : decode cX10_back 15 = .ok (.iconst (-1), 1) := by decide +kernel
theorem dX10_back_16 : decode cX10_back 16 = .ok (.ireturn, 1) := by decide +kernel
theorem dX10_back_17 : decode cX10_back 17 = .ok (.aload_n 0, 1) := by decide +kernel
theorem dX10_back_18 : decode cX10_back 18 = .ok (.getfield 12, 3) := by decide +kernel
theorem dX10_back_21 : decode cX10_back 21 = .ok (.dup, 1) := by decide +kernel
theorem dX10_back_22 : decode cX10_back 22 = .ok (.getfield 80, 3) := by decide +kernel
theorem dX10_back_25 : decode cX10_back 25 = .ok (.iload_n 1, 1) := by decide +kernel
theorem dX10_back_26 : decode cX10_back 26 = .ok (.isub, 1) := by decide +kernel
theorem dX10_back_27 : decode cX10_back 27 = .ok (.putfield 80, 3) := by decide +kernel
theorem dX10_back_30 : decode cX10_back 30 = .ok (.aload_n 0, 1) := by decide +kernel
theorem dX10_back_31 : decode cX10_back 31 = .ok (.getfield 12, 3) := by decide +kernel
theorem dX10_back_34 : decode cX10_back 34 = .ok (.getfield 80, 3) := by decide +kernel
theorem dX10_back_37 : decode cX10_back 37 = .ok (.ireturn, 1) := by decide +kernel
theorem dX10_read_0 : decode cX10_read 0 = .ok (.aload_n 0, 1) := by decide +kernel
theorem dX10_read_1 : decode cX10_read 1 = .ok (.getfield 21, 3) := by decide +kernel
theorem dX10_read_4 : decode cX10_read 4 = .ok (.invokevirtual 88, 3) := by decide +kernel
theorem dX10_read_7 : decode cX10_read 7 = .ok (.aload_n 0, 1) := by decide +kernel
theorem dX10_read_8 : decode cX10_read 8 = .ok (.getfield 33, 3) := by decide +kernel
theorem dX10_read_11 : decode cX10_read 11 = .ok (.invokevirtual 91, 3) := by decide +kernel
theorem dX10_read_14 : decode cX10_read 14 = .ok (.aload_n 0, 1) := by decide +kernel
theorem dX10_read_15 : decode cX10_read 15 = .ok (.getfield 12, 3) := by decide +kernel
theorem dX10_read_18 : decode cX10_read 18 = .ok (.iconst 0, 1) := by decide +kernel
theorem dX10_read_19 : decode cX10_read 19 = .ok (.putfield 80, 3) := by decide +kernel
theorem dX10_read_22 : decode cX10_read 22 = .ok (.aload_n 0, 1) := by decide +kernel
theorem dX10_read_23 : decode cX10_read 23 = .ok (.getfield 33, 3) := by decide +kernel
theorem dX10_read_26 : decode cX10_read 26 = .ok (.getfield 94, 3) := by decide +kernel
theorem dX10_read_29 : decode cX10_read 29 = .ok (.ifCond .ne 31, 3) := by decide +kernel
theorem dX10_read_32 : decode cX10_read 32 = .ok (.aload_n 0, 1) := by decide +kernel
theorem dX10_read_33 : decode cX10_read 33 = .ok (.getfield 37, 3) := by decide +kernel
theorem dX10_read_36 : decode cX10_read 36 = .ok (.aload_n 0, 1) := by decide +kernel
theorem dX10_read_37 : decode cX10_read 37 = .ok (.getfield 33, 3) := by decide +kernel
theorem dX10_read_40 : decode cX10_read 40 = .ok (.getfield 97, 3) := by decide +kernel
theorem dX10_read_43 : decode cX10_read 43 = .ok (.invokevirtual 100, 3) := by decide +kernel
theorem dX10_read_46 : decode cX10_read 46 = .ok (.aload_n 0, 1) := by decide +kernel
theorem dX10_read_47 : decode cX10_read 47 = .ok (.getfield 67, 3) := by decide +kernel
theorem dX10_read_50 : decode cX10_read 50 = .ok (.invokevirtual 104, 3) := by decide +kernel
theorem dX10_read_53 : decode cX10_read 53 = .ok (.aload_n 0, 1) := by decide +kernel
theorem dX10_read_54 : decode cX10_read 54 = .ok (.getfield 58, 3) := by decide +kernel
theorem dX10_read_57 : decode cX10_read 57 = .ok (.invokevirtual 107, 3) := by decide +kernel
theorem dX10_read_60 : decode cX10_read 60 = .ok (.aload_n 0, 1) := by decide +kernel
theorem dX10_read_61 : decode cX10_read 61 = .ok (.getfield 33, 3) := by decide +kernel
theorem dX10_read_64 : decode cX10_read 64 = .ok (.getfield 94, 3) := by decide +kernel
theorem dX10_read_67 : decode cX10_read 67 = .ok (.ireturn, 1) := by decide +kernel
theorem dX10_place_0 : decode cX10_place 0 = .ok (.aload_n 0, 1) := by decide +kernel
theorem dX10_place_1 : decode cX10_place 1 = .ok (.getfield 33, 3) := by decide +kernel
theorem dX10_place_4 : decode cX10_place 4 = .ok (.getfield 108, 3) := by decide +kernel
theorem dX10_place_7 : decode cX10_place 7 = .ok (.ireturn, 1) := by decide +kernel
theorem dX10_span_0 : decode cX10_span 0 = .ok (.iload_n 1, 1) := by decide +kernel
theorem dX10_span_1 : decode cX10_span 1 = .ok (.bipush 6, 2) := by decide +kernel
theorem dX10_span_3 : decode cX10_span 3 = .ok (.invokestatic 111, 3) := by decide +kernel
theorem dX10_span_6 : decode cX10_span 6 = .ok (.ifCond .eq 19, 3) := by decide +kernel
theorem dX10_span_9 : decode cX10_span 9 = .ok (.iload_n 2, 1) := by decide +kernel
theorem dX10_span_10 : decode cX10_span 10 = .ok (.ifCond .lt 15, 3) := by decide +kernel
theorem dX10_span_13 : decode cX10_span 13 = .ok (.iload_n 2, 1) := by decide +kernel
theorem dX10_span_14 : decode cX10_span 14 = .ok (.iload_n 3, 1) := by decide +kernel
theorem dX10_span_15 : decode cX10_span 15 = .ok (.if_icmp .gt 10, 3) := by decide +kernel
theorem dX10_span_18 : decode cX10_span 18 = .ok (.iload_n 3, 1) := by decide +kernel
theorem dX10_span_19 : decode cX10_span 19 = .ok (.sipush 399, 3) := by decide +kernel
theorem dX10_span_22 : decode cX10_span 22 = .ok (.if_icmp .le 5, 3) := by decide +kernel
theorem dX10_span_25 : decode cX10_span 25 = .ok (.iconst 0, 1) := by decide +kernel
theorem dX10_span_26 : decode cX10_span 26 = .ok (.ireturn, 1) := by decide +kernel
theorem dX10_span_27 : decode cX10_span 27 = .ok (.aload_n 0, 1) := by decide +kernel
theorem dX10_span_28 : decode cX10_span 28 = .ok (.getfield 44, 3) := by decide +kernel
theorem dX10_span_31 : decode cX10_span 31 = .ok (.getfield 115, 3) := by decide +kernel
theorem dX10_span_34 : decode cX10_span 34 = .ok (.iload_n 1, 1) := by decide +kernel
theorem dX10_span_35 : decode cX10_span 35 = .ok (.iload_n 2, 1) := by decide +kernel
theorem dX10_span_36 : decode cX10_span 36 = .ok (.iastore, 1) := by decide +kernel
theorem dX10_span_37 : decode cX10_span 37 = .ok (.aload_n 0, 1) := by decide +kernel
theorem dX10_span_38 : decode cX10_span 38 = .ok (.getfield 44, 3) := by decide +kernel
theorem dX10_span_41 : decode cX10_span 41 = .ok (.getfield 119, 3) := by decide +kernel
theorem dX10_span_44 : decode cX10_span 44 = .ok (.iload_n 1, 1) := by decide +kernel
theorem dX10_span_45 : decode cX10_span 45 = .ok (.iload_n 3, 1) := by decide +kernel
theorem dX10_span_46 : decode cX10_span 46 = .ok (.iastore, 1) := by decide +kernel
theorem dX10_span_47 : decode cX10_span 47 = .ok (.iconst 1, 1) := by decide +kernel
theorem dX10_span_48 : decode cX10_span 48 = .ok (.ireturn, 1) := by decide +kernel
theorem dX10_row_0 : decode cX10_row 0 = .ok (.iload_n 1, 1) := by decide +kernel
theorem dX10_row_1 : decode cX10_row 1 = .ok (.bipush 6, 2) := by decide +kernel
theorem dX10_row_3 : decode cX10_row 3 = .ok (.invokestatic 111, 3) := by decide +kernel
theorem dX10_row_6 : decode cX10_row 6 = .ok (.ifCond .eq 26, 3) := by decide +kernel
theorem dX10_row_9 : decode cX10_row 9 = .ok (.iload_n 2, 1) := by decide +kernel
theorem dX10_row_10 : decode cX10_row 10 = .ok (.bipush 8, 2) := by decide +kernel
theorem dX10_row_12 : decode cX10_row 12 = .ok (.invokestatic 111, 3) := by decide +kernel
theorem dX10_row_15 : decode cX10_row 15 = .ok (.ifCond .eq 17, 3) := by decide +kernel
theorem dX10_row_18 : decode cX10_row 18 = .ok (.aload_n 0, 1) := by decide +kernel
theorem dX10_row_19 : decode cX10_row 19 = .ok (.getfield 44, 3) := by decide +kernel
theorem dX10_row_22 : decode cX10_row 22 = .ok (.getfield 122, 3) := by decide +kernel
theorem dX10_row_25 : decode cX10_row 25 = .ok (.iload_n 1, 1) := by decide +kernel
theorem dX10_row_26 : decode cX10_row 26 = .ok (.iaload, 1) := by decide +kernel
theorem dX10_row_27 : decode cX10_row 27 = .ok (.bipush 40, 2) := by decide +kernel
theorem dX10_row_29 : decode cX10_row 29 = .ok (.if_icmp .lt 5, 3) := by decide +kernel
theorem dX10_row_32 : decode cX10_row 32 = .ok (.iconst (-1), 1) := by decide +kernel
theorem dX10_row_33 : decode cX10_row 33 = .ok (.ireturn, 1) := by decide +kernel
theorem dX10_row_34 : decode cX10_row 34 = .ok (.aload_n 0, 1) := by decide +kernel
theorem dX10_row_35 : decode cX10_row 35 = .ok (.getfield 44, 3) := by decide +kernel
theorem dX10_row_38 : decode cX10_row 38 = .ok (.iload_n 1, 1) := by decide +kernel
theorem dX10_row_39 : decode cX10_row 39 = .ok (.iload_n 2, 1) := by decide +kernel
theorem dX10_row_40 : decode cX10_row 40 = .ok (.iload_n 3, 1) := by decide +kernel
theorem dX10_row_41 : decode cX10_row 41 = .ok (.invokevirtual 125, 3) := by decide +kernel
theorem dX10_row_44 : decode cX10_row 44 = .ok (.ireturn, 1) := by decide +kernel
theorem dX10_land_0 : decode cX10_land 0 = .ok (.iload_n 1, 1) := by decide +kernel
theorem dX10_land_1 : decode cX10_land 1 = .ok (.bipush 6, 2) := by decide +kernel
theorem dX10_land_3 : decode cX10_land 3 = .ok (.invokestatic 111, 3) := by decide +kernel
theorem dX10_land_6 : decode cX10_land 6 = .ok (.ifCond .ne 5, 3) := by decide +kernel
theorem dX10_land_9 : decode cX10_land 9 = .ok (.iconst (-1), 1) := by decide +kernel
theorem dX10_land_10 : decode cX10_land 10 = .ok (.ireturn, 1) := by decide +kernel
theorem dX10_land_11 : decode cX10_land 11 = .ok (.aload_n 0, 1) := by decide +kernel
theorem dX10_land_12 : decode cX10_land 12 = .ok (.getfield 67, 3) := by decide +kernel
theorem dX10_land_15 : decode cX10_land 15 = .ok (.iload_n 1, 1) := by decide +kernel
theorem dX10_land_16 : decode cX10_land 16 = .ok (.invokevirtual 129, 3) := by decide +kernel
theorem dX10_land_19 : decode cX10_land 19 = .ok (.aload_n 0, 1) := by decide +kernel
theorem dX10_land_20 : decode cX10_land 20 = .ok (.getfield 44, 3) := by decide +kernel
theorem dX10_land_23 : decode cX10_land 23 = .ok (.iload_n 1, 1) := by decide +kernel
theorem dX10_land_24 : decode cX10_land 24 = .ok (.invokevirtual 132, 3) := by decide +kernel
theorem dX10_land_27 : decode cX10_land 27 = .ok (.ireturn, 1) := by decide +kernel
theorem dX10_reader_0 : decode cX10_reader 0 = .ok (.aload_n 0, 1) := by decide +kernel
theorem dX10_reader_1 : decode cX10_reader 1 = .ok (.getfield 58, 3) := by decide +kernel
theorem dX10_reader_4 : decode cX10_reader 4 = .ok (.getfield 136, 3) := by decide +kernel
theorem dX10_reader_7 : decode cX10_reader 7 = .ok (.bipush 6, 2) := by decide +kernel
theorem dX10_reader_9 : decode cX10_reader 9 = .ok (.if_icmp .ge 14, 3) := by decide +kernel
theorem dX10_reader_12 : decode cX10_reader 12 = .ok (.iload_n 1, 1) := by decide +kernel
theorem dX10_reader_13 : decode cX10_reader 13 = .ok (.ifCond .lt 10, 3) := by decide +kernel
theorem dX10_reader_16 : decode cX10_reader 16 = .ok (.iload_n 1, 1) := by decide +kernel
theorem dX10_reader_17 : decode cX10_reader 17 = .ok (.sipush 255, 3) := by decide +kernel
theorem dX10_reader_20 : decode cX10_reader 20 = .ok (.if_icmp .le 5, 3) := by decide +kernel
theorem dX10_reader_23 : decode cX10_reader 23 = .ok (.iconst (-1), 1) := by decide +kernel
theorem dX10_reader_24 : decode cX10_reader 24 = .ok (.ireturn, 1) := by decide +kernel
theorem dX10_reader_25 : decode cX10_reader 25 = .ok (.aload_n 0, 1) := by decide +kernel
theorem dX10_reader_26 : decode cX10_reader 26 = .ok (.getfield 58, 3) := by decide +kernel
theorem dX10_reader_29 : decode cX10_reader 29 = .ok (.iload_n 1, 1) := by decide +kernel
theorem dX10_reader_30 : decode cX10_reader 30 = .ok (.invokevirtual 139, 3) := by decide +kernel
theorem dX10_reader_33 : decode cX10_reader 33 = .ok (.ireturn, 1) := by decide +kernel
theorem dX10_rights_0 : decode cX10_rights 0 = .ok (.aload_n 0, 1) := by decide +kernel
theorem dX10_rights_1 : decode cX10_rights 1 = .ok (.getfield 58, 3) := by decide +kernel
theorem dX10_rights_4 : decode cX10_rights 4 = .ok (.iload_n 1, 1) := by decide +kernel
theorem dX10_rights_5 : decode cX10_rights 5 = .ok (.invokevirtual 142, 3) := by decide +kernel
theorem dX10_rights_8 : decode cX10_rights 8 = .ok (.ifCond .eq 14, 3) := by decide +kernel
theorem dX10_rights_11 : decode cX10_rights 11 = .ok (.iload_n 2, 1) := by decide +kernel
theorem dX10_rights_12 : decode cX10_rights 12 = .ok (.ifCond .lt 10, 3) := by decide +kernel
theorem dX10_rights_15 : decode cX10_rights 15 = .ok (.iload_n 2, 1) := by decide +kernel
theorem dX10_rights_16 : decode cX10_rights 16 = .ok (.sipush 255, 3) := by decide +kernel
theorem dX10_rights_19 : decode cX10_rights 19 = .ok (.if_icmp .le 5, 3) := by decide +kernel
theorem dX10_rights_22 : decode cX10_rights 22 = .ok (.iconst 0, 1) := by decide +kernel
theorem dX10_rights_23 : decode cX10_rights 23 = .ok (.ireturn, 1) := by decide +kernel
theorem dX10_rights_24 : decode cX10_rights 24 = .ok (.aload_n 0, 1) := by decide +kernel
theorem dX10_rights_25 : decode cX10_rights 25 = .ok (.getfield 58, 3) := by decide +kernel
theorem dX10_rights_28 : decode cX10_rights 28 = .ok (.getfield 146, 3) := by decide +kernel
theorem dX10_rights_31 : decode cX10_rights 31 = .ok (.iload_n 1, 1) := by decide +kernel
theorem dX10_rights_32 : decode cX10_rights 32 = .ok (.iload_n 2, 1) := by decide +kernel
theorem dX10_rights_33 : decode cX10_rights 33 = .ok (.iastore, 1) := by decide +kernel
theorem dX10_rights_34 : decode cX10_rights 34 = .ok (.iconst 1, 1) := by decide +kernel
theorem dX10_rights_35 : decode cX10_rights 35 = .ok (.ireturn, 1) := by decide +kernel
theorem dX10_hold_0 : decode cX10_hold 0 = .ok (.aload_n 0, 1) := by decide +kernel
theorem dX10_hold_1 : decode cX10_hold 1 = .ok (.getfield 58, 3) := by decide +kernel
theorem dX10_hold_4 : decode cX10_hold 4 = .ok (.iload_n 1, 1) := by decide +kernel
theorem dX10_hold_5 : decode cX10_hold 5 = .ok (.invokevirtual 142, 3) := by decide +kernel
theorem dX10_hold_8 : decode cX10_hold 8 = .ok (.ifCond .eq 15, 3) := by decide +kernel
theorem dX10_hold_11 : decode cX10_hold 11 = .ok (.aload_n 0, 1) := by decide +kernel
theorem dX10_hold_12 : decode cX10_hold 12 = .ok (.getfield 58, 3) := by decide +kernel
theorem dX10_hold_15 : decode cX10_hold 15 = .ok (.iload_n 1, 1) := by decide +kernel
theorem dX10_hold_16 : decode cX10_hold 16 = .ok (.invokevirtual 149, 3) := by decide +kernel
theorem dX10_hold_19 : decode cX10_hold 19 = .ok (.iload_n 2, 1) := by decide +kernel
theorem dX10_hold_20 : decode cX10_hold 20 = .ok (.if_icmp .ne 5, 3) := by decide +kernel
theorem dX10_hold_23 : decode cX10_hold 23 = .ok (.iconst 0, 1) := by decide +kernel
theorem dX10_hold_24 : decode cX10_hold 24 = .ok (.ireturn, 1) := by decide +kernel
theorem dX10_hold_25 : decode cX10_hold 25 = .ok (.aload_n 0, 1) := by decide +kernel
theorem dX10_hold_26 : decode cX10_hold 26 = .ok (.getfield 58, 3) := by decide +kernel
theorem dX10_hold_29 : decode cX10_hold 29 = .ok (.dup, 1) := by decide +kernel
theorem dX10_hold_30 : decode cX10_hold 30 = .ok (.getfield 152, 3) := by decide +kernel
theorem dX10_hold_33 : decode cX10_hold 33 = .ok (.iconst 1, 1) := by decide +kernel
theorem dX10_hold_34 : decode cX10_hold 34 = .ok (.iload_n 1, 1) := by decide +kernel
theorem dX10_hold_35 : decode cX10_hold 35 = .ok (.ishl, 1) := by decide +kernel
theorem dX10_hold_36 : decode cX10_hold 36 = .ok (.ixor, 1) := by decide +kernel
theorem dX10_hold_37 : decode cX10_hold 37 = .ok (.putfield 152, 3) := by decide +kernel
theorem dX10_hold_40 : decode cX10_hold 40 = .ok (.iload_n 2, 1) := by decide +kernel
theorem dX10_hold_41 : decode cX10_hold 41 = .ok (.ifCond .ne 18, 3) := by decide +kernel
theorem dX10_hold_44 : decode cX10_hold 44 = .ok (.aload_n 0, 1) := by decide +kernel
theorem dX10_hold_45 : decode cX10_hold 45 = .ok (.getfield 58, 3) := by decide +kernel
theorem dX10_hold_48 : decode cX10_hold 48 = .ok (.iload_n 1, 1) := by decide +kernel
theorem dX10_hold_49 : decode cX10_hold 49 = .ok (.aload_n 0, 1) := by decide +kernel
theorem dX10_hold_50 : decode cX10_hold 50 = .ok (.getfield 67, 3) := by decide +kernel
theorem dX10_hold_53 : decode cX10_hold 53 = .ok (.getfield 155, 3) := by decide +kernel
theorem dX10_hold_56 : decode cX10_hold 56 = .ok (.invokevirtual 158, 3) := by decide +kernel
theorem dX10_hold_59 : decode cX10_hold 59 = .ok (.iconst 1, 1) := by decide +kernel
theorem dX10_hold_60 : decode cX10_hold 60 = .ok (.ireturn, 1) := by decide +kernel
theorem dX10_reads_0 : decode cX10_reads 0 = .ok (.aload_n 0, 1) := by decide +kernel
theorem dX10_reads_1 : decode cX10_reads 1 = .ok (.getfield 37, 3) := by decide +kernel
theorem dX10_reads_4 : decode cX10_reads 4 = .ok (.iload_n 1, 1) := by decide +kernel
theorem dX10_reads_5 : decode cX10_reads 5 = .ok (.invokevirtual 162, 3) := by decide +kernel
theorem dX10_reads_8 : decode cX10_reads 8 = .ok (.ifCond .eq 26, 3) := by decide +kernel
theorem dX10_reads_11 : decode cX10_reads 11 = .ok (.aload_n 0, 1) := by decide +kernel
theorem dX10_reads_12 : decode cX10_reads 12 = .ok (.getfield 58, 3) := by decide +kernel
theorem dX10_reads_15 : decode cX10_reads 15 = .ok (.iload_n 2, 1) := by decide +kernel
theorem dX10_reads_16 : decode cX10_reads 16 = .ok (.invokevirtual 142, 3) := by decide +kernel
theorem dX10_reads_19 : decode cX10_reads 19 = .ok (.ifCond .eq 15, 3) := by decide +kernel
theorem dX10_reads_22 : decode cX10_reads 22 = .ok (.aload_n 0, 1) := by decide +kernel
theorem dX10_reads_23 : decode cX10_reads 23 = .ok (.getfield 58, 3) := by decide +kernel
theorem dX10_reads_26 : decode cX10_reads 26 = .ok (.iload_n 1, 1) := by decide +kernel
theorem dX10_reads_27 : decode cX10_reads 27 = .ok (.iload_n 2, 1) := by decide +kernel
theorem dX10_reads_28 : decode cX10_reads 28 = .ok (.invokevirtual 165, 3) := by decide +kernel
theorem dX10_reads_31 : decode cX10_reads 31 = .ok (.ifCond .eq 5, 3) := by decide +kernel
theorem dX10_reads_34 : decode cX10_reads 34 = .ok (.iconst 0, 1) := by decide +kernel
theorem dX10_reads_35 : decode cX10_reads 35 = .ok (.ireturn, 1) := by decide +kernel
theorem dX10_reads_36 : decode cX10_reads 36 = .ok (.aload_n 0, 1) := by decide +kernel
theorem dX10_reads_37 : decode cX10_reads 37 = .ok (.getfield 58, 3) := by decide +kernel
theorem dX10_reads_40 : decode cX10_reads 40 = .ok (.getfield 168, 3) := by decide +kernel
theorem dX10_reads_43 : decode cX10_reads 43 = .ok (.iload_n 1, 1) := by decide +kernel
theorem dX10_reads_44 : decode cX10_reads 44 = .ok (.dup2, 1) := by decide +kernel
theorem dX10_reads_45 : decode cX10_reads 45 = .ok (.iaload, 1) := by decide +kernel
theorem dX10_reads_46 : decode cX10_reads 46 = .ok (.iconst 1, 1) := by decide +kernel
theorem dX10_reads_47 : decode cX10_reads 47 = .ok (.iload_n 2, 1) := by decide +kernel
theorem dX10_reads_48 : decode cX10_reads 48 = .ok (.ishl, 1) := by decide +kernel
theorem dX10_reads_49 : decode cX10_reads 49 = .ok (.ior, 1) := by decide +kernel
theorem dX10_reads_50 : decode cX10_reads 50 = .ok (.iastore, 1) := by decide +kernel
theorem dX10_reads_51 : decode cX10_reads 51 = .ok (.iconst 1, 1) := by decide +kernel
theorem dX10_reads_52 : decode cX10_reads 52 = .ok (.ireturn, 1) := by decide +kernel
theorem dX10_hosts_0 : decode cX10_hosts 0 = .ok (.iload_n 1, 1) := by decide +kernel
theorem dX10_hosts_1 : decode cX10_hosts 1 = .ok (.iconst 1, 1) := by decide +kernel
theorem dX10_hosts_2 : decode cX10_hosts 2 = .ok (.if_icmp .lt 18, 3) := by decide +kernel
theorem dX10_hosts_5 : decode cX10_hosts 5 = .ok (.iload_n 1, 1) := by decide +kernel
theorem dX10_hosts_6 : decode cX10_hosts 6 = .ok (.iconst 3, 1) := by decide +kernel
theorem dX10_hosts_7 : decode cX10_hosts 7 = .ok (.if_icmp .gt 13, 3) := by decide +kernel
theorem dX10_hosts_10 : decode cX10_hosts 10 = .ok (.aload_n 0, 1) := by decide +kernel
theorem dX10_hosts_11 : decode cX10_hosts 11 = .ok (.getfield 67, 3) := by decide +kernel
theorem dX10_hosts_14 : decode cX10_hosts 14 = .ok (.getfield 171, 3) := by decide +kernel
theorem dX10_hosts_17 : decode cX10_hosts 17 = .ok (.ifCond .eq 5, 3) := by decide +kernel
theorem dX10_hosts_20 : decode cX10_hosts 20 = .ok (.iconst 0, 1) := by decide +kernel
theorem dX10_hosts_21 : decode cX10_hosts 21 = .ok (.ireturn, 1) := by decide +kernel
theorem dX10_hosts_22 : decode cX10_hosts 22 = .ok (.aload_n 0, 1) := by decide +kernel
theorem dX10_hosts_23 : decode cX10_hosts 23 = .ok (.getfield 67, 3) := by decide +kernel
theorem dX10_hosts_26 : decode cX10_hosts 26 = .ok (.iload_n 1, 1) := by decide +kernel
theorem dX10_hosts_27 : decode cX10_hosts 27 = .ok (.putfield 174, 3) := by decide +kernel
theorem dX10_hosts_30 : decode cX10_hosts 30 = .ok (.iconst 1, 1) := by decide +kernel
theorem dX10_hosts_31 : decode cX10_hosts 31 = .ok (.ireturn, 1) := by decide +kernel
theorem dX10_tick_0 : decode cX10_tick 0 = .ok (.aload_n 0, 1) := by decide +kernel
theorem dX10_tick_1 : decode cX10_tick 1 = .ok (.getfield 67, 3) := by decide +kernel
theorem dX10_tick_4 : decode cX10_tick 4 = .ok (.getfield 177, 3) := by decide +kernel
theorem dX10_tick_7 : decode cX10_tick 7 = .ok (.sipush 399, 3) := by decide +kernel
theorem dX10_tick_10 : decode cX10_tick 10 = .ok (.if_icmp .lt 5, 3) := by decide +kernel
theorem dX10_tick_13 : decode cX10_tick 13 = .ok (.iconst (-1), 1) := by decide +kernel
theorem dX10_tick_14 : decode cX10_tick 14 = .ok (.ireturn, 1) := by decide +kernel
theorem dX10_tick_15 : decode cX10_tick 15 = .ok (.aload_n 0, 1) := by decide +kernel
theorem dX10_tick_16 : decode cX10_tick 16 = .ok (.getfield 67, 3) := by decide +kernel
theorem dX10_tick_19 : decode cX10_tick 19 = .ok (.invokevirtual 180, 3) := by decide +kernel
theorem dX10_tick_22 : decode cX10_tick 22 = .ok (.aload_n 0, 1) := by decide +kernel
theorem dX10_tick_23 : decode cX10_tick 23 = .ok (.getfield 67, 3) := by decide +kernel
theorem dX10_tick_26 : decode cX10_tick 26 = .ok (.getfield 177, 3) := by decide +kernel
theorem dX10_tick_29 : decode cX10_tick 29 = .ok (.ireturn, 1) := by decide +kernel
theorem dX10_plan_0 : decode cX10_plan 0 = .ok (.aload_n 0, 1) := by decide +kernel
theorem dX10_plan_1 : decode cX10_plan 1 = .ok (.getfield 76, 3) := by decide +kernel
theorem dX10_plan_4 : decode cX10_plan 4 = .ok (.invokevirtual 183, 3) := by decide +kernel
theorem dX10_plan_7 : decode cX10_plan 7 = .ok (.ireturn, 1) := by decide +kernel
theorem dX10_order_0 : decode cX10_order 0 = .ok (.aload_n 0, 1) := by decide +kernel
theorem dX10_order_1 : decode cX10_order 1 = .ok (.getfield 37, 3) := by decide +kernel
theorem dX10_order_4 : decode cX10_order 4 = .ok (.iload_n 1, 1) := by decide +kernel
theorem dX10_order_5 : decode cX10_order 5 = .ok (.invokevirtual 187, 3) := by decide +kernel
theorem dX10_order_8 : decode cX10_order 8 = .ok (.ifCond .eq 15, 3) := by decide +kernel
theorem dX10_order_11 : decode cX10_order 11 = .ok (.aload_n 0, 1) := by decide +kernel
theorem dX10_order_12 : decode cX10_order 12 = .ok (.getfield 67, 3) := by decide +kernel
theorem dX10_order_15 : decode cX10_order 15 = .ok (.getfield 190, 3) := by decide +kernel
theorem dX10_order_18 : decode cX10_order 18 = .ok (.iload_n 1, 1) := by decide +kernel
theorem dX10_order_19 : decode cX10_order 19 = .ok (.iaload, 1) := by decide +kernel
theorem dX10_order_20 : decode cX10_order 20 = .ok (.goto 4, 3) := by decide +kernel
theorem dX10_order_23 : decode cX10_order 23 = .ok (.iconst (-1), 1) := by decide +kernel
theorem dX10_order_24 : decode cX10_order 24 = .ok (.ireturn, 1) := by decide +kernel
theorem dX10_foreseen_0 : decode cX10_foreseen 0 = .ok (.aload_n 0, 1) := by decide +kernel
theorem dX10_foreseen_1 : decode cX10_foreseen 1 = .ok (.getfield 37, 3) := by decide +kernel
theorem dX10_foreseen_4 : decode cX10_foreseen 4 = .ok (.iload_n 1, 1) := by decide +kernel
theorem dX10_foreseen_5 : decode cX10_foreseen 5 = .ok (.invokevirtual 187, 3) := by decide +kernel
theorem dX10_foreseen_8 : decode cX10_foreseen 8 = .ok (.ifCond .eq 14, 3) := by decide +kernel
theorem dX10_foreseen_11 : decode cX10_foreseen 11 = .ok (.aload_n 0, 1) := by decide +kernel
theorem dX10_foreseen_12 : decode cX10_foreseen 12 = .ok (.getfield 76, 3) := by decide +kernel
theorem dX10_foreseen_15 : decode cX10_foreseen 15 = .ok (.iload_n 1, 1) := by decide +kernel
theorem dX10_foreseen_16 : decode cX10_foreseen 16 = .ok (.invokevirtual 193, 3) := by decide +kernel
theorem dX10_foreseen_19 : decode cX10_foreseen 19 = .ok (.goto 4, 3) := by decide +kernel
theorem dX10_foreseen_22 : decode cX10_foreseen 22 = .ok (.iconst (-1), 1) := by decide +kernel
theorem dX10_foreseen_23 : decode cX10_foreseen 23 = .ok (.ireturn, 1) := by decide +kernel
theorem dX10_sure_0 : decode cX10_sure 0 = .ok (.aload_n 0, 1) := by decide +kernel
theorem dX10_sure_1 : decode cX10_sure 1 = .ok (.getfield 37, 3) := by decide +kernel
theorem dX10_sure_4 : decode cX10_sure 4 = .ok (.iload_n 1, 1) := by decide +kernel
theorem dX10_sure_5 : decode cX10_sure 5 = .ok (.invokevirtual 162, 3) := by decide +kernel
theorem dX10_sure_8 : decode cX10_sure 8 = .ok (.ifCond .ne 5, 3) := by decide +kernel
theorem dX10_sure_11 : decode cX10_sure 11 = .ok (.iconst (-1), 1) := by decide +kernel
theorem dX10_sure_12 : decode cX10_sure 12 = .ok (.ireturn, 1) := by decide +kernel
theorem dX10_sure_13 : decode cX10_sure 13 = .ok (.aload_n 0, 1) := by decide +kernel
theorem dX10_sure_14 : decode cX10_sure 14 = .ok (.getfield 76, 3) := by decide +kernel
theorem dX10_sure_17 : decode cX10_sure 17 = .ok (.iload_n 1, 1) := by decide +kernel
theorem dX10_sure_18 : decode cX10_sure 18 = .ok (.invokevirtual 196, 3) := by decide +kernel
theorem dX10_sure_21 : decode cX10_sure 21 = .ok (.aload_n 0, 1) := by decide +kernel
theorem dX10_sure_22 : decode cX10_sure 22 = .ok (.getfield 37, 3) := by decide +kernel
theorem dX10_sure_25 : decode cX10_sure 25 = .ok (.getfield 199, 3) := by decide +kernel
theorem dX10_sure_28 : decode cX10_sure 28 = .ok (.iload_n 1, 1) := by decide +kernel
theorem dX10_sure_29 : decode cX10_sure 29 = .ok (.iaload, 1) := by decide +kernel
theorem dX10_sure_30 : decode cX10_sure 30 = .ok (.if_icmp .le 7, 3) := by decide +kernel
theorem dX10_sure_33 : decode cX10_sure 33 = .ok (.iconst 1, 1) := by decide +kernel
theorem dX10_sure_34 : decode cX10_sure 34 = .ok (.goto 4, 3) := by decide +kernel
theorem dX10_sure_37 : decode cX10_sure 37 = .ok (.iconst 0, 1) := by decide +kernel
theorem dX10_sure_38 : decode cX10_sure 38 = .ok (.ireturn, 1) := by decide +kernel
theorem dX10_step_0 : decode cX10_step 0 = .ok (.aload_n 0, 1) := by decide +kernel
theorem dX10_step_1 : decode cX10_step 1 = .ok (.getfield 37, 3) := by decide +kernel
theorem dX10_step_4 : decode cX10_step 4 = .ok (.iload_n 1, 1) := by decide +kernel
theorem dX10_step_5 : decode cX10_step 5 = .ok (.invokevirtual 187, 3) := by decide +kernel
theorem dX10_step_8 : decode cX10_step 8 = .ok (.ifCond .ne 5, 3) := by decide +kernel
theorem dX10_step_11 : decode cX10_step 11 = .ok (.iconst (-1), 1) := by decide +kernel
theorem dX10_step_12 : decode cX10_step 12 = .ok (.ireturn, 1) := by decide +kernel
theorem dX10_step_13 : decode cX10_step 13 = .ok (.iload_n 2, 1) := by decide +kernel
theorem dX10_step_14 : decode cX10_step 14 = .ok (.tableswitch 199 0 8 #[50, 67, 77, 87, 97, 107, 139, 164, 174], 50) := by decide +kernel
theorem dX10_step_64 : decode cX10_step 64 = .ok (.aload_n 0, 1) := by decide +kernel
theorem dX10_step_65 : decode cX10_step 65 = .ok (.getfield 37, 3) := by decide +kernel
theorem dX10_step_68 : decode cX10_step 68 = .ok (.iload_n 1, 1) := by decide +kernel
theorem dX10_step_69 : decode cX10_step 69 = .ok (.invokevirtual 202, 3) := by decide +kernel
theorem dX10_step_72 : decode cX10_step 72 = .ok (.ifCond .eq 7, 3) := by decide +kernel
theorem dX10_step_75 : decode cX10_step 75 = .ok (.iconst 1, 1) := by decide +kernel
theorem dX10_step_76 : decode cX10_step 76 = .ok (.goto 4, 3) := by decide +kernel
theorem dX10_step_79 : decode cX10_step 79 = .ok (.iconst 0, 1) := by decide +kernel
theorem dX10_step_80 : decode cX10_step 80 = .ok (.ireturn, 1) := by decide +kernel
theorem dX10_step_81 : decode cX10_step 81 = .ok (.aload_n 0, 1) := by decide +kernel
theorem dX10_step_82 : decode cX10_step 82 = .ok (.getfield 37, 3) := by decide +kernel
theorem dX10_step_85 : decode cX10_step 85 = .ok (.getfield 205, 3) := by decide +kernel
theorem dX10_step_88 : decode cX10_step 88 = .ok (.iload_n 1, 1) := by decide +kernel
theorem dX10_step_89 : decode cX10_step 89 = .ok (.iaload, 1) := by decide +kernel
theorem dX10_step_90 : decode cX10_step 90 = .ok (.ireturn, 1) := by decide +kernel
theorem dX10_step_91 : decode cX10_step 91 = .ok (.aload_n 0, 1) := by decide +kernel
theorem dX10_step_92 : decode cX10_step 92 = .ok (.getfield 37, 3) := by decide +kernel
theorem dX10_step_95 : decode cX10_step 95 = .ok (.getfield 199, 3) := by decide +kernel
theorem dX10_step_98 : decode cX10_step 98 = .ok (.iload_n 1, 1) := by decide +kernel
theorem dX10_step_99 : decode cX10_step 99 = .ok (.iaload, 1) := by decide +kernel
theorem dX10_step_100 : decode cX10_step 100 = .ok (.ireturn, 1) := by decide +kernel
theorem dX10_step_101 : decode cX10_step 101 = .ok (.aload_n 0, 1) := by decide +kernel
theorem dX10_step_102 : decode cX10_step 102 = .ok (.getfield 37, 3) := by decide +kernel
theorem dX10_step_105 : decode cX10_step 105 = .ok (.getfield 208, 3) := by decide +kernel
theorem dX10_step_108 : decode cX10_step 108 = .ok (.iload_n 1, 1) := by decide +kernel
theorem dX10_step_109 : decode cX10_step 109 = .ok (.iaload, 1) := by decide +kernel
theorem dX10_step_110 : decode cX10_step 110 = .ok (.ireturn, 1) := by decide +kernel
theorem dX10_step_111 : decode cX10_step 111 = .ok (.aload_n 0, 1) := by decide +kernel
theorem dX10_step_112 : decode cX10_step 112 = .ok (.getfield 37, 3) := by decide +kernel
theorem dX10_step_115 : decode cX10_step 115 = .ok (.getfield 211, 3) := by decide +kernel
theorem dX10_step_118 : decode cX10_step 118 = .ok (.iload_n 1, 1) := by decide +kernel
theorem dX10_step_119 : decode cX10_step 119 = .ok (.iaload, 1) := by decide +kernel
theorem dX10_step_120 : decode cX10_step 120 = .ok (.ireturn, 1) := by decide +kernel
theorem dX10_step_121 : decode cX10_step 121 = .ok (.aload_n 0, 1) := by decide +kernel
theorem dX10_step_122 : decode cX10_step 122 = .ok (.getfield 67, 3) := by decide +kernel
theorem dX10_step_125 : decode cX10_step 125 = .ok (.iload_n 1, 1) := by decide +kernel
theorem dX10_step_126 : decode cX10_step 126 = .ok (.invokevirtual 214, 3) := by decide +kernel
theorem dX10_step_129 : decode cX10_step 129 = .ok (.ifCond .eq 7, 3) := by decide +kernel
theorem dX10_step_132 : decode cX10_step 132 = .ok (.iconst 2, 1) := by decide +kernel
theorem dX10_step_133 : decode cX10_step 133 = .ok (.goto 19, 3) := by decide +kernel
theorem dX10_step_136 : decode cX10_step 136 = .ok (.aload_n 0, 1) := by decide +kernel
theorem dX10_step_137 : decode cX10_step 137 = .ok (.getfield 67, 3) := by decide +kernel
theorem dX10_step_140 : decode cX10_step 140 = .ok (.iload_n 1, 1) := by decide +kernel
theorem dX10_step_141 : decode cX10_step 141 = .ok (.invokevirtual 217, 3) := by decide +kernel
theorem dX10_step_144 : decode cX10_step 144 = .ok (.ifCond .eq 7, 3) := by decide +kernel
theorem dX10_step_147 : decode cX10_step 147 = .ok (.iconst 1, 1) := by decide +kernel
theorem dX10_step_148 : decode cX10_step 148 = .ok (.goto 4, 3) := by decide +kernel
theorem dX10_step_151 : decode cX10_step 151 = .ok (.iconst 0, 1) := by decide +kernel
theorem dX10_step_152 : decode cX10_step 152 = .ok (.ireturn, 1) := by decide +kernel
theorem dX10_step_153 : decode cX10_step 153 = .ok (.aload_n 0, 1) := by decide +kernel
theorem dX10_step_154 : decode cX10_step 154 = .ok (.getfield 67, 3) := by decide +kernel
theorem dX10_step_157 : decode cX10_step 157 = .ok (.iload_n 1, 1) := by decide +kernel
theorem dX10_step_158 : decode cX10_step 158 = .ok (.invokevirtual 214, 3) := by decide +kernel
theorem dX10_step_161 : decode cX10_step 161 = .ok (.ifCond .eq 15, 3) := by decide +kernel
theorem dX10_step_164 : decode cX10_step 164 = .ok (.aload_n 0, 1) := by decide +kernel
theorem dX10_step_165 : decode cX10_step 165 = .ok (.getfield 67, 3) := by decide +kernel
theorem dX10_step_168 : decode cX10_step 168 = .ok (.getfield 220, 3) := by decide +kernel
theorem dX10_step_171 : decode cX10_step 171 = .ok (.iload_n 1, 1) := by decide +kernel
theorem dX10_step_172 : decode cX10_step 172 = .ok (.iaload, 1) := by decide +kernel
theorem dX10_step_173 : decode cX10_step 173 = .ok (.goto 4, 3) := by decide +kernel
theorem dX10_step_176 : decode cX10_step 176 = .ok (.iconst (-1), 1) := by decide +kernel
theorem dX10_step_177 : decode cX10_step 177 = .ok (.ireturn, 1) := by decide +kernel
theorem dX10_step_178 : decode cX10_step 178 = .ok (.aload_n 0, 1) := by decide +kernel
theorem dX10_step_179 : decode cX10_step 179 = .ok (.getfield 67, 3) := by decide +kernel
theorem dX10_step_182 : decode cX10_step 182 = .ok (.getfield 223, 3) := by decide +kernel
theorem dX10_step_185 : decode cX10_step 185 = .ok (.iload_n 1, 1) := by decide +kernel
theorem dX10_step_186 : decode cX10_step 186 = .ok (.iaload, 1) := by decide +kernel
theorem dX10_step_187 : decode cX10_step 187 = .ok (.ireturn, 1) := by decide +kernel
theorem dX10_step_188 : decode cX10_step 188 = .ok (.aload_n 0, 1) := by decide +kernel
theorem dX10_step_189 : decode cX10_step 189 = .ok (.getfield 67, 3) := by decide +kernel
theorem dX10_step_192 : decode cX10_step 192 = .ok (.iload_n 1, 1) := by decide +kernel
theorem dX10_step_193 : decode cX10_step 193 = .ok (.invokevirtual 217, 3) := by decide +kernel
theorem dX10_step_196 : decode cX10_step 196 = .ok (.ifCond .eq 15, 3) := by decide +kernel
theorem dX10_step_199 : decode cX10_step 199 = .ok (.aload_n 0, 1) := by decide +kernel
theorem dX10_step_200 : decode cX10_step 200 = .ok (.getfield 67, 3) := by decide +kernel
theorem dX10_step_203 : decode cX10_step 203 = .ok (.getfield 226, 3) := by decide +kernel
theorem dX10_step_206 : decode cX10_step 206 = .ok (.iload_n 1, 1) := by decide +kernel
theorem dX10_step_207 : decode cX10_step 207 = .ok (.iaload, 1) := by decide +kernel
theorem dX10_step_208 : decode cX10_step 208 = .ok (.goto 4, 3) := by decide +kernel
theorem dX10_step_211 : decode cX10_step 211 = .ok (.iconst 0, 1) := by decide +kernel
theorem dX10_step_212 : decode cX10_step 212 = .ok (.ireturn, 1) := by decide +kernel
theorem dX10_step_213 : decode cX10_step 213 = .ok (.iconst (-1), 1) := by decide +kernel
theorem dX10_step_214 : decode cX10_step 214 = .ok (.ireturn, 1) := by decide +kernel
theorem dX10_value_0 : decode cX10_value 0 = .ok (.aload_n 0, 1) := by decide +kernel
theorem dX10_value_1 : decode cX10_value 1 = .ok (.getfield 37, 3) := by decide +kernel
theorem dX10_value_4 : decode cX10_value 4 = .ok (.iload_n 1, 1) := by decide +kernel
theorem dX10_value_5 : decode cX10_value 5 = .ok (.invokevirtual 187, 3) := by decide +kernel
theorem dX10_value_8 : decode cX10_value 8 = .ok (.ifCond .eq 23, 3) := by decide +kernel
theorem dX10_value_11 : decode cX10_value 11 = .ok (.iload_n 2, 1) := by decide +kernel
theorem dX10_value_12 : decode cX10_value 12 = .ok (.bipush 8, 2) := by decide +kernel
theorem dX10_value_14 : decode cX10_value 14 = .ok (.invokestatic 111, 3) := by decide +kernel
theorem dX10_value_17 : decode cX10_value 17 = .ok (.ifCond .eq 14, 3) := by decide +kernel
theorem dX10_value_20 : decode cX10_value 20 = .ok (.aload_n 0, 1) := by decide +kernel
theorem dX10_value_21 : decode cX10_value 21 = .ok (.getfield 67, 3) := by decide +kernel
theorem dX10_value_24 : decode cX10_value 24 = .ok (.iload_n 1, 1) := by decide +kernel
theorem dX10_value_25 : decode cX10_value 25 = .ok (.invokevirtual 214, 3) := by decide +kernel
theorem dX10_value_28 : decode cX10_value 28 = .ok (.ifCond .ne 5, 3) := by decide +kernel
theorem dX10_value_31 : decode cX10_value 31 = .ok (.lconst 0, 1) := by decide +kernel
theorem dX10_value_32 : decode cX10_value 32 = .ok (.lreturn, 1) := by decide +kernel
theorem dX10_value_33 : decode cX10_value 33 = .ok (.aload_n 0, 1) := by decide +kernel
theorem dX10_value_34 : decode cX10_value 34 = .ok (.getfield 67, 3) := by decide +kernel
theorem dX10_value_37 : decode cX10_value 37 = .ok (.getfield 229, 3) := by decide +kernel
theorem dX10_value_40 : decode cX10_value 40 = .ok (.getfield 233, 3) := by decide +kernel
theorem dX10_value_43 : decode cX10_value 43 = .ok (.iload_n 1, 1) := by decide +kernel
theorem dX10_value_44 : decode cX10_value 44 = .ok (.bipush 8, 2) := by decide +kernel
theorem dX10_value_46 : decode cX10_value 46 = .ok (.imul, 1) := by decide +kernel
theorem dX10_value_47 : decode cX10_value 47 = .ok (.iload_n 2, 1) := by decide +kernel
theorem dX10_value_48 : decode cX10_value 48 = .ok (.iadd, 1) := by decide +kernel
theorem dX10_value_49 : decode cX10_value 49 = .ok (.laload, 1) := by decide +kernel
theorem dX10_value_50 : decode cX10_value 50 = .ok (.lreturn, 1) := by decide +kernel
theorem dX10_sent_0 : decode cX10_sent 0 = .ok (.aload_n 0, 1) := by decide +kernel
theorem dX10_sent_1 : decode cX10_sent 1 = .ok (.getfield 37, 3) := by decide +kernel
theorem dX10_sent_4 : decode cX10_sent 4 = .ok (.iload_n 1, 1) := by decide +kernel
theorem dX10_sent_5 : decode cX10_sent 5 = .ok (.invokevirtual 162, 3) := by decide +kernel
theorem dX10_sent_8 : decode cX10_sent 8 = .ok (.ifCond .eq 14, 3) := by decide +kernel
theorem dX10_sent_11 : decode cX10_sent 11 = .ok (.aload_n 0, 1) := by decide +kernel
theorem dX10_sent_12 : decode cX10_sent 12 = .ok (.getfield 58, 3) := by decide +kernel
theorem dX10_sent_15 : decode cX10_sent 15 = .ok (.iload_n 2, 1) := by decide +kernel
theorem dX10_sent_16 : decode cX10_sent 16 = .ok (.invokevirtual 142, 3) := by decide +kernel
theorem dX10_sent_19 : decode cX10_sent 19 = .ok (.ifCond .ne 5, 3) := by decide +kernel
theorem dX10_sent_22 : decode cX10_sent 22 = .ok (.lconst 0, 1) := by decide +kernel
theorem dX10_sent_23 : decode cX10_sent 23 = .ok (.lreturn, 1) := by decide +kernel
theorem dX10_sent_24 : decode cX10_sent 24 = .ok (.iload_n 3, 1) := by decide +kernel
theorem dX10_sent_25 : decode cX10_sent 25 = .ok (.iconst (-1), 1) := by decide +kernel
theorem dX10_sent_26 : decode cX10_sent 26 = .ok (.if_icmp .ne 13, 3) := by decide +kernel
theorem dX10_sent_29 : decode cX10_sent 29 = .ok (.aload_n 0, 1) := by decide +kernel
theorem dX10_sent_30 : decode cX10_sent 30 = .ok (.getfield 58, 3) := by decide +kernel
theorem dX10_sent_33 : decode cX10_sent 33 = .ok (.iload_n 1, 1) := by decide +kernel
theorem dX10_sent_34 : decode cX10_sent 34 = .ok (.iload_n 2, 1) := by decide +kernel
theorem dX10_sent_35 : decode cX10_sent 35 = .ok (.invokevirtual 237, 3) := by decide +kernel
theorem dX10_sent_38 : decode cX10_sent 38 = .ok (.lreturn, 1) := by decide +kernel
theorem dX10_sent_39 : decode cX10_sent 39 = .ok (.iload_n 3, 1) := by decide +kernel
theorem dX10_sent_40 : decode cX10_sent 40 = .ok (.bipush 8, 2) := by decide +kernel
theorem dX10_sent_42 : decode cX10_sent 42 = .ok (.invokestatic 111, 3) := by decide +kernel
theorem dX10_sent_45 : decode cX10_sent 45 = .ok (.ifCond .eq 24, 3) := by decide +kernel
theorem dX10_sent_48 : decode cX10_sent 48 = .ok (.aload_n 0, 1) := by decide +kernel
theorem dX10_sent_49 : decode cX10_sent 49 = .ok (.getfield 58, 3) := by decide +kernel
theorem dX10_sent_52 : decode cX10_sent 52 = .ok (.getfield 241, 3) := by decide +kernel
theorem dX10_sent_55 : decode cX10_sent 55 = .ok (.iload_n 1, 1) := by decide +kernel
theorem dX10_sent_56 : decode cX10_sent 56 = .ok (.iload_n 2, 1) := by decide +kernel
theorem dX10_sent_57 : decode cX10_sent 57 = .ok (.invokestatic 244, 3) := by decide +kernel
theorem dX10_sent_60 : decode cX10_sent 60 = .ok (.bipush 8, 2) := by decide +kernel
theorem dX10_sent_62 : decode cX10_sent 62 = .ok (.imul, 1) := by decide +kernel
theorem dX10_sent_63 : decode cX10_sent 63 = .ok (.iload_n 3, 1) := by decide +kernel
theorem dX10_sent_64 : decode cX10_sent 64 = .ok (.iadd, 1) := by decide +kernel
theorem dX10_sent_65 : decode cX10_sent 65 = .ok (.laload, 1) := by decide +kernel
theorem dX10_sent_66 : decode cX10_sent 66 = .ok (.goto 4, 3) := by decide +kernel
theorem dX10_sent_69 : decode cX10_sent 69 = .ok (.lconst 0, 1) := by decide +kernel
theorem dX10_sent_70 : decode cX10_sent 70 = .ok (.lreturn, 1) := by decide +kernel
theorem dX10_marks_0 : decode cX10_marks 0 = .ok (.aload_n 0, 1) := by decide +kernel
theorem dX10_marks_1 : decode cX10_marks 1 = .ok (.getfield 37, 3) := by decide +kernel
theorem dX10_marks_4 : decode cX10_marks 4 = .ok (.iload_n 1, 1) := by decide +kernel
theorem dX10_marks_5 : decode cX10_marks 5 = .ok (.invokevirtual 162, 3) := by decide +kernel
theorem dX10_marks_8 : decode cX10_marks 8 = .ok (.ifCond .eq 26, 3) := by decide +kernel
theorem dX10_marks_11 : decode cX10_marks 11 = .ok (.aload_n 0, 1) := by decide +kernel
theorem dX10_marks_12 : decode cX10_marks 12 = .ok (.getfield 58, 3) := by decide +kernel
theorem dX10_marks_15 : decode cX10_marks 15 = .ok (.iload_n 2, 1) := by decide +kernel
theorem dX10_marks_16 : decode cX10_marks 16 = .ok (.invokevirtual 142, 3) := by decide +kernel
theorem dX10_marks_19 : decode cX10_marks 19 = .ok (.ifCond .eq 15, 3) := by decide +kernel
theorem dX10_marks_22 : decode cX10_marks 22 = .ok (.aload_n 0, 1) := by decide +kernel
theorem dX10_marks_23 : decode cX10_marks 23 = .ok (.getfield 58, 3) := by decide +kernel
theorem dX10_marks_26 : decode cX10_marks 26 = .ok (.iload_n 1, 1) := by decide +kernel
theorem dX10_marks_27 : decode cX10_marks 27 = .ok (.iload_n 2, 1) := by decide +kernel
theorem dX10_marks_28 : decode cX10_marks 28 = .ok (.invokevirtual 165, 3) := by decide +kernel
theorem dX10_marks_31 : decode cX10_marks 31 = .ok (.ifCond .ne 5, 3) := by decide +kernel
theorem dX10_marks_34 : decode cX10_marks 34 = .ok (.iconst (-1), 1) := by decide +kernel
theorem dX10_marks_35 : decode cX10_marks 35 = .ok (.ireturn, 1) := by decide +kernel
theorem dX10_marks_36 : decode cX10_marks 36 = .ok (.aload_n 0, 1) := by decide +kernel
theorem dX10_marks_37 : decode cX10_marks 37 = .ok (.getfield 58, 3) := by decide +kernel
theorem dX10_marks_40 : decode cX10_marks 40 = .ok (.getfield 248, 3) := by decide +kernel
theorem dX10_marks_43 : decode cX10_marks 43 = .ok (.iload_n 1, 1) := by decide +kernel
theorem dX10_marks_44 : decode cX10_marks 44 = .ok (.iload_n 2, 1) := by decide +kernel
theorem dX10_marks_45 : decode cX10_marks 45 = .ok (.invokestatic 244, 3) := by decide +kernel
theorem dX10_marks_48 : decode cX10_marks 48 = .ok (.iaload, 1) := by decide +kernel
theorem dX10_marks_49 : decode cX10_marks 49 = .ok (.ireturn, 1) := by decide +kernel
theorem dX10_table_0 : decode cX10_table 0 = .ok (.iload_n 1, 1) := by decide +kernel
theorem dX10_table_1 : decode cX10_table 1 = .ok (.bipush 6, 2) := by decide +kernel
theorem dX10_table_3 : decode cX10_table 3 = .ok (.invokestatic 111, 3) := by decide +kernel
theorem dX10_table_6 : decode cX10_table 6 = .ok (.ifCond .ne 5, 3) := by decide +kernel
theorem dX10_table_9 : decode cX10_table 9 = .ok (.iconst (-1), 1) := by decide +kernel
theorem dX10_table_10 : decode cX10_table 10 = .ok (.ireturn, 1) := by decide +kernel
theorem dX10_table_11 : decode cX10_table 11 = .ok (.iload_n 2, 1) := by decide +kernel
theorem dX10_table_12 : decode cX10_table 12 = .ok (.tableswitch 86 0 4 #[36, 46, 56, 66, 76], 36) := by decide +kernel
theorem dX10_table_48 : decode cX10_table 48 = .ok (.aload_n 0, 1) := by decide +kernel
theorem dX10_table_49 : decode cX10_table 49 = .ok (.getfield 44, 3) := by decide +kernel
theorem dX10_table_52 : decode cX10_table 52 = .ok (.getfield 251, 3) := by decide +kernel
theorem dX10_table_55 : decode cX10_table 55 = .ok (.iload_n 1, 1) := by decide +kernel
theorem dX10_table_56 : decode cX10_table 56 = .ok (.iaload, 1) := by decide +kernel
theorem dX10_table_57 : decode cX10_table 57 = .ok (.ireturn, 1) := by decide +kernel
theorem dX10_table_58 : decode cX10_table 58 = .ok (.aload_n 0, 1) := by decide +kernel
theorem dX10_table_59 : decode cX10_table 59 = .ok (.getfield 44, 3) := by decide +kernel
theorem dX10_table_62 : decode cX10_table 62 = .ok (.getfield 254, 3) := by decide +kernel
theorem dX10_table_65 : decode cX10_table 65 = .ok (.iload_n 1, 1) := by decide +kernel
theorem dX10_table_66 : decode cX10_table 66 = .ok (.iaload, 1) := by decide +kernel
theorem dX10_table_67 : decode cX10_table 67 = .ok (.ireturn, 1) := by decide +kernel
theorem dX10_table_68 : decode cX10_table 68 = .ok (.aload_n 0, 1) := by decide +kernel
theorem dX10_table_69 : decode cX10_table 69 = .ok (.getfield 44, 3) := by decide +kernel
theorem dX10_table_72 : decode cX10_table 72 = .ok (.getfield 122, 3) := by decide +kernel
theorem dX10_table_75 : decode cX10_table 75 = .ok (.iload_n 1, 1) := by decide +kernel
theorem dX10_table_76 : decode cX10_table 76 = .ok (.iaload, 1) := by decide +kernel
theorem dX10_table_77 : decode cX10_table 77 = .ok (.ireturn, 1) := by decide +kernel
theorem dX10_table_78 : decode cX10_table 78 = .ok (.aload_n 0, 1) := by decide +kernel
theorem dX10_table_79 : decode cX10_table 79 = .ok (.getfield 44, 3) := by decide +kernel
theorem dX10_table_82 : decode cX10_table 82 = .ok (.getfield 115, 3) := by decide +kernel
theorem dX10_table_85 : decode cX10_table 85 = .ok (.iload_n 1, 1) := by decide +kernel
theorem dX10_table_86 : decode cX10_table 86 = .ok (.iaload, 1) := by decide +kernel
theorem dX10_table_87 : decode cX10_table 87 = .ok (.ireturn, 1) := by decide +kernel
theorem dX10_table_88 : decode cX10_table 88 = .ok (.aload_n 0, 1) := by decide +kernel
theorem dX10_table_89 : decode cX10_table 89 = .ok (.getfield 44, 3) := by decide +kernel
theorem dX10_table_92 : decode cX10_table 92 = .ok (.getfield 119, 3) := by decide +kernel
theorem dX10_table_95 : decode cX10_table 95 = .ok (.iload_n 1, 1) := by decide +kernel
theorem dX10_table_96 : decode cX10_table 96 = .ok (.iaload, 1) := by decide +kernel
theorem dX10_table_97 : decode cX10_table 97 = .ok (.ireturn, 1) := by decide +kernel
theorem dX10_table_98 : decode cX10_table 98 = .ok (.iconst (-1), 1) := by decide +kernel
theorem dX10_table_99 : decode cX10_table 99 = .ok (.ireturn, 1) := by decide +kernel
theorem dX10_count_0 : decode cX10_count 0 = .ok (.iload_n 1, 1) := by decide +kernel
theorem dX10_count_1 : decode cX10_count 1 = .ok (.tableswitch 117 0 7 #[47, 55, 63, 71, 79, 90, 101, 109], 47) := by decide +kernel
theorem dX10_count_48 : decode cX10_count 48 = .ok (.aload_n 0, 1) := by decide +kernel
theorem dX10_count_49 : decode cX10_count 49 = .ok (.getfield 37, 3) := by decide +kernel
theorem dX10_count_52 : decode cX10_count 52 = .ok (.getfield 257, 3) := by decide +kernel
theorem dX10_count_55 : decode cX10_count 55 = .ok (.ireturn, 1) := by decide +kernel
theorem dX10_count_56 : decode cX10_count 56 = .ok (.aload_n 0, 1) := by decide +kernel
theorem dX10_count_57 : decode cX10_count 57 = .ok (.getfield 58, 3) := by decide +kernel
theorem dX10_count_60 : decode cX10_count 60 = .ok (.getfield 136, 3) := by decide +kernel
theorem dX10_count_63 : decode cX10_count 63 = .ok (.ireturn, 1) := by decide +kernel
theorem dX10_count_64 : decode cX10_count 64 = .ok (.aload_n 0, 1) := by decide +kernel
theorem dX10_count_65 : decode cX10_count 65 = .ok (.getfield 67, 3) := by decide +kernel
theorem dX10_count_68 : decode cX10_count 68 = .ok (.getfield 177, 3) := by decide +kernel
theorem dX10_count_71 : decode cX10_count 71 = .ok (.ireturn, 1) := by decide +kernel
theorem dX10_count_72 : decode cX10_count 72 = .ok (.aload_n 0, 1) := by decide +kernel
theorem dX10_count_73 : decode cX10_count 73 = .ok (.getfield 67, 3) := by decide +kernel
theorem dX10_count_76 : decode cX10_count 76 = .ok (.getfield 174, 3) := by decide +kernel
theorem dX10_count_79 : decode cX10_count 79 = .ok (.ireturn, 1) := by decide +kernel
theorem dX10_count_80 : decode cX10_count 80 = .ok (.aload_n 0, 1) := by decide +kernel
theorem dX10_count_81 : decode cX10_count 81 = .ok (.getfield 67, 3) := by decide +kernel
theorem dX10_count_84 : decode cX10_count 84 = .ok (.getfield 171, 3) := by decide +kernel
theorem dX10_count_87 : decode cX10_count 87 = .ok (.invokestatic 260, 3) := by decide +kernel
theorem dX10_count_90 : decode cX10_count 90 = .ok (.ireturn, 1) := by decide +kernel
theorem dX10_count_91 : decode cX10_count 91 = .ok (.aload_n 0, 1) := by decide +kernel
theorem dX10_count_92 : decode cX10_count 92 = .ok (.getfield 67, 3) := by decide +kernel
theorem dX10_count_95 : decode cX10_count 95 = .ok (.getfield 155, 3) := by decide +kernel
theorem dX10_count_98 : decode cX10_count 98 = .ok (.invokestatic 260, 3) := by decide +kernel
theorem dX10_count_101 : decode cX10_count 101 = .ok (.ireturn, 1) := by decide +kernel
theorem dX10_count_102 : decode cX10_count 102 = .ok (.aload_n 0, 1) := by decide +kernel
theorem dX10_count_103 : decode cX10_count 103 = .ok (.getfield 58, 3) := by decide +kernel
theorem dX10_count_106 : decode cX10_count 106 = .ok (.getfield 265, 3) := by decide +kernel
theorem dX10_count_109 : decode cX10_count 109 = .ok (.ireturn, 1) := by decide +kernel
theorem dX10_count_110 : decode cX10_count 110 = .ok (.aload_n 0, 1) := by decide +kernel
theorem dX10_count_111 : decode cX10_count 111 = .ok (.getfield 12, 3) := by decide +kernel
theorem dX10_count_114 : decode cX10_count 114 = .ok (.getfield 80, 3) := by decide +kernel
theorem dX10_count_117 : decode cX10_count 117 = .ok (.ireturn, 1) := by decide +kernel
theorem dX10_count_118 : decode cX10_count 118 = .ok (.iconst (-1), 1) := by decide +kernel
theorem dX10_count_119 : decode cX10_count 119 = .ok (.ireturn, 1) := by decide +kernel
theorem dX10_isBelow_0 : decode cX10_isBelow 0 = .ok (.iload_n 0, 1) := by decide +kernel
theorem dX10_isBelow_1 : decode cX10_isBelow 1 = .ok (.ifCond .lt 12, 3) := by decide +kernel
theorem dX10_isBelow_4 : decode cX10_isBelow 4 = .ok (.iload_n 0, 1) := by decide +kernel
theorem dX10_isBelow_5 : decode cX10_isBelow 5 = .ok (.iload_n 1, 1) := by decide +kernel
theorem dX10_isBelow_6 : decode cX10_isBelow 6 = .ok (.if_icmp .ge 7, 3) := by decide +kernel
theorem dX10_isBelow_9 : decode cX10_isBelow 9 = .ok (.iconst 1, 1) := by decide +kernel
theorem dX10_isBelow_10 : decode cX10_isBelow 10 = .ok (.goto 4, 3) := by decide +kernel
theorem dX10_isBelow_13 : decode cX10_isBelow 13 = .ok (.iconst 0, 1) := by decide +kernel
theorem dX10_isBelow_14 : decode cX10_isBelow 14 = .ok (.ireturn, 1) := by decide +kernel
theorem dX11_init_0 : decode cX11_init 0 = .ok (.aload_n 0, 1) := by decide +kernel
theorem dX11_init_1 : decode cX11_init 1 = .ok (.invokespecial 7, 3) := by decide +kernel
theorem dX11_init_4 : decode cX11_init 4 = .ok (.aload_n 0, 1) := by decide +kernel
theorem dX11_init_5 : decode cX11_init 5 = .ok (.sipush 2000, 3) := by decide +kernel
theorem dX11_init_8 : decode cX11_init 8 = .ok (.newarray .byte, 2) := by decide +kernel
theorem dX11_init_10 : decode cX11_init 10 = .ok (.putfield 13, 3) := by decide +kernel
theorem dX11_init_13 : decode cX11_init 13 = .ok (.aload_n 0, 1) := by decide +kernel
theorem dX11_init_14 : decode cX11_init 14 = .ok (.sipush 2000, 3) := by decide +kernel
theorem dX11_init_17 : decode cX11_init 17 = .ok (.newarray .byte, 2) := by decide +kernel
theorem dX11_init_19 : decode cX11_init 19 = .ok (.putfield 17, 3) := by decide +kernel
theorem dX11_init_22 : decode cX11_init 22 = .ok (.aload_n 0, 1) := by decide +kernel
theorem dX11_init_23 : decode cX11_init 23 = .ok (.sipush 403, 3) := by decide +kernel
theorem dX11_init_26 : decode cX11_init 26 = .ok (.newarray .int, 2) := by decide +kernel
theorem dX11_init_28 : decode cX11_init 28 = .ok (.putfield 20, 3) := by decide +kernel
theorem dX11_init_31 : decode cX11_init 31 = .ok (.aload_n 0, 1) := by decide +kernel
theorem dX11_init_32 : decode cX11_init 32 = .ok (.sipush 403, 3) := by decide +kernel
theorem dX11_init_35 : decode cX11_init 35 = .ok (.newarray .int, 2) := by decide +kernel
theorem dX11_init_37 : decode cX11_init 37 = .ok (.putfield 24, 3) := by decide +kernel
theorem dX11_init_40 : decode cX11_init 40 = .ok (.aload_n 0, 1) := by decide +kernel
theorem dX11_init_41 : decode cX11_init 41 = .ok (.sipush 403, 3) := by decide +kernel
theorem dX11_init_44 : decode cX11_init 44 = .ok (.newarray .int, 2) := by decide +kernel
theorem dX11_init_46 : decode cX11_init 46 = .ok (.putfield 27, 3) := by decide +kernel
theorem dX11_init_49 : decode cX11_init 49 = .ok (.aload_n 0, 1) := by decide +kernel
theorem dX11_init_50 : decode cX11_init 50 = .ok (.sipush 403, 3) := by decide +kernel
theorem dX11_init_53 : decode cX11_init 53 = .ok (.newarray .long, 2) := by decide +kernel
theorem dX11_init_55 : decode cX11_init 55 = .ok (.putfield 30, 3) := by decide +kernel
theorem dX11_init_58 : decode cX11_init 58 = .ok (.aload_n 0, 1) := by decide +kernel
theorem dX11_init_59 : decode cX11_init 59 = .ok (.bipush 16, 2) := by decide +kernel
theorem dX11_init_61 : decode cX11_init 61 = .ok (.newarray .long, 2) := by decide +kernel
theorem dX11_init_63 : decode cX11_init 63 = .ok (.putfield 34, 3) := by decide +kernel
theorem dX11_init_66 : decode cX11_init 66 = .ok (.aload_n 0, 1) := by decide +kernel
theorem dX11_init_67 : decode cX11_init 67 = .ok (.iconst (-1), 1) := by decide +kernel
theorem dX11_init_68 : decode cX11_init 68 = .ok (.putfield 37, 3) := by decide +kernel
theorem dX11_init_71 : decode cX11_init 71 = .ok (.aload_n 0, 1) := by decide +kernel
theorem dX11_init_72 : decode cX11_init 72 = .ok (.iconst 2, 1) := by decide +kernel
theorem dX11_init_73 : decode cX11_init 73 = .ok (.newarray .int, 2) := by decide +kernel
theorem dX11_init_75 : decode cX11_init 75 = .ok (.putfield 40, 3) := by decide +kernel
theorem dX11_init_78 : decode cX11_init 78 = .ok (.aload_n 0, 1) := by decide +kernel
theorem dX11_init_79 : decode cX11_init 79 = .ok (.bipush 14, 2) := by decide +kernel
theorem dX11_init_81 : decode cX11_init 81 = .ok (.newarray .long, 2) := by decide +kernel
theorem dX11_init_83 : decode cX11_init 83 = .ok (.putfield 43, 3) := by decide +kernel
theorem dX11_init_86 : decode cX11_init 86 = .ok (.aload_n 0, 1) := by decide +kernel
theorem dX11_init_87 : decode cX11_init 87 = .ok (.bipush 14, 2) := by decide +kernel
theorem dX11_init_89 : decode cX11_init 89 = .ok (.newarray .boolean, 2) := by decide +kernel
theorem dX11_init_91 : decode cX11_init 91 = .ok (.putfield 46, 3) := by decide +kernel
theorem dX11_init_94 : decode cX11_init 94 = .ok (.aload_n 0, 1) := by decide +kernel
theorem dX11_init_95 : decode cX11_init 95 = .ok (.bipush 14, 2) := by decide +kernel
theorem dX11_init_97 : decode cX11_init 97 = .ok (.newarray .int, 2) := by decide +kernel
theorem dX11_init_99 : decode cX11_init 99 = .ok (.putfield 50, 3) := by decide +kernel
theorem dX11_init_102 : decode cX11_init 102 = .ok (.aload_n 0, 1) := by decide +kernel
theorem dX11_init_103 : decode cX11_init 103 = .ok (.bipush 14, 2) := by decide +kernel
theorem dX11_init_105 : decode cX11_init 105 = .ok (.newarray .int, 2) := by decide +kernel
theorem dX11_init_107 : decode cX11_init 107 = .ok (.putfield 53, 3) := by decide +kernel
theorem dX11_init_110 : decode cX11_init 110 = .ok (.aload_n 0, 1) := by decide +kernel
theorem dX11_init_111 : decode cX11_init 111 = .ok (.bipush 14, 2) := by decide +kernel
theorem dX11_init_113 : decode cX11_init 113 = .ok (.newarray .int, 2) := by decide +kernel
theorem dX11_init_115 : decode cX11_init 115 = .ok (.putfield 56, 3) := by decide +kernel
theorem dX11_init_118 : decode cX11_init 118 = .ok (.aload_n 0, 1) := by decide +kernel
theorem dX11_init_119 : decode cX11_init 119 = .ok (.bipush 14, 2) := by decide +kernel
theorem dX11_init_121 : decode cX11_init 121 = .ok (.newarray .int, 2) := by decide +kernel
theorem dX11_init_123 : decode cX11_init 123 = .ok (.putfield 59, 3) := by decide +kernel
theorem dX11_init_126 : decode cX11_init 126 = .ok (.aload_n 0, 1) := by decide +kernel
theorem dX11_init_127 : decode cX11_init 127 = .ok (.bipush 14, 2) := by decide +kernel
theorem dX11_init_129 : decode cX11_init 129 = .ok (.newarray .int, 2) := by decide +kernel
theorem dX11_init_131 : decode cX11_init 131 = .ok (.putfield 62, 3) := by decide +kernel
theorem dX11_init_134 : decode cX11_init 134 = .ok (.aload_n 0, 1) := by decide +kernel
theorem dX11_init_135 : decode cX11_init 135 = .ok (.bipush 14, 2) := by decide +kernel
theorem dX11_init_137 : decode cX11_init 137 = .ok (.newarray .int, 2) := by decide +kernel
theorem dX11_init_139 : decode cX11_init 139 = .ok (.putfield 65, 3) := by decide +kernel
theorem dX11_init_142 : decode cX11_init 142 = .ok (.aload_n 0, 1) := by decide +kernel
theorem dX11_init_143 : decode cX11_init 143 = .ok (.bipush 14, 2) := by decide +kernel
theorem dX11_init_145 : decode cX11_init 145 = .ok (.newarray .int, 2) := by decide +kernel
theorem dX11_init_147 : decode cX11_init 147 = .ok (.putfield 68, 3) := by decide +kernel
theorem dX11_init_150 : decode cX11_init 150 = .ok (.aload_n 0, 1) := by decide +kernel
theorem dX11_init_151 : decode cX11_init 151 = .ok (.bipush 14, 2) := by decide +kernel
theorem dX11_init_153 : decode cX11_init 153 = .ok (.newarray .int, 2) := by decide +kernel
theorem dX11_init_155 : decode cX11_init 155 = .ok (.putfield 71, 3) := by decide +kernel
theorem dX11_init_158 : decode cX11_init 158 = .ok (.aload_n 0, 1) := by decide +kernel
theorem dX11_init_159 : decode cX11_init 159 = .ok (.sipush 1000, 3) := by decide +kernel
theorem dX11_init_162 : decode cX11_init 162 = .ok (.newarray .int, 2) := by decide +kernel
theorem dX11_init_164 : decode cX11_init 164 = .ok (.putfield 74, 3) := by decide +kernel
theorem dX11_init_167 : decode cX11_init 167 = .ok (.aload_n 0, 1) := by decide +kernel
theorem dX11_init_168 : decode cX11_init 168 = .ok (.sipush 1000, 3) := by decide +kernel
theorem dX11_init_171 : decode cX11_init 171 = .ok (.newarray .int, 2) := by decide +kernel
theorem dX11_init_173 : decode cX11_init 173 = .ok (.putfield 77, 3) := by decide +kernel
theorem dX11_init_176 : decode cX11_init 176 = .ok (.aload_n 0, 1) := by decide +kernel
theorem dX11_init_177 : decode cX11_init 177 = .ok (.bipush 64, 2) := by decide +kernel
theorem dX11_init_179 : decode cX11_init 179 = .ok (.newarray .int, 2) := by decide +kernel
theorem dX11_init_181 : decode cX11_init 181 = .ok (.putfield 80, 3) := by decide +kernel
theorem dX11_init_184 : decode cX11_init 184 = .ok (.aload_n 0, 1) := by decide +kernel
theorem dX11_init_185 : decode cX11_init 185 = .ok (.bipush 6, 2) := by decide +kernel
theorem dX11_init_187 : decode cX11_init 187 = .ok (.newarray .int, 2) := by decide +kernel
theorem dX11_init_189 : decode cX11_init 189 = .ok (.putfield 83, 3) := by decide +kernel
theorem dX11_init_192 : decode cX11_init 192 = .ok (.aload_n 0, 1) := by decide +kernel
theorem dX11_init_193 : decode cX11_init 193 = .ok (.bipush 6, 2) := by decide +kernel
theorem dX11_init_195 : decode cX11_init 195 = .ok (.newarray .int, 2) := by decide +kernel
theorem dX11_init_197 : decode cX11_init 197 = .ok (.putfield 86, 3) := by decide +kernel
theorem dX11_init_200 : decode cX11_init 200 = .ok (.aload_n 0, 1) := by decide +kernel
theorem dX11_init_201 : decode cX11_init 201 = .ok (.bipush 6, 2) := by decide +kernel
theorem dX11_init_203 : decode cX11_init 203 = .ok (.newarray .int, 2) := by decide +kernel
theorem dX11_init_205 : decode cX11_init 205 = .ok (.putfield 89, 3) := by decide +kernel
theorem dX11_init_208 : decode cX11_init 208 = .ok (.aload_n 0, 1) := by decide +kernel
theorem dX11_init_209 : decode cX11_init 209 = .ok (.bipush 6, 2) := by decide +kernel
theorem dX11_init_211 : decode cX11_init 211 = .ok (.newarray .int, 2) := by decide +kernel
theorem dX11_init_213 : decode cX11_init 213 = .ok (.putfield 92, 3) := by decide +kernel
theorem dX11_init_216 : decode cX11_init 216 = .ok (.aload_n 0, 1) := by decide +kernel
theorem dX11_init_217 : decode cX11_init 217 = .ok (.sipush 240, 3) := by decide +kernel
theorem dX11_init_220 : decode cX11_init 220 = .ok (.newarray .int, 2) := by decide +kernel
theorem dX11_init_222 : decode cX11_init 222 = .ok (.putfield 95, 3) := by decide +kernel
theorem dX11_init_225 : decode cX11_init 225 = .ok (.aload_n 0, 1) := by decide +kernel
theorem dX11_init_226 : decode cX11_init 226 = .ok (.sipush 240, 3) := by decide +kernel
theorem dX11_init_229 : decode cX11_init 229 = .ok (.newarray .int, 2) := by decide +kernel
theorem dX11_init_231 : decode cX11_init 231 = .ok (.putfield 98, 3) := by decide +kernel
theorem dX11_init_234 : decode cX11_init 234 = .ok (.aload_n 0, 1) := by decide +kernel
theorem dX11_init_235 : decode cX11_init 235 = .ok (.bipush 6, 2) := by decide +kernel
theorem dX11_init_237 : decode cX11_init 237 = .ok (.newarray .int, 2) := by decide +kernel
theorem dX11_init_239 : decode cX11_init 239 = .ok (.putfield 101, 3) := by decide +kernel
theorem dX11_init_242 : decode cX11_init 242 = .ok (.aload_n 0, 1) := by decide +kernel
theorem dX11_init_243 : decode cX11_init 243 = .ok (.sipush 240, 3) := by decide +kernel
theorem dX11_init_246 : decode cX11_init 246 = .ok (.newarray .int, 2) := by decide +kernel
theorem dX11_init_248 : decode cX11_init 248 = .ok (.putfield 104, 3) := by decide +kernel
theorem dX11_init_251 : decode cX11_init 251 = .ok (.aload_n 0, 1) := by decide +kernel
theorem dX11_init_252 : decode cX11_init 252 = .ok (.sipush 240, 3) := by decide +kernel
theorem dX11_init_255 : decode cX11_init 255 = .ok (.newarray .int, 2) := by decide +kernel
theorem dX11_init_257 : decode cX11_init 257 = .ok (.putfield 107, 3) := by decide +kernel
theorem dX11_init_260 : decode cX11_init 260 = .ok (.aload_n 0, 1) := by decide +kernel
theorem dX11_init_261 : decode cX11_init 261 = .ok (.bipush 6, 2) := by decide +kernel
theorem dX11_init_263 : decode cX11_init 263 = .ok (.newarray .int, 2) := by decide +kernel
theorem dX11_init_265 : decode cX11_init 265 = .ok (.putfield 110, 3) := by decide +kernel
theorem dX11_init_268 : decode cX11_init 268 = .ok (.aload_n 0, 1) := by decide +kernel
theorem dX11_init_269 : decode cX11_init 269 = .ok (.bipush 6, 2) := by decide +kernel
theorem dX11_init_271 : decode cX11_init 271 = .ok (.newarray .boolean, 2) := by decide +kernel
theorem dX11_init_273 : decode cX11_init 273 = .ok (.putfield 113, 3) := by decide +kernel
theorem dX11_init_276 : decode cX11_init 276 = .ok (.aload_n 0, 1) := by decide +kernel
theorem dX11_init_277 : decode cX11_init 277 = .ok (.iconst 3, 1) := by decide +kernel
theorem dX11_init_278 : decode cX11_init 278 = .ok (.newarray .int, 2) := by decide +kernel
theorem dX11_init_280 : decode cX11_init 280 = .ok (.putfield 116, 3) := by decide +kernel
theorem dX11_init_283 : decode cX11_init 283 = .ok (.aload_n 0, 1) := by decide +kernel
theorem dX11_init_284 : decode cX11_init 284 = .ok (.bipush 7, 2) := by decide +kernel
theorem dX11_init_286 : decode cX11_init 286 = .ok (.newarray .int, 2) := by decide +kernel
theorem dX11_init_288 : decode cX11_init 288 = .ok (.putfield 119, 3) := by decide +kernel
theorem dX11_init_291 : decode cX11_init 291 = .ok (.aload_n 0, 1) := by decide +kernel
theorem dX11_init_292 : decode cX11_init 292 = .ok (.bipush 7, 2) := by decide +kernel
theorem dX11_init_294 : decode cX11_init 294 = .ok (.newarray .int, 2) := by decide +kernel
theorem dX11_init_296 : decode cX11_init 296 = .ok (.putfield 122, 3) := by decide +kernel
theorem dX11_init_299 : decode cX11_init 299 = .ok (.aload_n 0, 1) := by decide +kernel
theorem dX11_init_300 : decode cX11_init 300 = .ok (.bipush 7, 2) := by decide +kernel
theorem dX11_init_302 : decode cX11_init 302 = .ok (.newarray .int, 2) := by decide +kernel
theorem dX11_init_304 : decode cX11_init 304 = .ok (.putfield 125, 3) := by decide +kernel
theorem dX11_init_307 : decode cX11_init 307 = .ok (.aload_n 0, 1) := by decide +kernel
theorem dX11_init_308 : decode cX11_init 308 = .ok (.bipush 7, 2) := by decide +kernel
theorem dX11_init_310 : decode cX11_init 310 = .ok (.newarray .int, 2) := by decide +kernel
theorem dX11_init_312 : decode cX11_init 312 = .ok (.putfield 128, 3) := by decide +kernel
theorem dX11_init_315 : decode cX11_init 315 = .ok (.aload_n 0, 1) := by decide +kernel
theorem dX11_init_316 : decode cX11_init 316 = .ok (.bipush 56, 2) := by decide +kernel
theorem dX11_init_318 : decode cX11_init 318 = .ok (.newarray .long, 2) := by decide +kernel
theorem dX11_init_320 : decode cX11_init 320 = .ok (.putfield 131, 3) := by decide +kernel
theorem dX11_init_323 : decode cX11_init 323 = .ok (.aload_n 0, 1) := by decide +kernel
theorem dX11_init_324 : decode cX11_init 324 = .ok (.bipush 42, 2) := by decide +kernel
theorem dX11_init_326 : decode cX11_init 326 = .ok (.newarray .boolean, 2) := by decide +kernel
theorem dX11_init_328 : decode cX11_init 328 = .ok (.putfield 134, 3) := by decide +kernel
theorem dX11_init_331 : decode cX11_init 331 = .ok (.aload_n 0, 1) := by decide +kernel
theorem dX11_init_332 : decode cX11_init 332 = .ok (.bipush 42, 2) := by decide +kernel
theorem dX11_init_334 : decode cX11_init 334 = .ok (.newarray .boolean, 2) := by decide +kernel
theorem dX11_init_336 : decode cX11_init 336 = .ok (.putfield 137, 3) := by decide +kernel
theorem dX11_init_339 : decode cX11_init 339 = .ok (.aload_n 0, 1) := by decide +kernel
theorem dX11_init_340 : decode cX11_init 340 = .ok (.bipush 42, 2) := by decide +kernel
theorem dX11_init_342 : decode cX11_init 342 = .ok (.newarray .int, 2) := by decide +kernel
theorem dX11_init_344 : decode cX11_init 344 = .ok (.putfield 140, 3) := by decide +kernel
theorem dX11_init_347 : decode cX11_init 347 = .ok (.aload_n 0, 1) := by decide +kernel
theorem dX11_init_348 : decode cX11_init 348 = .ok (.sipush 336, 3) := by decide +kernel
theorem dX11_init_351 : decode cX11_init 351 = .ok (.newarray .long, 2) := by decide +kernel
theorem dX11_init_353 : decode cX11_init 353 = .ok (.putfield 143, 3) := by decide +kernel
theorem dX11_init_356 : decode cX11_init 356 = .ok (.aload_n 0, 1) := by decide +kernel
theorem dX11_init_357 : decode cX11_init 357 = .ok (.sipush 4000, 3) := by decide +kernel
theorem dX11_init_360 : decode cX11_init 360 = .ok (.newarray .long, 2) := by decide +kernel
theorem dX11_init_362 : decode cX11_init 362 = .ok (.putfield 146, 3) := by decide +kernel
theorem dX11_init_365 : decode cX11_init 365 = .ok (.aload_n 0, 1) := by decide +kernel
theorem dX11_init_366 : decode cX11_init 366 = .ok (.bipush 7, 2) := by decide +kernel
theorem dX11_init_368 : decode cX11_init 368 = .ok (.newarray .int, 2) := by decide +kernel
theorem dX11_init_370 : decode cX11_init 370 = .ok (.putfield 149, 3) := by decide +kernel
theorem dX11_init_373 : decode cX11_init 373 = .ok (.aload_n 0, 1) := by decide +kernel
theorem dX11_init_374 : decode cX11_init 374 = .ok (.bipush 7, 2) := by decide +kernel
theorem dX11_init_376 : decode cX11_init 376 = .ok (.newarray .int, 2) := by decide +kernel
theorem dX11_init_378 : decode cX11_init 378 = .ok (.putfield 152, 3) := by decide +kernel
theorem dX11_init_381 : decode cX11_init 381 = .ok (.aload_n 0, 1) := by decide +kernel
theorem dX11_init_382 : decode cX11_init 382 = .ok (.iconst 3, 1) := by decide +kernel
theorem dX11_init_383 : decode cX11_init 383 = .ok (.newarray .int, 2) := by decide +kernel
theorem dX11_init_385 : decode cX11_init 385 = .ok (.putfield 155, 3) := by decide +kernel
theorem dX11_init_388 : decode cX11_init 388 = .ok (.aload_n 0, 1) := by decide +kernel
theorem dX11_init_389 : decode cX11_init 389 = .ok (.bipush 7, 2) := by decide +kernel
theorem dX11_init_391 : decode cX11_init 391 = .ok (.newarray .int, 2) := by decide +kernel
theorem dX11_init_393 : decode cX11_init 393 = .ok (.putfield 158, 3) := by decide +kernel
theorem dX11_init_396 : decode cX11_init 396 = .ok (.aload_n 0, 1) := by decide +kernel
theorem dX11_init_397 : decode cX11_init 397 = .ok (.bipush 6, 2) := by decide +kernel
theorem dX11_init_399 : decode cX11_init 399 = .ok (.newarray .int, 2) := by decide +kernel
theorem dX11_init_401 : decode cX11_init 401 = .ok (.putfield 161, 3) := by decide +kernel
theorem dX11_init_404 : decode cX11_init 404 = .ok (.aload_n 0, 1) := by decide +kernel
theorem dX11_init_405 : decode cX11_init 405 = .ok (.getfield 34, 3) := by decide +kernel
theorem dX11_init_408 : decode cX11_init 408 = .ok (.iconst 0, 1) := by decide +kernel
theorem dX11_init_409 : decode cX11_init 409 = .ok (.bipush 112, 2) := by decide +kernel
theorem dX11_init_411 : decode cX11_init 411 = .ok (.bipush 97, 2) := by decide +kernel
theorem dX11_init_413 : decode cX11_init 413 = .ok (.bipush 114, 2) := by decide +kernel
theorem dX11_init_415 : decode cX11_init 415 = .ok (.bipush 116, 2) := by decide +kernel
theorem dX11_init_417 : decode cX11_init 417 = .ok (.iconst 0, 1) := by decide +kernel
theorem dX11_init_418 : decode cX11_init 418 = .ok (.iconst 0, 1) := by decide +kernel
theorem dX11_init_419 : decode cX11_init 419 = .ok (.invokestatic 164, 3) := by decide +kernel
theorem dX11_init_422 : decode cX11_init 422 = .ok (.lastore, 1) := by decide +kernel
theorem dX11_init_423 : decode cX11_init 423 = .ok (.aload_n 0, 1) := by decide +kernel
theorem dX11_init_424 : decode cX11_init 424 = .ok (.getfield 34, 3) := by decide +kernel
theorem dX11_init_427 : decode cX11_init 427 = .ok (.iconst 1, 1) := by decide +kernel
theorem dX11_init_428 : decode cX11_init 428 = .ok (.bipush 116, 2) := by decide +kernel
theorem dX11_init_430 : decode cX11_init 430 = .ok (.bipush 97, 2) := by decide +kernel
theorem dX11_init_432 : decode cX11_init 432 = .ok (.bipush 107, 2) := by decide +kernel
theorem dX11_init_434 : decode cX11_init 434 = .ok (.bipush 101, 2) := by decide +kernel
theorem dX11_init_436 : decode cX11_init 436 = .ok (.bipush 115, 2) := by decide +kernel
theorem dX11_init_438 : decode cX11_init 438 = .ok (.iconst 0, 1) := by decide +kernel
theorem dX11_init_439 : decode cX11_init 439 = .ok (.invokestatic 164, 3) := by decide +kernel
theorem dX11_init_442 : decode cX11_init 442 = .ok (.lastore, 1) := by decide +kernel
theorem dX11_init_443 : decode cX11_init 443 = .ok (.aload_n 0, 1) := by decide +kernel
theorem dX11_init_444 : decode cX11_init 444 = .ok (.getfield 34, 3) := by decide +kernel
theorem dX11_init_447 : decode cX11_init 447 = .ok (.iconst 2, 1) := by decide +kernel
theorem dX11_init_448 : decode cX11_init 448 = .ok (.bipush 114, 2) := by decide +kernel
theorem dX11_init_450 : decode cX11_init 450 = .ok (.bipush 101, 2) := by decide +kernel
theorem dX11_init_452 : decode cX11_init 452 = .ok (.bipush 112, 2) := by decide +kernel
theorem dX11_init_454 : decode cX11_init 454 = .ok (.bipush 111, 2) := by decide +kernel
theorem dX11_init_456 : decode cX11_init 456 = .ok (.bipush 114, 2) := by decide +kernel
theorem dX11_init_458 : decode cX11_init 458 = .ok (.bipush 116, 2) := by decide +kernel
theorem dX11_init_460 : decode cX11_init 460 = .ok (.invokestatic 164, 3) := by decide +kernel
theorem dX11_init_463 : decode cX11_init 463 = .ok (.lastore, 1) := by decide +kernel
theorem dX11_init_464 : decode cX11_init 464 = .ok (.aload_n 0, 1) := by decide +kernel
theorem dX11_init_465 : decode cX11_init 465 = .ok (.getfield 34, 3) := by decide +kernel
theorem dX11_init_468 : decode cX11_init 468 = .ok (.iconst 3, 1) := by decide +kernel
theorem dX11_init_469 : decode cX11_init 469 = .ok (.bipush 100, 2) := by decide +kernel
theorem dX11_init_471 : decode cX11_init 471 = .ok (.bipush 117, 2) := by decide +kernel
theorem dX11_init_473 : decode cX11_init 473 = .ok (.bipush 101, 2) := by decide +kernel
theorem dX11_init_475 : decode cX11_init 475 = .ok (.iconst 0, 1) := by decide +kernel
theorem dX11_init_476 : decode cX11_init 476 = .ok (.iconst 0, 1) := by decide +kernel
theorem dX11_init_477 : decode cX11_init 477 = .ok (.iconst 0, 1) := by decide +kernel
theorem dX11_init_478 : decode cX11_init 478 = .ok (.invokestatic 164, 3) := by decide +kernel
theorem dX11_init_481 : decode cX11_init 481 = .ok (.lastore, 1) := by decide +kernel
theorem dX11_init_482 : decode cX11_init 482 = .ok (.aload_n 0, 1) := by decide +kernel
theorem dX11_init_483 : decode cX11_init 483 = .ok (.getfield 34, 3) := by decide +kernel
theorem dX11_init_486 : decode cX11_init 486 = .ok (.iconst 4, 1) := by decide +kernel
theorem dX11_init_487 : decode cX11_init 487 = .ok (.bipush 119, 2) := by decide +kernel
theorem dX11_init_489 : decode cX11_init 489 = .ok (.bipush 101, 2) := by decide +kernel
theorem dX11_init_491 : decode cX11_init 491 = .ok (.bipush 105, 2) := by decide +kernel
theorem dX11_init_493 : decode cX11_init 493 = .ok (.bipush 103, 2) := by decide +kernel
theorem dX11_init_495 : decode cX11_init 495 = .ok (.bipush 104, 2) := by decide +kernel
theorem dX11_init_497 : decode cX11_init 497 = .ok (.bipush 116, 2) := by decide +kernel
theorem dX11_init_499 : decode cX11_init 499 = .ok (.invokestatic 164, 3) := by decide +kernel
theorem dX11_init_502 : decode cX11_init 502 = .ok (.lastore, 1) := by decide +kernel
theorem dX11_init_503 : decode cX11_init 503 = .ok (.aload_n 0, 1) := by decide +kernel
theorem dX11_init_504 : decode cX11_init 504 = .ok (.getfield 34, 3) := by decide +kernel
theorem dX11_init_507 : decode cX11_init 507 = .ok (.iconst 5, 1) := by decide +kernel
theorem dX11_init_508 : decode cX11_init 508 = .ok (.bipush 115, 2) := by decide +kernel
theorem dX11_init_510 : decode cX11_init 510 = .ok (.bipush 117, 2) := by decide +kernel
theorem dX11_init_512 : decode cX11_init 512 = .ok (.bipush 109, 2) := by decide +kernel
theorem dX11_init_514 : decode cX11_init 514 = .ok (.iconst 0, 1) := by decide +kernel
theorem dX11_init_515 : decode cX11_init 515 = .ok (.iconst 0, 1) := by decide +kernel
theorem dX11_init_516 : decode cX11_init 516 = .ok (.iconst 0, 1) := by decide +kernel
theorem dX11_init_517 : decode cX11_init 517 = .ok (.invokestatic 164, 3) := by decide +kernel
theorem dX11_init_520 : decode cX11_init 520 = .ok (.lastore, 1) := by decide +kernel
theorem dX11_init_521 : decode cX11_init 521 = .ok (.aload_n 0, 1) := by decide +kernel
theorem dX11_init_522 : decode cX11_init 522 = .ok (.getfield 34, 3) := by decide +kernel
theorem dX11_init_525 : decode cX11_init 525 = .ok (.bipush 6, 2) := by decide +kernel
theorem dX11_init_527 : decode cX11_init 527 = .ok (.bipush 99, 2) := by decide +kernel
theorem dX11_init_529 : decode cX11_init 529 = .ok (.bipush 111, 2) := by decide +kernel
theorem dX11_init_531 : decode cX11_init 531 = .ok (.bipush 117, 2) := by decide +kernel
theorem dX11_init_533 : decode cX11_init 533 = .ok (.bipush 110, 2) := by decide +kernel
theorem dX11_init_535 : decode cX11_init 535 = .ok (.bipush 116, 2) := by decide +kernel
theorem dX11_init_537 : decode cX11_init 537 = .ok (.iconst 0, 1) := by decide +kernel
theorem dX11_init_538 : decode cX11_init 538 = .ok (.invokestatic 164, 3) := by decide +kernel
theorem dX11_init_541 : decode cX11_init 541 = .ok (.lastore, 1) := by decide +kernel
theorem dX11_init_542 : decode cX11_init 542 = .ok (.aload_n 0, 1) := by decide +kernel
theorem dX11_init_543 : decode cX11_init 543 = .ok (.getfield 34, 3) := by decide +kernel
theorem dX11_init_546 : decode cX11_init 546 = .ok (.bipush 7, 2) := by decide +kernel
theorem dX11_init_548 : decode cX11_init 548 = .ok (.bipush 109, 2) := by decide +kernel
theorem dX11_init_550 : decode cX11_init 550 = .ok (.bipush 111, 2) := by decide +kernel
theorem dX11_init_552 : decode cX11_init 552 = .ok (.bipush 115, 2) := by decide +kernel
theorem dX11_init_554 : decode cX11_init 554 = .ok (.bipush 116, 2) := by decide +kernel
theorem dX11_init_556 : decode cX11_init 556 = .ok (.iconst 0, 1) := by decide +kernel
theorem dX11_init_557 : decode cX11_init 557 = .ok (.iconst 0, 1) := by decide +kernel
theorem dX11_init_558 : decode cX11_init 558 = .ok (.invokestatic 164, 3) := by decide +kernel
theorem dX11_init_561 : decode cX11_init 561 = .ok (.lastore, 1) := by decide +kernel
theorem dX11_init_562 : decode cX11_init 562 = .ok (.aload_n 0, 1) := by decide +kernel
theorem dX11_init_563 : decode cX11_init 563 = .ok (.getfield 34, 3) := by decide +kernel
theorem dX11_init_566 : decode cX11_init 566 = .ok (.bipush 8, 2) := by decide +kernel
theorem dX11_init_568 : decode cX11_init 568 = .ok (.bipush 109, 2) := by decide +kernel
theorem dX11_init_570 : decode cX11_init 570 = .ok (.bipush 97, 2) := by decide +kernel
theorem dX11_init_572 : decode cX11_init 572 = .ok (.bipush 120, 2) := by decide +kernel
theorem dX11_init_574 : decode cX11_init 574 = .ok (.iconst 0, 1) := by decide +kernel
theorem dX11_init_575 : decode cX11_init 575 = .ok (.iconst 0, 1) := by decide +kernel
theorem dX11_init_576 : decode cX11_init 576 = .ok (.iconst 0, 1) := by decide +kernel
theorem dX11_init_577 : decode cX11_init 577 = .ok (.invokestatic 164, 3) := by decide +kernel
theorem dX11_init_580 : decode cX11_init 580 = .ok (.lastore, 1) := by decide +kernel
theorem dX11_init_581 : decode cX11_init 581 = .ok (.aload_n 0, 1) := by decide +kernel
theorem dX11_init_582 : decode cX11_init 582 = .ok (.iconst 1, 1) := by decide +kernel
theorem dX11_init_583 : decode cX11_init 583 = .ok (.putfield 168, 3) := by decide +kernel
theorem dX11_init_586 : decode cX11_init 586 = .ok (.iconst 0, 1) := by decide +kernel
theorem dX11_init_587 : decode cX11_init 587 = .ok (.istore_n 1, 1) := by decide +kernel
theorem dX11_init_588 : decode cX11_init 588 = .ok (.iload_n 1, 1) := by decide +kernel
theorem dX11_init_589 : decode cX11_init 589 = .ok (.iconst 3, 1) := by decide +kernel
theorem dX11_init_590 : decode cX11_init 590 = .ok (.if_icmp .ge 16, 3) := by decide +kernel
theorem dX11_init_593 : decode cX11_init 593 = .ok (.aload_n 0, 1) := by decide +kernel
theorem dX11_init_594 : decode cX11_init 594 = .ok (.getfield 116, 3) := by decide +kernel
theorem dX11_init_597 : decode cX11_init 597 = .ok (.iload_n 1, 1) := by decide +kernel
theorem dX11_init_598 : decode cX11_init 598 = .ok (.iconst (-1), 1) := by decide +kernel
theorem dX11_init_599 : decode cX11_init 599 = .ok (.iastore, 1) := by decide +kernel
theorem dX11_init_600 : decode cX11_init 600 = .ok (.iinc 1 1, 3) := by decide +kernel
theorem dX11_init_603 : decode cX11_init 603 = .ok (.goto (-15), 3) := by decide +kernel
theorem dX11_init_606 : decode cX11_init 606 = .ok (.return_, 1) := by decide +kernel
theorem dX11_feed_0 : decode cX11_feed 0 = .ok (.aload_n 0, 1) := by decide +kernel
theorem dX11_feed_1 : decode cX11_feed 1 = .ok (.getfield 171, 3) := by decide +kernel
theorem dX11_feed_4 : decode cX11_feed 4 = .ok (.bipush 20, 2) := by decide +kernel
theorem dX11_feed_6 : decode cX11_feed 6 = .ok (.iadd, 1) := by decide +kernel
theorem dX11_feed_7 : decode cX11_feed 7 = .ok (.sipush 2000, 3) := by decide +kernel
theorem dX11_feed_10 : decode cX11_feed 10 = .ok (.if_icmp .le 5, 3) := by decide +kernel
theorem dX11_feed_13 : decode cX11_feed 13 = .ok (.iconst (-1), 1) := by decide +kernel
theorem dX11_feed_14 : decode cX11_feed 14 = .ok (.ireturn, 1) := by decide +kernel
theorem dX11_feed_15 : decode cX11_feed 15 = .ok (.aload_n 0, 1) := by decide +kernel
theorem dX11_feed_16 : decode cX11_feed 16 = .ok (.iload_n 1, 1) := by decide +kernel
theorem dX11_feed_17 : decode cX11_feed 17 = .ok (.invokevirtual 174, 3) := by decide +kernel
theorem dX11_feed_20 : decode cX11_feed 20 = .ok (.aload_n 0, 1) := by decide +kernel
theorem dX11_feed_21 : decode cX11_feed 21 = .ok (.iload_n 2, 1) := by decide +kernel
theorem dX11_feed_22 : decode cX11_feed 22 = .ok (.invokevirtual 174, 3) := by decide +kernel
theorem dX11_feed_25 : decode cX11_feed 25 = .ok (.aload_n 0, 1) := by decide +kernel
theorem dX11_feed_26 : decode cX11_feed 26 = .ok (.iload_n 3, 1) := by decide +kernel
theorem dX11_feed_27 : decode cX11_feed 27 = .ok (.invokevirtual 174, 3) := by decide +kernel
theorem dX11_feed_30 : decode cX11_feed 30 = .ok (.aload_n 0, 1) := by decide +kernel
theorem dX11_feed_31 : decode cX11_feed 31 = .ok (.iload 4, 2) := by decide +kernel
theorem dX11_feed_33 : decode cX11_feed 33 = .ok (.invokevirtual 174, 3) := by decide +kernel
theorem dX11_feed_36 : decode cX11_feed 36 = .ok (.aload_n 0, 1) := by decide +kernel
theorem dX11_feed_37 : decode cX11_feed 37 = .ok (.iload 5, 2) := by decide +kernel
theorem dX11_feed_39 : decode cX11_feed 39 = .ok (.invokevirtual 174, 3) := by decide +kernel
theorem dX11_feed_42 : decode cX11_feed 42 = .ok (.aload_n 0, 1) := by decide +kernel
theorem dX11_feed_43 : decode cX11_feed 43 = .ok (.getfield 171, 3) := by decide +kernel
theorem dX11_feed_46 : decode cX11_feed 46 = .ok (.ireturn, 1) := by decide +kernel
theorem dX11_put_0 : decode cX11_put 0 = .ok (.bipush 24, 2) := by decide +kernel
theorem dX11_put_2 : decode cX11_put 2 = .ok (.istore_n 2, 1) := by decide +kernel
theorem dX11_put_3 : decode cX11_put 3 = .ok (.iload_n 2, 1) := by decide +kernel
theorem dX11_put_4 : decode cX11_put 4 = .ok (.ifCond .lt 32, 3) := by decide +kernel
theorem dX11_put_7 : decode cX11_put 7 = .ok (.aload_n 0, 1) := by decide +kernel
theorem dX11_put_8 : decode cX11_put 8 = .ok (.getfield 13, 3) := by decide +kernel
theorem dX11_put_11 : decode cX11_put 11 = .ok (.aload_n 0, 1) := by decide +kernel
theorem dX11_put_12 : decode cX11_put 12 = .ok (.getfield 171, 3) := by decide +kernel
theorem dX11_put_15 : decode cX11_put 15 = .ok (.iload_n 1, 1) := by decide +kernel
theorem dX11_put_16 : decode cX11_put 16 = .ok (.iload_n 2, 1) := by decide +kernel
theorem dX11_put_17 : decode cX11_put 17 = .ok (.ishr, 1) := by decide +kernel
theorem dX11_put_18 : decode cX11_put 18 = .ok (.i2b, 1) := by decide +kernel
theorem dX11_put_19 : decode cX11_put 19 = .ok (.bastore, 1) := by decide +kernel
theorem dX11_put_20 : decode cX11_put 20 = .ok (.aload_n 0, 1) := by decide +kernel
theorem dX11_put_21 : decode cX11_put 21 = .ok (.dup, 1) := by decide +kernel
theorem dX11_put_22 : decode cX11_put 22 = .ok (.getfield 171, 3) := by decide +kernel
theorem dX11_put_25 : decode cX11_put 25 = .ok (.iconst 1, 1) := by decide +kernel
theorem dX11_put_26 : decode cX11_put 26 = .ok (.iadd, 1) := by decide +kernel
theorem dX11_put_27 : decode cX11_put 27 = .ok (.putfield 171, 3) := by decide +kernel
theorem dX11_put_30 : decode cX11_put 30 = .ok (.iinc 2 (-8), 3) := by decide +kernel
theorem dX11_put_33 : decode cX11_put 33 = .ok (.goto (-30), 3) := by decide +kernel
theorem dX11_put_36 : decode cX11_put 36 = .ok (.return_, 1) := by decide +kernel
theorem dX11_back_0 : decode cX11_back 0 = .ok (.iload_n 1, 1) := by decide +kernel
theorem dX11_back_1 : decode cX11_back 1 = .ok (.ifCond .lt 11, 3) := by decide +kernel
theorem dX11_back_4 : decode cX11_back 4 = .ok (.iload_n 1, 1) := by decide +kernel
theorem dX11_back_5 : decode cX11_back 5 = .ok (.aload_n 0, 1) := by decide +kernel
theorem dX11_back_6 : decode cX11_back 6 = .ok (.getfield 171, 3) := by decide +kernel
theorem dX11_back_9 : decode cX11_back 9 = .ok (.if_icmp .le 5, 3) := by decide +kernel
theorem dX11_back_12 : decode cX11_back 12 = .ok (.iconst (-1), 1) := by decide +kernel
theorem dX11_back_13 : decode cX11_back 13 = .ok (.ireturn, 1) := by decide +kernel
theorem dX11_back_14 : decode cX11_back 14 = .ok (.aload_n 0, 1) := by decide +kernel
theorem dX11_back_15 : decode cX11_back 15 = .ok (.dup, 1) := by decide +kernel
theorem dX11_back_16 : decode cX11_back 16 = .ok (.getfield 171, 3) := by decide +kernel
theorem dX11_back_19 : decode cX11_back 19 = .ok (.iload_n 1, 1) := by decide +kernel
theorem dX11_back_20 : decode cX11_back 20 = .ok (.isub, 1) := by decide +kernel
theorem dX11_back_21 : decode cX11_back 21 = .ok (.putfield 171, 3) := by decide +kernel
theorem dX11_back_24 : decode cX11_back 24 = .ok (.aload_n 0, 1) := by decide +kernel
theorem dX11_back_25 : decode cX11_back 25 = .ok (.getfield 171, 3) := by decide +kernel
theorem dX11_back_28 : decode cX11_back 28 = .ok (.ireturn, 1) := by decide +kernel
theorem dX11_at_0 : decode cX11_at 0 = .ok (.iload_n 1, 1) := by decide +kernel
theorem dX11_at_1 : decode cX11_at 1 = .ok (.aload_n 0, 1) := by decide +kernel
theorem dX11_at_2 : decode cX11_at 2 = .ok (.getfield 178, 3) := by decide +kernel
theorem dX11_at_5 : decode cX11_at 5 = .ok (.if_icmp .ge 16, 3) := by decide +kernel
theorem dX11_at_8 : decode cX11_at 8 = .ok (.aload_n 0, 1) := by decide +kernel
theorem dX11_at_9 : decode cX11_at 9 = .ok (.getfield 17, 3) := by decide +kernel
theorem dX11_at_12 : decode cX11_at 12 = .ok (.iload_n 1, 1) := by decide +kernel
theorem dX11_at_13 : decode cX11_at 13 = .ok (.baload, 1) := by decide +kernel
theorem dX11_at_14 : decode cX11_at 14 = .ok (.sipush 255, 3) := by decide +kernel
theorem dX11_at_17 : decode cX11_at 17 = .ok (.iand, 1) := by decide +kernel
theorem dX11_at_18 : decode cX11_at 18 = .ok (.goto 4, 3) := by decide +kernel
theorem dX11_at_21 : decode cX11_at 21 = .ok (.iconst 0, 1) := by decide +kernel
theorem dX11_at_22 : decode cX11_at 22 = .ok (.ireturn, 1) := by decide +kernel
theorem dX11_isDigit_0 : decode cX11_isDigit 0 = .ok (.iload_n 0, 1) := by decide +kernel
theorem dX11_isDigit_1 : decode cX11_isDigit 1 = .ok (.bipush 48, 2) := by decide +kernel
theorem dX11_isDigit_3 : decode cX11_isDigit 3 = .ok (.if_icmp .lt 13, 3) := by decide +kernel
theorem dX11_isDigit_6 : decode cX11_isDigit 6 = .ok (.iload_n 0, 1) := by decide +kernel
theorem dX11_isDigit_7 : decode cX11_isDigit 7 = .ok (.bipush 57, 2) := by decide +kernel
theorem dX11_isDigit_9 : decode cX11_isDigit 9 = .ok (.if_icmp .gt 7, 3) := by decide +kernel
theorem dX11_isDigit_12 : decode cX11_isDigit 12 = .ok (.iconst 1, 1) := by decide +kernel
theorem dX11_isDigit_13 : decode cX11_isDigit 13 = .ok (.goto 4, 3) := by decide +kernel
theorem dX11_isDigit_16 : decode cX11_isDigit 16 = .ok (.iconst 0, 1) := by decide +kernel
theorem dX11_isDigit_17 : decode cX11_isDigit 17 = .ok (.ireturn, 1) := by decide +kernel
theorem dX11_isLetter_0 : decode cX11_isLetter 0 = .ok (.iload_n 0, 1) := by decide +kernel
theorem dX11_isLetter_1 : decode cX11_isLetter 1 = .ok (.bipush 97, 2) := by decide +kernel
theorem dX11_isLetter_3 : decode cX11_isLetter 3 = .ok (.if_icmp .lt 13, 3) := by decide +kernel
theorem dX11_isLetter_6 : decode cX11_isLetter 6 = .ok (.iload_n 0, 1) := by decide +kernel
theorem dX11_isLetter_7 : decode cX11_isLetter 7 = .ok (.bipush 122, 2) := by decide +kernel
theorem dX11_isLetter_9 : decode cX11_isLetter 9 = .ok (.if_icmp .gt 7, 3) := by decide +kernel
theorem dX11_isLetter_12 : decode cX11_isLetter 12 = .ok (.iconst 1, 1) := by decide +kernel
theorem dX11_isLetter_13 : decode cX11_isLetter 13 = .ok (.goto 4, 3) := by decide +kernel
theorem dX11_isLetter_16 : decode cX11_isLetter 16 = .ok (.iconst 0, 1) := by decide +kernel
theorem dX11_isLetter_17 : decode cX11_isLetter 17 = .ok (.ireturn, 1) := by decide +kernel
theorem dX11_more_0 : decode cX11_more 0 = .ok (.iload_n 2, 1) := by decide +kernel
theorem dX11_more_1 : decode cX11_more 1 = .ok (.ifCond .ne 7, 3) := by decide +kernel
theorem dX11_more_4 : decode cX11_more 4 = .ok (.lload_n 0, 1) := by decide +kernel
theorem dX11_more_5 : decode cX11_more 5 = .ok (.goto 33, 3) := by decide +kernel
theorem dX11_more_8 : decode cX11_more 8 = .ok (.ldc2_w 181, 3) := by decide +kernel
theorem dX11_more_11 : decode cX11_more 11 = .ok (.lload_n 0, 1) := by decide +kernel
theorem dX11_more_12 : decode cX11_more 12 = .ok (.lmul, 1) := by decide +kernel
theorem dX11_more_13 : decode cX11_more 13 = .ok (.iload_n 2, 1) := by decide +kernel
theorem dX11_more_14 : decode cX11_more 14 = .ok (.invokestatic 183, 3) := by decide +kernel
theorem dX11_more_17 : decode cX11_more 17 = .ok (.ifCond .eq 13, 3) := by decide +kernel
theorem dX11_more_20 : decode cX11_more 20 = .ok (.iload_n 2, 1) := by decide +kernel
theorem dX11_more_21 : decode cX11_more 21 = .ok (.bipush 48, 2) := by decide +kernel
theorem dX11_more_23 : decode cX11_more 23 = .ok (.isub, 1) := by decide +kernel
theorem dX11_more_24 : decode cX11_more 24 = .ok (.bipush 27, 2) := by decide +kernel
theorem dX11_more_26 : decode cX11_more 26 = .ok (.iadd, 1) := by decide +kernel
theorem dX11_more_27 : decode cX11_more 27 = .ok (.goto 9, 3) := by decide +kernel
theorem dX11_more_30 : decode cX11_more 30 = .ok (.iload_n 2, 1) := by decide +kernel
theorem dX11_more_31 : decode cX11_more 31 = .ok (.bipush 97, 2) := by decide +kernel
theorem dX11_more_33 : decode cX11_more 33 = .ok (.isub, 1) := by decide +kernel
theorem dX11_more_34 : decode cX11_more 34 = .ok (.iconst 1, 1) := by decide +kernel
theorem dX11_more_35 : decode cX11_more 35 = .ok (.iadd, 1) := by decide +kernel
theorem dX11_more_36 : decode cX11_more 36 = .ok (.i2l, 1) := by decide +kernel
theorem dX11_more_37 : decode cX11_more 37 = .ok (.ladd, 1) := by decide +kernel
theorem dX11_more_38 : decode cX11_more 38 = .ok (.lreturn, 1) := by decide +kernel
theorem dX11_word_0 : decode cX11_word 0 = .ok (.lconst 0, 1) := by decide +kernel
theorem dX11_word_1 : decode cX11_word 1 = .ok (.iload_n 0, 1) := by decide +kernel
theorem dX11_word_2 : decode cX11_word 2 = .ok (.invokestatic 187, 3) := by decide +kernel
theorem dX11_word_5 : decode cX11_word 5 = .ok (.iload_n 1, 1) := by decide +kernel
theorem dX11_word_6 : decode cX11_word 6 = .ok (.invokestatic 187, 3) := by decide +kernel
theorem dX11_word_9 : decode cX11_word 9 = .ok (.iload_n 2, 1) := by decide +kernel
theorem dX11_word_10 : decode cX11_word 10 = .ok (.invokestatic 187, 3) := by decide +kernel
theorem dX11_word_13 : decode cX11_word 13 = .ok (.iload_n 3, 1) := by decide +kernel
theorem dX11_word_14 : decode cX11_word 14 = .ok (.invokestatic 187, 3) := by decide +kernel
theorem dX11_word_17 : decode cX11_word 17 = .ok (.iload 4, 2) := by decide +kernel
theorem dX11_word_19 : decode cX11_word 19 = .ok (.invokestatic 187, 3) := by decide +kernel
theorem dX11_word_22 : decode cX11_word 22 = .ok (.iload 5, 2) := by decide +kernel
theorem dX11_word_24 : decode cX11_word 24 = .ok (.invokestatic 187, 3) := by decide +kernel
theorem dX11_word_27 : decode cX11_word 27 = .ok (.lreturn, 1) := by decide +kernel
theorem dX11_token_0 : decode cX11_token 0 = .ok (.aload_n 0, 1) := by decide +kernel
theorem dX11_token_1 : decode cX11_token 1 = .ok (.getfield 20, 3) := by decide +kernel
theorem dX11_token_4 : decode cX11_token 4 = .ok (.aload_n 0, 1) := by decide +kernel
theorem dX11_token_5 : decode cX11_token 5 = .ok (.getfield 191, 3) := by decide +kernel
theorem dX11_token_8 : decode cX11_token 8 = .ok (.iload_n 1, 1) := by decide +kernel
theorem dX11_token_9 : decode cX11_token 9 = .ok (.iastore, 1) := by decide +kernel
theorem dX11_token_10 : decode cX11_token 10 = .ok (.aload_n 0, 1) := by decide +kernel
theorem dX11_token_11 : decode cX11_token 11 = .ok (.getfield 24, 3) := by decide +kernel
theorem dX11_token_14 : decode cX11_token 14 = .ok (.aload_n 0, 1) := by decide +kernel
theorem dX11_token_15 : decode cX11_token 15 = .ok (.getfield 191, 3) := by decide +kernel
theorem dX11_token_18 : decode cX11_token 18 = .ok (.iload_n 2, 1) := by decide +kernel
theorem dX11_token_19 : decode cX11_token 19 = .ok (.iastore, 1) := by decide +kernel
theorem dX11_token_20 : decode cX11_token 20 = .ok (.aload_n 0, 1) := by decide +kernel
theorem dX11_token_21 : decode cX11_token 21 = .ok (.getfield 27, 3) := by decide +kernel
theorem dX11_token_24 : decode cX11_token 24 = .ok (.aload_n 0, 1) := by decide +kernel
theorem dX11_token_25 : decode cX11_token 25 = .ok (.getfield 191, 3) := by decide +kernel
theorem dX11_token_28 : decode cX11_token 28 = .ok (.iload_n 3, 1) := by decide +kernel
theorem dX11_token_29 : decode cX11_token 29 = .ok (.iastore, 1) := by decide +kernel
theorem dX11_token_30 : decode cX11_token 30 = .ok (.aload_n 0, 1) := by decide +kernel
theorem dX11_token_31 : decode cX11_token 31 = .ok (.getfield 30, 3) := by decide +kernel
theorem dX11_token_34 : decode cX11_token 34 = .ok (.aload_n 0, 1) := by decide +kernel
theorem dX11_token_35 : decode cX11_token 35 = .ok (.getfield 191, 3) := by decide +kernel
theorem dX11_token_38 : decode cX11_token 38 = .ok (.lload 4, 2) := by decide +kernel
theorem dX11_token_40 : decode cX11_token 40 = .ok (.lastore, 1) := by decide +kernel
theorem dX11_token_41 : decode cX11_token 41 = .ok (.aload_n 0, 1) := by decide +kernel
theorem dX11_token_42 : decode cX11_token 42 = .ok (.dup, 1) := by decide +kernel
theorem dX11_token_43 : decode cX11_token 43 = .ok (.getfield 191, 3) := by decide +kernel
theorem dX11_token_46 : decode cX11_token 46 = .ok (.iconst 1, 1) := by decide +kernel
theorem dX11_token_47 : decode cX11_token 47 = .ok (.iadd, 1) := by decide +kernel
theorem dX11_token_48 : decode cX11_token 48 = .ok (.putfield 191, 3) := by decide +kernel
theorem dX11_token_51 : decode cX11_token 51 = .ok (.return_, 1) := by decide +kernel
theorem dX11_cut_0 : decode cX11_cut 0 = .ok (.aload_n 0, 1) := by decide +kernel
theorem dX11_cut_1 : decode cX11_cut 1 = .ok (.iconst 0, 1) := by decide +kernel
theorem dX11_cut_2 : decode cX11_cut 2 = .ok (.putfield 191, 3) := by decide +kernel
theorem dX11_cut_5 : decode cX11_cut 5 = .ok (.iconst 0, 1) := by decide +kernel
theorem dX11_cut_6 : decode cX11_cut 6 = .ok (.istore_n 1, 1) := by decide +kernel
theorem dX11_cut_7 : decode cX11_cut 7 = .ok (.aload_n 0, 1) := by decide +kernel
theorem dX11_cut_8 : decode cX11_cut 8 = .ok (.getfield 191, 3) := by decide +kernel
theorem dX11_cut_11 : decode cX11_cut 11 = .ok (.sipush 400, 3) := by decide +kernel
theorem dX11_cut_14 : decode cX11_cut 14 = .ok (.if_icmp .gt 376, 3) := by decide +kernel
theorem dX11_cut_17 : decode cX11_cut 17 = .ok (.aload_n 0, 1) := by decide +kernel
theorem dX11_cut_18 : decode cX11_cut 18 = .ok (.iload_n 1, 1) := by decide +kernel
theorem dX11_cut_19 : decode cX11_cut 19 = .ok (.invokevirtual 194, 3) := by decide +kernel
theorem dX11_cut_22 : decode cX11_cut 22 = .ok (.istore_n 2, 1) := by decide +kernel
theorem dX11_cut_23 : decode cX11_cut 23 = .ok (.iload_n 1, 1) := by decide +kernel
theorem dX11_cut_24 : decode cX11_cut 24 = .ok (.aload_n 0, 1) := by decide +kernel
theorem dX11_cut_25 : decode cX11_cut 25 = .ok (.getfield 178, 3) := by decide +kernel
theorem dX11_cut_28 : decode cX11_cut 28 = .ok (.if_icmp .lt 15, 3) := by decide +kernel
theorem dX11_cut_31 : decode cX11_cut 31 = .ok (.aload_n 0, 1) := by decide +kernel
theorem dX11_cut_32 : decode cX11_cut 32 = .ok (.iconst 0, 1) := by decide +kernel
theorem dX11_cut_33 : decode cX11_cut 33 = .ok (.aload_n 0, 1) := by decide +kernel
theorem dX11_cut_34 : decode cX11_cut 34 = .ok (.getfield 178, 3) := by decide +kernel
theorem dX11_cut_37 : decode cX11_cut 37 = .ok (.iconst 0, 1) := by decide +kernel
theorem dX11_cut_38 : decode cX11_cut 38 = .ok (.lconst 0, 1) := by decide +kernel
theorem dX11_cut_39 : decode cX11_cut 39 = .ok (.invokevirtual 197, 3) := by decide +kernel
theorem dX11_cut_42 : decode cX11_cut 42 = .ok (.return_, 1) := by decide +kernel
theorem dX11_cut_43 : decode cX11_cut 43 = .ok (.iload_n 2, 1) := by decide +kernel
theorem dX11_cut_44 : decode cX11_cut 44 = .ok (.bipush 9, 2) := by decide +kernel
theorem dX11_cut_46 : decode cX11_cut 46 = .ok (.if_icmp .eq 21, 3) := by decide +kernel
theorem dX11_cut_49 : decode cX11_cut 49 = .ok (.iload_n 2, 1) := by decide +kernel
theorem dX11_cut_50 : decode cX11_cut 50 = .ok (.bipush 10, 2) := by decide +kernel
theorem dX11_cut_52 : decode cX11_cut 52 = .ok (.if_icmp .eq 15, 3) := by decide +kernel
theorem dX11_cut_55 : decode cX11_cut 55 = .ok (.iload_n 2, 1) := by decide +kernel
theorem dX11_cut_56 : decode cX11_cut 56 = .ok (.bipush 13, 2) := by decide +kernel
theorem dX11_cut_58 : decode cX11_cut 58 = .ok (.if_icmp .eq 9, 3) := by decide +kernel
theorem dX11_cut_61 : decode cX11_cut 61 = .ok (.iload_n 2, 1) := by decide +kernel
theorem dX11_cut_62 : decode cX11_cut 62 = .ok (.bipush 32, 2) := by decide +kernel
theorem dX11_cut_64 : decode cX11_cut 64 = .ok (.if_icmp .ne 9, 3) := by decide +kernel
theorem dX11_cut_67 : decode cX11_cut 67 = .ok (.iinc 1 1, 3) := by decide +kernel
theorem dX11_cut_70 : decode cX11_cut 70 = .ok (.goto 317, 3) := by decide +kernel
theorem dX11_cut_73 : decode cX11_cut 73 = .ok (.iload_n 2, 1) := by decide +kernel
theorem dX11_cut_74 : decode cX11_cut 74 = .ok (.invokestatic 201, 3) := by decide +kernel
theorem dX11_cut_77 : decode cX11_cut 77 = .ok (.ifCond .eq 132, 3) := by decide +kernel
theorem dX11_cut_80 : decode cX11_cut 80 = .ok (.iconst 0, 1) := by decide +kernel
theorem dX11_cut_81 : decode cX11_cut 81 = .ok (.istore_n 3, 1) := by decide +kernel
theorem dX11_cut_82 : decode cX11_cut 82 = .ok (.lconst 0, 1) := by decide +kernel
theorem dX11_cut_83 : decode cX11_cut 83 = .ok (.lstore 4, 2) := by decide +kernel
theorem dX11_cut_85 : decode cX11_cut 85 = .ok (.aload_n 0, 1) := by decide +kernel
theorem dX11_cut_86 : decode cX11_cut 86 = .ok (.iload_n 1, 1) := by decide +kernel
theorem dX11_cut_87 : decode cX11_cut 87 = .ok (.iload_n 3, 1) := by decide +kernel
theorem dX11_cut_88 : decode cX11_cut 88 = .ok (.iadd, 1) := by decide +kernel
theorem dX11_cut_89 : decode cX11_cut 89 = .ok (.invokevirtual 194, 3) := by decide +kernel
theorem dX11_cut_92 : decode cX11_cut 92 = .ok (.invokestatic 201, 3) := by decide +kernel
theorem dX11_cut_95 : decode cX11_cut 95 = .ok (.ifCond .ne 16, 3) := by decide +kernel
theorem dX11_cut_98 : decode cX11_cut 98 = .ok (.aload_n 0, 1) := by decide +kernel
theorem dX11_cut_99 : decode cX11_cut 99 = .ok (.iload_n 1, 1) := by decide +kernel
theorem dX11_cut_100 : decode cX11_cut 100 = .ok (.iload_n 3, 1) := by decide +kernel
theorem dX11_cut_101 : decode cX11_cut 101 = .ok (.iadd, 1) := by decide +kernel
theorem dX11_cut_102 : decode cX11_cut 102 = .ok (.invokevirtual 194, 3) := by decide +kernel
theorem dX11_cut_105 : decode cX11_cut 105 = .ok (.invokestatic 183, 3) := by decide +kernel
theorem dX11_cut_108 : decode cX11_cut 108 = .ok (.ifCond .eq 29, 3) := by decide +kernel
theorem dX11_cut_111 : decode cX11_cut 111 = .ok (.iload_n 3, 1) := by decide +kernel
theorem dX11_cut_112 : decode cX11_cut 112 = .ok (.bipush 8, 2) := by decide +kernel
theorem dX11_cut_114 : decode cX11_cut 114 = .ok (.if_icmp .ge 17, 3) := by decide +kernel
theorem dX11_cut_117 : decode cX11_cut 117 = .ok (.lload 4, 2) := by decide +kernel
theorem dX11_cut_119 : decode cX11_cut 119 = .ok (.aload_n 0, 1) := by decide +kernel
theorem dX11_cut_120 : decode cX11_cut 120 = .ok (.iload_n 1, 1) := by decide +kernel
theorem dX11_cut_121 : decode cX11_cut 121 = .ok (.iload_n 3, 1) := by decide +kernel
theorem dX11_cut_122 : decode cX11_cut 122 = .ok (.iadd, 1) := by decide +kernel
theorem dX11_cut_123 : decode cX11_cut 123 = .ok (.invokevirtual 194, 3) := by decide +kernel
theorem dX11_cut_126 : decode cX11_cut 126 = .ok (.invokestatic 187, 3) := by decide +kernel
theorem dX11_cut_129 : decode cX11_cut 129 = .ok (.lstore 4, 2) := by decide +kernel
theorem dX11_cut_131 : decode cX11_cut 131 = .ok (.iinc 3 1, 3) := by decide +kernel
theorem dX11_cut_134 : decode cX11_cut 134 = .ok (.goto (-49), 3) := by decide +kernel
theorem dX11_cut_137 : decode cX11_cut 137 = .ok (.iload_n 3, 1) := by decide +kernel
theorem dX11_cut_138 : decode cX11_cut 138 = .ok (.bipush 8, 2) := by decide +kernel
theorem dX11_cut_140 : decode cX11_cut 140 = .ok (.if_icmp .le 7, 3) := by decide +kernel
theorem dX11_cut_143 : decode cX11_cut 143 = .ok (.iconst 3, 1) := by decide +kernel
theorem dX11_cut_144 : decode cX11_cut 144 = .ok (.goto 4, 3) := by decide +kernel
theorem dX11_cut_147 : decode cX11_cut 147 = .ok (.iconst 1, 1) := by decide +kernel
theorem dX11_cut_148 : decode cX11_cut 148 = .ok (.istore 6, 2) := by decide +kernel
theorem dX11_cut_150 : decode cX11_cut 150 = .ok (.iload_n 3, 1) := by decide +kernel
theorem dX11_cut_151 : decode cX11_cut 151 = .ok (.bipush 6, 2) := by decide +kernel
theorem dX11_cut_153 : decode cX11_cut 153 = .ok (.if_icmp .gt 39, 3) := by decide +kernel
theorem dX11_cut_156 : decode cX11_cut 156 = .ok (.iconst 0, 1) := by decide +kernel
theorem dX11_cut_157 : decode cX11_cut 157 = .ok (.istore 7, 2) := by decide +kernel
theorem dX11_cut_159 : decode cX11_cut 159 = .ok (.iload 7, 2) := by decide +kernel
theorem dX11_cut_161 : decode cX11_cut 161 = .ok (.bipush 9, 2) := by decide +kernel
theorem dX11_cut_163 : decode cX11_cut 163 = .ok (.if_icmp .ge 29, 3) := by decide +kernel
theorem dX11_cut_166 : decode cX11_cut 166 = .ok (.aload_n 0, 1) := by decide +kernel
theorem dX11_cut_167 : decode cX11_cut 167 = .ok (.getfield 34, 3) := by decide +kernel
theorem dX11_cut_170 : decode cX11_cut 170 = .ok (.iload 7, 2) := by decide +kernel
theorem dX11_cut_172 : decode cX11_cut 172 = .ok (.laload, 1) := by decide +kernel
theorem dX11_cut_173 : decode cX11_cut 173 = .ok (.lload 4, 2) := by decide +kernel
theorem dX11_cut_175 : decode cX11_cut 175 = .ok (.lcmp, 1) := by decide +kernel
theorem dX11_cut_176 : decode cX11_cut 176 = .ok (.ifCond .ne 10, 3) := by decide +kernel
theorem dX11_cut_179 : decode cX11_cut 179 = .ok (.bipush 20, 2) := by decide +kernel
theorem dX11_cut_181 : decode cX11_cut 181 = .ok (.iload 7, 2) := by decide +kernel
theorem dX11_cut_183 : decode cX11_cut 183 = .ok (.iadd, 1) := by decide +kernel
theorem dX11_cut_184 : decode cX11_cut 184 = .ok (.istore 6, 2) := by decide +kernel
theorem dX11_cut_186 : decode cX11_cut 186 = .ok (.iinc 7 1, 3) := by decide +kernel
theorem dX11_cut_189 : decode cX11_cut 189 = .ok (.goto (-30), 3) := by decide +kernel
theorem dX11_cut_192 : decode cX11_cut 192 = .ok (.aload_n 0, 1) := by decide +kernel
theorem dX11_cut_193 : decode cX11_cut 193 = .ok (.iload 6, 2) := by decide +kernel
theorem dX11_cut_195 : decode cX11_cut 195 = .ok (.iload_n 1, 1) := by decide +kernel
theorem dX11_cut_196 : decode cX11_cut 196 = .ok (.iconst 0, 1) := by decide +kernel
theorem dX11_cut_197 : decode cX11_cut 197 = .ok (.lload 4, 2) := by decide +kernel
theorem dX11_cut_199 : decode cX11_cut 199 = .ok (.invokevirtual 197, 3) := by decide +kernel
theorem dX11_cut_202 : decode cX11_cut 202 = .ok (.iload_n 1, 1) := by decide +kernel
theorem dX11_cut_203 : decode cX11_cut 203 = .ok (.iload_n 3, 1) := by decide +kernel
theorem dX11_cut_204 : decode cX11_cut 204 = .ok (.iadd, 1) := by decide +kernel
theorem dX11_cut_205 : decode cX11_cut 205 = .ok (.istore_n 1, 1) := by decide +kernel
theorem dX11_cut_206 : decode cX11_cut 206 = .ok (.goto 181, 3) := by decide +kernel
theorem dX11_cut_209 : decode cX11_cut 209 = .ok (.iload_n 2, 1) := by decide +kernel
theorem dX11_cut_210 : decode cX11_cut 210 = .ok (.invokestatic 183, 3) := by decide +kernel
theorem dX11_cut_213 : decode cX11_cut 213 = .ok (.ifCond .eq 75, 3) := by decide +kernel
theorem dX11_cut_216 : decode cX11_cut 216 = .ok (.iconst 0, 1) := by decide +kernel
theorem dX11_cut_217 : decode cX11_cut 217 = .ok (.istore_n 3, 1) := by decide +kernel
theorem dX11_cut_218 : decode cX11_cut 218 = .ok (.iconst 0, 1) := by decide +kernel
theorem dX11_cut_219 : decode cX11_cut 219 = .ok (.istore 4, 2) := by decide +kernel
theorem dX11_cut_221 : decode cX11_cut 221 = .ok (.aload_n 0, 1) := by decide +kernel
theorem dX11_cut_222 : decode cX11_cut 222 = .ok (.iload_n 1, 1) := by decide +kernel
theorem dX11_cut_223 : decode cX11_cut 223 = .ok (.iload_n 3, 1) := by decide +kernel
theorem dX11_cut_224 : decode cX11_cut 224 = .ok (.iadd, 1) := by decide +kernel
theorem dX11_cut_225 : decode cX11_cut 225 = .ok (.invokevirtual 194, 3) := by decide +kernel
theorem dX11_cut_228 : decode cX11_cut 228 = .ok (.invokestatic 183, 3) := by decide +kernel
theorem dX11_cut_231 : decode cX11_cut 231 = .ok (.ifCond .eq 32, 3) := by decide +kernel
theorem dX11_cut_234 : decode cX11_cut 234 = .ok (.iload_n 3, 1) := by decide +kernel
theorem dX11_cut_235 : decode cX11_cut 235 = .ok (.iconst 4, 1) := by decide +kernel
theorem dX11_cut_236 : decode cX11_cut 236 = .ok (.if_icmp .ge 21, 3) := by decide +kernel
theorem dX11_cut_239 : decode cX11_cut 239 = .ok (.bipush 10, 2) := by decide +kernel
theorem dX11_cut_241 : decode cX11_cut 241 = .ok (.iload 4, 2) := by decide +kernel
theorem dX11_cut_243 : decode cX11_cut 243 = .ok (.imul, 1) := by decide +kernel
theorem dX11_cut_244 : decode cX11_cut 244 = .ok (.aload_n 0, 1) := by decide +kernel
theorem dX11_cut_245 : decode cX11_cut 245 = .ok (.iload_n 1, 1) := by decide +kernel
theorem dX11_cut_246 : decode cX11_cut 246 = .ok (.iload_n 3, 1) := by decide +kernel
theorem dX11_cut_247 : decode cX11_cut 247 = .ok (.iadd, 1) := by decide +kernel
theorem dX11_cut_248 : decode cX11_cut 248 = .ok (.invokevirtual 194, 3) := by decide +kernel
theorem dX11_cut_251 : decode cX11_cut 251 = .ok (.iadd, 1) := by decide +kernel
theorem dX11_cut_252 : decode cX11_cut 252 = .ok (.bipush 48, 2) := by decide +kernel
theorem dX11_cut_254 : decode cX11_cut 254 = .ok (.isub, 1) := by decide +kernel
theorem dX11_cut_255 : decode cX11_cut 255 = .ok (.istore 4, 2) := by decide +kernel
theorem dX11_cut_257 : decode cX11_cut 257 = .ok (.iinc 3 1, 3) := by decide +kernel
theorem dX11_cut_260 : decode cX11_cut 260 = .ok (.goto (-39), 3) := by decide +kernel
theorem dX11_cut_263 : decode cX11_cut 263 = .ok (.aload_n 0, 1) := by decide +kernel
theorem dX11_cut_264 : decode cX11_cut 264 = .ok (.iload_n 3, 1) := by decide +kernel
theorem dX11_cut_265 : decode cX11_cut 265 = .ok (.iconst 4, 1) := by decide +kernel
theorem dX11_cut_266 : decode cX11_cut 266 = .ok (.if_icmp .le 7, 3) := by decide +kernel
theorem dX11_cut_269 : decode cX11_cut 269 = .ok (.iconst 3, 1) := by decide +kernel
theorem dX11_cut_270 : decode cX11_cut 270 = .ok (.goto 4, 3) := by decide +kernel
theorem dX11_cut_273 : decode cX11_cut 273 = .ok (.iconst 2, 1) := by decide +kernel
theorem dX11_cut_274 : decode cX11_cut 274 = .ok (.iload_n 1, 1) := by decide +kernel
theorem dX11_cut_275 : decode cX11_cut 275 = .ok (.iload 4, 2) := by decide +kernel
theorem dX11_cut_277 : decode cX11_cut 277 = .ok (.lconst 0, 1) := by decide +kernel
theorem dX11_cut_278 : decode cX11_cut 278 = .ok (.invokevirtual 197, 3) := by decide +kernel
theorem dX11_cut_281 : decode cX11_cut 281 = .ok (.iload_n 1, 1) := by decide +kernel
theorem dX11_cut_282 : decode cX11_cut 282 = .ok (.iload_n 3, 1) := by decide +kernel
theorem dX11_cut_283 : decode cX11_cut 283 = .ok (.iadd, 1) := by decide +kernel
theorem dX11_cut_284 : decode cX11_cut 284 = .ok (.istore_n 1, 1) := by decide +kernel
theorem dX11_cut_285 : decode cX11_cut 285 = .ok (.goto 102, 3) := by decide +kernel
theorem dX11_cut_288 : decode cX11_cut 288 = .ok (.iload_n 2, 1) := by decide +kernel
theorem dX11_cut_289 : decode cX11_cut 289 = .ok (.bipush 61, 2) := by decide +kernel
theorem dX11_cut_291 : decode cX11_cut 291 = .ok (.if_icmp .ne 7, 3) := by decide +kernel
theorem dX11_cut_294 : decode cX11_cut 294 = .ok (.iconst 4, 1) := by decide +kernel
theorem dX11_cut_295 : decode cX11_cut 295 = .ok (.goto 80, 3) := by decide +kernel
theorem dX11_cut_298 : decode cX11_cut 298 = .ok (.iload_n 2, 1) := by decide +kernel
theorem dX11_cut_299 : decode cX11_cut 299 = .ok (.bipush 44, 2) := by decide +kernel
theorem dX11_cut_301 : decode cX11_cut 301 = .ok (.if_icmp .ne 7, 3) := by decide +kernel
theorem dX11_cut_304 : decode cX11_cut 304 = .ok (.iconst 5, 1) := by decide +kernel
theorem dX11_cut_305 : decode cX11_cut 305 = .ok (.goto 70, 3) := by decide +kernel
theorem dX11_cut_308 : decode cX11_cut 308 = .ok (.iload_n 2, 1) := by decide +kernel
theorem dX11_cut_309 : decode cX11_cut 309 = .ok (.bipush 59, 2) := by decide +kernel
theorem dX11_cut_311 : decode cX11_cut 311 = .ok (.if_icmp .ne 8, 3) := by decide +kernel
theorem dX11_cut_314 : decode cX11_cut 314 = .ok (.bipush 6, 2) := by decide +kernel
theorem dX11_cut_316 : decode cX11_cut 316 = .ok (.goto 59, 3) := by decide +kernel
theorem dX11_cut_319 : decode cX11_cut 319 = .ok (.iload_n 2, 1) := by decide +kernel
theorem dX11_cut_320 : decode cX11_cut 320 = .ok (.bipush 40, 2) := by decide +kernel
theorem dX11_cut_322 : decode cX11_cut 322 = .ok (.if_icmp .ne 8, 3) := by decide +kernel
theorem dX11_cut_325 : decode cX11_cut 325 = .ok (.bipush 7, 2) := by decide +kernel
theorem dX11_cut_327 : decode cX11_cut 327 = .ok (.goto 48, 3) := by decide +kernel
theorem dX11_cut_330 : decode cX11_cut 330 = .ok (.iload_n 2, 1) := by decide +kernel
theorem dX11_cut_331 : decode cX11_cut 331 = .ok (.bipush 41, 2) := by decide +kernel
theorem dX11_cut_333 : decode cX11_cut 333 = .ok (.if_icmp .ne 8, 3) := by decide +kernel
theorem dX11_cut_336 : decode cX11_cut 336 = .ok (.bipush 8, 2) := by decide +kernel
theorem dX11_cut_338 : decode cX11_cut 338 = .ok (.goto 37, 3) := by decide +kernel
theorem dX11_cut_341 : decode cX11_cut 341 = .ok (.iload_n 2, 1) := by decide +kernel
theorem dX11_cut_342 : decode cX11_cut 342 = .ok (.bipush 43, 2) := by decide +kernel
theorem dX11_cut_344 : decode cX11_cut 344 = .ok (.if_icmp .ne 8, 3) := by decide +kernel
theorem dX11_cut_347 : decode cX11_cut 347 = .ok (.bipush 9, 2) := by decide +kernel
theorem dX11_cut_349 : decode cX11_cut 349 = .ok (.goto 26, 3) := by decide +kernel
theorem dX11_cut_352 : decode cX11_cut 352 = .ok (.iload_n 2, 1) := by decide +kernel
theorem dX11_cut_353 : decode cX11_cut 353 = .ok (.bipush 45, 2) := by decide +kernel
theorem dX11_cut_355 : decode cX11_cut 355 = .ok (.if_icmp .ne 8, 3) := by decide +kernel
theorem dX11_cut_358 : decode cX11_cut 358 = .ok (.bipush 10, 2) := by decide +kernel
theorem dX11_cut_360 : decode cX11_cut 360 = .ok (.goto 15, 3) := by decide +kernel
theorem dX11_cut_363 : decode cX11_cut 363 = .ok (.iload_n 2, 1) := by decide +kernel
theorem dX11_cut_364 : decode cX11_cut 364 = .ok (.bipush 42, 2) := by decide +kernel
theorem dX11_cut_366 : decode cX11_cut 366 = .ok (.if_icmp .ne 8, 3) := by decide +kernel
theorem dX11_cut_369 : decode cX11_cut 369 = .ok (.bipush 11, 2) := by decide +kernel
theorem dX11_cut_371 : decode cX11_cut 371 = .ok (.goto 4, 3) := by decide +kernel
theorem dX11_cut_374 : decode cX11_cut 374 = .ok (.iconst 3, 1) := by decide +kernel
theorem dX11_cut_375 : decode cX11_cut 375 = .ok (.istore_n 3, 1) := by decide +kernel
theorem dX11_cut_376 : decode cX11_cut 376 = .ok (.aload_n 0, 1) := by decide +kernel
theorem dX11_cut_377 : decode cX11_cut 377 = .ok (.iload_n 3, 1) := by decide +kernel
theorem dX11_cut_378 : decode cX11_cut 378 = .ok (.iload_n 1, 1) := by decide +kernel
theorem dX11_cut_379 : decode cX11_cut 379 = .ok (.iconst 0, 1) := by decide +kernel
theorem dX11_cut_380 : decode cX11_cut 380 = .ok (.lconst 0, 1) := by decide +kernel
theorem dX11_cut_381 : decode cX11_cut 381 = .ok (.invokevirtual 197, 3) := by decide +kernel
theorem dX11_cut_384 : decode cX11_cut 384 = .ok (.iinc 1 1, 3) := by decide +kernel
theorem dX11_cut_387 : decode cX11_cut 387 = .ok (.goto (-380), 3) := by decide +kernel
theorem dX11_cut_390 : decode cX11_cut 390 = .ok (.return_, 1) := by decide +kernel
theorem dX11_is_0 : decode cX11_is 0 = .ok (.aload_n 0, 1) := by decide +kernel
theorem dX11_is_1 : decode cX11_is 1 = .ok (.getfield 204, 3) := by decide +kernel
theorem dX11_is_4 : decode cX11_is 4 = .ok (.ifCond .ne 20, 3) := by decide +kernel
theorem dX11_is_7 : decode cX11_is 7 = .ok (.aload_n 0, 1) := by decide +kernel
theorem dX11_is_8 : decode cX11_is 8 = .ok (.getfield 20, 3) := by decide +kernel
theorem dX11_is_11 : decode cX11_is 11 = .ok (.aload_n 0, 1) := by decide +kernel
theorem dX11_is_12 : decode cX11_is 12 = .ok (.getfield 207, 3) := by decide +kernel
theorem dX11_is_15 : decode cX11_is 15 = .ok (.iaload, 1) := by decide +kernel
theorem dX11_is_16 : decode cX11_is 16 = .ok (.iload_n 1, 1) := by decide +kernel
theorem dX11_is_17 : decode cX11_is 17 = .ok (.if_icmp .ne 7, 3) := by decide +kernel
theorem dX11_is_20 : decode cX11_is 20 = .ok (.iconst 1, 1) := by decide +kernel
theorem dX11_is_21 : decode cX11_is 21 = .ok (.goto 4, 3) := by decide +kernel
theorem dX11_is_24 : decode cX11_is 24 = .ok (.iconst 0, 1) := by decide +kernel
theorem dX11_is_25 : decode cX11_is 25 = .ok (.ireturn, 1) := by decide +kernel
theorem dX11_fail_0 : decode cX11_fail 0 = .ok (.aload_n 0, 1) := by decide +kernel
theorem dX11_fail_1 : decode cX11_fail 1 = .ok (.getfield 204, 3) := by decide +kernel
theorem dX11_fail_4 : decode cX11_fail 4 = .ok (.ifCond .le 4, 3) := by decide +kernel
theorem dX11_fail_7 : decode cX11_fail 7 = .ok (.return_, 1) := by decide +kernel
theorem dX11_fail_8 : decode cX11_fail 8 = .ok (.aload_n 0, 1) := by decide +kernel
theorem dX11_fail_9 : decode cX11_fail 9 = .ok (.iload_n 1, 1) := by decide +kernel
theorem dX11_fail_10 : decode cX11_fail 10 = .ok (.putfield 204, 3) := by decide +kernel
theorem dX11_fail_13 : decode cX11_fail 13 = .ok (.aload_n 0, 1) := by decide +kernel
theorem dX11_fail_14 : decode cX11_fail 14 = .ok (.aload_n 0, 1) := by decide +kernel
theorem dX11_fail_15 : decode cX11_fail 15 = .ok (.getfield 24, 3) := by decide +kernel
theorem dX11_fail_18 : decode cX11_fail 18 = .ok (.aload_n 0, 1) := by decide +kernel
theorem dX11_fail_19 : decode cX11_fail 19 = .ok (.getfield 207, 3) := by decide +kernel
theorem dX11_fail_22 : decode cX11_fail 22 = .ok (.iaload, 1) := by decide +kernel
theorem dX11_fail_23 : decode cX11_fail 23 = .ok (.putfield 210, 3) := by decide +kernel
theorem dX11_fail_26 : decode cX11_fail 26 = .ok (.return_, 1) := by decide +kernel
theorem dX11_wrong_0 : decode cX11_wrong 0 = .ok (.aload_n 0, 1) := by decide +kernel
theorem dX11_wrong_1 : decode cX11_wrong 1 = .ok (.getfield 24, 3) := by decide +kernel
theorem dX11_wrong_4 : decode cX11_wrong 4 = .ok (.iload_n 2, 1) := by decide +kernel
theorem dX11_wrong_5 : decode cX11_wrong 5 = .ok (.iaload, 1) := by decide +kernel
theorem dX11_wrong_6 : decode cX11_wrong 6 = .ok (.istore_n 3, 1) := by decide +kernel
theorem dX11_wrong_7 : decode cX11_wrong 7 = .ok (.aload_n 0, 1) := by decide +kernel
theorem dX11_wrong_8 : decode cX11_wrong 8 = .ok (.getfield 204, 3) := by decide +kernel
theorem dX11_wrong_11 : decode cX11_wrong 11 = .ok (.ifCond .gt 34, 3) := by decide +kernel
theorem dX11_wrong_14 : decode cX11_wrong 14 = .ok (.aload_n 0, 1) := by decide +kernel
theorem dX11_wrong_15 : decode cX11_wrong 15 = .ok (.getfield 213, 3) := by decide +kernel
theorem dX11_wrong_18 : decode cX11_wrong 18 = .ok (.ifCond .eq 28, 3) := by decide +kernel
theorem dX11_wrong_21 : decode cX11_wrong 21 = .ok (.iload_n 3, 1) := by decide +kernel
theorem dX11_wrong_22 : decode cX11_wrong 22 = .ok (.aload_n 0, 1) := by decide +kernel
theorem dX11_wrong_23 : decode cX11_wrong 23 = .ok (.getfield 216, 3) := by decide +kernel
theorem dX11_wrong_26 : decode cX11_wrong 26 = .ok (.if_icmp .gt 19, 3) := by decide +kernel
theorem dX11_wrong_29 : decode cX11_wrong 29 = .ok (.iload_n 3, 1) := by decide +kernel
theorem dX11_wrong_30 : decode cX11_wrong 30 = .ok (.aload_n 0, 1) := by decide +kernel
theorem dX11_wrong_31 : decode cX11_wrong 31 = .ok (.getfield 216, 3) := by decide +kernel
theorem dX11_wrong_34 : decode cX11_wrong 34 = .ok (.if_icmp .ne 12, 3) := by decide +kernel
theorem dX11_wrong_37 : decode cX11_wrong 37 = .ok (.iload_n 1, 1) := by decide +kernel
theorem dX11_wrong_38 : decode cX11_wrong 38 = .ok (.aload_n 0, 1) := by decide +kernel
theorem dX11_wrong_39 : decode cX11_wrong 39 = .ok (.getfield 213, 3) := by decide +kernel
theorem dX11_wrong_42 : decode cX11_wrong 42 = .ok (.if_icmp .lt 4, 3) := by decide +kernel
theorem dX11_wrong_45 : decode cX11_wrong 45 = .ok (.return_, 1) := by decide +kernel
theorem dX11_wrong_46 : decode cX11_wrong 46 = .ok (.aload_n 0, 1) := by decide +kernel
theorem dX11_wrong_47 : decode cX11_wrong 47 = .ok (.iload_n 1, 1) := by decide +kernel
theorem dX11_wrong_48 : decode cX11_wrong 48 = .ok (.putfield 213, 3) := by decide +kernel
theorem dX11_wrong_51 : decode cX11_wrong 51 = .ok (.aload_n 0, 1) := by decide +kernel
theorem dX11_wrong_52 : decode cX11_wrong 52 = .ok (.iload_n 3, 1) := by decide +kernel
theorem dX11_wrong_53 : decode cX11_wrong 53 = .ok (.putfield 216, 3) := by decide +kernel
theorem dX11_wrong_56 : decode cX11_wrong 56 = .ok (.return_, 1) := by decide +kernel
theorem dX11_next_0 : decode cX11_next 0 = .ok (.aload_n 0, 1) := by decide +kernel
theorem dX11_next_1 : decode cX11_next 1 = .ok (.getfield 207, 3) := by decide +kernel
theorem dX11_next_4 : decode cX11_next 4 = .ok (.sipush 400, 3) := by decide +kernel
theorem dX11_next_7 : decode cX11_next 7 = .ok (.if_icmp .ne 11, 3) := by decide +kernel
theorem dX11_next_10 : decode cX11_next 10 = .ok (.aload_n 0, 1) := by decide +kernel
theorem dX11_next_11 : decode cX11_next 11 = .ok (.iconst 2, 1) := by decide +kernel
theorem dX11_next_12 : decode cX11_next 12 = .ok (.invokevirtual 219, 3) := by decide +kernel
theorem dX11_next_15 : decode cX11_next 15 = .ok (.goto 13, 3) := by decide +kernel
theorem dX11_next_18 : decode cX11_next 18 = .ok (.aload_n 0, 1) := by decide +kernel
theorem dX11_next_19 : decode cX11_next 19 = .ok (.dup, 1) := by decide +kernel
theorem dX11_next_20 : decode cX11_next 20 = .ok (.getfield 207, 3) := by decide +kernel
theorem dX11_next_23 : decode cX11_next 23 = .ok (.iconst 1, 1) := by decide +kernel
theorem dX11_next_24 : decode cX11_next 24 = .ok (.iadd, 1) := by decide +kernel
theorem dX11_next_25 : decode cX11_next 25 = .ok (.putfield 207, 3) := by decide +kernel
theorem dX11_next_28 : decode cX11_next 28 = .ok (.return_, 1) := by decide +kernel
theorem dX11_must_0 : decode cX11_must 0 = .ok (.aload_n 0, 1) := by decide +kernel
theorem dX11_must_1 : decode cX11_must 1 = .ok (.iload_n 1, 1) := by decide +kernel
theorem dX11_must_2 : decode cX11_must 2 = .ok (.invokevirtual 222, 3) := by decide +kernel
theorem dX11_must_5 : decode cX11_must 5 = .ok (.ifCond .eq 10, 3) := by decide +kernel
theorem dX11_must_8 : decode cX11_must 8 = .ok (.aload_n 0, 1) := by decide +kernel
theorem dX11_must_9 : decode cX11_must 9 = .ok (.invokevirtual 225, 3) := by decide +kernel
theorem dX11_must_12 : decode cX11_must 12 = .ok (.goto 8, 3) := by decide +kernel
theorem dX11_must_15 : decode cX11_must 15 = .ok (.aload_n 0, 1) := by decide +kernel
theorem dX11_must_16 : decode cX11_must 16 = .ok (.iconst 1, 1) := by decide +kernel
theorem dX11_must_17 : decode cX11_must 17 = .ok (.invokevirtual 219, 3) := by decide +kernel
theorem dX11_must_20 : decode cX11_must 20 = .ok (.return_, 1) := by decide +kernel
theorem dX11_read_0 : decode cX11_read 0 = .ok (.aload_n 0, 1) := by decide +kernel
theorem dX11_read_1 : decode cX11_read 1 = .ok (.aload_n 0, 1) := by decide +kernel
theorem dX11_read_2 : decode cX11_read 2 = .ok (.getfield 171, 3) := by decide +kernel
theorem dX11_read_5 : decode cX11_read 5 = .ok (.putfield 178, 3) := by decide +kernel
theorem dX11_read_8 : decode cX11_read 8 = .ok (.iconst 0, 1) := by decide +kernel
theorem dX11_read_9 : decode cX11_read 9 = .ok (.istore_n 1, 1) := by decide +kernel
theorem dX11_read_10 : decode cX11_read 10 = .ok (.iload_n 1, 1) := by decide +kernel
theorem dX11_read_11 : decode cX11_read 11 = .ok (.aload_n 0, 1) := by decide +kernel
theorem dX11_read_12 : decode cX11_read 12 = .ok (.getfield 178, 3) := by decide +kernel
theorem dX11_read_15 : decode cX11_read 15 = .ok (.if_icmp .ge 21, 3) := by decide +kernel
theorem dX11_read_18 : decode cX11_read 18 = .ok (.aload_n 0, 1) := by decide +kernel
theorem dX11_read_19 : decode cX11_read 19 = .ok (.getfield 17, 3) := by decide +kernel
theorem dX11_read_22 : decode cX11_read 22 = .ok (.iload_n 1, 1) := by decide +kernel
theorem dX11_read_23 : decode cX11_read 23 = .ok (.aload_n 0, 1) := by decide +kernel
theorem dX11_read_24 : decode cX11_read 24 = .ok (.getfield 13, 3) := by decide +kernel
theorem dX11_read_27 : decode cX11_read 27 = .ok (.iload_n 1, 1) := by decide +kernel
theorem dX11_read_28 : decode cX11_read 28 = .ok (.baload, 1) := by decide +kernel
theorem dX11_read_29 : decode cX11_read 29 = .ok (.bastore, 1) := by decide +kernel
theorem dX11_read_30 : decode cX11_read 30 = .ok (.iinc 1 1, 3) := by decide +kernel
theorem dX11_read_33 : decode cX11_read 33 = .ok (.goto (-23), 3) := by decide +kernel
theorem dX11_read_36 : decode cX11_read 36 = .ok (.aload_n 0, 1) := by decide +kernel
theorem dX11_read_37 : decode cX11_read 37 = .ok (.iconst 0, 1) := by decide +kernel
theorem dX11_read_38 : decode cX11_read 38 = .ok (.putfield 171, 3) := by decide +kernel
theorem dX11_read_41 : decode cX11_read 41 = .ok (.aload_n 0, 1) := by decide +kernel
theorem dX11_read_42 : decode cX11_read 42 = .ok (.invokevirtual 228, 3) := by decide +kernel
theorem dX11_read_45 : decode cX11_read 45 = .ok (.aload_n 0, 1) := by decide +kernel
theorem dX11_read_46 : decode cX11_read 46 = .ok (.iconst 0, 1) := by decide +kernel
theorem dX11_read_47 : decode cX11_read 47 = .ok (.putfield 207, 3) := by decide +kernel
theorem dX11_read_50 : decode cX11_read 50 = .ok (.aload_n 0, 1) := by decide +kernel
theorem dX11_read_51 : decode cX11_read 51 = .ok (.iconst 0, 1) := by decide +kernel
theorem dX11_read_52 : decode cX11_read 52 = .ok (.putfield 231, 3) := by decide +kernel
theorem dX11_read_55 : decode cX11_read 55 = .ok (.aload_n 0, 1) := by decide +kernel
theorem dX11_read_56 : decode cX11_read 56 = .ok (.iconst 0, 1) := by decide +kernel
theorem dX11_read_57 : decode cX11_read 57 = .ok (.putfield 204, 3) := by decide +kernel
theorem dX11_read_60 : decode cX11_read 60 = .ok (.aload_n 0, 1) := by decide +kernel
theorem dX11_read_61 : decode cX11_read 61 = .ok (.iconst 0, 1) := by decide +kernel
theorem dX11_read_62 : decode cX11_read 62 = .ok (.putfield 213, 3) := by decide +kernel
theorem dX11_read_65 : decode cX11_read 65 = .ok (.aload_n 0, 1) := by decide +kernel
theorem dX11_read_66 : decode cX11_read 66 = .ok (.iconst 1, 1) := by decide +kernel
theorem dX11_read_67 : decode cX11_read 67 = .ok (.aload_n 0, 1) := by decide +kernel
theorem dX11_read_68 : decode cX11_read 68 = .ok (.getfield 234, 3) := by decide +kernel
theorem dX11_read_71 : decode cX11_read 71 = .ok (.isub, 1) := by decide +kernel
theorem dX11_read_72 : decode cX11_read 72 = .ok (.putfield 237, 3) := by decide +kernel
theorem dX11_read_75 : decode cX11_read 75 = .ok (.aload_n 0, 1) := by decide +kernel
theorem dX11_read_76 : decode cX11_read 76 = .ok (.getfield 40, 3) := by decide +kernel
theorem dX11_read_79 : decode cX11_read 79 = .ok (.aload_n 0, 1) := by decide +kernel
theorem dX11_read_80 : decode cX11_read 80 = .ok (.getfield 237, 3) := by decide +kernel
theorem dX11_read_83 : decode cX11_read 83 = .ok (.iconst 0, 1) := by decide +kernel
theorem dX11_read_84 : decode cX11_read 84 = .ok (.iastore, 1) := by decide +kernel
theorem dX11_read_85 : decode cX11_read 85 = .ok (.aload_n 0, 1) := by decide +kernel
theorem dX11_read_86 : decode cX11_read 86 = .ok (.sipush 500, 3) := by decide +kernel
theorem dX11_read_89 : decode cX11_read 89 = .ok (.aload_n 0, 1) := by decide +kernel
theorem dX11_read_90 : decode cX11_read 90 = .ok (.getfield 237, 3) := by decide +kernel
theorem dX11_read_93 : decode cX11_read 93 = .ok (.imul, 1) := by decide +kernel
theorem dX11_read_94 : decode cX11_read 94 = .ok (.putfield 240, 3) := by decide +kernel
theorem dX11_read_97 : decode cX11_read 97 = .ok (.aload_n 0, 1) := by decide +kernel
theorem dX11_read_98 : decode cX11_read 98 = .ok (.getfield 204, 3) := by decide +kernel
theorem dX11_read_101 : decode cX11_read 101 = .ok (.ifCond .ne 18, 3) := by decide +kernel
theorem dX11_read_104 : decode cX11_read 104 = .ok (.aload_n 0, 1) := by decide +kernel
theorem dX11_read_105 : decode cX11_read 105 = .ok (.iconst 0, 1) := by decide +kernel
theorem dX11_read_106 : decode cX11_read 106 = .ok (.invokevirtual 222, 3) := by decide +kernel
theorem dX11_read_109 : decode cX11_read 109 = .ok (.ifCond .ne 10, 3) := by decide +kernel
theorem dX11_read_112 : decode cX11_read 112 = .ok (.aload_n 0, 1) := by decide +kernel
theorem dX11_read_113 : decode cX11_read 113 = .ok (.invokevirtual 243, 3) := by decide +kernel
theorem dX11_read_116 : decode cX11_read 116 = .ok (.goto (-19), 3) := by decide +kernel
theorem dX11_read_119 : decode cX11_read 119 = .ok (.aload_n 0, 1) := by decide +kernel
theorem dX11_read_120 : decode cX11_read 120 = .ok (.aload_n 0, 1) := by decide +kernel
theorem dX11_read_121 : decode cX11_read 121 = .ok (.getfield 204, 3) := by decide +kernel
theorem dX11_read_124 : decode cX11_read 124 = .ok (.ifCond .le 10, 3) := by decide +kernel
theorem dX11_read_127 : decode cX11_read 127 = .ok (.aload_n 0, 1) := by decide +kernel
theorem dX11_read_128 : decode cX11_read 128 = .ok (.getfield 210, 3) := by decide +kernel
theorem dX11_read_131 : decode cX11_read 131 = .ok (.goto 18, 3) := by decide +kernel
theorem dX11_read_134 : decode cX11_read 134 = .ok (.aload_n 0, 1) := by decide +kernel
theorem dX11_read_135 : decode cX11_read 135 = .ok (.getfield 213, 3) := by decide +kernel
theorem dX11_read_138 : decode cX11_read 138 = .ok (.ifCond .le 10, 3) := by decide +kernel
theorem dX11_read_141 : decode cX11_read 141 = .ok (.aload_n 0, 1) := by decide +kernel
theorem dX11_read_142 : decode cX11_read 142 = .ok (.getfield 216, 3) := by decide +kernel
theorem dX11_read_145 : decode cX11_read 145 = .ok (.goto 4, 3) := by decide +kernel
theorem dX11_read_148 : decode cX11_read 148 = .ok (.iconst (-1), 1) := by decide +kernel
theorem dX11_read_149 : decode cX11_read 149 = .ok (.putfield 37, 3) := by decide +kernel
theorem dX11_read_152 : decode cX11_read 152 = .ok (.aload_n 0, 1) := by decide +kernel
theorem dX11_read_153 : decode cX11_read 153 = .ok (.getfield 204, 3) := by decide +kernel
theorem dX11_read_156 : decode cX11_read 156 = .ok (.ifCond .le 8, 3) := by decide +kernel
theorem dX11_read_159 : decode cX11_read 159 = .ok (.aload_n 0, 1) := by decide +kernel
theorem dX11_read_160 : decode cX11_read 160 = .ok (.getfield 204, 3) := by decide +kernel
theorem dX11_read_163 : decode cX11_read 163 = .ok (.ireturn, 1) := by decide +kernel
theorem dX11_read_164 : decode cX11_read 164 = .ok (.aload_n 0, 1) := by decide +kernel
theorem dX11_read_165 : decode cX11_read 165 = .ok (.getfield 213, 3) := by decide +kernel
theorem dX11_read_168 : decode cX11_read 168 = .ok (.ifCond .le 8, 3) := by decide +kernel
theorem dX11_read_171 : decode cX11_read 171 = .ok (.aload_n 0, 1) := by decide +kernel
theorem dX11_read_172 : decode cX11_read 172 = .ok (.getfield 213, 3) := by decide +kernel
theorem dX11_read_175 : decode cX11_read 175 = .ok (.ireturn, 1) := by decide +kernel
theorem dX11_read_176 : decode cX11_read 176 = .ok (.aload_n 0, 1) := by decide +kernel
theorem dX11_read_177 : decode cX11_read 177 = .ok (.aload_n 0, 1) := by decide +kernel
theorem dX11_read_178 : decode cX11_read 178 = .ok (.getfield 237, 3) := by decide +kernel
theorem dX11_read_181 : decode cX11_read 181 = .ok (.putfield 234, 3) := by decide +kernel
theorem dX11_read_184 : decode cX11_read 184 = .ok (.iconst 0, 1) := by decide +kernel
theorem dX11_read_185 : decode cX11_read 185 = .ok (.istore_n 1, 1) := by decide +kernel
theorem dX11_read_186 : decode cX11_read 186 = .ok (.iload_n 1, 1) := by decide +kernel
theorem dX11_read_187 : decode cX11_read 187 = .ok (.iconst 3, 1) := by decide +kernel
theorem dX11_read_188 : decode cX11_read 188 = .ok (.if_icmp .ge 16, 3) := by decide +kernel
theorem dX11_read_191 : decode cX11_read 191 = .ok (.aload_n 0, 1) := by decide +kernel
theorem dX11_read_192 : decode cX11_read 192 = .ok (.getfield 116, 3) := by decide +kernel
theorem dX11_read_195 : decode cX11_read 195 = .ok (.iload_n 1, 1) := by decide +kernel
theorem dX11_read_196 : decode cX11_read 196 = .ok (.iconst (-1), 1) := by decide +kernel
theorem dX11_read_197 : decode cX11_read 197 = .ok (.iastore, 1) := by decide +kernel
theorem dX11_read_198 : decode cX11_read 198 = .ok (.iinc 1 1, 3) := by decide +kernel
theorem dX11_read_201 : decode cX11_read 201 = .ok (.goto (-15), 3) := by decide +kernel
theorem dX11_read_204 : decode cX11_read 204 = .ok (.iconst 0, 1) := by decide +kernel
theorem dX11_read_205 : decode cX11_read 205 = .ok (.istore_n 1, 1) := by decide +kernel
theorem dX11_read_206 : decode cX11_read 206 = .ok (.iload_n 1, 1) := by decide +kernel
theorem dX11_read_207 : decode cX11_read 207 = .ok (.bipush 7, 2) := by decide +kernel
theorem dX11_read_209 : decode cX11_read 209 = .ok (.if_icmp .ge 118, 3) := by decide +kernel
theorem dX11_read_212 : decode cX11_read 212 = .ok (.aload_n 0, 1) := by decide +kernel
theorem dX11_read_213 : decode cX11_read 213 = .ok (.getfield 122, 3) := by decide +kernel
theorem dX11_read_216 : decode cX11_read 216 = .ok (.iload_n 1, 1) := by decide +kernel
theorem dX11_read_217 : decode cX11_read 217 = .ok (.iconst (-1), 1) := by decide +kernel
theorem dX11_read_218 : decode cX11_read 218 = .ok (.iastore, 1) := by decide +kernel
theorem dX11_read_219 : decode cX11_read 219 = .ok (.aload_n 0, 1) := by decide +kernel
theorem dX11_read_220 : decode cX11_read 220 = .ok (.getfield 125, 3) := by decide +kernel
theorem dX11_read_223 : decode cX11_read 223 = .ok (.iload_n 1, 1) := by decide +kernel
theorem dX11_read_224 : decode cX11_read 224 = .ok (.iconst 0, 1) := by decide +kernel
theorem dX11_read_225 : decode cX11_read 225 = .ok (.iastore, 1) := by decide +kernel
theorem dX11_read_226 : decode cX11_read 226 = .ok (.aload_n 0, 1) := by decide +kernel
theorem dX11_read_227 : decode cX11_read 227 = .ok (.getfield 128, 3) := by decide +kernel
theorem dX11_read_230 : decode cX11_read 230 = .ok (.iload_n 1, 1) := by decide +kernel
theorem dX11_read_231 : decode cX11_read 231 = .ok (.iconst 0, 1) := by decide +kernel
theorem dX11_read_232 : decode cX11_read 232 = .ok (.iastore, 1) := by decide +kernel
theorem dX11_read_233 : decode cX11_read 233 = .ok (.aload_n 0, 1) := by decide +kernel
theorem dX11_read_234 : decode cX11_read 234 = .ok (.getfield 119, 3) := by decide +kernel
theorem dX11_read_237 : decode cX11_read 237 = .ok (.iload_n 1, 1) := by decide +kernel
theorem dX11_read_238 : decode cX11_read 238 = .ok (.iload_n 1, 1) := by decide +kernel
theorem dX11_read_239 : decode cX11_read 239 = .ok (.iastore, 1) := by decide +kernel
theorem dX11_read_240 : decode cX11_read 240 = .ok (.iconst 0, 1) := by decide +kernel
theorem dX11_read_241 : decode cX11_read 241 = .ok (.istore_n 2, 1) := by decide +kernel
theorem dX11_read_242 : decode cX11_read 242 = .ok (.iload_n 2, 1) := by decide +kernel
theorem dX11_read_243 : decode cX11_read 243 = .ok (.bipush 6, 2) := by decide +kernel
theorem dX11_read_245 : decode cX11_read 245 = .ok (.if_icmp .ge 76, 3) := by decide +kernel
theorem dX11_read_248 : decode cX11_read 248 = .ok (.aload_n 0, 1) := by decide +kernel
theorem dX11_read_249 : decode cX11_read 249 = .ok (.getfield 134, 3) := by decide +kernel
theorem dX11_read_252 : decode cX11_read 252 = .ok (.bipush 6, 2) := by decide +kernel
theorem dX11_read_254 : decode cX11_read 254 = .ok (.iload_n 1, 1) := by decide +kernel
theorem dX11_read_255 : decode cX11_read 255 = .ok (.imul, 1) := by decide +kernel
theorem dX11_read_256 : decode cX11_read 256 = .ok (.iload_n 2, 1) := by decide +kernel
theorem dX11_read_257 : decode cX11_read 257 = .ok (.iadd, 1) := by decide +kernel
theorem dX11_read_258 : decode cX11_read 258 = .ok (.iconst 0, 1) := by decide +kernel
theorem dX11_read_259 : decode cX11_read 259 = .ok (.bastore, 1) := by decide +kernel
theorem dX11_read_260 : decode cX11_read 260 = .ok (.aload_n 0, 1) := by decide +kernel
theorem dX11_read_261 : decode cX11_read 261 = .ok (.getfield 137, 3) := by decide +kernel
theorem dX11_read_264 : decode cX11_read 264 = .ok (.bipush 6, 2) := by decide +kernel
theorem dX11_read_266 : decode cX11_read 266 = .ok (.iload_n 1, 1) := by decide +kernel
theorem dX11_read_267 : decode cX11_read 267 = .ok (.imul, 1) := by decide +kernel
theorem dX11_read_268 : decode cX11_read 268 = .ok (.iload_n 2, 1) := by decide +kernel
theorem dX11_read_269 : decode cX11_read 269 = .ok (.iadd, 1) := by decide +kernel
theorem dX11_read_270 : decode cX11_read 270 = .ok (.iconst 0, 1) := by decide +kernel
