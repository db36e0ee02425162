theorem dX0_init_0 : decode cX0_init 0 = .ok (.aload_n 0, 1) := by decide +kernel
theorem dX0_init_1 : decode cX0_init 1 = .ok (.invokespecial 3, 3) := by decide +kernel
theorem dX0_init_4 : decode cX0_init 4 = .ok (.aload_n 0, 1) := by decide +kernel
theorem dX0_init_5 : decode cX0_init 5 = .ok (.bipush 48, 2) := by decide +kernel
theorem dX0_init_7 : decode cX0_init 7 = .ok (.newarray .long, 2) := by decide +kernel
theorem dX0_init_9 : decode cX0_init 9 = .ok (.putfield 9, 3) := by decide +kernel
theorem dX0_init_12 : decode cX0_init 12 = .ok (.aload_n 0, 1) := by decide +kernel
theorem dX0_init_13 : decode cX0_init 13 = .ok (.bipush 48, 2) := by decide +kernel
theorem dX0_init_15 : decode cX0_init 15 = .ok (.newarray .long, 2) := by decide +kernel
theorem dX0_init_17 : decode cX0_init 17 = .ok (.putfield 15, 3) := by decide +kernel
theorem dX0_init_20 : decode cX0_init 20 = .ok (.aload_n 0, 1) := by decide +kernel
theorem dX0_init_21 : decode cX0_init 21 = .ok (.bipush 48, 2) := by decide +kernel
theorem dX0_init_23 : decode cX0_init 23 = .ok (.newarray .long, 2) := by decide +kernel
theorem dX0_init_25 : decode cX0_init 25 = .ok (.putfield 18, 3) := by decide +kernel
theorem dX0_init_28 : decode cX0_init 28 = .ok (.return_, 1) := by decide +kernel
theorem dX0_add_0 : decode cX0_add 0 = .ok (.iload_n 1, 1) := by decide +kernel
theorem dX0_add_1 : decode cX0_add 1 = .ok (.bipush 6, 2) := by decide +kernel
theorem dX0_add_3 : decode cX0_add 3 = .ok (.invokestatic 21, 3) := by decide +kernel
theorem dX0_add_6 : decode cX0_add 6 = .ok (.ifCond .eq 79, 3) := by decide +kernel
theorem dX0_add_9 : decode cX0_add 9 = .ok (.iload_n 2, 1) := by decide +kernel
theorem dX0_add_10 : decode cX0_add 10 = .ok (.bipush 8, 2) := by decide +kernel
theorem dX0_add_12 : decode cX0_add 12 = .ok (.invokestatic 21, 3) := by decide +kernel
theorem dX0_add_15 : decode cX0_add 15 = .ok (.ifCond .eq 70, 3) := by decide +kernel
theorem dX0_add_18 : decode cX0_add 18 = .ok (.iload_n 1, 1) := by decide +kernel
theorem dX0_add_19 : decode cX0_add 19 = .ok (.bipush 8, 2) := by decide +kernel
theorem dX0_add_21 : decode cX0_add 21 = .ok (.imul, 1) := by decide +kernel
theorem dX0_add_22 : decode cX0_add 22 = .ok (.iload_n 2, 1) := by decide +kernel
theorem dX0_add_23 : decode cX0_add 23 = .ok (.iadd, 1) := by decide +kernel
theorem dX0_add_24 : decode cX0_add 24 = .ok (.istore 4, 2) := by decide +kernel
theorem dX0_add_26 : decode cX0_add 26 = .ok (.aload_n 0, 1) := by decide +kernel
theorem dX0_add_27 : decode cX0_add 27 = .ok (.getfield 9, 3) := by decide +kernel
theorem dX0_add_30 : decode cX0_add 30 = .ok (.iload 4, 2) := by decide +kernel
theorem dX0_add_32 : decode cX0_add 32 = .ok (.dup2, 1) := by decide +kernel
theorem dX0_add_33 : decode cX0_add 33 = .ok (.laload, 1) := by decide +kernel
theorem dX0_add_34 : decode cX0_add 34 = .ok (.iload_n 3, 1) := by decide +kernel
theorem dX0_add_35 : decode cX0_add 35 = .ok (.i2l, 1) := by decide +kernel
theorem dX0_add_36 : decode cX0_add 36 = .ok (.ladd, 1) := by decide +kernel
theorem dX0_add_37 : decode cX0_add 37 = .ok (.lastore, 1) := by decide +kernel
theorem dX0_add_38 : decode cX0_add 38 = .ok (.aload_n 0, 1) := by decide +kernel
theorem dX0_add_39 : decode cX0_add 39 = .ok (.getfield 18, 3) := by decide +kernel
theorem dX0_add_42 : decode cX0_add 42 = .ok (.iload 4, 2) := by decide +kernel
theorem dX0_add_44 : decode cX0_add 44 = .ok (.aload_n 0, 1) := by decide +kernel
theorem dX0_add_45 : decode cX0_add 45 = .ok (.getfield 15, 3) := by decide +kernel
theorem dX0_add_48 : decode cX0_add 48 = .ok (.iload 4, 2) := by decide +kernel
theorem dX0_add_50 : decode cX0_add 50 = .ok (.laload, 1) := by decide +kernel
theorem dX0_add_51 : decode cX0_add 51 = .ok (.lconst 0, 1) := by decide +kernel
theorem dX0_add_52 : decode cX0_add 52 = .ok (.lcmp, 1) := by decide +kernel
theorem dX0_add_53 : decode cX0_add 53 = .ok (.ifCond .ne 8, 3) := by decide +kernel
theorem dX0_add_56 : decode cX0_add 56 = .ok (.iload_n 3, 1) := by decide +kernel
theorem dX0_add_57 : decode cX0_add 57 = .ok (.i2l, 1) := by decide +kernel
theorem dX0_add_58 : decode cX0_add 58 = .ok (.goto 15, 3) := by decide +kernel
theorem dX0_add_61 : decode cX0_add 61 = .ok (.aload_n 0, 1) := by decide +kernel
theorem dX0_add_62 : decode cX0_add 62 = .ok (.getfield 18, 3) := by decide +kernel
theorem dX0_add_65 : decode cX0_add 65 = .ok (.iload 4, 2) := by decide +kernel
theorem dX0_add_67 : decode cX0_add 67 = .ok (.laload, 1) := by decide +kernel
theorem dX0_add_68 : decode cX0_add 68 = .ok (.iload_n 3, 1) := by decide +kernel
theorem dX0_add_69 : decode cX0_add 69 = .ok (.i2l, 1) := by decide +kernel
theorem dX0_add_70 : decode cX0_add 70 = .ok (.invokestatic 25, 3) := by decide +kernel
theorem dX0_add_73 : decode cX0_add 73 = .ok (.lastore, 1) := by decide +kernel
theorem dX0_add_74 : decode cX0_add 74 = .ok (.aload_n 0, 1) := by decide +kernel
theorem dX0_add_75 : decode cX0_add 75 = .ok (.getfield 15, 3) := by decide +kernel
theorem dX0_add_78 : decode cX0_add 78 = .ok (.iload 4, 2) := by decide +kernel
theorem dX0_add_80 : decode cX0_add 80 = .ok (.dup2, 1) := by decide +kernel
theorem dX0_add_81 : decode cX0_add 81 = .ok (.laload, 1) := by decide +kernel
theorem dX0_add_82 : decode cX0_add 82 = .ok (.lconst 1, 1) := by decide +kernel
theorem dX0_add_83 : decode cX0_add 83 = .ok (.ladd, 1) := by decide +kernel
theorem dX0_add_84 : decode cX0_add 84 = .ok (.lastore, 1) := by decide +kernel
theorem dX0_add_85 : decode cX0_add 85 = .ok (.return_, 1) := by decide +kernel
theorem dX0_moveFrom_0 : decode cX0_moveFrom 0 = .ok (.iload_n 2, 1) := by decide +kernel
theorem dX0_moveFrom_1 : decode cX0_moveFrom 1 = .ok (.bipush 6, 2) := by decide +kernel
theorem dX0_moveFrom_3 : decode cX0_moveFrom 3 = .ok (.invokestatic 21, 3) := by decide +kernel
theorem dX0_moveFrom_6 : decode cX0_moveFrom 6 = .ok (.ifCond .eq 81, 3) := by decide +kernel
theorem dX0_moveFrom_9 : decode cX0_moveFrom 9 = .ok (.iload_n 2, 1) := by decide +kernel
theorem dX0_moveFrom_10 : decode cX0_moveFrom 10 = .ok (.bipush 8, 2) := by decide +kernel
theorem dX0_moveFrom_12 : decode cX0_moveFrom 12 = .ok (.imul, 1) := by decide +kernel
theorem dX0_moveFrom_13 : decode cX0_moveFrom 13 = .ok (.istore_n 3, 1) := by decide +kernel
theorem dX0_moveFrom_14 : decode cX0_moveFrom 14 = .ok (.iload_n 3, 1) := by decide +kernel
theorem dX0_moveFrom_15 : decode cX0_moveFrom 15 = .ok (.iload_n 2, 1) := by decide +kernel
theorem dX0_moveFrom_16 : decode cX0_moveFrom 16 = .ok (.iconst 1, 1) := by decide +kernel
theorem dX0_moveFrom_17 : decode cX0_moveFrom 17 = .ok (.iadd, 1) := by decide +kernel
theorem dX0_moveFrom_18 : decode cX0_moveFrom 18 = .ok (.bipush 8, 2) := by decide +kernel
theorem dX0_moveFrom_20 : decode cX0_moveFrom 20 = .ok (.imul, 1) := by decide +kernel
theorem dX0_moveFrom_21 : decode cX0_moveFrom 21 = .ok (.if_icmp .ge 66, 3) := by decide +kernel
theorem dX0_moveFrom_24 : decode cX0_moveFrom 24 = .ok (.aload_n 0, 1) := by decide +kernel
theorem dX0_moveFrom_25 : decode cX0_moveFrom 25 = .ok (.getfield 9, 3) := by decide +kernel
theorem dX0_moveFrom_28 : decode cX0_moveFrom 28 = .ok (.iload_n 3, 1) := by decide +kernel
theorem dX0_moveFrom_29 : decode cX0_moveFrom 29 = .ok (.aload_n 1, 1) := by decide +kernel
theorem dX0_moveFrom_30 : decode cX0_moveFrom 30 = .ok (.getfield 9, 3) := by decide +kernel
theorem dX0_moveFrom_33 : decode cX0_moveFrom 33 = .ok (.iload_n 3, 1) := by decide +kernel
theorem dX0_moveFrom_34 : decode cX0_moveFrom 34 = .ok (.laload, 1) := by decide +kernel
theorem dX0_moveFrom_35 : decode cX0_moveFrom 35 = .ok (.lastore, 1) := by decide +kernel
theorem dX0_moveFrom_36 : decode cX0_moveFrom 36 = .ok (.aload_n 0, 1) := by decide +kernel
theorem dX0_moveFrom_37 : decode cX0_moveFrom 37 = .ok (.getfield 15, 3) := by decide +kernel
theorem dX0_moveFrom_40 : decode cX0_moveFrom 40 = .ok (.iload_n 3, 1) := by decide +kernel
theorem dX0_moveFrom_41 : decode cX0_moveFrom 41 = .ok (.aload_n 1, 1) := by decide +kernel
theorem dX0_moveFrom_42 : decode cX0_moveFrom 42 = .ok (.getfield 15, 3) := by decide +kernel
theorem dX0_moveFrom_45 : decode cX0_moveFrom 45 = .ok (.iload_n 3, 1) := by decide +kernel
theorem dX0_moveFrom_46 : decode cX0_moveFrom 46 = .ok (.laload, 1) := by decide +kernel
theorem dX0_moveFrom_47 : decode cX0_moveFrom 47 = .ok (.lastore, 1) := by decide +kernel
theorem dX0_moveFrom_48 : decode cX0_moveFrom 48 = .ok (.aload_n 0, 1) := by decide +kernel
theorem dX0_moveFrom_49 : decode cX0_moveFrom 49 = .ok (.getfield 18, 3) := by decide +kernel
theorem dX0_moveFrom_52 : decode cX0_moveFrom 52 = .ok (.iload_n 3, 1) := by decide +kernel
theorem dX0_moveFrom_53 : decode cX0_moveFrom 53 = .ok (.aload_n 1, 1) := by decide +kernel
theorem dX0_moveFrom_54 : decode cX0_moveFrom 54 = .ok (.getfield 18, 3) := by decide +kernel
theorem dX0_moveFrom_57 : decode cX0_moveFrom 57 = .ok (.iload_n 3, 1) := by decide +kernel
theorem dX0_moveFrom_58 : decode cX0_moveFrom 58 = .ok (.laload, 1) := by decide +kernel
theorem dX0_moveFrom_59 : decode cX0_moveFrom 59 = .ok (.lastore, 1) := by decide +kernel
theorem dX0_moveFrom_60 : decode cX0_moveFrom 60 = .ok (.aload_n 1, 1) := by decide +kernel
theorem dX0_moveFrom_61 : decode cX0_moveFrom 61 = .ok (.getfield 9, 3) := by decide +kernel
theorem dX0_moveFrom_64 : decode cX0_moveFrom 64 = .ok (.iload_n 3, 1) := by decide +kernel
theorem dX0_moveFrom_65 : decode cX0_moveFrom 65 = .ok (.lconst 0, 1) := by decide +kernel
theorem dX0_moveFrom_66 : decode cX0_moveFrom 66 = .ok (.lastore, 1) := by decide +kernel
theorem dX0_moveFrom_67 : decode cX0_moveFrom 67 = .ok (.aload_n 1, 1) := by decide +kernel
theorem dX0_moveFrom_68 : decode cX0_moveFrom 68 = .ok (.getfield 15, 3) := by decide +kernel
theorem dX0_moveFrom_71 : decode cX0_moveFrom 71 = .ok (.iload_n 3, 1) := by decide +kernel
theorem dX0_moveFrom_72 : decode cX0_moveFrom 72 = .ok (.lconst 0, 1) := by decide +kernel
theorem dX0_moveFrom_73 : decode cX0_moveFrom 73 = .ok (.lastore, 1) := by decide +kernel
theorem dX0_moveFrom_74 : decode cX0_moveFrom 74 = .ok (.aload_n 1, 1) := by decide +kernel
theorem dX0_moveFrom_75 : decode cX0_moveFrom 75 = .ok (.getfield 18, 3) := by decide +kernel
theorem dX0_moveFrom_78 : decode cX0_moveFrom 78 = .ok (.iload_n 3, 1) := by decide +kernel
theorem dX0_moveFrom_79 : decode cX0_moveFrom 79 = .ok (.lconst 0, 1) := by decide +kernel
theorem dX0_moveFrom_80 : decode cX0_moveFrom 80 = .ok (.lastore, 1) := by decide +kernel
theorem dX0_moveFrom_81 : decode cX0_moveFrom 81 = .ok (.iinc 3 1, 3) := by decide +kernel
theorem dX0_moveFrom_84 : decode cX0_moveFrom 84 = .ok (.goto (-70), 3) := by decide +kernel
theorem dX0_moveFrom_87 : decode cX0_moveFrom 87 = .ok (.return_, 1) := by decide +kernel
theorem dX1_init_0 : decode cX1_init 0 = .ok (.aload_n 0, 1) := by decide +kernel
theorem dX1_init_1 : decode cX1_init 1 = .ok (.invokespecial 3, 3) := by decide +kernel
theorem dX1_init_4 : decode cX1_init 4 = .ok (.aload_n 0, 1) := by decide +kernel
theorem dX1_init_5 : decode cX1_init 5 = .ok (.bipush 7, 2) := by decide +kernel
theorem dX1_init_7 : decode cX1_init 7 = .ok (.newarray .int, 2) := by decide +kernel
theorem dX1_init_9 : decode cX1_init 9 = .ok (.putfield 9, 3) := by decide +kernel
theorem dX1_init_12 : decode cX1_init 12 = .ok (.aload_n 0, 1) := by decide +kernel
theorem dX1_init_13 : decode cX1_init 13 = .ok (.bipush 7, 2) := by decide +kernel
theorem dX1_init_15 : decode cX1_init 15 = .ok (.newarray .int, 2) := by decide +kernel
theorem dX1_init_17 : decode cX1_init 17 = .ok (.putfield 15, 3) := by decide +kernel
theorem dX1_init_20 : decode cX1_init 20 = .ok (.aload_n 0, 1) := by decide +kernel
theorem dX1_init_21 : decode cX1_init 21 = .ok (.bipush 7, 2) := by decide +kernel
theorem dX1_init_23 : decode cX1_init 23 = .ok (.newarray .int, 2) := by decide +kernel
theorem dX1_init_25 : decode cX1_init 25 = .ok (.putfield 18, 3) := by decide +kernel
theorem dX1_init_28 : decode cX1_init 28 = .ok (.aload_n 0, 1) := by decide +kernel
theorem dX1_init_29 : decode cX1_init 29 = .ok (.iconst 3, 1) := by decide +kernel
theorem dX1_init_30 : decode cX1_init 30 = .ok (.newarray .int, 2) := by decide +kernel
theorem dX1_init_32 : decode cX1_init 32 = .ok (.putfield 21, 3) := by decide +kernel
theorem dX1_init_35 : decode cX1_init 35 = .ok (.aload_n 0, 1) := by decide +kernel
theorem dX1_init_36 : decode cX1_init 36 = .ok (.bipush 7, 2) := by decide +kernel
theorem dX1_init_38 : decode cX1_init 38 = .ok (.newarray .int, 2) := by decide +kernel
theorem dX1_init_40 : decode cX1_init 40 = .ok (.putfield 24, 3) := by decide +kernel
theorem dX1_init_43 : decode cX1_init 43 = .ok (.aload_n 0, 1) := by decide +kernel
theorem dX1_init_44 : decode cX1_init 44 = .ok (.bipush 7, 2) := by decide +kernel
theorem dX1_init_46 : decode cX1_init 46 = .ok (.newarray .int, 2) := by decide +kernel
theorem dX1_init_48 : decode cX1_init 48 = .ok (.putfield 27, 3) := by decide +kernel
theorem dX1_init_51 : decode cX1_init 51 = .ok (.aload_n 0, 1) := by decide +kernel
theorem dX1_init_52 : decode cX1_init 52 = .ok (.aload_n 1, 1) := by decide +kernel
theorem dX1_init_53 : decode cX1_init 53 = .ok (.putfield 30, 3) := by decide +kernel
theorem dX1_init_56 : decode cX1_init 56 = .ok (.aload_n 0, 1) := by decide +kernel
theorem dX1_init_57 : decode cX1_init 57 = .ok (.aload_n 2, 1) := by decide +kernel
theorem dX1_init_58 : decode cX1_init 58 = .ok (.putfield 34, 3) := by decide +kernel
theorem dX1_init_61 : decode cX1_init 61 = .ok (.aload_n 0, 1) := by decide +kernel
theorem dX1_init_62 : decode cX1_init 62 = .ok (.aload_n 3, 1) := by decide +kernel
theorem dX1_init_63 : decode cX1_init 63 = .ok (.putfield 38, 3) := by decide +kernel
theorem dX1_init_66 : decode cX1_init 66 = .ok (.return_, 1) := by decide +kernel
theorem dX1_soonestEndOf_0 : decode cX1_soonestEndOf 0 = .ok (.aload_n 0, 1) := by decide +kernel
theorem dX1_soonestEndOf_1 : decode cX1_soonestEndOf 1 = .ok (.aload_n 0, 1) := by decide +kernel
theorem dX1_soonestEndOf_2 : decode cX1_soonestEndOf 2 = .ok (.getfield 34, 3) := by decide +kernel
theorem dX1_soonestEndOf_5 : decode cX1_soonestEndOf 5 = .ok (.getfield 42, 3) := by decide +kernel
theorem dX1_soonestEndOf_8 : decode cX1_soonestEndOf 8 = .ok (.invokevirtual 47, 3) := by decide +kernel
theorem dX1_soonestEndOf_11 : decode cX1_soonestEndOf 11 = .ok (.iload_n 1, 1) := by decide +kernel
theorem dX1_soonestEndOf_12 : decode cX1_soonestEndOf 12 = .ok (.bipush 7, 2) := by decide +kernel
theorem dX1_soonestEndOf_14 : decode cX1_soonestEndOf 14 = .ok (.invokestatic 51, 3) := by decide +kernel
theorem dX1_soonestEndOf_17 : decode cX1_soonestEndOf 17 = .ok (.ifCond .eq 12, 3) := by decide +kernel
theorem dX1_soonestEndOf_20 : decode cX1_soonestEndOf 20 = .ok (.aload_n 0, 1) := by decide +kernel
theorem dX1_soonestEndOf_21 : decode cX1_soonestEndOf 21 = .ok (.getfield 15, 3) := by decide +kernel
theorem dX1_soonestEndOf_24 : decode cX1_soonestEndOf 24 = .ok (.iload_n 1, 1) := by decide +kernel
theorem dX1_soonestEndOf_25 : decode cX1_soonestEndOf 25 = .ok (.iaload, 1) := by decide +kernel
theorem dX1_soonestEndOf_26 : decode cX1_soonestEndOf 26 = .ok (.goto 6, 3) := by decide +kernel
theorem dX1_soonestEndOf_29 : decode cX1_soonestEndOf 29 = .ok (.sipush 400, 3) := by decide +kernel
theorem dX1_soonestEndOf_32 : decode cX1_soonestEndOf 32 = .ok (.ireturn, 1) := by decide +kernel
theorem dX1_endOf_0 : decode cX1_endOf 0 = .ok (.aload_n 0, 1) := by decide +kernel
theorem dX1_endOf_1 : decode cX1_endOf 1 = .ok (.aload_n 0, 1) := by decide +kernel
theorem dX1_endOf_2 : decode cX1_endOf 2 = .ok (.getfield 34, 3) := by decide +kernel
theorem dX1_endOf_5 : decode cX1_endOf 5 = .ok (.getfield 55, 3) := by decide +kernel
theorem dX1_endOf_8 : decode cX1_endOf 8 = .ok (.invokevirtual 47, 3) := by decide +kernel
theorem dX1_endOf_11 : decode cX1_endOf 11 = .ok (.aload_n 0, 1) := by decide +kernel
theorem dX1_endOf_12 : decode cX1_endOf 12 = .ok (.aload_n 0, 1) := by decide +kernel
theorem dX1_endOf_13 : decode cX1_endOf 13 = .ok (.getfield 38, 3) := by decide +kernel
theorem dX1_endOf_16 : decode cX1_endOf 16 = .ok (.getfield 58, 3) := by decide +kernel
theorem dX1_endOf_19 : decode cX1_endOf 19 = .ok (.invokevirtual 63, 3) := by decide +kernel
theorem dX1_endOf_22 : decode cX1_endOf 22 = .ok (.aload_n 0, 1) := by decide +kernel
theorem dX1_endOf_23 : decode cX1_endOf 23 = .ok (.ldc 66, 2) := by decide +kernel
theorem dX1_endOf_25 : decode cX1_endOf 25 = .ok (.invokevirtual 67, 3) := by decide +kernel
theorem dX1_endOf_28 : decode cX1_endOf 28 = .ok (.iload_n 1, 1) := by decide +kernel
theorem dX1_endOf_29 : decode cX1_endOf 29 = .ok (.bipush 7, 2) := by decide +kernel
theorem dX1_endOf_31 : decode cX1_endOf 31 = .ok (.invokestatic 51, 3) := by decide +kernel
theorem dX1_endOf_34 : decode cX1_endOf 34 = .ok (.ifCond .eq 12, 3) := by decide +kernel
theorem dX1_endOf_37 : decode cX1_endOf 37 = .ok (.aload_n 0, 1) := by decide +kernel
theorem dX1_endOf_38 : decode cX1_endOf 38 = .ok (.getfield 18, 3) := by decide +kernel
theorem dX1_endOf_41 : decode cX1_endOf 41 = .ok (.iload_n 1, 1) := by decide +kernel
theorem dX1_endOf_42 : decode cX1_endOf 42 = .ok (.iaload, 1) := by decide +kernel
theorem dX1_endOf_43 : decode cX1_endOf 43 = .ok (.goto 6, 3) := by decide +kernel
theorem dX1_endOf_46 : decode cX1_endOf 46 = .ok (.sipush 400, 3) := by decide +kernel
theorem dX1_endOf_49 : decode cX1_endOf 49 = .ok (.ireturn, 1) := by decide +kernel
theorem dX1_findBest_0 : decode cX1_findBest 0 = .ok (.aload_n 0, 1) := by decide +kernel
theorem dX1_findBest_1 : decode cX1_findBest 1 = .ok (.aload_n 0, 1) := by decide +kernel
theorem dX1_findBest_2 : decode cX1_findBest 2 = .ok (.getfield 34, 3) := by decide +kernel
theorem dX1_findBest_5 : decode cX1_findBest 5 = .ok (.getfield 55, 3) := by decide +kernel
theorem dX1_findBest_8 : decode cX1_findBest 8 = .ok (.invokevirtual 47, 3) := by decide +kernel
theorem dX1_findBest_11 : decode cX1_findBest 11 = .ok (.aload_n 0, 1) := by decide +kernel
theorem dX1_findBest_12 : decode cX1_findBest 12 = .ok (.invokevirtual 71, 3) := by decide +kernel
theorem dX1_findBest_15 : decode cX1_findBest 15 = .ok (.ldc 66, 2) := by decide +kernel
theorem dX1_findBest_17 : decode cX1_findBest 17 = .ok (.istore_n 1, 1) := by decide +kernel
theorem dX1_findBest_18 : decode cX1_findBest 18 = .ok (.iconst 1, 1) := by decide +kernel
theorem dX1_findBest_19 : decode cX1_findBest 19 = .ok (.istore_n 2, 1) := by decide +kernel
theorem dX1_findBest_20 : decode cX1_findBest 20 = .ok (.iconst 0, 1) := by decide +kernel
theorem dX1_findBest_21 : decode cX1_findBest 21 = .ok (.istore_n 3, 1) := by decide +kernel
theorem dX1_findBest_22 : decode cX1_findBest 22 = .ok (.iload_n 3, 1) := by decide +kernel
theorem dX1_findBest_23 : decode cX1_findBest 23 = .ok (.sipush 5040, 3) := by decide +kernel
theorem dX1_findBest_26 : decode cX1_findBest 26 = .ok (.if_icmp .ge 56, 3) := by decide +kernel
theorem dX1_findBest_29 : decode cX1_findBest 29 = .ok (.iload_n 2, 1) := by decide +kernel
theorem dX1_findBest_30 : decode cX1_findBest 30 = .ok (.ifCond .eq 52, 3) := by decide +kernel
theorem dX1_findBest_33 : decode cX1_findBest 33 = .ok (.aload_n 0, 1) := by decide +kernel
theorem dX1_findBest_34 : decode cX1_findBest 34 = .ok (.iload_n 1, 1) := by decide +kernel
theorem dX1_findBest_35 : decode cX1_findBest 35 = .ok (.invokevirtual 67, 3) := by decide +kernel
theorem dX1_findBest_38 : decode cX1_findBest 38 = .ok (.aload_n 0, 1) := by decide +kernel
theorem dX1_findBest_39 : decode cX1_findBest 39 = .ok (.getfield 74, 3) := by decide +kernel
theorem dX1_findBest_42 : decode cX1_findBest 42 = .ok (.iload_n 1, 1) := by decide +kernel
theorem dX1_findBest_43 : decode cX1_findBest 43 = .ok (.if_icmp .ge 12, 3) := by decide +kernel
theorem dX1_findBest_46 : decode cX1_findBest 46 = .ok (.aload_n 0, 1) := by decide +kernel
theorem dX1_findBest_47 : decode cX1_findBest 47 = .ok (.getfield 74, 3) := by decide +kernel
theorem dX1_findBest_50 : decode cX1_findBest 50 = .ok (.istore_n 1, 1) := by decide +kernel
theorem dX1_findBest_51 : decode cX1_findBest 51 = .ok (.aload_n 0, 1) := by decide +kernel
theorem dX1_findBest_52 : decode cX1_findBest 52 = .ok (.invokevirtual 78, 3) := by decide +kernel
theorem dX1_findBest_55 : decode cX1_findBest 55 = .ok (.iload_n 1, 1) := by decide +kernel
theorem dX1_findBest_56 : decode cX1_findBest 56 = .ok (.aload_n 0, 1) := by decide +kernel
theorem dX1_findBest_57 : decode cX1_findBest 57 = .ok (.getfield 81, 3) := by decide +kernel
theorem dX1_findBest_60 : decode cX1_findBest 60 = .ok (.if_icmp .le 14, 3) := by decide +kernel
theorem dX1_findBest_63 : decode cX1_findBest 63 = .ok (.aload_n 0, 1) := by decide +kernel
theorem dX1_findBest_64 : decode cX1_findBest 64 = .ok (.invokevirtual 84, 3) := by decide +kernel
theorem dX1_findBest_67 : decode cX1_findBest 67 = .ok (.ifCond .eq 7, 3) := by decide +kernel
theorem dX1_findBest_70 : decode cX1_findBest 70 = .ok (.iconst 1, 1) := by decide +kernel
theorem dX1_findBest_71 : decode cX1_findBest 71 = .ok (.goto 4, 3) := by decide +kernel
theorem dX1_findBest_74 : decode cX1_findBest 74 = .ok (.iconst 0, 1) := by decide +kernel
theorem dX1_findBest_75 : decode cX1_findBest 75 = .ok (.istore_n 2, 1) := by decide +kernel
theorem dX1_findBest_76 : decode cX1_findBest 76 = .ok (.iinc 3 1, 3) := by decide +kernel
theorem dX1_findBest_79 : decode cX1_findBest 79 = .ok (.goto (-57), 3) := by decide +kernel
theorem dX1_findBest_82 : decode cX1_findBest 82 = .ok (.aload_n 0, 1) := by decide +kernel
theorem dX1_findBest_83 : decode cX1_findBest 83 = .ok (.invokevirtual 88, 3) := by decide +kernel
theorem dX1_findBest_86 : decode cX1_findBest 86 = .ok (.iload_n 1, 1) := by decide +kernel
theorem dX1_findBest_87 : decode cX1_findBest 87 = .ok (.ireturn, 1) := by decide +kernel
theorem dX1_reckonSoonest_0 : decode cX1_reckonSoonest 0 = .ok (.aload_n 0, 1) := by decide +kernel
theorem dX1_reckonSoonest_1 : decode cX1_reckonSoonest 1 = .ok (.iconst 0, 1) := by decide +kernel
theorem dX1_reckonSoonest_2 : decode cX1_reckonSoonest 2 = .ok (.putfield 81, 3) := by decide +kernel
theorem dX1_reckonSoonest_5 : decode cX1_reckonSoonest 5 = .ok (.iconst 0, 1) := by decide +kernel
theorem dX1_reckonSoonest_6 : decode cX1_reckonSoonest 6 = .ok (.istore_n 2, 1) := by decide +kernel
theorem dX1_reckonSoonest_7 : decode cX1_reckonSoonest 7 = .ok (.iload_n 2, 1) := by decide +kernel
theorem dX1_reckonSoonest_8 : decode cX1_reckonSoonest 8 = .ok (.aload_n 0, 1) := by decide +kernel
theorem dX1_reckonSoonest_9 : decode cX1_reckonSoonest 9 = .ok (.getfield 30, 3) := by decide +kernel
theorem dX1_reckonSoonest_12 : decode cX1_reckonSoonest 12 = .ok (.getfield 91, 3) := by decide +kernel
theorem dX1_reckonSoonest_15 : decode cX1_reckonSoonest 15 = .ok (.if_icmp .ge 161, 3) := by decide +kernel
theorem dX1_reckonSoonest_18 : decode cX1_reckonSoonest 18 = .ok (.aload_n 0, 1) := by decide +kernel
theorem dX1_reckonSoonest_19 : decode cX1_reckonSoonest 19 = .ok (.getfield 9, 3) := by decide +kernel
theorem dX1_reckonSoonest_22 : decode cX1_reckonSoonest 22 = .ok (.iload_n 2, 1) := by decide +kernel
theorem dX1_reckonSoonest_23 : decode cX1_reckonSoonest 23 = .ok (.aload_n 0, 1) := by decide +kernel
theorem dX1_reckonSoonest_24 : decode cX1_reckonSoonest 24 = .ok (.iload_n 2, 1) := by decide +kernel
theorem dX1_reckonSoonest_25 : decode cX1_reckonSoonest 25 = .ok (.aload_n 1, 1) := by decide +kernel
theorem dX1_reckonSoonest_26 : decode cX1_reckonSoonest 26 = .ok (.invokevirtual 96, 3) := by decide +kernel
theorem dX1_reckonSoonest_29 : decode cX1_reckonSoonest 29 = .ok (.iastore, 1) := by decide +kernel
theorem dX1_reckonSoonest_30 : decode cX1_reckonSoonest 30 = .ok (.aload_n 0, 1) := by decide +kernel
theorem dX1_reckonSoonest_31 : decode cX1_reckonSoonest 31 = .ok (.getfield 38, 3) := by decide +kernel
theorem dX1_reckonSoonest_34 : decode cX1_reckonSoonest 34 = .ok (.iload_n 2, 1) := by decide +kernel
theorem dX1_reckonSoonest_35 : decode cX1_reckonSoonest 35 = .ok (.invokevirtual 100, 3) := by decide +kernel
theorem dX1_reckonSoonest_38 : decode cX1_reckonSoonest 38 = .ok (.ifCond .eq 21, 3) := by decide +kernel
theorem dX1_reckonSoonest_41 : decode cX1_reckonSoonest 41 = .ok (.aload_n 0, 1) := by decide +kernel
theorem dX1_reckonSoonest_42 : decode cX1_reckonSoonest 42 = .ok (.getfield 15, 3) := by decide +kernel
theorem dX1_reckonSoonest_45 : decode cX1_reckonSoonest 45 = .ok (.iload_n 2, 1) := by decide +kernel
theorem dX1_reckonSoonest_46 : decode cX1_reckonSoonest 46 = .ok (.aload_n 0, 1) := by decide +kernel
theorem dX1_reckonSoonest_47 : decode cX1_reckonSoonest 47 = .ok (.getfield 38, 3) := by decide +kernel
theorem dX1_reckonSoonest_50 : decode cX1_reckonSoonest 50 = .ok (.getfield 104, 3) := by decide +kernel
theorem dX1_reckonSoonest_53 : decode cX1_reckonSoonest 53 = .ok (.iload_n 2, 1) := by decide +kernel
theorem dX1_reckonSoonest_54 : decode cX1_reckonSoonest 54 = .ok (.iaload, 1) := by decide +kernel
theorem dX1_reckonSoonest_55 : decode cX1_reckonSoonest 55 = .ok (.iastore, 1) := by decide +kernel
theorem dX1_reckonSoonest_56 : decode cX1_reckonSoonest 56 = .ok (.goto 94, 3) := by decide +kernel
theorem dX1_reckonSoonest_59 : decode cX1_reckonSoonest 59 = .ok (.aload_n 0, 1) := by decide +kernel
theorem dX1_reckonSoonest_60 : decode cX1_reckonSoonest 60 = .ok (.getfield 38, 3) := by decide +kernel
theorem dX1_reckonSoonest_63 : decode cX1_reckonSoonest 63 = .ok (.iload_n 2, 1) := by decide +kernel
theorem dX1_reckonSoonest_64 : decode cX1_reckonSoonest 64 = .ok (.invokevirtual 107, 3) := by decide +kernel
theorem dX1_reckonSoonest_67 : decode cX1_reckonSoonest 67 = .ok (.ifCond .eq 45, 3) := by decide +kernel
theorem dX1_reckonSoonest_70 : decode cX1_reckonSoonest 70 = .ok (.aload_n 0, 1) := by decide +kernel
theorem dX1_reckonSoonest_71 : decode cX1_reckonSoonest 71 = .ok (.getfield 15, 3) := by decide +kernel
theorem dX1_reckonSoonest_74 : decode cX1_reckonSoonest 74 = .ok (.iload_n 2, 1) := by decide +kernel
theorem dX1_reckonSoonest_75 : decode cX1_reckonSoonest 75 = .ok (.sipush 400, 3) := by decide +kernel
theorem dX1_reckonSoonest_78 : decode cX1_reckonSoonest 78 = .ok (.aload_n 0, 1) := by decide +kernel
theorem dX1_reckonSoonest_79 : decode cX1_reckonSoonest 79 = .ok (.getfield 38, 3) := by decide +kernel
theorem dX1_reckonSoonest_82 : decode cX1_reckonSoonest 82 = .ok (.getfield 110, 3) := by decide +kernel
theorem dX1_reckonSoonest_85 : decode cX1_reckonSoonest 85 = .ok (.aload_n 0, 1) := by decide +kernel
theorem dX1_reckonSoonest_86 : decode cX1_reckonSoonest 86 = .ok (.getfield 30, 3) := by decide +kernel
theorem dX1_reckonSoonest_89 : decode cX1_reckonSoonest 89 = .ok (.getfield 113, 3) := by decide +kernel
theorem dX1_reckonSoonest_92 : decode cX1_reckonSoonest 92 = .ok (.iload_n 2, 1) := by decide +kernel
theorem dX1_reckonSoonest_93 : decode cX1_reckonSoonest 93 = .ok (.iaload, 1) := by decide +kernel
theorem dX1_reckonSoonest_94 : decode cX1_reckonSoonest 94 = .ok (.iadd, 1) := by decide +kernel
theorem dX1_reckonSoonest_95 : decode cX1_reckonSoonest 95 = .ok (.aload_n 0, 1) := by decide +kernel
theorem dX1_reckonSoonest_96 : decode cX1_reckonSoonest 96 = .ok (.getfield 38, 3) := by decide +kernel
theorem dX1_reckonSoonest_99 : decode cX1_reckonSoonest 99 = .ok (.getfield 116, 3) := by decide +kernel
theorem dX1_reckonSoonest_102 : decode cX1_reckonSoonest 102 = .ok (.iload_n 2, 1) := by decide +kernel
theorem dX1_reckonSoonest_103 : decode cX1_reckonSoonest 103 = .ok (.iaload, 1) := by decide +kernel
theorem dX1_reckonSoonest_104 : decode cX1_reckonSoonest 104 = .ok (.isub, 1) := by decide +kernel
theorem dX1_reckonSoonest_105 : decode cX1_reckonSoonest 105 = .ok (.invokestatic 119, 3) := by decide +kernel
theorem dX1_reckonSoonest_108 : decode cX1_reckonSoonest 108 = .ok (.iastore, 1) := by decide +kernel
theorem dX1_reckonSoonest_109 : decode cX1_reckonSoonest 109 = .ok (.goto 41, 3) := by decide +kernel
theorem dX1_reckonSoonest_112 : decode cX1_reckonSoonest 112 = .ok (.aload_n 0, 1) := by decide +kernel
theorem dX1_reckonSoonest_113 : decode cX1_reckonSoonest 113 = .ok (.getfield 15, 3) := by decide +kernel
theorem dX1_reckonSoonest_116 : decode cX1_reckonSoonest 116 = .ok (.iload_n 2, 1) := by decide +kernel
theorem dX1_reckonSoonest_117 : decode cX1_reckonSoonest 117 = .ok (.sipush 400, 3) := by decide +kernel
theorem dX1_reckonSoonest_120 : decode cX1_reckonSoonest 120 = .ok (.aload_n 0, 1) := by decide +kernel
theorem dX1_reckonSoonest_121 : decode cX1_reckonSoonest 121 = .ok (.getfield 9, 3) := by decide +kernel
theorem dX1_reckonSoonest_124 : decode cX1_reckonSoonest 124 = .ok (.iload_n 2, 1) := by decide +kernel
theorem dX1_reckonSoonest_125 : decode cX1_reckonSoonest 125 = .ok (.iaload, 1) := by decide +kernel
theorem dX1_reckonSoonest_126 : decode cX1_reckonSoonest 126 = .ok (.aload_n 0, 1) := by decide +kernel
theorem dX1_reckonSoonest_127 : decode cX1_reckonSoonest 127 = .ok (.iload_n 2, 1) := by decide +kernel
theorem dX1_reckonSoonest_128 : decode cX1_reckonSoonest 128 = .ok (.invokevirtual 125, 3) := by decide +kernel
theorem dX1_reckonSoonest_131 : decode cX1_reckonSoonest 131 = .ok (.invokestatic 129, 3) := by decide +kernel
theorem dX1_reckonSoonest_134 : decode cX1_reckonSoonest 134 = .ok (.aload_n 0, 1) := by decide +kernel
theorem dX1_reckonSoonest_135 : decode cX1_reckonSoonest 135 = .ok (.getfield 30, 3) := by decide +kernel
theorem dX1_reckonSoonest_138 : decode cX1_reckonSoonest 138 = .ok (.getfield 113, 3) := by decide +kernel
theorem dX1_reckonSoonest_141 : decode cX1_reckonSoonest 141 = .ok (.iload_n 2, 1) := by decide +kernel
theorem dX1_reckonSoonest_142 : decode cX1_reckonSoonest 142 = .ok (.iaload, 1) := by decide +kernel
theorem dX1_reckonSoonest_143 : decode cX1_reckonSoonest 143 = .ok (.iadd, 1) := by decide +kernel
theorem dX1_reckonSoonest_144 : decode cX1_reckonSoonest 144 = .ok (.iconst 1, 1) := by decide +kernel
theorem dX1_reckonSoonest_145 : decode cX1_reckonSoonest 145 = .ok (.isub, 1) := by decide +kernel
theorem dX1_reckonSoonest_146 : decode cX1_reckonSoonest 146 = .ok (.invokestatic 119, 3) := by decide +kernel
theorem dX1_reckonSoonest_149 : decode cX1_reckonSoonest 149 = .ok (.iastore, 1) := by decide +kernel
theorem dX1_reckonSoonest_150 : decode cX1_reckonSoonest 150 = .ok (.aload_n 0, 1) := by decide +kernel
theorem dX1_reckonSoonest_151 : decode cX1_reckonSoonest 151 = .ok (.dup, 1) := by decide +kernel
theorem dX1_reckonSoonest_152 : decode cX1_reckonSoonest 152 = .ok (.getfield 81, 3) := by decide +kernel
theorem dX1_reckonSoonest_155 : decode cX1_reckonSoonest 155 = .ok (.aload_n 0, 1) := by decide +kernel
theorem dX1_reckonSoonest_156 : decode cX1_reckonSoonest 156 = .ok (.iload_n 2, 1) := by decide +kernel
theorem dX1_reckonSoonest_157 : decode cX1_reckonSoonest 157 = .ok (.aload_n 0, 1) := by decide +kernel
theorem dX1_reckonSoonest_158 : decode cX1_reckonSoonest 158 = .ok (.getfield 15, 3) := by decide +kernel
theorem dX1_reckonSoonest_161 : decode cX1_reckonSoonest 161 = .ok (.iload_n 2, 1) := by decide +kernel
theorem dX1_reckonSoonest_162 : decode cX1_reckonSoonest 162 = .ok (.iaload, 1) := by decide +kernel
theorem dX1_reckonSoonest_163 : decode cX1_reckonSoonest 163 = .ok (.invokevirtual 132, 3) := by decide +kernel
theorem dX1_reckonSoonest_166 : decode cX1_reckonSoonest 166 = .ok (.iadd, 1) := by decide +kernel
theorem dX1_reckonSoonest_167 : decode cX1_reckonSoonest 167 = .ok (.putfield 81, 3) := by decide +kernel
theorem dX1_reckonSoonest_170 : decode cX1_reckonSoonest 170 = .ok (.iinc 2 1, 3) := by decide +kernel
theorem dX1_reckonSoonest_173 : decode cX1_reckonSoonest 173 = .ok (.goto (-166), 3) := by decide +kernel
theorem dX1_reckonSoonest_176 : decode cX1_reckonSoonest 176 = .ok (.return_, 1) := by decide +kernel
theorem dX1_openingOf_0 : decode cX1_openingOf 0 = .ok (.aload_n 0, 1) := by decide +kernel
theorem dX1_openingOf_1 : decode cX1_openingOf 1 = .ok (.getfield 38, 3) := by decide +kernel
theorem dX1_openingOf_4 : decode cX1_openingOf 4 = .ok (.getfield 110, 3) := by decide +kernel
theorem dX1_openingOf_7 : decode cX1_openingOf 7 = .ok (.iconst 1, 1) := by decide +kernel
theorem dX1_openingOf_8 : decode cX1_openingOf 8 = .ok (.iadd, 1) := by decide +kernel
theorem dX1_openingOf_9 : decode cX1_openingOf 9 = .ok (.istore_n 3, 1) := by decide +kernel
theorem dX1_openingOf_10 : decode cX1_openingOf 10 = .ok (.aload_n 0, 1) := by decide +kernel
theorem dX1_openingOf_11 : decode cX1_openingOf 11 = .ok (.getfield 30, 3) := by decide +kernel
theorem dX1_openingOf_14 : decode cX1_openingOf 14 = .ok (.getfield 135, 3) := by decide +kernel
theorem dX1_openingOf_17 : decode cX1_openingOf 17 = .ok (.iload_n 1, 1) := by decide +kernel
theorem dX1_openingOf_18 : decode cX1_openingOf 18 = .ok (.iaload, 1) := by decide +kernel
theorem dX1_openingOf_19 : decode cX1_openingOf 19 = .ok (.aload_n 0, 1) := by decide +kernel
theorem dX1_openingOf_20 : decode cX1_openingOf 20 = .ok (.getfield 34, 3) := by decide +kernel
theorem dX1_openingOf_23 : decode cX1_openingOf 23 = .ok (.getfield 138, 3) := by decide +kernel
theorem dX1_openingOf_26 : decode cX1_openingOf 26 = .ok (.iconst (-1), 1) := by decide +kernel
theorem dX1_openingOf_27 : decode cX1_openingOf 27 = .ok (.ixor, 1) := by decide +kernel
theorem dX1_openingOf_28 : decode cX1_openingOf 28 = .ok (.iand, 1) := by decide +kernel
theorem dX1_openingOf_29 : decode cX1_openingOf 29 = .ok (.istore 4, 2) := by decide +kernel
theorem dX1_openingOf_31 : decode cX1_openingOf 31 = .ok (.iconst 0, 1) := by decide +kernel
theorem dX1_openingOf_32 : decode cX1_openingOf 32 = .ok (.istore 5, 2) := by decide +kernel
theorem dX1_openingOf_34 : decode cX1_openingOf 34 = .ok (.iload 5, 2) := by decide +kernel
theorem dX1_openingOf_36 : decode cX1_openingOf 36 = .ok (.bipush 6, 2) := by decide +kernel
theorem dX1_openingOf_38 : decode cX1_openingOf 38 = .ok (.if_icmp .ge 28, 3) := by decide +kernel
theorem dX1_openingOf_41 : decode cX1_openingOf 41 = .ok (.iload 4, 2) := by decide +kernel
theorem dX1_openingOf_43 : decode cX1_openingOf 43 = .ok (.iload 5, 2) := by decide +kernel
theorem dX1_openingOf_45 : decode cX1_openingOf 45 = .ok (.ishr, 1) := by decide +kernel
theorem dX1_openingOf_46 : decode cX1_openingOf 46 = .ok (.iconst 1, 1) := by decide +kernel
theorem dX1_openingOf_47 : decode cX1_openingOf 47 = .ok (.iand, 1) := by decide +kernel
theorem dX1_openingOf_48 : decode cX1_openingOf 48 = .ok (.ifCond .eq 12, 3) := by decide +kernel
theorem dX1_openingOf_51 : decode cX1_openingOf 51 = .ok (.iload_n 3, 1) := by decide +kernel
theorem dX1_openingOf_52 : decode cX1_openingOf 52 = .ok (.aload_n 2, 1) := by decide +kernel
theorem dX1_openingOf_53 : decode cX1_openingOf 53 = .ok (.iload 5, 2) := by decide +kernel
theorem dX1_openingOf_55 : decode cX1_openingOf 55 = .ok (.iaload, 1) := by decide +kernel
theorem dX1_openingOf_56 : decode cX1_openingOf 56 = .ok (.invokestatic 129, 3) := by decide +kernel
theorem dX1_openingOf_59 : decode cX1_openingOf 59 = .ok (.istore_n 3, 1) := by decide +kernel
theorem dX1_openingOf_60 : decode cX1_openingOf 60 = .ok (.iinc 5 1, 3) := by decide +kernel
theorem dX1_openingOf_63 : decode cX1_openingOf 63 = .ok (.goto (-29), 3) := by decide +kernel
theorem dX1_openingOf_66 : decode cX1_openingOf 66 = .ok (.iload_n 3, 1) := by decide +kernel
theorem dX1_openingOf_67 : decode cX1_openingOf 67 = .ok (.ireturn, 1) := by decide +kernel
theorem dX1_partsOpening_0 : decode cX1_partsOpening 0 = .ok (.iconst 0, 1) := by decide +kernel
theorem dX1_partsOpening_1 : decode cX1_partsOpening 1 = .ok (.istore_n 2, 1) := by decide +kernel
theorem dX1_partsOpening_2 : decode cX1_partsOpening 2 = .ok (.iconst 0, 1) := by decide +kernel
theorem dX1_partsOpening_3 : decode cX1_partsOpening 3 = .ok (.istore_n 3, 1) := by decide +kernel
theorem dX1_partsOpening_4 : decode cX1_partsOpening 4 = .ok (.iload_n 3, 1) := by decide +kernel
theorem dX1_partsOpening_5 : decode cX1_partsOpening 5 = .ok (.iload_n 1, 1) := by decide +kernel
theorem dX1_partsOpening_6 : decode cX1_partsOpening 6 = .ok (.if_icmp .ge 38, 3) := by decide +kernel
theorem dX1_partsOpening_9 : decode cX1_partsOpening 9 = .ok (.aload_n 0, 1) := by decide +kernel
theorem dX1_partsOpening_10 : decode cX1_partsOpening 10 = .ok (.getfield 30, 3) := by decide +kernel
theorem dX1_partsOpening_13 : decode cX1_partsOpening 13 = .ok (.getfield 141, 3) := by decide +kernel
theorem dX1_partsOpening_16 : decode cX1_partsOpening 16 = .ok (.iload_n 1, 1) := by decide +kernel
theorem dX1_partsOpening_17 : decode cX1_partsOpening 17 = .ok (.iaload, 1) := by decide +kernel
theorem dX1_partsOpening_18 : decode cX1_partsOpening 18 = .ok (.iload_n 3, 1) := by decide +kernel
theorem dX1_partsOpening_19 : decode cX1_partsOpening 19 = .ok (.ishr, 1) := by decide +kernel
theorem dX1_partsOpening_20 : decode cX1_partsOpening 20 = .ok (.iconst 1, 1) := by decide +kernel
theorem dX1_partsOpening_21 : decode cX1_partsOpening 21 = .ok (.iand, 1) := by decide +kernel
theorem dX1_partsOpening_22 : decode cX1_partsOpening 22 = .ok (.ifCond .eq 16, 3) := by decide +kernel
theorem dX1_partsOpening_25 : decode cX1_partsOpening 25 = .ok (.iload_n 2, 1) := by decide +kernel
theorem dX1_partsOpening_26 : decode cX1_partsOpening 26 = .ok (.aload_n 0, 1) := by decide +kernel
theorem dX1_partsOpening_27 : decode cX1_partsOpening 27 = .ok (.getfield 15, 3) := by decide +kernel
theorem dX1_partsOpening_30 : decode cX1_partsOpening 30 = .ok (.iload_n 3, 1) := by decide +kernel
theorem dX1_partsOpening_31 : decode cX1_partsOpening 31 = .ok (.iaload, 1) := by decide +kernel
theorem dX1_partsOpening_32 : decode cX1_partsOpening 32 = .ok (.iconst 1, 1) := by decide +kernel
theorem dX1_partsOpening_33 : decode cX1_partsOpening 33 = .ok (.iadd, 1) := by decide +kernel
theorem dX1_partsOpening_34 : decode cX1_partsOpening 34 = .ok (.invokestatic 129, 3) := by decide +kernel
theorem dX1_partsOpening_37 : decode cX1_partsOpening 37 = .ok (.istore_n 2, 1) := by decide +kernel
theorem dX1_partsOpening_38 : decode cX1_partsOpening 38 = .ok (.iinc 3 1, 3) := by decide +kernel
theorem dX1_partsOpening_41 : decode cX1_partsOpening 41 = .ok (.goto (-37), 3) := by decide +kernel
theorem dX1_partsOpening_44 : decode cX1_partsOpening 44 = .ok (.iload_n 2, 1) := by decide +kernel
theorem dX1_partsOpening_45 : decode cX1_partsOpening 45 = .ok (.ireturn, 1) := by decide +kernel
theorem dX1_queueByNumbers_0 : decode cX1_queueByNumbers 0 = .ok (.aload_n 0, 1) := by decide +kernel
theorem dX1_queueByNumbers_1 : decode cX1_queueByNumbers 1 = .ok (.iconst 0, 1) := by decide +kernel
theorem dX1_queueByNumbers_2 : decode cX1_queueByNumbers 2 = .ok (.putfield 144, 3) := by decide +kernel
theorem dX1_queueByNumbers_5 : decode cX1_queueByNumbers 5 = .ok (.iconst 0, 1) := by decide +kernel
theorem dX1_queueByNumbers_6 : decode cX1_queueByNumbers 6 = .ok (.istore_n 1, 1) := by decide +kernel
theorem dX1_queueByNumbers_7 : decode cX1_queueByNumbers 7 = .ok (.iload_n 1, 1) := by decide +kernel
theorem dX1_queueByNumbers_8 : decode cX1_queueByNumbers 8 = .ok (.aload_n 0, 1) := by decide +kernel
theorem dX1_queueByNumbers_9 : decode cX1_queueByNumbers 9 = .ok (.getfield 30, 3) := by decide +kernel
theorem dX1_queueByNumbers_12 : decode cX1_queueByNumbers 12 = .ok (.getfield 91, 3) := by decide +kernel
theorem dX1_queueByNumbers_15 : decode cX1_queueByNumbers 15 = .ok (.if_icmp .ge 14, 3) := by decide +kernel
theorem dX1_queueByNumbers_18 : decode cX1_queueByNumbers 18 = .ok (.aload_n 0, 1) := by decide +kernel
theorem dX1_queueByNumbers_19 : decode cX1_queueByNumbers 19 = .ok (.iload_n 1, 1) := by decide +kernel
theorem dX1_queueByNumbers_20 : decode cX1_queueByNumbers 20 = .ok (.invokevirtual 147, 3) := by decide +kernel
theorem dX1_queueByNumbers_23 : decode cX1_queueByNumbers 23 = .ok (.iinc 1 1, 3) := by decide +kernel
theorem dX1_queueByNumbers_26 : decode cX1_queueByNumbers 26 = .ok (.goto (-19), 3) := by decide +kernel
theorem dX1_queueByNumbers_29 : decode cX1_queueByNumbers 29 = .ok (.return_, 1) := by decide +kernel
theorem dX1_fillQueue_0 : decode cX1_fillQueue 0 = .ok (.aload_n 0, 1) := by decide +kernel
theorem dX1_fillQueue_1 : decode cX1_fillQueue 1 = .ok (.iconst 0, 1) := by decide +kernel
theorem dX1_fillQueue_2 : decode cX1_fillQueue 2 = .ok (.putfield 144, 3) := by decide +kernel
theorem dX1_fillQueue_5 : decode cX1_fillQueue 5 = .ok (.iconst 0, 1) := by decide +kernel
theorem dX1_fillQueue_6 : decode cX1_fillQueue 6 = .ok (.istore_n 2, 1) := by decide +kernel
theorem dX1_fillQueue_7 : decode cX1_fillQueue 7 = .ok (.iload_n 2, 1) := by decide +kernel
theorem dX1_fillQueue_8 : decode cX1_fillQueue 8 = .ok (.aload_n 0, 1) := by decide +kernel
theorem dX1_fillQueue_9 : decode cX1_fillQueue 9 = .ok (.getfield 30, 3) := by decide +kernel
theorem dX1_fillQueue_12 : decode cX1_fillQueue 12 = .ok (.getfield 91, 3) := by decide +kernel
theorem dX1_fillQueue_15 : decode cX1_fillQueue 15 = .ok (.if_icmp .ge 16, 3) := by decide +kernel
theorem dX1_fillQueue_18 : decode cX1_fillQueue 18 = .ok (.aload_n 0, 1) := by decide +kernel
theorem dX1_fillQueue_19 : decode cX1_fillQueue 19 = .ok (.aload_n 1, 1) := by decide +kernel
theorem dX1_fillQueue_20 : decode cX1_fillQueue 20 = .ok (.iload_n 2, 1) := by decide +kernel
theorem dX1_fillQueue_21 : decode cX1_fillQueue 21 = .ok (.iaload, 1) := by decide +kernel
theorem dX1_fillQueue_22 : decode cX1_fillQueue 22 = .ok (.invokevirtual 147, 3) := by decide +kernel
theorem dX1_fillQueue_25 : decode cX1_fillQueue 25 = .ok (.iinc 2 1, 3) := by decide +kernel
theorem dX1_fillQueue_28 : decode cX1_fillQueue 28 = .ok (.goto (-21), 3) := by decide +kernel
theorem dX1_fillQueue_31 : decode cX1_fillQueue 31 = .ok (.return_, 1) := by decide +kernel
theorem dX1_enqueue_0 : decode cX1_enqueue 0 = .ok (.aload_n 0, 1) := by decide +kernel
theorem dX1_enqueue_1 : decode cX1_enqueue 1 = .ok (.getfield 30, 3) := by decide +kernel
theorem dX1_enqueue_4 : decode cX1_enqueue 4 = .ok (.iload_n 1, 1) := by decide +kernel
theorem dX1_enqueue_5 : decode cX1_enqueue 5 = .ok (.invokevirtual 150, 3) := by decide +kernel
theorem dX1_enqueue_8 : decode cX1_enqueue 8 = .ok (.ifCond .eq 40, 3) := by decide +kernel
theorem dX1_enqueue_11 : decode cX1_enqueue 11 = .ok (.aload_n 0, 1) := by decide +kernel
theorem dX1_enqueue_12 : decode cX1_enqueue 12 = .ok (.iload_n 1, 1) := by decide +kernel
theorem dX1_enqueue_13 : decode cX1_enqueue 13 = .ok (.invokevirtual 153, 3) := by decide +kernel
theorem dX1_enqueue_16 : decode cX1_enqueue 16 = .ok (.ifCond .eq 32, 3) := by decide +kernel
theorem dX1_enqueue_19 : decode cX1_enqueue 19 = .ok (.aload_n 0, 1) := by decide +kernel
theorem dX1_enqueue_20 : decode cX1_enqueue 20 = .ok (.getfield 144, 3) := by decide +kernel
theorem dX1_enqueue_23 : decode cX1_enqueue 23 = .ok (.bipush 7, 2) := by decide +kernel
theorem dX1_enqueue_25 : decode cX1_enqueue 25 = .ok (.if_icmp .ge 23, 3) := by decide +kernel
theorem dX1_enqueue_28 : decode cX1_enqueue 28 = .ok (.aload_n 0, 1) := by decide +kernel
theorem dX1_enqueue_29 : decode cX1_enqueue 29 = .ok (.getfield 24, 3) := by decide +kernel
theorem dX1_enqueue_32 : decode cX1_enqueue 32 = .ok (.aload_n 0, 1) := by decide +kernel
theorem dX1_enqueue_33 : decode cX1_enqueue 33 = .ok (.getfield 144, 3) := by decide +kernel
theorem dX1_enqueue_36 : decode cX1_enqueue 36 = .ok (.iload_n 1, 1) := by decide +kernel
theorem dX1_enqueue_37 : decode cX1_enqueue 37 = .ok (.iastore, 1) := by decide +kernel
theorem dX1_enqueue_38 : decode cX1_enqueue 38 = .ok (.aload_n 0, 1) := by decide +kernel
theorem dX1_enqueue_39 : decode cX1_enqueue 39 = .ok (.dup, 1) := by decide +kernel
theorem dX1_enqueue_40 : decode cX1_enqueue 40 = .ok (.getfield 144, 3) := by decide +kernel
theorem dX1_enqueue_43 : decode cX1_enqueue 43 = .ok (.iconst 1, 1) := by decide +kernel
theorem dX1_enqueue_44 : decode cX1_enqueue 44 = .ok (.iadd, 1) := by decide +kernel
theorem dX1_enqueue_45 : decode cX1_enqueue 45 = .ok (.putfield 144, 3) := by decide +kernel
theorem dX1_enqueue_48 : decode cX1_enqueue 48 = .ok (.return_, 1) := by decide +kernel
theorem dX1_isWaiting_0 : decode cX1_isWaiting 0 = .ok (.aload_n 0, 1) := by decide +kernel
theorem dX1_isWaiting_1 : decode cX1_isWaiting 1 = .ok (.getfield 38, 3) := by decide +kernel
theorem dX1_isWaiting_4 : decode cX1_isWaiting 4 = .ok (.iload_n 1, 1) := by decide +kernel
theorem dX1_isWaiting_5 : decode cX1_isWaiting 5 = .ok (.invokevirtual 100, 3) := by decide +kernel
theorem dX1_isWaiting_8 : decode cX1_isWaiting 8 = .ok (.ifCond .ne 18, 3) := by decide +kernel
theorem dX1_isWaiting_11 : decode cX1_isWaiting 11 = .ok (.aload_n 0, 1) := by decide +kernel
theorem dX1_isWaiting_12 : decode cX1_isWaiting 12 = .ok (.getfield 38, 3) := by decide +kernel
theorem dX1_isWaiting_15 : decode cX1_isWaiting 15 = .ok (.iload_n 1, 1) := by decide +kernel
theorem dX1_isWaiting_16 : decode cX1_isWaiting 16 = .ok (.invokevirtual 107, 3) := by decide +kernel
theorem dX1_isWaiting_19 : decode cX1_isWaiting 19 = .ok (.ifCond .ne 7, 3) := by decide +kernel
theorem dX1_isWaiting_22 : decode cX1_isWaiting 22 = .ok (.iconst 1, 1) := by decide +kernel
theorem dX1_isWaiting_23 : decode cX1_isWaiting 23 = .ok (.goto 4, 3) := by decide +kernel
theorem dX1_isWaiting_26 : decode cX1_isWaiting 26 = .ok (.iconst 0, 1) := by decide +kernel
theorem dX1_isWaiting_27 : decode cX1_isWaiting 27 = .ok (.ireturn, 1) := by decide +kernel
theorem dX1_costOf_0 : decode cX1_costOf 0 = .ok (.iconst 0, 1) := by decide +kernel
theorem dX1_costOf_1 : decode cX1_costOf 1 = .ok (.iload_n 2, 1) := by decide +kernel
theorem dX1_costOf_2 : decode cX1_costOf 2 = .ok (.aload_n 0, 1) := by decide +kernel
theorem dX1_costOf_3 : decode cX1_costOf 3 = .ok (.getfield 30, 3) := by decide +kernel
theorem dX1_costOf_6 : decode cX1_costOf 6 = .ok (.getfield 156, 3) := by decide +kernel
theorem dX1_costOf_9 : decode cX1_costOf 9 = .ok (.iload_n 1, 1) := by decide +kernel
theorem dX1_costOf_10 : decode cX1_costOf 10 = .ok (.iaload, 1) := by decide +kernel
theorem dX1_costOf_11 : decode cX1_costOf 11 = .ok (.isub, 1) := by decide +kernel
theorem dX1_costOf_12 : decode cX1_costOf 12 = .ok (.invokestatic 129, 3) := by decide +kernel
theorem dX1_costOf_15 : decode cX1_costOf 15 = .ok (.aload_n 0, 1) := by decide +kernel
theorem dX1_costOf_16 : decode cX1_costOf 16 = .ok (.getfield 30, 3) := by decide +kernel
theorem dX1_costOf_19 : decode cX1_costOf 19 = .ok (.getfield 159, 3) := by decide +kernel
theorem dX1_costOf_22 : decode cX1_costOf 22 = .ok (.iload_n 1, 1) := by decide +kernel
theorem dX1_costOf_23 : decode cX1_costOf 23 = .ok (.iaload, 1) := by decide +kernel
theorem dX1_costOf_24 : decode cX1_costOf 24 = .ok (.imul, 1) := by decide +kernel
theorem dX1_costOf_25 : decode cX1_costOf 25 = .ok (.ireturn, 1) := by decide +kernel
theorem dX1_runAhead_0 : decode cX1_runAhead 0 = .ok (.aload_n 0, 1) := by decide +kernel
theorem dX1_runAhead_1 : decode cX1_runAhead 1 = .ok (.invokevirtual 162, 3) := by decide +kernel
theorem dX1_runAhead_4 : decode cX1_runAhead 4 = .ok (.aload_n 0, 1) := by decide +kernel
theorem dX1_runAhead_5 : decode cX1_runAhead 5 = .ok (.getfield 38, 3) := by decide +kernel
theorem dX1_runAhead_8 : decode cX1_runAhead 8 = .ok (.getfield 110, 3) := by decide +kernel
theorem dX1_runAhead_11 : decode cX1_runAhead 11 = .ok (.iconst 1, 1) := by decide +kernel
theorem dX1_runAhead_12 : decode cX1_runAhead 12 = .ok (.iadd, 1) := by decide +kernel
theorem dX1_runAhead_13 : decode cX1_runAhead 13 = .ok (.istore_n 2, 1) := by decide +kernel
theorem dX1_runAhead_14 : decode cX1_runAhead 14 = .ok (.iload_n 2, 1) := by decide +kernel
theorem dX1_runAhead_15 : decode cX1_runAhead 15 = .ok (.sipush 399, 3) := by decide +kernel
theorem dX1_runAhead_18 : decode cX1_runAhead 18 = .ok (.if_icmp .gt 74, 3) := by decide +kernel
theorem dX1_runAhead_21 : decode cX1_runAhead 21 = .ok (.aload_n 0, 1) := by decide +kernel
theorem dX1_runAhead_22 : decode cX1_runAhead 22 = .ok (.iload_n 1, 1) := by decide +kernel
theorem dX1_runAhead_23 : decode cX1_runAhead 23 = .ok (.invokevirtual 165, 3) := by decide +kernel
theorem dX1_runAhead_26 : decode cX1_runAhead 26 = .ok (.ifCond .eq 66, 3) := by decide +kernel
theorem dX1_runAhead_29 : decode cX1_runAhead 29 = .ok (.aload_n 0, 1) := by decide +kernel
theorem dX1_runAhead_30 : decode cX1_runAhead 30 = .ok (.iload_n 2, 1) := by decide +kernel
theorem dX1_runAhead_31 : decode cX1_runAhead 31 = .ok (.invokevirtual 168, 3) := by decide +kernel
theorem dX1_runAhead_34 : decode cX1_runAhead 34 = .ok (.iconst 0, 1) := by decide +kernel
theorem dX1_runAhead_35 : decode cX1_runAhead 35 = .ok (.istore_n 3, 1) := by decide +kernel
theorem dX1_runAhead_36 : decode cX1_runAhead 36 = .ok (.iload_n 3, 1) := by decide +kernel
theorem dX1_runAhead_37 : decode cX1_runAhead 37 = .ok (.aload_n 0, 1) := by decide +kernel
theorem dX1_runAhead_38 : decode cX1_runAhead 38 = .ok (.getfield 38, 3) := by decide +kernel
theorem dX1_runAhead_41 : decode cX1_runAhead 41 = .ok (.getfield 171, 3) := by decide +kernel
theorem dX1_runAhead_44 : decode cX1_runAhead 44 = .ok (.if_icmp .ge 33, 3) := by decide +kernel
theorem dX1_runAhead_47 : decode cX1_runAhead 47 = .ok (.aload_n 0, 1) := by decide +kernel
theorem dX1_runAhead_48 : decode cX1_runAhead 48 = .ok (.iload_n 1, 1) := by decide +kernel
theorem dX1_runAhead_49 : decode cX1_runAhead 49 = .ok (.invokevirtual 165, 3) := by decide +kernel
theorem dX1_runAhead_52 : decode cX1_runAhead 52 = .ok (.ifCond .eq 25, 3) := by decide +kernel
theorem dX1_runAhead_55 : decode cX1_runAhead 55 = .ok (.aload_n 0, 1) := by decide +kernel
theorem dX1_runAhead_56 : decode cX1_runAhead 56 = .ok (.getfield 21, 3) := by decide +kernel
theorem dX1_runAhead_59 : decode cX1_runAhead 59 = .ok (.iload_n 3, 1) := by decide +kernel
theorem dX1_runAhead_60 : decode cX1_runAhead 60 = .ok (.iaload, 1) := by decide +kernel
theorem dX1_runAhead_61 : decode cX1_runAhead 61 = .ok (.iload_n 2, 1) := by decide +kernel
theorem dX1_runAhead_62 : decode cX1_runAhead 62 = .ok (.if_icmp .gt 9, 3) := by decide +kernel
theorem dX1_runAhead_65 : decode cX1_runAhead 65 = .ok (.aload_n 0, 1) := by decide +kernel
theorem dX1_runAhead_66 : decode cX1_runAhead 66 = .ok (.iload_n 3, 1) := by decide +kernel
theorem dX1_runAhead_67 : decode cX1_runAhead 67 = .ok (.iload_n 2, 1) := by decide +kernel
theorem dX1_runAhead_68 : decode cX1_runAhead 68 = .ok (.invokevirtual 174, 3) := by decide +kernel
theorem dX1_runAhead_71 : decode cX1_runAhead 71 = .ok (.iinc 3 1, 3) := by decide +kernel
theorem dX1_runAhead_74 : decode cX1_runAhead 74 = .ok (.goto (-38), 3) := by decide +kernel
theorem dX1_runAhead_77 : decode cX1_runAhead 77 = .ok (.iload_n 2, 1) := by decide +kernel
theorem dX1_runAhead_78 : decode cX1_runAhead 78 = .ok (.iconst 1, 1) := by decide +kernel
theorem dX1_runAhead_79 : decode cX1_runAhead 79 = .ok (.iadd, 1) := by decide +kernel
theorem dX1_runAhead_80 : decode cX1_runAhead 80 = .ok (.aload_n 0, 1) := by decide +kernel
theorem dX1_runAhead_81 : decode cX1_runAhead 81 = .ok (.iload_n 2, 1) := by decide +kernel
theorem dX1_runAhead_82 : decode cX1_runAhead 82 = .ok (.invokevirtual 178, 3) := by decide +kernel
theorem dX1_runAhead_85 : decode cX1_runAhead 85 = .ok (.invokestatic 129, 3) := by decide +kernel
theorem dX1_runAhead_88 : decode cX1_runAhead 88 = .ok (.istore_n 2, 1) := by decide +kernel
theorem dX1_runAhead_89 : decode cX1_runAhead 89 = .ok (.goto (-75), 3) := by decide +kernel
theorem dX1_runAhead_92 : decode cX1_runAhead 92 = .ok (.iconst 0, 1) := by decide +kernel
theorem dX1_runAhead_93 : decode cX1_runAhead 93 = .ok (.istore_n 2, 1) := by decide +kernel
theorem dX1_runAhead_94 : decode cX1_runAhead 94 = .ok (.iload_n 2, 1) := by decide +kernel
theorem dX1_runAhead_95 : decode cX1_runAhead 95 = .ok (.aload_n 0, 1) := by decide +kernel
theorem dX1_runAhead_96 : decode cX1_runAhead 96 = .ok (.getfield 144, 3) := by decide +kernel
theorem dX1_runAhead_99 : decode cX1_runAhead 99 = .ok (.if_icmp .ge 38, 3) := by decide +kernel
theorem dX1_runAhead_102 : decode cX1_runAhead 102 = .ok (.aload_n 0, 1) := by decide +kernel
theorem dX1_runAhead_103 : decode cX1_runAhead 103 = .ok (.getfield 181, 3) := by decide +kernel
theorem dX1_runAhead_106 : decode cX1_runAhead 106 = .ok (.aload_n 0, 1) := by decide +kernel
theorem dX1_runAhead_107 : decode cX1_runAhead 107 = .ok (.getfield 24, 3) := by decide +kernel
theorem dX1_runAhead_110 : decode cX1_runAhead 110 = .ok (.iload_n 2, 1) := by decide +kernel
theorem dX1_runAhead_111 : decode cX1_runAhead 111 = .ok (.iaload, 1) := by decide +kernel
theorem dX1_runAhead_112 : decode cX1_runAhead 112 = .ok (.ishr, 1) := by decide +kernel
theorem dX1_runAhead_113 : decode cX1_runAhead 113 = .ok (.iconst 1, 1) := by decide +kernel
theorem dX1_runAhead_114 : decode cX1_runAhead 114 = .ok (.iand, 1) := by decide +kernel
theorem dX1_runAhead_115 : decode cX1_runAhead 115 = .ok (.ifCond .ne 16, 3) := by decide +kernel
theorem dX1_runAhead_118 : decode cX1_runAhead 118 = .ok (.aload_n 0, 1) := by decide +kernel
theorem dX1_runAhead_119 : decode cX1_runAhead 119 = .ok (.aload_n 0, 1) := by decide +kernel
theorem dX1_runAhead_120 : decode cX1_runAhead 120 = .ok (.getfield 24, 3) := by decide +kernel
theorem dX1_runAhead_123 : decode cX1_runAhead 123 = .ok (.iload_n 2, 1) := by decide +kernel
theorem dX1_runAhead_124 : decode cX1_runAhead 124 = .ok (.iaload, 1) := by decide +kernel
theorem dX1_runAhead_125 : decode cX1_runAhead 125 = .ok (.sipush 400, 3) := by decide +kernel
theorem dX1_runAhead_128 : decode cX1_runAhead 128 = .ok (.invokevirtual 184, 3) := by decide +kernel
theorem dX1_runAhead_131 : decode cX1_runAhead 131 = .ok (.iinc 2 1, 3) := by decide +kernel
theorem dX1_runAhead_134 : decode cX1_runAhead 134 = .ok (.goto (-40), 3) := by decide +kernel
theorem dX1_runAhead_137 : decode cX1_runAhead 137 = .ok (.return_, 1) := by decide +kernel
theorem dX1_isOpen_0 : decode cX1_isOpen 0 = .ok (.aload_n 0, 1) := by decide +kernel
theorem dX1_isOpen_1 : decode cX1_isOpen 1 = .ok (.getfield 74, 3) := by decide +kernel
theorem dX1_isOpen_4 : decode cX1_isOpen 4 = .ok (.iload_n 1, 1) := by decide +kernel
theorem dX1_isOpen_5 : decode cX1_isOpen 5 = .ok (.if_icmp .ge 21, 3) := by decide +kernel
theorem dX1_isOpen_8 : decode cX1_isOpen 8 = .ok (.aload_n 0, 1) := by decide +kernel
theorem dX1_isOpen_9 : decode cX1_isOpen 9 = .ok (.getfield 181, 3) := by decide +kernel
theorem dX1_isOpen_12 : decode cX1_isOpen 12 = .ok (.invokestatic 187, 3) := by decide +kernel
theorem dX1_isOpen_15 : decode cX1_isOpen 15 = .ok (.aload_n 0, 1) := by decide +kernel
theorem dX1_isOpen_16 : decode cX1_isOpen 16 = .ok (.getfield 144, 3) := by decide +kernel
theorem dX1_isOpen_19 : decode cX1_isOpen 19 = .ok (.if_icmp .ge 7, 3) := by decide +kernel
theorem dX1_isOpen_22 : decode cX1_isOpen 22 = .ok (.iconst 1, 1) := by decide +kernel
theorem dX1_isOpen_23 : decode cX1_isOpen 23 = .ok (.goto 4, 3) := by decide +kernel
theorem dX1_isOpen_26 : decode cX1_isOpen 26 = .ok (.iconst 0, 1) := by decide +kernel
theorem dX1_isOpen_27 : decode cX1_isOpen 27 = .ok (.ireturn, 1) := by decide +kernel
theorem dX1_startRun_0 : decode cX1_startRun 0 = .ok (.aload_n 0, 1) := by decide +kernel
theorem dX1_startRun_1 : decode cX1_startRun 1 = .ok (.aload_n 0, 1) := by decide +kernel
theorem dX1_startRun_2 : decode cX1_startRun 2 = .ok (.getfield 81, 3) := by decide +kernel
theorem dX1_startRun_5 : decode cX1_startRun 5 = .ok (.putfield 74, 3) := by decide +kernel
theorem dX1_startRun_8 : decode cX1_startRun 8 = .ok (.aload_n 0, 1) := by decide +kernel
theorem dX1_startRun_9 : decode cX1_startRun 9 = .ok (.iconst 0, 1) := by decide +kernel
theorem dX1_startRun_10 : decode cX1_startRun 10 = .ok (.putfield 192, 3) := by decide +kernel
theorem dX1_startRun_13 : decode cX1_startRun 13 = .ok (.aload_n 0, 1) := by decide +kernel
theorem dX1_startRun_14 : decode cX1_startRun 14 = .ok (.iconst 0, 1) := by decide +kernel
theorem dX1_startRun_15 : decode cX1_startRun 15 = .ok (.putfield 181, 3) := by decide +kernel
theorem dX1_startRun_18 : decode cX1_startRun 18 = .ok (.iconst 0, 1) := by decide +kernel
theorem dX1_startRun_19 : decode cX1_startRun 19 = .ok (.istore_n 1, 1) := by decide +kernel
theorem dX1_startRun_20 : decode cX1_startRun 20 = .ok (.iload_n 1, 1) := by decide +kernel
theorem dX1_startRun_21 : decode cX1_startRun 21 = .ok (.aload_n 0, 1) := by decide +kernel
theorem dX1_startRun_22 : decode cX1_startRun 22 = .ok (.getfield 30, 3) := by decide +kernel
theorem dX1_startRun_25 : decode cX1_startRun 25 = .ok (.getfield 91, 3) := by decide +kernel
theorem dX1_startRun_28 : decode cX1_startRun 28 = .ok (.if_icmp .ge 35, 3) := by decide +kernel
theorem dX1_startRun_31 : decode cX1_startRun 31 = .ok (.aload_n 0, 1) := by decide +kernel
theorem dX1_startRun_32 : decode cX1_startRun 32 = .ok (.getfield 18, 3) := by decide +kernel
theorem dX1_startRun_35 : decode cX1_startRun 35 = .ok (.iload_n 1, 1) := by decide +kernel
theorem dX1_startRun_36 : decode cX1_startRun 36 = .ok (.aload_n 0, 1) := by decide +kernel
theorem dX1_startRun_37 : decode cX1_startRun 37 = .ok (.iload_n 1, 1) := by decide +kernel
theorem dX1_startRun_38 : decode cX1_startRun 38 = .ok (.invokevirtual 153, 3) := by decide +kernel
theorem dX1_startRun_41 : decode cX1_startRun 41 = .ok (.ifCond .eq 9, 3) := by decide +kernel
theorem dX1_startRun_44 : decode cX1_startRun 44 = .ok (.sipush 400, 3) := by decide +kernel
theorem dX1_startRun_47 : decode cX1_startRun 47 = .ok (.goto 9, 3) := by decide +kernel
theorem dX1_startRun_50 : decode cX1_startRun 50 = .ok (.aload_n 0, 1) := by decide +kernel
theorem dX1_startRun_51 : decode cX1_startRun 51 = .ok (.getfield 15, 3) := by decide +kernel
theorem dX1_startRun_54 : decode cX1_startRun 54 = .ok (.iload_n 1, 1) := by decide +kernel
theorem dX1_startRun_55 : decode cX1_startRun 55 = .ok (.iaload, 1) := by decide +kernel
theorem dX1_startRun_56 : decode cX1_startRun 56 = .ok (.iastore, 1) := by decide +kernel
theorem dX1_startRun_57 : decode cX1_startRun 57 = .ok (.iinc 1 1, 3) := by decide +kernel
theorem dX1_startRun_60 : decode cX1_startRun 60 = .ok (.goto (-40), 3) := by decide +kernel
theorem dX1_startRun_63 : decode cX1_startRun 63 = .ok (.iconst 0, 1) := by decide +kernel
theorem dX1_startRun_64 : decode cX1_startRun 64 = .ok (.istore_n 1, 1) := by decide +kernel
theorem dX1_startRun_65 : decode cX1_startRun 65 = .ok (.iload_n 1, 1) := by decide +kernel
theorem dX1_startRun_66 : decode cX1_startRun 66 = .ok (.iconst 3, 1) := by decide +kernel
theorem dX1_startRun_67 : decode cX1_startRun 67 = .ok (.if_icmp .ge 56, 3) := by decide +kernel
theorem dX1_startRun_70 : decode cX1_startRun 70 = .ok (.aload_n 0, 1) := by decide +kernel
theorem dX1_startRun_71 : decode cX1_startRun 71 = .ok (.getfield 38, 3) := by decide +kernel
theorem dX1_startRun_74 : decode cX1_startRun 74 = .ok (.getfield 195, 3) := by decide +kernel
theorem dX1_startRun_77 : decode cX1_startRun 77 = .ok (.iload_n 1, 1) := by decide +kernel
theorem dX1_startRun_78 : decode cX1_startRun 78 = .ok (.iaload, 1) := by decide +kernel
theorem dX1_startRun_79 : decode cX1_startRun 79 = .ok (.istore_n 2, 1) := by decide +kernel
theorem dX1_startRun_80 : decode cX1_startRun 80 = .ok (.aload_n 0, 1) := by decide +kernel
theorem dX1_startRun_81 : decode cX1_startRun 81 = .ok (.getfield 21, 3) := by decide +kernel
theorem dX1_startRun_84 : decode cX1_startRun 84 = .ok (.iload_n 1, 1) := by decide +kernel
theorem dX1_startRun_85 : decode cX1_startRun 85 = .ok (.aload_n 0, 1) := by decide +kernel
theorem dX1_startRun_86 : decode cX1_startRun 86 = .ok (.getfield 30, 3) := by decide +kernel
theorem dX1_startRun_89 : decode cX1_startRun 89 = .ok (.iload_n 2, 1) := by decide +kernel
theorem dX1_startRun_90 : decode cX1_startRun 90 = .ok (.invokevirtual 150, 3) := by decide +kernel
theorem dX1_startRun_93 : decode cX1_startRun 93 = .ok (.ifCond .eq 14, 3) := by decide +kernel
theorem dX1_startRun_96 : decode cX1_startRun 96 = .ok (.aload_n 0, 1) := by decide +kernel
theorem dX1_startRun_97 : decode cX1_startRun 97 = .ok (.getfield 15, 3) := by decide +kernel
theorem dX1_startRun_100 : decode cX1_startRun 100 = .ok (.iload_n 2, 1) := by decide +kernel
theorem dX1_startRun_101 : decode cX1_startRun 101 = .ok (.iaload, 1) := by decide +kernel
theorem dX1_startRun_102 : decode cX1_startRun 102 = .ok (.iconst 1, 1) := by decide +kernel
theorem dX1_startRun_103 : decode cX1_startRun 103 = .ok (.iadd, 1) := by decide +kernel
theorem dX1_startRun_104 : decode cX1_startRun 104 = .ok (.goto 12, 3) := by decide +kernel
theorem dX1_startRun_107 : decode cX1_startRun 107 = .ok (.aload_n 0, 1) := by decide +kernel
theorem dX1_startRun_108 : decode cX1_startRun 108 = .ok (.getfield 38, 3) := by decide +kernel
theorem dX1_startRun_111 : decode cX1_startRun 111 = .ok (.getfield 110, 3) := by decide +kernel
theorem dX1_startRun_114 : decode cX1_startRun 114 = .ok (.iconst 1, 1) := by decide +kernel
theorem dX1_startRun_115 : decode cX1_startRun 115 = .ok (.iadd, 1) := by decide +kernel
theorem dX1_startRun_116 : decode cX1_startRun 116 = .ok (.iastore, 1) := by decide +kernel
theorem dX1_startRun_117 : decode cX1_startRun 117 = .ok (.iinc 1 1, 3) := by decide +kernel
theorem dX1_startRun_120 : decode cX1_startRun 120 = .ok (.goto (-55), 3) := by decide +kernel
theorem dX1_startRun_123 : decode cX1_startRun 123 = .ok (.return_, 1) := by decide +kernel
theorem dX1_noteEnded_0 : decode cX1_noteEnded 0 = .ok (.aload_n 0, 1) := by decide +kernel
theorem dX1_noteEnded_1 : decode cX1_noteEnded 1 = .ok (.iconst 0, 1) := by decide +kernel
theorem dX1_noteEnded_2 : decode cX1_noteEnded 2 = .ok (.putfield 198, 3) := by decide +kernel
theorem dX1_noteEnded_5 : decode cX1_noteEnded 5 = .ok (.iconst 0, 1) := by decide +kernel
theorem dX1_noteEnded_6 : decode cX1_noteEnded 6 = .ok (.istore_n 2, 1) := by decide +kernel
theorem dX1_noteEnded_7 : decode cX1_noteEnded 7 = .ok (.iload_n 2, 1) := by decide +kernel
theorem dX1_noteEnded_8 : decode cX1_noteEnded 8 = .ok (.aload_n 0, 1) := by decide +kernel
theorem dX1_noteEnded_9 : decode cX1_noteEnded 9 = .ok (.getfield 30, 3) := by decide +kernel
theorem dX1_noteEnded_12 : decode cX1_noteEnded 12 = .ok (.getfield 91, 3) := by decide +kernel
theorem dX1_noteEnded_15 : decode cX1_noteEnded 15 = .ok (.if_icmp .ge 31, 3) := by decide +kernel
theorem dX1_noteEnded_18 : decode cX1_noteEnded 18 = .ok (.aload_n 0, 1) := by decide +kernel
theorem dX1_noteEnded_19 : decode cX1_noteEnded 19 = .ok (.getfield 18, 3) := by decide +kernel
theorem dX1_noteEnded_22 : decode cX1_noteEnded 22 = .ok (.iload_n 2, 1) := by decide +kernel
theorem dX1_noteEnded_23 : decode cX1_noteEnded 23 = .ok (.iaload, 1) := by decide +kernel
theorem dX1_noteEnded_24 : decode cX1_noteEnded 24 = .ok (.iload_n 1, 1) := by decide +kernel
theorem dX1_noteEnded_25 : decode cX1_noteEnded 25 = .ok (.if_icmp .ge 15, 3) := by decide +kernel
theorem dX1_noteEnded_28 : decode cX1_noteEnded 28 = .ok (.aload_n 0, 1) := by decide +kernel
theorem dX1_noteEnded_29 : decode cX1_noteEnded 29 = .ok (.dup, 1) := by decide +kernel
theorem dX1_noteEnded_30 : decode cX1_noteEnded 30 = .ok (.getfield 198, 3) := by decide +kernel
theorem dX1_noteEnded_33 : decode cX1_noteEnded 33 = .ok (.iconst 1, 1) := by decide +kernel
theorem dX1_noteEnded_34 : decode cX1_noteEnded 34 = .ok (.iload_n 2, 1) := by decide +kernel
theorem dX1_noteEnded_35 : decode cX1_noteEnded 35 = .ok (.ishl, 1) := by decide +kernel
theorem dX1_noteEnded_36 : decode cX1_noteEnded 36 = .ok (.ior, 1) := by decide +kernel
theorem dX1_noteEnded_37 : decode cX1_noteEnded 37 = .ok (.putfield 198, 3) := by decide +kernel
theorem dX1_noteEnded_40 : decode cX1_noteEnded 40 = .ok (.iinc 2 1, 3) := by decide +kernel
theorem dX1_noteEnded_43 : decode cX1_noteEnded 43 = .ok (.goto (-36), 3) := by decide +kernel
theorem dX1_noteEnded_46 : decode cX1_noteEnded 46 = .ok (.return_, 1) := by decide +kernel
theorem dX1_nextChange_0 : decode cX1_nextChange 0 = .ok (.sipush 400, 3) := by decide +kernel
theorem dX1_nextChange_3 : decode cX1_nextChange 3 = .ok (.istore_n 2, 1) := by decide +kernel
theorem dX1_nextChange_4 : decode cX1_nextChange 4 = .ok (.iconst 0, 1) := by decide +kernel
theorem dX1_nextChange_5 : decode cX1_nextChange 5 = .ok (.istore_n 3, 1) := by decide +kernel
theorem dX1_nextChange_6 : decode cX1_nextChange 6 = .ok (.iload_n 3, 1) := by decide +kernel
theorem dX1_nextChange_7 : decode cX1_nextChange 7 = .ok (.aload_n 0, 1) := by decide +kernel
theorem dX1_nextChange_8 : decode cX1_nextChange 8 = .ok (.getfield 38, 3) := by decide +kernel
theorem dX1_nextChange_11 : decode cX1_nextChange 11 = .ok (.getfield 171, 3) := by decide +kernel
theorem dX1_nextChange_14 : decode cX1_nextChange 14 = .ok (.if_icmp .ge 30, 3) := by decide +kernel
theorem dX1_nextChange_17 : decode cX1_nextChange 17 = .ok (.aload_n 0, 1) := by decide +kernel
theorem dX1_nextChange_18 : decode cX1_nextChange 18 = .ok (.getfield 21, 3) := by decide +kernel
theorem dX1_nextChange_21 : decode cX1_nextChange 21 = .ok (.iload_n 3, 1) := by decide +kernel
theorem dX1_nextChange_22 : decode cX1_nextChange 22 = .ok (.iaload, 1) := by decide +kernel
theorem dX1_nextChange_23 : decode cX1_nextChange 23 = .ok (.iload_n 1, 1) := by decide +kernel
theorem dX1_nextChange_24 : decode cX1_nextChange 24 = .ok (.if_icmp .le 14, 3) := by decide +kernel
theorem dX1_nextChange_27 : decode cX1_nextChange 27 = .ok (.iload_n 2, 1) := by decide +kernel
theorem dX1_nextChange_28 : decode cX1_nextChange 28 = .ok (.aload_n 0, 1) := by decide +kernel
theorem dX1_nextChange_29 : decode cX1_nextChange 29 = .ok (.getfield 21, 3) := by decide +kernel
theorem dX1_nextChange_32 : decode cX1_nextChange 32 = .ok (.iload_n 3, 1) := by decide +kernel
theorem dX1_nextChange_33 : decode cX1_nextChange 33 = .ok (.iaload, 1) := by decide +kernel
theorem dX1_nextChange_34 : decode cX1_nextChange 34 = .ok (.invokestatic 119, 3) := by decide +kernel
theorem dX1_nextChange_37 : decode cX1_nextChange 37 = .ok (.istore_n 2, 1) := by decide +kernel
theorem dX1_nextChange_38 : decode cX1_nextChange 38 = .ok (.iinc 3 1, 3) := by decide +kernel
theorem dX1_nextChange_41 : decode cX1_nextChange 41 = .ok (.goto (-35), 3) := by decide +kernel
theorem dX1_nextChange_44 : decode cX1_nextChange 44 = .ok (.iconst 0, 1) := by decide +kernel
theorem dX1_nextChange_45 : decode cX1_nextChange 45 = .ok (.istore_n 3, 1) := by decide +kernel
theorem dX1_nextChange_46 : decode cX1_nextChange 46 = .ok (.iload_n 3, 1) := by decide +kernel
theorem dX1_nextChange_47 : decode cX1_nextChange 47 = .ok (.aload_n 0, 1) := by decide +kernel
theorem dX1_nextChange_48 : decode cX1_nextChange 48 = .ok (.getfield 144, 3) := by decide +kernel
theorem dX1_nextChange_51 : decode cX1_nextChange 51 = .ok (.if_icmp .ge 40, 3) := by decide +kernel
theorem dX1_nextChange_54 : decode cX1_nextChange 54 = .ok (.aload_n 0, 1) := by decide +kernel
theorem dX1_nextChange_55 : decode cX1_nextChange 55 = .ok (.getfield 9, 3) := by decide +kernel
theorem dX1_nextChange_58 : decode cX1_nextChange 58 = .ok (.aload_n 0, 1) := by decide +kernel
theorem dX1_nextChange_59 : decode cX1_nextChange 59 = .ok (.getfield 24, 3) := by decide +kernel
theorem dX1_nextChange_62 : decode cX1_nextChange 62 = .ok (.iload_n 3, 1) := by decide +kernel
theorem dX1_nextChange_63 : decode cX1_nextChange 63 = .ok (.iaload, 1) := by decide +kernel
theorem dX1_nextChange_64 : decode cX1_nextChange 64 = .ok (.iaload, 1) := by decide +kernel
theorem dX1_nextChange_65 : decode cX1_nextChange 65 = .ok (.iload_n 1, 1) := by decide +kernel
theorem dX1_nextChange_66 : decode cX1_nextChange 66 = .ok (.if_icmp .le 19, 3) := by decide +kernel
theorem dX1_nextChange_69 : decode cX1_nextChange 69 = .ok (.iload_n 2, 1) := by decide +kernel
theorem dX1_nextChange_70 : decode cX1_nextChange 70 = .ok (.aload_n 0, 1) := by decide +kernel
theorem dX1_nextChange_71 : decode cX1_nextChange 71 = .ok (.getfield 9, 3) := by decide +kernel
theorem dX1_nextChange_74 : decode cX1_nextChange 74 = .ok (.aload_n 0, 1) := by decide +kernel
theorem dX1_nextChange_75 : decode cX1_nextChange 75 = .ok (.getfield 24, 3) := by decide +kernel
theorem dX1_nextChange_78 : decode cX1_nextChange 78 = .ok (.iload_n 3, 1) := by decide +kernel
theorem dX1_nextChange_79 : decode cX1_nextChange 79 = .ok (.iaload, 1) := by decide +kernel
theorem dX1_nextChange_80 : decode cX1_nextChange 80 = .ok (.iaload, 1) := by decide +kernel
theorem dX1_nextChange_81 : decode cX1_nextChange 81 = .ok (.invokestatic 119, 3) := by decide +kernel
theorem dX1_nextChange_84 : decode cX1_nextChange 84 = .ok (.istore_n 2, 1) := by decide +kernel
theorem dX1_nextChange_85 : decode cX1_nextChange 85 = .ok (.iinc 3 1, 3) := by decide +kernel
theorem dX1_nextChange_88 : decode cX1_nextChange 88 = .ok (.goto (-42), 3) := by decide +kernel
theorem dX1_nextChange_91 : decode cX1_nextChange 91 = .ok (.iload_n 2, 1) := by decide +kernel
theorem dX1_nextChange_92 : decode cX1_nextChange 92 = .ok (.ireturn, 1) := by decide +kernel
theorem dX1_beginFirst_0 : decode cX1_beginFirst 0 = .ok (.iconst (-1), 1) := by decide +kernel
theorem dX1_beginFirst_1 : decode cX1_beginFirst 1 = .ok (.istore_n 3, 1) := by decide +kernel
theorem dX1_beginFirst_2 : decode cX1_beginFirst 2 = .ok (.iconst 0, 1) := by decide +kernel
theorem dX1_beginFirst_3 : decode cX1_beginFirst 3 = .ok (.istore 4, 2) := by decide +kernel
theorem dX1_beginFirst_5 : decode cX1_beginFirst 5 = .ok (.iload 4, 2) := by decide +kernel
theorem dX1_beginFirst_7 : decode cX1_beginFirst 7 = .ok (.aload_n 0, 1) := by decide +kernel
theorem dX1_beginFirst_8 : decode cX1_beginFirst 8 = .ok (.getfield 144, 3) := by decide +kernel
theorem dX1_beginFirst_11 : decode cX1_beginFirst 11 = .ok (.if_icmp .ge 49, 3) := by decide +kernel
theorem dX1_beginFirst_14 : decode cX1_beginFirst 14 = .ok (.aload_n 0, 1) := by decide +kernel
theorem dX1_beginFirst_15 : decode cX1_beginFirst 15 = .ok (.aload_n 0, 1) := by decide +kernel
theorem dX1_beginFirst_16 : decode cX1_beginFirst 16 = .ok (.getfield 24, 3) := by decide +kernel
theorem dX1_beginFirst_19 : decode cX1_beginFirst 19 = .ok (.iload 4, 2) := by decide +kernel
theorem dX1_beginFirst_21 : decode cX1_beginFirst 21 = .ok (.iaload, 1) := by decide +kernel
theorem dX1_beginFirst_22 : decode cX1_beginFirst 22 = .ok (.iload_n 2, 1) := by decide +kernel
theorem dX1_beginFirst_23 : decode cX1_beginFirst 23 = .ok (.invokevirtual 201, 3) := by decide +kernel
theorem dX1_beginFirst_26 : decode cX1_beginFirst 26 = .ok (.ifCond .eq 28, 3) := by decide +kernel
theorem dX1_beginFirst_29 : decode cX1_beginFirst 29 = .ok (.iload_n 3, 1) := by decide +kernel
theorem dX1_beginFirst_30 : decode cX1_beginFirst 30 = .ok (.iconst (-1), 1) := by decide +kernel
theorem dX1_beginFirst_31 : decode cX1_beginFirst 31 = .ok (.if_icmp .eq 20, 3) := by decide +kernel
theorem dX1_beginFirst_34 : decode cX1_beginFirst 34 = .ok (.aload_n 0, 1) := by decide +kernel
theorem dX1_beginFirst_35 : decode cX1_beginFirst 35 = .ok (.aload_n 0, 1) := by decide +kernel
theorem dX1_beginFirst_36 : decode cX1_beginFirst 36 = .ok (.getfield 192, 3) := by decide +kernel
theorem dX1_beginFirst_39 : decode cX1_beginFirst 39 = .ok (.iload_n 3, 1) := by decide +kernel
theorem dX1_beginFirst_40 : decode cX1_beginFirst 40 = .ok (.iconst 1, 1) := by decide +kernel
theorem dX1_beginFirst_41 : decode cX1_beginFirst 41 = .ok (.iadd, 1) := by decide +kernel
theorem dX1_beginFirst_42 : decode cX1_beginFirst 42 = .ok (.invokestatic 129, 3) := by decide +kernel
theorem dX1_beginFirst_45 : decode cX1_beginFirst 45 = .ok (.putfield 192, 3) := by decide +kernel
theorem dX1_beginFirst_48 : decode cX1_beginFirst 48 = .ok (.goto 12, 3) := by decide +kernel
theorem dX1_beginFirst_51 : decode cX1_beginFirst 51 = .ok (.iload 4, 2) := by decide +kernel
theorem dX1_beginFirst_53 : decode cX1_beginFirst 53 = .ok (.istore_n 3, 1) := by decide +kernel
theorem dX1_beginFirst_54 : decode cX1_beginFirst 54 = .ok (.iinc 4 1, 3) := by decide +kernel
theorem dX1_beginFirst_57 : decode cX1_beginFirst 57 = .ok (.goto (-52), 3) := by decide +kernel
theorem dX1_beginFirst_60 : decode cX1_beginFirst 60 = .ok (.iload_n 3, 1) := by decide +kernel
theorem dX1_beginFirst_61 : decode cX1_beginFirst 61 = .ok (.iconst (-1), 1) := by decide +kernel
theorem dX1_beginFirst_62 : decode cX1_beginFirst 62 = .ok (.if_icmp .eq 65, 3) := by decide +kernel
theorem dX1_beginFirst_65 : decode cX1_beginFirst 65 = .ok (.aload_n 0, 1) := by decide +kernel
theorem dX1_beginFirst_66 : decode cX1_beginFirst 66 = .ok (.getfield 24, 3) := by decide +kernel
theorem dX1_beginFirst_69 : decode cX1_beginFirst 69 = .ok (.iload_n 3, 1) := by decide +kernel
theorem dX1_beginFirst_70 : decode cX1_beginFirst 70 = .ok (.iaload, 1) := by decide +kernel
theorem dX1_beginFirst_71 : decode cX1_beginFirst 71 = .ok (.istore 4, 2) := by decide +kernel
theorem dX1_beginFirst_73 : decode cX1_beginFirst 73 = .ok (.aload_n 0, 1) := by decide +kernel
theorem dX1_beginFirst_74 : decode cX1_beginFirst 74 = .ok (.dup, 1) := by decide +kernel
theorem dX1_beginFirst_75 : decode cX1_beginFirst 75 = .ok (.getfield 181, 3) := by decide +kernel
theorem dX1_beginFirst_78 : decode cX1_beginFirst 78 = .ok (.iconst 1, 1) := by decide +kernel
theorem dX1_beginFirst_79 : decode cX1_beginFirst 79 = .ok (.iload 4, 2) := by decide +kernel
theorem dX1_beginFirst_81 : decode cX1_beginFirst 81 = .ok (.ishl, 1) := by decide +kernel
theorem dX1_beginFirst_82 : decode cX1_beginFirst 82 = .ok (.ior, 1) := by decide +kernel
theorem dX1_beginFirst_83 : decode cX1_beginFirst 83 = .ok (.putfield 181, 3) := by decide +kernel
theorem dX1_beginFirst_86 : decode cX1_beginFirst 86 = .ok (.aload_n 0, 1) := by decide +kernel
theorem dX1_beginFirst_87 : decode cX1_beginFirst 87 = .ok (.iload 4, 2) := by decide +kernel
theorem dX1_beginFirst_89 : decode cX1_beginFirst 89 = .ok (.sipush 400, 3) := by decide +kernel
theorem dX1_beginFirst_92 : decode cX1_beginFirst 92 = .ok (.iload_n 2, 1) := by decide +kernel
theorem dX1_beginFirst_93 : decode cX1_beginFirst 93 = .ok (.aload_n 0, 1) := by decide +kernel
theorem dX1_beginFirst_94 : decode cX1_beginFirst 94 = .ok (.getfield 30, 3) := by decide +kernel
theorem dX1_beginFirst_97 : decode cX1_beginFirst 97 = .ok (.getfield 113, 3) := by decide +kernel
theorem dX1_beginFirst_100 : decode cX1_beginFirst 100 = .ok (.iload 4, 2) := by decide +kernel
theorem dX1_beginFirst_102 : decode cX1_beginFirst 102 = .ok (.iaload, 1) := by decide +kernel
theorem dX1_beginFirst_103 : decode cX1_beginFirst 103 = .ok (.iadd, 1) := by decide +kernel
theorem dX1_beginFirst_104 : decode cX1_beginFirst 104 = .ok (.iconst 1, 1) := by decide +kernel
theorem dX1_beginFirst_105 : decode cX1_beginFirst 105 = .ok (.isub, 1) := by decide +kernel
theorem dX1_beginFirst_106 : decode cX1_beginFirst 106 = .ok (.invokestatic 119, 3) := by decide +kernel
theorem dX1_beginFirst_109 : decode cX1_beginFirst 109 = .ok (.invokevirtual 184, 3) := by decide +kernel
theorem dX1_beginFirst_112 : decode cX1_beginFirst 112 = .ok (.aload_n 0, 1) := by decide +kernel
theorem dX1_beginFirst_113 : decode cX1_beginFirst 113 = .ok (.getfield 21, 3) := by decide +kernel
theorem dX1_beginFirst_116 : decode cX1_beginFirst 116 = .ok (.iload_n 1, 1) := by decide +kernel
theorem dX1_beginFirst_117 : decode cX1_beginFirst 117 = .ok (.aload_n 0, 1) := by decide +kernel
theorem dX1_beginFirst_118 : decode cX1_beginFirst 118 = .ok (.getfield 18, 3) := by decide +kernel
theorem dX1_beginFirst_121 : decode cX1_beginFirst 121 = .ok (.iload 4, 2) := by decide +kernel
theorem dX1_beginFirst_123 : decode cX1_beginFirst 123 = .ok (.iaload, 1) := by decide +kernel
theorem dX1_beginFirst_124 : decode cX1_beginFirst 124 = .ok (.iconst 1, 1) := by decide +kernel
theorem dX1_beginFirst_125 : decode cX1_beginFirst 125 = .ok (.iadd, 1) := by decide +kernel
theorem dX1_beginFirst_126 : decode cX1_beginFirst 126 = .ok (.iastore, 1) := by decide +kernel
theorem dX1_beginFirst_127 : decode cX1_beginFirst 127 = .ok (.return_, 1) := by decide +kernel
theorem dX1_isReady_0 : decode cX1_isReady 0 = .ok (.aload_n 0, 1) := by decide +kernel
theorem dX1_isReady_1 : decode cX1_isReady 1 = .ok (.getfield 181, 3) := by decide +kernel
theorem dX1_isReady_4 : decode cX1_isReady 4 = .ok (.iload_n 1, 1) := by decide +kernel
theorem dX1_isReady_5 : decode cX1_isReady 5 = .ok (.ishr, 1) := by decide +kernel
theorem dX1_isReady_6 : decode cX1_isReady 6 = .ok (.iconst 1, 1) := by decide +kernel
theorem dX1_isReady_7 : decode cX1_isReady 7 = .ok (.iand, 1) := by decide +kernel
theorem dX1_isReady_8 : decode cX1_isReady 8 = .ok (.ifCond .ne 36, 3) := by decide +kernel
theorem dX1_isReady_11 : decode cX1_isReady 11 = .ok (.aload_n 0, 1) := by decide +kernel
theorem dX1_isReady_12 : decode cX1_isReady 12 = .ok (.getfield 9, 3) := by decide +kernel
theorem dX1_isReady_15 : decode cX1_isReady 15 = .ok (.iload_n 1, 1) := by decide +kernel
theorem dX1_isReady_16 : decode cX1_isReady 16 = .ok (.iaload, 1) := by decide +kernel
theorem dX1_isReady_17 : decode cX1_isReady 17 = .ok (.iload_n 2, 1) := by decide +kernel
theorem dX1_isReady_18 : decode cX1_isReady 18 = .ok (.if_icmp .gt 26, 3) := by decide +kernel
theorem dX1_isReady_21 : decode cX1_isReady 21 = .ok (.aload_n 0, 1) := by decide +kernel
theorem dX1_isReady_22 : decode cX1_isReady 22 = .ok (.getfield 30, 3) := by decide +kernel
theorem dX1_isReady_25 : decode cX1_isReady 25 = .ok (.getfield 141, 3) := by decide +kernel
theorem dX1_isReady_28 : decode cX1_isReady 28 = .ok (.iload_n 1, 1) := by decide +kernel
theorem dX1_isReady_29 : decode cX1_isReady 29 = .ok (.iaload, 1) := by decide +kernel
theorem dX1_isReady_30 : decode cX1_isReady 30 = .ok (.aload_n 0, 1) := by decide +kernel
theorem dX1_isReady_31 : decode cX1_isReady 31 = .ok (.getfield 198, 3) := by decide +kernel
theorem dX1_isReady_34 : decode cX1_isReady 34 = .ok (.iconst (-1), 1) := by decide +kernel
theorem dX1_isReady_35 : decode cX1_isReady 35 = .ok (.ixor, 1) := by decide +kernel
theorem dX1_isReady_36 : decode cX1_isReady 36 = .ok (.iand, 1) := by decide +kernel
theorem dX1_isReady_37 : decode cX1_isReady 37 = .ok (.ifCond .ne 7, 3) := by decide +kernel
theorem dX1_isReady_40 : decode cX1_isReady 40 = .ok (.iconst 1, 1) := by decide +kernel
theorem dX1_isReady_41 : decode cX1_isReady 41 = .ok (.goto 4, 3) := by decide +kernel
theorem dX1_isReady_44 : decode cX1_isReady 44 = .ok (.iconst 0, 1) := by decide +kernel
theorem dX1_isReady_45 : decode cX1_isReady 45 = .ok (.ireturn, 1) := by decide +kernel
theorem dX1_setEnd_0 : decode cX1_setEnd 0 = .ok (.aload_n 0, 1) := by decide +kernel
theorem dX1_setEnd_1 : decode cX1_setEnd 1 = .ok (.getfield 18, 3) := by decide +kernel
theorem dX1_setEnd_4 : decode cX1_setEnd 4 = .ok (.iload_n 1, 1) := by decide +kernel
theorem dX1_setEnd_5 : decode cX1_setEnd 5 = .ok (.iload_n 2, 1) := by decide +kernel
theorem dX1_setEnd_6 : decode cX1_setEnd 6 = .ok (.iastore, 1) := by decide +kernel
theorem dX1_setEnd_7 : decode cX1_setEnd 7 = .ok (.aload_n 0, 1) := by decide +kernel
theorem dX1_setEnd_8 : decode cX1_setEnd 8 = .ok (.dup, 1) := by decide +kernel
theorem dX1_setEnd_9 : decode cX1_setEnd 9 = .ok (.getfield 74, 3) := by decide +kernel
theorem dX1_setEnd_12 : decode cX1_setEnd 12 = .ok (.aload_n 0, 1) := by decide +kernel
theorem dX1_setEnd_13 : decode cX1_setEnd 13 = .ok (.iload_n 1, 1) := by decide +kernel
theorem dX1_setEnd_14 : decode cX1_setEnd 14 = .ok (.iload_n 2, 1) := by decide +kernel
theorem dX1_setEnd_15 : decode cX1_setEnd 15 = .ok (.invokevirtual 132, 3) := by decide +kernel
theorem dX1_setEnd_18 : decode cX1_setEnd 18 = .ok (.aload_n 0, 1) := by decide +kernel
theorem dX1_setEnd_19 : decode cX1_setEnd 19 = .ok (.iload_n 1, 1) := by decide +kernel
theorem dX1_setEnd_20 : decode cX1_setEnd 20 = .ok (.aload_n 0, 1) := by decide +kernel
theorem dX1_setEnd_21 : decode cX1_setEnd 21 = .ok (.getfield 15, 3) := by decide +kernel
theorem dX1_setEnd_24 : decode cX1_setEnd 24 = .ok (.iload_n 1, 1) := by decide +kernel
theorem dX1_setEnd_25 : decode cX1_setEnd 25 = .ok (.iaload, 1) := by decide +kernel
theorem dX1_setEnd_26 : decode cX1_setEnd 26 = .ok (.invokevirtual 132, 3) := by decide +kernel
theorem dX1_setEnd_29 : decode cX1_setEnd 29 = .ok (.isub, 1) := by decide +kernel
theorem dX1_setEnd_30 : decode cX1_setEnd 30 = .ok (.iadd, 1) := by decide +kernel
theorem dX1_setEnd_31 : decode cX1_setEnd 31 = .ok (.putfield 74, 3) := by decide +kernel
theorem dX1_setEnd_34 : decode cX1_setEnd 34 = .ok (.return_, 1) := by decide +kernel
theorem dX1_keepBest_0 : decode cX1_keepBest 0 = .ok (.aload_n 0, 1) := by decide +kernel
theorem dX1_keepBest_1 : decode cX1_keepBest 1 = .ok (.getfield 24, 3) := by decide +kernel
theorem dX1_keepBest_4 : decode cX1_keepBest 4 = .ok (.iconst 0, 1) := by decide +kernel
theorem dX1_keepBest_5 : decode cX1_keepBest 5 = .ok (.aload_n 0, 1) := by decide +kernel
theorem dX1_keepBest_6 : decode cX1_keepBest 6 = .ok (.getfield 27, 3) := by decide +kernel
theorem dX1_keepBest_9 : decode cX1_keepBest 9 = .ok (.iconst 0, 1) := by decide +kernel
theorem dX1_keepBest_10 : decode cX1_keepBest 10 = .ok (.bipush 7, 2) := by decide +kernel
theorem dX1_keepBest_12 : decode cX1_keepBest 12 = .ok (.invokestatic 204, 3) := by decide +kernel
theorem dX1_keepBest_15 : decode cX1_keepBest 15 = .ok (.return_, 1) := by decide +kernel
theorem dX1_nextQueue_0 : decode cX1_nextQueue 0 = .ok (.aload_n 0, 1) := by decide +kernel
theorem dX1_nextQueue_1 : decode cX1_nextQueue 1 = .ok (.getfield 192, 3) := by decide +kernel
theorem dX1_nextQueue_4 : decode cX1_nextQueue 4 = .ok (.iconst 1, 1) := by decide +kernel
theorem dX1_nextQueue_5 : decode cX1_nextQueue 5 = .ok (.isub, 1) := by decide +kernel
theorem dX1_nextQueue_6 : decode cX1_nextQueue 6 = .ok (.istore_n 1, 1) := by decide +kernel
theorem dX1_nextQueue_7 : decode cX1_nextQueue 7 = .ok (.iload_n 1, 1) := by decide +kernel
theorem dX1_nextQueue_8 : decode cX1_nextQueue 8 = .ok (.ifCond .lt 53, 3) := by decide +kernel
theorem dX1_nextQueue_11 : decode cX1_nextQueue 11 = .ok (.aload_n 0, 1) := by decide +kernel
theorem dX1_nextQueue_12 : decode cX1_nextQueue 12 = .ok (.iload_n 1, 1) := by decide +kernel
theorem dX1_nextQueue_13 : decode cX1_nextQueue 13 = .ok (.invokevirtual 210, 3) := by decide +kernel
theorem dX1_nextQueue_16 : decode cX1_nextQueue 16 = .ok (.istore_n 2, 1) := by decide +kernel
theorem dX1_nextQueue_17 : decode cX1_nextQueue 17 = .ok (.iload_n 2, 1) := by decide +kernel
theorem dX1_nextQueue_18 : decode cX1_nextQueue 18 = .ok (.iconst (-1), 1) := by decide +kernel
theorem dX1_nextQueue_19 : decode cX1_nextQueue 19 = .ok (.if_icmp .eq 36, 3) := by decide +kernel
theorem dX1_nextQueue_22 : decode cX1_nextQueue 22 = .ok (.aload_n 0, 1) := by decide +kernel
theorem dX1_nextQueue_23 : decode cX1_nextQueue 23 = .ok (.getfield 24, 3) := by decide +kernel
theorem dX1_nextQueue_26 : decode cX1_nextQueue 26 = .ok (.iload_n 1, 1) := by decide +kernel
theorem dX1_nextQueue_27 : decode cX1_nextQueue 27 = .ok (.iaload, 1) := by decide +kernel
theorem dX1_nextQueue_28 : decode cX1_nextQueue 28 = .ok (.istore_n 3, 1) := by decide +kernel
theorem dX1_nextQueue_29 : decode cX1_nextQueue 29 = .ok (.aload_n 0, 1) := by decide +kernel
theorem dX1_nextQueue_30 : decode cX1_nextQueue 30 = .ok (.getfield 24, 3) := by decide +kernel
theorem dX1_nextQueue_33 : decode cX1_nextQueue 33 = .ok (.iload_n 1, 1) := by decide +kernel
theorem dX1_nextQueue_34 : decode cX1_nextQueue 34 = .ok (.aload_n 0, 1) := by decide +kernel
theorem dX1_nextQueue_35 : decode cX1_nextQueue 35 = .ok (.getfield 24, 3) := by decide +kernel
theorem dX1_nextQueue_38 : decode cX1_nextQueue 38 = .ok (.iload_n 2, 1) := by decide +kernel
theorem dX1_nextQueue_39 : decode cX1_nextQueue 39 = .ok (.iaload, 1) := by decide +kernel
theorem dX1_nextQueue_40 : decode cX1_nextQueue 40 = .ok (.iastore, 1) := by decide +kernel
theorem dX1_nextQueue_41 : decode cX1_nextQueue 41 = .ok (.aload_n 0, 1) := by decide +kernel
theorem dX1_nextQueue_42 : decode cX1_nextQueue 42 = .ok (.getfield 24, 3) := by decide +kernel
theorem dX1_nextQueue_45 : decode cX1_nextQueue 45 = .ok (.iload_n 2, 1) := by decide +kernel
theorem dX1_nextQueue_46 : decode cX1_nextQueue 46 = .ok (.iload_n 3, 1) := by decide +kernel
theorem dX1_nextQueue_47 : decode cX1_nextQueue 47 = .ok (.iastore, 1) := by decide +kernel
theorem dX1_nextQueue_48 : decode cX1_nextQueue 48 = .ok (.aload_n 0, 1) := by decide +kernel
theorem dX1_nextQueue_49 : decode cX1_nextQueue 49 = .ok (.iload_n 1, 1) := by decide +kernel
theorem dX1_nextQueue_50 : decode cX1_nextQueue 50 = .ok (.invokevirtual 213, 3) := by decide +kernel
theorem dX1_nextQueue_53 : decode cX1_nextQueue 53 = .ok (.iconst 1, 1) := by decide +kernel
theorem dX1_nextQueue_54 : decode cX1_nextQueue 54 = .ok (.ireturn, 1) := by decide +kernel
theorem dX1_nextQueue_55 : decode cX1_nextQueue 55 = .ok (.iinc 1 (-1), 3) := by decide +kernel
theorem dX1_nextQueue_58 : decode cX1_nextQueue 58 = .ok (.goto (-51), 3) := by decide +kernel
theorem dX1_nextQueue_61 : decode cX1_nextQueue 61 = .ok (.iconst 0, 1) := by decide +kernel
theorem dX1_nextQueue_62 : decode cX1_nextQueue 62 = .ok (.ireturn, 1) := by decide +kernel
theorem dX1_leastAbove_0 : decode cX1_leastAbove 0 = .ok (.iconst (-1), 1) := by decide +kernel
theorem dX1_leastAbove_1 : decode cX1_leastAbove 1 = .ok (.istore_n 2, 1) := by decide +kernel
theorem dX1_leastAbove_2 : decode cX1_leastAbove 2 = .ok (.iload_n 1, 1) := by decide +kernel
theorem dX1_leastAbove_3 : decode cX1_leastAbove 3 = .ok (.iconst 1, 1) := by decide +kernel
theorem dX1_leastAbove_4 : decode cX1_leastAbove 4 = .ok (.iadd, 1) := by decide +kernel
theorem dX1_leastAbove_5 : decode cX1_leastAbove 5 = .ok (.istore_n 3, 1) := by decide +kernel
theorem dX1_leastAbove_6 : decode cX1_leastAbove 6 = .ok (.iload_n 3, 1) := by decide +kernel
theorem dX1_leastAbove_7 : decode cX1_leastAbove 7 = .ok (.aload_n 0, 1) := by decide +kernel
theorem dX1_leastAbove_8 : decode cX1_leastAbove 8 = .ok (.getfield 144, 3) := by decide +kernel
theorem dX1_leastAbove_11 : decode cX1_leastAbove 11 = .ok (.if_icmp .ge 46, 3) := by decide +kernel
theorem dX1_leastAbove_14 : decode cX1_leastAbove 14 = .ok (.aload_n 0, 1) := by decide +kernel
theorem dX1_leastAbove_15 : decode cX1_leastAbove 15 = .ok (.getfield 24, 3) := by decide +kernel
theorem dX1_leastAbove_18 : decode cX1_leastAbove 18 = .ok (.iload_n 3, 1) := by decide +kernel
theorem dX1_leastAbove_19 : decode cX1_leastAbove 19 = .ok (.iaload, 1) := by decide +kernel
theorem dX1_leastAbove_20 : decode cX1_leastAbove 20 = .ok (.aload_n 0, 1) := by decide +kernel
theorem dX1_leastAbove_21 : decode cX1_leastAbove 21 = .ok (.getfield 24, 3) := by decide +kernel
theorem dX1_leastAbove_24 : decode cX1_leastAbove 24 = .ok (.iload_n 1, 1) := by decide +kernel
theorem dX1_leastAbove_25 : decode cX1_leastAbove 25 = .ok (.iaload, 1) := by decide +kernel
theorem dX1_leastAbove_26 : decode cX1_leastAbove 26 = .ok (.if_icmp .le 25, 3) := by decide +kernel
theorem dX1_leastAbove_29 : decode cX1_leastAbove 29 = .ok (.iload_n 2, 1) := by decide +kernel
theorem dX1_leastAbove_30 : decode cX1_leastAbove 30 = .ok (.iconst (-1), 1) := by decide +kernel
theorem dX1_leastAbove_31 : decode cX1_leastAbove 31 = .ok (.if_icmp .eq 18, 3) := by decide +kernel
theorem dX1_leastAbove_34 : decode cX1_leastAbove 34 = .ok (.aload_n 0, 1) := by decide +kernel
theorem dX1_leastAbove_35 : decode cX1_leastAbove 35 = .ok (.getfield 24, 3) := by decide +kernel
theorem dX1_leastAbove_38 : decode cX1_leastAbove 38 = .ok (.iload_n 3, 1) := by decide +kernel
theorem dX1_leastAbove_39 : decode cX1_leastAbove 39 = .ok (.iaload, 1) := by decide +kernel
theorem dX1_leastAbove_40 : decode cX1_leastAbove 40 = .ok (.aload_n 0, 1) := by decide +kernel
theorem dX1_leastAbove_41 : decode cX1_leastAbove 41 = .ok (.getfield 24, 3) := by decide +kernel
theorem dX1_leastAbove_44 : decode cX1_leastAbove 44 = .ok (.iload_n 2, 1) := by decide +kernel
theorem dX1_leastAbove_45 : decode cX1_leastAbove 45 = .ok (.iaload, 1) := by decide +kernel
theorem dX1_leastAbove_46 : decode cX1_leastAbove 46 = .ok (.if_icmp .ge 5, 3) := by decide +kernel
theorem dX1_leastAbove_49 : decode cX1_leastAbove 49 = .ok (.iload_n 3, 1) := by decide +kernel
theorem dX1_leastAbove_50 : decode cX1_leastAbove 50 = .ok (.istore_n 2, 1) := by decide +kernel
theorem dX1_leastAbove_51 : decode cX1_leastAbove 51 = .ok (.iinc 3 1, 3) := by decide +kernel
theorem dX1_leastAbove_54 : decode cX1_leastAbove 54 = .ok (.goto (-48), 3) := by decide +kernel
theorem dX1_leastAbove_57 : decode cX1_leastAbove 57 = .ok (.iload_n 2, 1) := by decide +kernel
theorem dX1_leastAbove_58 : decode cX1_leastAbove 58 = .ok (.ireturn, 1) := by decide +kernel
theorem dX1_sortBehind_0 : decode cX1_sortBehind 0 = .ok (.iload_n 1, 1) := by decide +kernel
theorem dX1_sortBehind_1 : decode cX1_sortBehind 1 = .ok (.iconst 1, 1) := by decide +kernel
theorem dX1_sortBehind_2 : decode cX1_sortBehind 2 = .ok (.iadd, 1) := by decide +kernel
theorem dX1_sortBehind_3 : decode cX1_sortBehind 3 = .ok (.istore_n 2, 1) := by decide +kernel
theorem dX1_sortBehind_4 : decode cX1_sortBehind 4 = .ok (.iload_n 2, 1) := by decide +kernel
theorem dX1_sortBehind_5 : decode cX1_sortBehind 5 = .ok (.aload_n 0, 1) := by decide +kernel
theorem dX1_sortBehind_6 : decode cX1_sortBehind 6 = .ok (.getfield 144, 3) := by decide +kernel
theorem dX1_sortBehind_9 : decode cX1_sortBehind 9 = .ok (.if_icmp .ge 70, 3) := by decide +kernel
theorem dX1_sortBehind_12 : decode cX1_sortBehind 12 = .ok (.iload_n 2, 1) := by decide +kernel
theorem dX1_sortBehind_13 : decode cX1_sortBehind 13 = .ok (.iconst 1, 1) := by decide +kernel
theorem dX1_sortBehind_14 : decode cX1_sortBehind 14 = .ok (.iadd, 1) := by decide +kernel
theorem dX1_sortBehind_15 : decode cX1_sortBehind 15 = .ok (.istore_n 3, 1) := by decide +kernel
theorem dX1_sortBehind_16 : decode cX1_sortBehind 16 = .ok (.iload_n 3, 1) := by decide +kernel
theorem dX1_sortBehind_17 : decode cX1_sortBehind 17 = .ok (.aload_n 0, 1) := by decide +kernel
theorem dX1_sortBehind_18 : decode cX1_sortBehind 18 = .ok (.getfield 144, 3) := by decide +kernel
theorem dX1_sortBehind_21 : decode cX1_sortBehind 21 = .ok (.if_icmp .ge 52, 3) := by decide +kernel
theorem dX1_sortBehind_24 : decode cX1_sortBehind 24 = .ok (.aload_n 0, 1) := by decide +kernel
theorem dX1_sortBehind_25 : decode cX1_sortBehind 25 = .ok (.getfield 24, 3) := by decide +kernel
theorem dX1_sortBehind_28 : decode cX1_sortBehind 28 = .ok (.iload_n 3, 1) := by decide +kernel
theorem dX1_sortBehind_29 : decode cX1_sortBehind 29 = .ok (.iaload, 1) := by decide +kernel
theorem dX1_sortBehind_30 : decode cX1_sortBehind 30 = .ok (.aload_n 0, 1) := by decide +kernel
theorem dX1_sortBehind_31 : decode cX1_sortBehind 31 = .ok (.getfield 24, 3) := by decide +kernel
theorem dX1_sortBehind_34 : decode cX1_sortBehind 34 = .ok (.iload_n 2, 1) := by decide +kernel
theorem dX1_sortBehind_35 : decode cX1_sortBehind 35 = .ok (.iaload, 1) := by decide +kernel
theorem dX1_sortBehind_36 : decode cX1_sortBehind 36 = .ok (.if_icmp .ge 31, 3) := by decide +kernel
theorem dX1_sortBehind_39 : decode cX1_sortBehind 39 = .ok (.aload_n 0, 1) := by decide +kernel
theorem dX1_sortBehind_40 : decode cX1_sortBehind 40 = .ok (.getfield 24, 3) := by decide +kernel
theorem dX1_sortBehind_43 : decode cX1_sortBehind 43 = .ok (.iload_n 2, 1) := by decide +kernel
theorem dX1_sortBehind_44 : decode cX1_sortBehind 44 = .ok (.iaload, 1) := by decide +kernel
theorem dX1_sortBehind_45 : decode cX1_sortBehind 45 = .ok (.istore 4, 2) := by decide +kernel
theorem dX1_sortBehind_47 : decode cX1_sortBehind 47 = .ok (.aload_n 0, 1) := by decide +kernel
theorem dX1_sortBehind_48 : decode cX1_sortBehind 48 = .ok (.getfield 24, 3) := by decide +kernel
theorem dX1_sortBehind_51 : decode cX1_sortBehind 51 = .ok (.iload_n 2, 1) := by decide +kernel
theorem dX1_sortBehind_52 : decode cX1_sortBehind 52 = .ok (.aload_n 0, 1) := by decide +kernel
theorem dX1_sortBehind_53 : decode cX1_sortBehind 53 = .ok (.getfield 24, 3) := by decide +kernel
theorem dX1_sortBehind_56 : decode cX1_sortBehind 56 = .ok (.iload_n 3, 1) := by decide +kernel
theorem dX1_sortBehind_57 : decode cX1_sortBehind 57 = .ok (.iaload, 1) := by decide +kernel
theorem dX1_sortBehind_58 : decode cX1_sortBehind 58 = .ok (.iastore, 1) := by decide +kernel
theorem dX1_sortBehind_59 : decode cX1_sortBehind 59 = .ok (.aload_n 0, 1) := by decide +kernel
theorem dX1_sortBehind_60 : decode cX1_sortBehind 60 = .ok (.getfield 24, 3) := by decide +kernel
theorem dX1_sortBehind_63 : decode cX1_sortBehind 63 = .ok (.iload_n 3, 1) := by decide +kernel
theorem dX1_sortBehind_64 : decode cX1_sortBehind 64 = .ok (.iload 4, 2) := by decide +kernel
theorem dX1_sortBehind_66 : decode cX1_sortBehind 66 = .ok (.iastore, 1) := by decide +kernel
theorem dX1_sortBehind_67 : decode cX1_sortBehind 67 = .ok (.iinc 3 1, 3) := by decide +kernel
theorem dX1_sortBehind_70 : decode cX1_sortBehind 70 = .ok (.goto (-54), 3) := by decide +kernel
theorem dX1_sortBehind_73 : decode cX1_sortBehind 73 = .ok (.iinc 2 1, 3) := by decide +kernel
theorem dX1_sortBehind_76 : decode cX1_sortBehind 76 = .ok (.goto (-72), 3) := by decide +kernel
theorem dX1_sortBehind_79 : decode cX1_sortBehind 79 = .ok (.return_, 1) := by decide +kernel
theorem dX1_orderByBest_0 : decode cX1_orderByBest 0 = .ok (.iconst 0, 1) := by decide +kernel
theorem dX1_orderByBest_1 : decode cX1_orderByBest 1 = .ok (.istore_n 1, 1) := by decide +kernel
theorem dX1_orderByBest_2 : decode cX1_orderByBest 2 = .ok (.aload_n 0, 1) := by decide +kernel
theorem dX1_orderByBest_3 : decode cX1_orderByBest 3 = .ok (.iconst 0, 1) := by decide +kernel
theorem dX1_orderByBest_4 : decode cX1_orderByBest 4 = .ok (.invokevirtual 216, 3) := by decide +kernel
theorem dX1_orderByBest_7 : decode cX1_orderByBest 7 = .ok (.istore_n 2, 1) := by decide +kernel
theorem dX1_orderByBest_8 : decode cX1_orderByBest 8 = .ok (.iconst 0, 1) := by decide +kernel
theorem dX1_orderByBest_9 : decode cX1_orderByBest 9 = .ok (.istore_n 3, 1) := by decide +kernel
theorem dX1_orderByBest_10 : decode cX1_orderByBest 10 = .ok (.iload_n 3, 1) := by decide +kernel
theorem dX1_orderByBest_11 : decode cX1_orderByBest 11 = .ok (.aload_n 0, 1) := by decide +kernel
theorem dX1_orderByBest_12 : decode cX1_orderByBest 12 = .ok (.getfield 30, 3) := by decide +kernel
theorem dX1_orderByBest_15 : decode cX1_orderByBest 15 = .ok (.getfield 91, 3) := by decide +kernel
theorem dX1_orderByBest_18 : decode cX1_orderByBest 18 = .ok (.if_icmp .ge 66, 3) := by decide +kernel
theorem dX1_orderByBest_21 : decode cX1_orderByBest 21 = .ok (.iload_n 1, 1) := by decide +kernel
theorem dX1_orderByBest_22 : decode cX1_orderByBest 22 = .ok (.aload_n 0, 1) := by decide +kernel
theorem dX1_orderByBest_23 : decode cX1_orderByBest 23 = .ok (.getfield 144, 3) := by decide +kernel
theorem dX1_orderByBest_26 : decode cX1_orderByBest 26 = .ok (.if_icmp .ge 13, 3) := by decide +kernel
theorem dX1_orderByBest_29 : decode cX1_orderByBest 29 = .ok (.iload_n 2, 1) := by decide +kernel
theorem dX1_orderByBest_30 : decode cX1_orderByBest 30 = .ok (.aload_n 0, 1) := by decide +kernel
theorem dX1_orderByBest_31 : decode cX1_orderByBest 31 = .ok (.getfield 27, 3) := by decide +kernel
theorem dX1_orderByBest_34 : decode cX1_orderByBest 34 = .ok (.iload_n 1, 1) := by decide +kernel
theorem dX1_orderByBest_35 : decode cX1_orderByBest 35 = .ok (.iaload, 1) := by decide +kernel
theorem dX1_orderByBest_36 : decode cX1_orderByBest 36 = .ok (.if_icmp .ge 24, 3) := by decide +kernel
theorem dX1_orderByBest_39 : decode cX1_orderByBest 39 = .ok (.aload_n 0, 1) := by decide +kernel
theorem dX1_orderByBest_40 : decode cX1_orderByBest 40 = .ok (.getfield 38, 3) := by decide +kernel
theorem dX1_orderByBest_43 : decode cX1_orderByBest 43 = .ok (.getfield 58, 3) := by decide +kernel
theorem dX1_orderByBest_46 : decode cX1_orderByBest 46 = .ok (.iload_n 3, 1) := by decide +kernel
theorem dX1_orderByBest_47 : decode cX1_orderByBest 47 = .ok (.iload_n 2, 1) := by decide +kernel
theorem dX1_orderByBest_48 : decode cX1_orderByBest 48 = .ok (.iastore, 1) := by decide +kernel
theorem dX1_orderByBest_49 : decode cX1_orderByBest 49 = .ok (.aload_n 0, 1) := by decide +kernel
theorem dX1_orderByBest_50 : decode cX1_orderByBest 50 = .ok (.iload_n 2, 1) := by decide +kernel
theorem dX1_orderByBest_51 : decode cX1_orderByBest 51 = .ok (.iconst 1, 1) := by decide +kernel
theorem dX1_orderByBest_52 : decode cX1_orderByBest 52 = .ok (.iadd, 1) := by decide +kernel
theorem dX1_orderByBest_53 : decode cX1_orderByBest 53 = .ok (.invokevirtual 216, 3) := by decide +kernel
theorem dX1_orderByBest_56 : decode cX1_orderByBest 56 = .ok (.istore_n 2, 1) := by decide +kernel
theorem dX1_orderByBest_57 : decode cX1_orderByBest 57 = .ok (.goto 21, 3) := by decide +kernel
theorem dX1_orderByBest_60 : decode cX1_orderByBest 60 = .ok (.aload_n 0, 1) := by decide +kernel
theorem dX1_orderByBest_61 : decode cX1_orderByBest 61 = .ok (.getfield 38, 3) := by decide +kernel
theorem dX1_orderByBest_64 : decode cX1_orderByBest 64 = .ok (.getfield 58, 3) := by decide +kernel
theorem dX1_orderByBest_67 : decode cX1_orderByBest 67 = .ok (.iload_n 3, 1) := by decide +kernel
theorem dX1_orderByBest_68 : decode cX1_orderByBest 68 = .ok (.aload_n 0, 1) := by decide +kernel
theorem dX1_orderByBest_69 : decode cX1_orderByBest 69 = .ok (.getfield 27, 3) := by decide +kernel
theorem dX1_orderByBest_72 : decode cX1_orderByBest 72 = .ok (.iload_n 1, 1) := by decide +kernel
theorem dX1_orderByBest_73 : decode cX1_orderByBest 73 = .ok (.iaload, 1) := by decide +kernel
theorem dX1_orderByBest_74 : decode cX1_orderByBest 74 = .ok (.iastore, 1) := by decide +kernel
theorem dX1_orderByBest_75 : decode cX1_orderByBest 75 = .ok (.iinc 1 1, 3) := by decide +kernel
theorem dX1_orderByBest_78 : decode cX1_orderByBest 78 = .ok (.iinc 3 1, 3) := by decide +kernel
theorem dX1_orderByBest_81 : decode cX1_orderByBest 81 = .ok (.goto (-71), 3) := by decide +kernel
theorem dX1_orderByBest_84 : decode cX1_orderByBest 84 = .ok (.return_, 1) := by decide +kernel
theorem dX1_nextIdle_0 : decode cX1_nextIdle 0 = .ok (.iload_n 1, 1) := by decide +kernel
theorem dX1_nextIdle_1 : decode cX1_nextIdle 1 = .ok (.istore_n 2, 1) := by decide +kernel
theorem dX1_nextIdle_2 : decode cX1_nextIdle 2 = .ok (.iload_n 2, 1) := by decide +kernel
theorem dX1_nextIdle_3 : decode cX1_nextIdle 3 = .ok (.aload_n 0, 1) := by decide +kernel
theorem dX1_nextIdle_4 : decode cX1_nextIdle 4 = .ok (.getfield 30, 3) := by decide +kernel
theorem dX1_nextIdle_7 : decode cX1_nextIdle 7 = .ok (.getfield 91, 3) := by decide +kernel
theorem dX1_nextIdle_10 : decode cX1_nextIdle 10 = .ok (.if_icmp .ge 19, 3) := by decide +kernel
theorem dX1_nextIdle_13 : decode cX1_nextIdle 13 = .ok (.aload_n 0, 1) := by decide +kernel
theorem dX1_nextIdle_14 : decode cX1_nextIdle 14 = .ok (.iload_n 2, 1) := by decide +kernel
theorem dX1_nextIdle_15 : decode cX1_nextIdle 15 = .ok (.invokevirtual 153, 3) := by decide +kernel
theorem dX1_nextIdle_18 : decode cX1_nextIdle 18 = .ok (.ifCond .ne 5, 3) := by decide +kernel
theorem dX1_nextIdle_21 : decode cX1_nextIdle 21 = .ok (.iload_n 2, 1) := by decide +kernel
theorem dX1_nextIdle_22 : decode cX1_nextIdle 22 = .ok (.ireturn, 1) := by decide +kernel
theorem dX1_nextIdle_23 : decode cX1_nextIdle 23 = .ok (.iinc 2 1, 3) := by decide +kernel
theorem dX1_nextIdle_26 : decode cX1_nextIdle 26 = .ok (.goto (-24), 3) := by decide +kernel
theorem dX1_nextIdle_29 : decode cX1_nextIdle 29 = .ok (.bipush 7, 2) := by decide +kernel
theorem dX1_nextIdle_31 : decode cX1_nextIdle 31 = .ok (.ireturn, 1) := by decide +kernel
theorem dX2_init_0 : decode cX2_init 0 = .ok (.aload_n 0, 1) := by decide +kernel
theorem dX2_init_1 : decode cX2_init 1 = .ok (.invokespecial 3, 3) := by decide +kernel
theorem dX2_init_4 : decode cX2_init 4 = .ok (.aload_n 0, 1) := by decide +kernel
theorem dX2_init_5 : decode cX2_init 5 = .ok (.iconst 0, 1) := by decide +kernel
theorem dX2_init_6 : decode cX2_init 6 = .ok (.putfield 9, 3) := by decide +kernel
theorem dX2_init_9 : decode cX2_init 9 = .ok (.aload_n 0, 1) := by decide +kernel
theorem dX2_init_10 : decode cX2_init 10 = .ok (.iconst (-1), 1) := by decide +kernel
theorem dX2_init_11 : decode cX2_init 11 = .ok (.putfield 15, 3) := by decide +kernel
theorem dX2_init_14 : decode cX2_init 14 = .ok (.aload_n 0, 1) := by decide +kernel
theorem dX2_init_15 : decode cX2_init 15 = .ok (.aload_n 1, 1) := by decide +kernel
theorem dX2_init_16 : decode cX2_init 16 = .ok (.putfield 18, 3) := by decide +kernel
theorem dX2_init_19 : decode cX2_init 19 = .ok (.aload_n 0, 1) := by decide +kernel
theorem dX2_init_20 : decode cX2_init 20 = .ok (.aload_n 2, 1) := by decide +kernel
theorem dX2_init_21 : decode cX2_init 21 = .ok (.putfield 22, 3) := by decide +kernel
theorem dX2_init_24 : decode cX2_init 24 = .ok (.return_, 1) := by decide +kernel
theorem dX2_parseText_0 : decode cX2_parseText 0 = .ok (.aload_n 0, 1) := by decide +kernel
theorem dX2_parseText_1 : decode cX2_parseText 1 = .ok (.getfield 22, 3) := by decide +kernel
theorem dX2_parseText_4 : decode cX2_parseText 4 = .ok (.invokevirtual 26, 3) := by decide +kernel
theorem dX2_parseText_7 : decode cX2_parseText 7 = .ok (.aload_n 0, 1) := by decide +kernel
theorem dX2_parseText_8 : decode cX2_parseText 8 = .ok (.iconst 0, 1) := by decide +kernel
theorem dX2_parseText_9 : decode cX2_parseText 9 = .ok (.putfield 31, 3) := by decide +kernel
theorem dX2_parseText_12 : decode cX2_parseText 12 = .ok (.aload_n 0, 1) := by decide +kernel
theorem dX2_parseText_13 : decode cX2_parseText 13 = .ok (.iconst 0, 1) := by decide +kernel
theorem dX2_parseText_14 : decode cX2_parseText 14 = .ok (.putfield 9, 3) := by decide +kernel
theorem dX2_parseText_17 : decode cX2_parseText 17 = .ok (.aload_n 0, 1) := by decide +kernel
theorem dX2_parseText_18 : decode cX2_parseText 18 = .ok (.iconst (-1), 1) := by decide +kernel
theorem dX2_parseText_19 : decode cX2_parseText 19 = .ok (.putfield 15, 3) := by decide +kernel
theorem dX2_parseText_22 : decode cX2_parseText 22 = .ok (.aload_n 0, 1) := by decide +kernel
theorem dX2_parseText_23 : decode cX2_parseText 23 = .ok (.iconst 0, 1) := by decide +kernel
theorem dX2_parseText_24 : decode cX2_parseText 24 = .ok (.putfield 34, 3) := by decide +kernel
theorem dX2_parseText_27 : decode cX2_parseText 27 = .ok (.aload_n 0, 1) := by decide +kernel
theorem dX2_parseText_28 : decode cX2_parseText 28 = .ok (.iconst (-1), 1) := by decide +kernel
theorem dX2_parseText_29 : decode cX2_parseText 29 = .ok (.putfield 37, 3) := by decide +kernel
theorem dX2_parseText_32 : decode cX2_parseText 32 = .ok (.iconst 0, 1) := by decide +kernel
theorem dX2_parseText_33 : decode cX2_parseText 33 = .ok (.istore_n 1, 1) := by decide +kernel
theorem dX2_parseText_34 : decode cX2_parseText 34 = .ok (.iload_n 1, 1) := by decide +kernel
theorem dX2_parseText_35 : decode cX2_parseText 35 = .ok (.bipush 7, 2) := by decide +kernel
theorem dX2_parseText_37 : decode cX2_parseText 37 = .ok (.if_icmp .gt 30, 3) := by decide +kernel
theorem dX2_parseText_40 : decode cX2_parseText 40 = .ok (.aload_n 0, 1) := by decide +kernel
theorem dX2_parseText_41 : decode cX2_parseText 41 = .ok (.getfield 9, 3) := by decide +kernel
theorem dX2_parseText_44 : decode cX2_parseText 44 = .ok (.ifCond .ne 23, 3) := by decide +kernel
theorem dX2_parseText_47 : decode cX2_parseText 47 = .ok (.aload_n 0, 1) := by decide +kernel
theorem dX2_parseText_48 : decode cX2_parseText 48 = .ok (.invokevirtual 40, 3) := by decide +kernel
theorem dX2_parseText_51 : decode cX2_parseText 51 = .ok (.sipush 258, 3) := by decide +kernel
theorem dX2_parseText_54 : decode cX2_parseText 54 = .ok (.if_icmp .eq 13, 3) := by decide +kernel
theorem dX2_parseText_57 : decode cX2_parseText 57 = .ok (.aload_n 0, 1) := by decide +kernel
theorem dX2_parseText_58 : decode cX2_parseText 58 = .ok (.invokevirtual 44, 3) := by decide +kernel
theorem dX2_parseText_61 : decode cX2_parseText 61 = .ok (.iinc 1 1, 3) := by decide +kernel
theorem dX2_parseText_64 : decode cX2_parseText 64 = .ok (.goto (-30), 3) := by decide +kernel
theorem dX2_parseText_67 : decode cX2_parseText 67 = .ok (.aload_n 0, 1) := by decide +kernel
theorem dX2_parseText_68 : decode cX2_parseText 68 = .ok (.getfield 9, 3) := by decide +kernel
theorem dX2_parseText_71 : decode cX2_parseText 71 = .ok (.ifCond .ne 19, 3) := by decide +kernel
theorem dX2_parseText_74 : decode cX2_parseText 74 = .ok (.aload_n 0, 1) := by decide +kernel
theorem dX2_parseText_75 : decode cX2_parseText 75 = .ok (.aload_n 0, 1) := by decide +kernel
theorem dX2_parseText_76 : decode cX2_parseText 76 = .ok (.getfield 34, 3) := by decide +kernel
theorem dX2_parseText_79 : decode cX2_parseText 79 = .ok (.putfield 9, 3) := by decide +kernel
theorem dX2_parseText_82 : decode cX2_parseText 82 = .ok (.aload_n 0, 1) := by decide +kernel
theorem dX2_parseText_83 : decode cX2_parseText 83 = .ok (.aload_n 0, 1) := by decide +kernel
theorem dX2_parseText_84 : decode cX2_parseText 84 = .ok (.getfield 37, 3) := by decide +kernel
theorem dX2_parseText_87 : decode cX2_parseText 87 = .ok (.putfield 15, 3) := by decide +kernel
theorem dX2_parseText_90 : decode cX2_parseText 90 = .ok (.return_, 1) := by decide +kernel
theorem dX2_parseStep_0 : decode cX2_parseStep 0 = .ok (.aload_n 0, 1) := by decide +kernel
theorem dX2_parseStep_1 : decode cX2_parseStep 1 = .ok (.invokevirtual 40, 3) := by decide +kernel
theorem dX2_parseStep_4 : decode cX2_parseStep 4 = .ok (.istore_n 1, 1) := by decide +kernel
theorem dX2_parseStep_5 : decode cX2_parseStep 5 = .ok (.iload_n 1, 1) := by decide +kernel
theorem dX2_parseStep_6 : decode cX2_parseStep 6 = .ok (.sipush 260, 3) := by decide +kernel
theorem dX2_parseStep_9 : decode cX2_parseStep 9 = .ok (.if_icmp .eq 18, 3) := by decide +kernel
theorem dX2_parseStep_12 : decode cX2_parseStep 12 = .ok (.iload_n 1, 1) := by decide +kernel
theorem dX2_parseStep_13 : decode cX2_parseStep 13 = .ok (.sipush 261, 3) := by decide +kernel
theorem dX2_parseStep_16 : decode cX2_parseStep 16 = .ok (.if_icmp .eq 11, 3) := by decide +kernel
theorem dX2_parseStep_19 : decode cX2_parseStep 19 = .ok (.aload_n 0, 1) := by decide +kernel
theorem dX2_parseStep_20 : decode cX2_parseStep 20 = .ok (.iconst 1, 1) := by decide +kernel
theorem dX2_parseStep_21 : decode cX2_parseStep 21 = .ok (.invokevirtual 47, 3) := by decide +kernel
theorem dX2_parseStep_24 : decode cX2_parseStep 24 = .ok (.goto 94, 3) := by decide +kernel
theorem dX2_parseStep_27 : decode cX2_parseStep 27 = .ok (.aload_n 0, 1) := by decide +kernel
theorem dX2_parseStep_28 : decode cX2_parseStep 28 = .ok (.getfield 22, 3) := by decide +kernel
theorem dX2_parseStep_31 : decode cX2_parseStep 31 = .ok (.getfield 51, 3) := by decide +kernel
theorem dX2_parseStep_34 : decode cX2_parseStep 34 = .ok (.bipush 7, 2) := by decide +kernel
theorem dX2_parseStep_36 : decode cX2_parseStep 36 = .ok (.if_icmp .lt 11, 3) := by decide +kernel
theorem dX2_parseStep_39 : decode cX2_parseStep 39 = .ok (.aload_n 0, 1) := by decide +kernel
theorem dX2_parseStep_40 : decode cX2_parseStep 40 = .ok (.iconst 2, 1) := by decide +kernel
theorem dX2_parseStep_41 : decode cX2_parseStep 41 = .ok (.invokevirtual 47, 3) := by decide +kernel
theorem dX2_parseStep_44 : decode cX2_parseStep 44 = .ok (.goto 74, 3) := by decide +kernel
theorem dX2_parseStep_47 : decode cX2_parseStep 47 = .ok (.aload_n 0, 1) := by decide +kernel
theorem dX2_parseStep_48 : decode cX2_parseStep 48 = .ok (.getfield 22, 3) := by decide +kernel
theorem dX2_parseStep_51 : decode cX2_parseStep 51 = .ok (.iload_n 1, 1) := by decide +kernel
theorem dX2_parseStep_52 : decode cX2_parseStep 52 = .ok (.sipush 261, 3) := by decide +kernel
theorem dX2_parseStep_55 : decode cX2_parseStep 55 = .ok (.if_icmp .ne 7, 3) := by decide +kernel
theorem dX2_parseStep_58 : decode cX2_parseStep 58 = .ok (.iconst 1, 1) := by decide +kernel
theorem dX2_parseStep_59 : decode cX2_parseStep 59 = .ok (.goto 4, 3) := by decide +kernel
theorem dX2_parseStep_62 : decode cX2_parseStep 62 = .ok (.iconst 0, 1) := by decide +kernel
theorem dX2_parseStep_63 : decode cX2_parseStep 63 = .ok (.invokevirtual 54, 3) := by decide +kernel
theorem dX2_parseStep_66 : decode cX2_parseStep 66 = .ok (.aload_n 0, 1) := by decide +kernel
theorem dX2_parseStep_67 : decode cX2_parseStep 67 = .ok (.iload_n 1, 1) := by decide +kernel
theorem dX2_parseStep_68 : decode cX2_parseStep 68 = .ok (.invokevirtual 58, 3) := by decide +kernel
theorem dX2_parseStep_71 : decode cX2_parseStep 71 = .ok (.aload_n 0, 1) := by decide +kernel
theorem dX2_parseStep_72 : decode cX2_parseStep 72 = .ok (.aload_n 0, 1) := by decide +kernel
theorem dX2_parseStep_73 : decode cX2_parseStep 73 = .ok (.getfield 22, 3) := by decide +kernel
theorem dX2_parseStep_76 : decode cX2_parseStep 76 = .ok (.getfield 51, 3) := by decide +kernel
theorem dX2_parseStep_79 : decode cX2_parseStep 79 = .ok (.iload_n 1, 1) := by decide +kernel
theorem dX2_parseStep_80 : decode cX2_parseStep 80 = .ok (.sipush 261, 3) := by decide +kernel
theorem dX2_parseStep_83 : decode cX2_parseStep 83 = .ok (.if_icmp .ne 7, 3) := by decide +kernel
theorem dX2_parseStep_86 : decode cX2_parseStep 86 = .ok (.iconst 1, 1) := by decide +kernel
theorem dX2_parseStep_87 : decode cX2_parseStep 87 = .ok (.goto 4, 3) := by decide +kernel
theorem dX2_parseStep_90 : decode cX2_parseStep 90 = .ok (.iconst 0, 1) := by decide +kernel
theorem dX2_parseStep_91 : decode cX2_parseStep 91 = .ok (.invokevirtual 61, 3) := by decide +kernel
theorem dX2_parseStep_94 : decode cX2_parseStep 94 = .ok (.aload_n 0, 1) := by decide +kernel
theorem dX2_parseStep_95 : decode cX2_parseStep 95 = .ok (.bipush 61, 2) := by decide +kernel
theorem dX2_parseStep_97 : decode cX2_parseStep 97 = .ok (.invokevirtual 58, 3) := by decide +kernel
theorem dX2_parseStep_100 : decode cX2_parseStep 100 = .ok (.aload_n 0, 1) := by decide +kernel
theorem dX2_parseStep_101 : decode cX2_parseStep 101 = .ok (.iconst 0, 1) := by decide +kernel
theorem dX2_parseStep_102 : decode cX2_parseStep 102 = .ok (.invokevirtual 65, 3) := by decide +kernel
theorem dX2_parseStep_105 : decode cX2_parseStep 105 = .ok (.aload_n 0, 1) := by decide +kernel
theorem dX2_parseStep_106 : decode cX2_parseStep 106 = .ok (.bipush 59, 2) := by decide +kernel
theorem dX2_parseStep_108 : decode cX2_parseStep 108 = .ok (.invokevirtual 58, 3) := by decide +kernel
theorem dX2_parseStep_111 : decode cX2_parseStep 111 = .ok (.aload_n 0, 1) := by decide +kernel
theorem dX2_parseStep_112 : decode cX2_parseStep 112 = .ok (.getfield 22, 3) := by decide +kernel
theorem dX2_parseStep_115 : decode cX2_parseStep 115 = .ok (.invokevirtual 68, 3) := by decide +kernel
theorem dX2_parseStep_118 : decode cX2_parseStep 118 = .ok (.return_, 1) := by decide +kernel
theorem dX2_parseHead_0 : decode cX2_parseHead 0 = .ok (.iload_n 1, 1) := by decide +kernel
theorem dX2_parseHead_1 : decode cX2_parseHead 1 = .ok (.bipush 7, 2) := by decide +kernel
theorem dX2_parseHead_3 : decode cX2_parseHead 3 = .ok (.invokestatic 71, 3) := by decide +kernel
theorem dX2_parseHead_6 : decode cX2_parseHead 6 = .ok (.ifCond .ne 4, 3) := by decide +kernel
theorem dX2_parseHead_9 : decode cX2_parseHead 9 = .ok (.return_, 1) := by decide +kernel
theorem dX2_parseHead_10 : decode cX2_parseHead 10 = .ok (.aload_n 0, 1) := by decide +kernel
theorem dX2_parseHead_11 : decode cX2_parseHead 11 = .ok (.getfield 22, 3) := by decide +kernel
theorem dX2_parseHead_14 : decode cX2_parseHead 14 = .ok (.getfield 75, 3) := by decide +kernel
theorem dX2_parseHead_17 : decode cX2_parseHead 17 = .ok (.iload_n 1, 1) := by decide +kernel
theorem dX2_parseHead_18 : decode cX2_parseHead 18 = .ok (.aload_n 0, 1) := by decide +kernel
theorem dX2_parseHead_19 : decode cX2_parseHead 19 = .ok (.invokevirtual 79, 3) := by decide +kernel
theorem dX2_parseHead_22 : decode cX2_parseHead 22 = .ok (.lastore, 1) := by decide +kernel
theorem dX2_parseHead_23 : decode cX2_parseHead 23 = .ok (.aload_n 0, 1) := by decide +kernel
theorem dX2_parseHead_24 : decode cX2_parseHead 24 = .ok (.sipush 262, 3) := by decide +kernel
theorem dX2_parseHead_27 : decode cX2_parseHead 27 = .ok (.invokevirtual 58, 3) := by decide +kernel
theorem dX2_parseHead_30 : decode cX2_parseHead 30 = .ok (.aload_n 0, 1) := by decide +kernel
theorem dX2_parseHead_31 : decode cX2_parseHead 31 = .ok (.getfield 22, 3) := by decide +kernel
theorem dX2_parseHead_34 : decode cX2_parseHead 34 = .ok (.getfield 83, 3) := by decide +kernel
theorem dX2_parseHead_37 : decode cX2_parseHead 37 = .ok (.iload_n 1, 1) := by decide +kernel
theorem dX2_parseHead_38 : decode cX2_parseHead 38 = .ok (.aload_n 0, 1) := by decide +kernel
theorem dX2_parseHead_39 : decode cX2_parseHead 39 = .ok (.iconst 1, 1) := by decide +kernel
theorem dX2_parseHead_40 : decode cX2_parseHead 40 = .ok (.bipush 20, 2) := by decide +kernel
theorem dX2_parseHead_42 : decode cX2_parseHead 42 = .ok (.invokevirtual 87, 3) := by decide +kernel
theorem dX2_parseHead_45 : decode cX2_parseHead 45 = .ok (.iastore, 1) := by decide +kernel
theorem dX2_parseHead_46 : decode cX2_parseHead 46 = .ok (.iload_n 2, 1) := by decide +kernel
theorem dX2_parseHead_47 : decode cX2_parseHead 47 = .ok (.ifCond .eq 50, 3) := by decide +kernel
theorem dX2_parseHead_50 : decode cX2_parseHead 50 = .ok (.aload_n 0, 1) := by decide +kernel
theorem dX2_parseHead_51 : decode cX2_parseHead 51 = .ok (.sipush 263, 3) := by decide +kernel
theorem dX2_parseHead_54 : decode cX2_parseHead 54 = .ok (.invokevirtual 58, 3) := by decide +kernel
theorem dX2_parseHead_57 : decode cX2_parseHead 57 = .ok (.aload_n 0, 1) := by decide +kernel
theorem dX2_parseHead_58 : decode cX2_parseHead 58 = .ok (.getfield 22, 3) := by decide +kernel
theorem dX2_parseHead_61 : decode cX2_parseHead 61 = .ok (.getfield 91, 3) := by decide +kernel
theorem dX2_parseHead_64 : decode cX2_parseHead 64 = .ok (.iload_n 1, 1) := by decide +kernel
theorem dX2_parseHead_65 : decode cX2_parseHead 65 = .ok (.aload_n 0, 1) := by decide +kernel
theorem dX2_parseHead_66 : decode cX2_parseHead 66 = .ok (.iconst 0, 1) := by decide +kernel
theorem dX2_parseHead_67 : decode cX2_parseHead 67 = .ok (.sipush 399, 3) := by decide +kernel
theorem dX2_parseHead_70 : decode cX2_parseHead 70 = .ok (.invokevirtual 87, 3) := by decide +kernel
theorem dX2_parseHead_73 : decode cX2_parseHead 73 = .ok (.iastore, 1) := by decide +kernel
theorem dX2_parseHead_74 : decode cX2_parseHead 74 = .ok (.aload_n 0, 1) := by decide +kernel
theorem dX2_parseHead_75 : decode cX2_parseHead 75 = .ok (.sipush 264, 3) := by decide +kernel
theorem dX2_parseHead_78 : decode cX2_parseHead 78 = .ok (.invokevirtual 58, 3) := by decide +kernel
theorem dX2_parseHead_81 : decode cX2_parseHead 81 = .ok (.aload_n 0, 1) := by decide +kernel
theorem dX2_parseHead_82 : decode cX2_parseHead 82 = .ok (.getfield 22, 3) := by decide +kernel
theorem dX2_parseHead_85 : decode cX2_parseHead 85 = .ok (.getfield 94, 3) := by decide +kernel
theorem dX2_parseHead_88 : decode cX2_parseHead 88 = .ok (.iload_n 1, 1) := by decide +kernel
theorem dX2_parseHead_89 : decode cX2_parseHead 89 = .ok (.aload_n 0, 1) := by decide +kernel
theorem dX2_parseHead_90 : decode cX2_parseHead 90 = .ok (.iconst 0, 1) := by decide +kernel
theorem dX2_parseHead_91 : decode cX2_parseHead 91 = .ok (.bipush 100, 2) := by decide +kernel
theorem dX2_parseHead_93 : decode cX2_parseHead 93 = .ok (.invokevirtual 87, 3) := by decide +kernel
theorem dX2_parseHead_96 : decode cX2_parseHead 96 = .ok (.iastore, 1) := by decide +kernel
theorem dX2_parseHead_97 : decode cX2_parseHead 97 = .ok (.return_, 1) := by decide +kernel
theorem dX2_parseSum_0 : decode cX2_parseSum 0 = .ok (.aload_n 0, 1) := by decide +kernel
theorem dX2_parseSum_1 : decode cX2_parseSum 1 = .ok (.iload_n 1, 1) := by decide +kernel
theorem dX2_parseSum_2 : decode cX2_parseSum 2 = .ok (.invokevirtual 97, 3) := by decide +kernel
theorem dX2_parseSum_5 : decode cX2_parseSum 5 = .ok (.iconst 0, 1) := by decide +kernel
theorem dX2_parseSum_6 : decode cX2_parseSum 6 = .ok (.istore_n 2, 1) := by decide +kernel
theorem dX2_parseSum_7 : decode cX2_parseSum 7 = .ok (.iload_n 2, 1) := by decide +kernel
theorem dX2_parseSum_8 : decode cX2_parseSum 8 = .ok (.sipush 400, 3) := by decide +kernel
theorem dX2_parseSum_11 : decode cX2_parseSum 11 = .ok (.if_icmp .ge 51, 3) := by decide +kernel
theorem dX2_parseSum_14 : decode cX2_parseSum 14 = .ok (.aload_n 0, 1) := by decide +kernel
theorem dX2_parseSum_15 : decode cX2_parseSum 15 = .ok (.invokevirtual 40, 3) := by decide +kernel
theorem dX2_parseSum_18 : decode cX2_parseSum 18 = .ok (.bipush 43, 2) := by decide +kernel
theorem dX2_parseSum_20 : decode cX2_parseSum 20 = .ok (.if_icmp .eq 12, 3) := by decide +kernel
theorem dX2_parseSum_23 : decode cX2_parseSum 23 = .ok (.aload_n 0, 1) := by decide +kernel
theorem dX2_parseSum_24 : decode cX2_parseSum 24 = .ok (.invokevirtual 40, 3) := by decide +kernel
theorem dX2_parseSum_27 : decode cX2_parseSum 27 = .ok (.bipush 45, 2) := by decide +kernel
theorem dX2_parseSum_29 : decode cX2_parseSum 29 = .ok (.if_icmp .ne 33, 3) := by decide +kernel
theorem dX2_parseSum_32 : decode cX2_parseSum 32 = .ok (.aload_n 0, 1) := by decide +kernel
theorem dX2_parseSum_33 : decode cX2_parseSum 33 = .ok (.invokevirtual 40, 3) := by decide +kernel
theorem dX2_parseSum_36 : decode cX2_parseSum 36 = .ok (.istore_n 3, 1) := by decide +kernel
theorem dX2_parseSum_37 : decode cX2_parseSum 37 = .ok (.aload_n 0, 1) := by decide +kernel
theorem dX2_parseSum_38 : decode cX2_parseSum 38 = .ok (.iload_n 3, 1) := by decide +kernel
theorem dX2_parseSum_39 : decode cX2_parseSum 39 = .ok (.invokevirtual 58, 3) := by decide +kernel
theorem dX2_parseSum_42 : decode cX2_parseSum 42 = .ok (.aload_n 0, 1) := by decide +kernel
theorem dX2_parseSum_43 : decode cX2_parseSum 43 = .ok (.iload_n 1, 1) := by decide +kernel
theorem dX2_parseSum_44 : decode cX2_parseSum 44 = .ok (.invokevirtual 97, 3) := by decide +kernel
theorem dX2_parseSum_47 : decode cX2_parseSum 47 = .ok (.aload_n 0, 1) := by decide +kernel
theorem dX2_parseSum_48 : decode cX2_parseSum 48 = .ok (.getfield 22, 3) := by decide +kernel
theorem dX2_parseSum_51 : decode cX2_parseSum 51 = .ok (.iload_n 3, 1) := by decide +kernel
theorem dX2_parseSum_52 : decode cX2_parseSum 52 = .ok (.iconst 0, 1) := by decide +kernel
theorem dX2_parseSum_53 : decode cX2_parseSum 53 = .ok (.invokevirtual 100, 3) := by decide +kernel
theorem dX2_parseSum_56 : decode cX2_parseSum 56 = .ok (.iinc 2 1, 3) := by decide +kernel
theorem dX2_parseSum_59 : decode cX2_parseSum 59 = .ok (.goto (-52), 3) := by decide +kernel
theorem dX2_parseSum_62 : decode cX2_parseSum 62 = .ok (.return_, 1) := by decide +kernel
theorem dX2_parseProduct_0 : decode cX2_parseProduct 0 = .ok (.aload_n 0, 1) := by decide +kernel
theorem dX2_parseProduct_1 : decode cX2_parseProduct 1 = .ok (.iload_n 1, 1) := by decide +kernel
theorem dX2_parseProduct_2 : decode cX2_parseProduct 2 = .ok (.invokevirtual 104, 3) := by decide +kernel
theorem dX2_parseProduct_5 : decode cX2_parseProduct 5 = .ok (.iconst 0, 1) := by decide +kernel
theorem dX2_parseProduct_6 : decode cX2_parseProduct 6 = .ok (.istore_n 2, 1) := by decide +kernel
theorem dX2_parseProduct_7 : decode cX2_parseProduct 7 = .ok (.iload_n 2, 1) := by decide +kernel
theorem dX2_parseProduct_8 : decode cX2_parseProduct 8 = .ok (.sipush 400, 3) := by decide +kernel
theorem dX2_parseProduct_11 : decode cX2_parseProduct 11 = .ok (.if_icmp .ge 39, 3) := by decide +kernel
theorem dX2_parseProduct_14 : decode cX2_parseProduct 14 = .ok (.aload_n 0, 1) := by decide +kernel
theorem dX2_parseProduct_15 : decode cX2_parseProduct 15 = .ok (.invokevirtual 40, 3) := by decide +kernel
theorem dX2_parseProduct_18 : decode cX2_parseProduct 18 = .ok (.bipush 42, 2) := by decide +kernel
theorem dX2_parseProduct_20 : decode cX2_parseProduct 20 = .ok (.if_icmp .ne 30, 3) := by decide +kernel
theorem dX2_parseProduct_23 : decode cX2_parseProduct 23 = .ok (.aload_n 0, 1) := by decide +kernel
theorem dX2_parseProduct_24 : decode cX2_parseProduct 24 = .ok (.bipush 42, 2) := by decide +kernel
theorem dX2_parseProduct_26 : decode cX2_parseProduct 26 = .ok (.invokevirtual 58, 3) := by decide +kernel
theorem dX2_parseProduct_29 : decode cX2_parseProduct 29 = .ok (.aload_n 0, 1) := by decide +kernel
theorem dX2_parseProduct_30 : decode cX2_parseProduct 30 = .ok (.iload_n 1, 1) := by decide +kernel
theorem dX2_parseProduct_31 : decode cX2_parseProduct 31 = .ok (.invokevirtual 104, 3) := by decide +kernel
theorem dX2_parseProduct_34 : decode cX2_parseProduct 34 = .ok (.aload_n 0, 1) := by decide +kernel
theorem dX2_parseProduct_35 : decode cX2_parseProduct 35 = .ok (.getfield 22, 3) := by decide +kernel
theorem dX2_parseProduct_38 : decode cX2_parseProduct 38 = .ok (.bipush 42, 2) := by decide +kernel
theorem dX2_parseProduct_40 : decode cX2_parseProduct 40 = .ok (.iconst 0, 1) := by decide +kernel
theorem dX2_parseProduct_41 : decode cX2_parseProduct 41 = .ok (.invokevirtual 100, 3) := by decide +kernel
theorem dX2_parseProduct_44 : decode cX2_parseProduct 44 = .ok (.iinc 2 1, 3) := by decide +kernel
theorem dX2_parseProduct_47 : decode cX2_parseProduct 47 = .ok (.goto (-40), 3) := by decide +kernel
theorem dX2_parseProduct_50 : decode cX2_parseProduct 50 = .ok (.return_, 1) := by decide +kernel
theorem dX2_parseUnit_0 : decode cX2_parseUnit 0 = .ok (.aload_n 0, 1) := by decide +kernel
theorem dX2_parseUnit_1 : decode cX2_parseUnit 1 = .ok (.invokevirtual 40, 3) := by decide +kernel
theorem dX2_parseUnit_4 : decode cX2_parseUnit 4 = .ok (.istore_n 2, 1) := by decide +kernel
theorem dX2_parseUnit_5 : decode cX2_parseUnit 5 = .ok (.iload_n 2, 1) := by decide +kernel
theorem dX2_parseUnit_6 : decode cX2_parseUnit 6 = .ok (.lookupswitch 201 #[(40, 182), (256, 87), (257, 66), (265, 101), (266, 101), (267, 101), (268, 134)], 66) := by decide +kernel
theorem dX2_parseUnit_72 : decode cX2_parseUnit 72 = .ok (.aload_n 0, 1) := by decide +kernel
theorem dX2_parseUnit_73 : decode cX2_parseUnit 73 = .ok (.getfield 22, 3) := by decide +kernel
theorem dX2_parseUnit_76 : decode cX2_parseUnit 76 = .ok (.sipush 257, 3) := by decide +kernel
theorem dX2_parseUnit_79 : decode cX2_parseUnit 79 = .ok (.aload_n 0, 1) := by decide +kernel
theorem dX2_parseUnit_80 : decode cX2_parseUnit 80 = .ok (.iconst 0, 1) := by decide +kernel
theorem dX2_parseUnit_81 : decode cX2_parseUnit 81 = .ok (.sipush 9999, 3) := by decide +kernel
theorem dX2_parseUnit_84 : decode cX2_parseUnit 84 = .ok (.invokevirtual 87, 3) := by decide +kernel
theorem dX2_parseUnit_87 : decode cX2_parseUnit 87 = .ok (.invokevirtual 100, 3) := by decide +kernel
theorem dX2_parseUnit_90 : decode cX2_parseUnit 90 = .ok (.goto 122, 3) := by decide +kernel
theorem dX2_parseUnit_93 : decode cX2_parseUnit 93 = .ok (.aload_n 0, 1) := by decide +kernel
theorem dX2_parseUnit_94 : decode cX2_parseUnit 94 = .ok (.getfield 22, 3) := by decide +kernel
theorem dX2_parseUnit_97 : decode cX2_parseUnit 97 = .ok (.aload_n 0, 1) := by decide +kernel
theorem dX2_parseUnit_98 : decode cX2_parseUnit 98 = .ok (.invokevirtual 107, 3) := by decide +kernel
theorem dX2_parseUnit_101 : decode cX2_parseUnit 101 = .ok (.invokevirtual 110, 3) := by decide +kernel
theorem dX2_parseUnit_104 : decode cX2_parseUnit 104 = .ok (.goto 108, 3) := by decide +kernel
theorem dX2_parseUnit_107 : decode cX2_parseUnit 107 = .ok (.aload_n 0, 1) := by decide +kernel
theorem dX2_parseUnit_108 : decode cX2_parseUnit 108 = .ok (.iload_n 2, 1) := by decide +kernel
theorem dX2_parseUnit_109 : decode cX2_parseUnit 109 = .ok (.invokevirtual 58, 3) := by decide +kernel
theorem dX2_parseUnit_112 : decode cX2_parseUnit 112 = .ok (.aload_n 0, 1) := by decide +kernel
theorem dX2_parseUnit_113 : decode cX2_parseUnit 113 = .ok (.iload_n 1, 1) := by decide +kernel
theorem dX2_parseUnit_114 : decode cX2_parseUnit 114 = .ok (.invokevirtual 113, 3) := by decide +kernel
theorem dX2_parseUnit_117 : decode cX2_parseUnit 117 = .ok (.aload_n 0, 1) := by decide +kernel
theorem dX2_parseUnit_118 : decode cX2_parseUnit 118 = .ok (.getfield 22, 3) := by decide +kernel
theorem dX2_parseUnit_121 : decode cX2_parseUnit 121 = .ok (.iload_n 2, 1) := by decide +kernel
theorem dX2_parseUnit_122 : decode cX2_parseUnit 122 = .ok (.aload_n 0, 1) := by decide +kernel
theorem dX2_parseUnit_123 : decode cX2_parseUnit 123 = .ok (.iconst 0, 1) := by decide +kernel
theorem dX2_parseUnit_124 : decode cX2_parseUnit 124 = .ok (.iconst 5, 1) := by decide +kernel
theorem dX2_parseUnit_125 : decode cX2_parseUnit 125 = .ok (.invokevirtual 87, 3) := by decide +kernel
theorem dX2_parseUnit_128 : decode cX2_parseUnit 128 = .ok (.invokevirtual 116, 3) := by decide +kernel
theorem dX2_parseUnit_131 : decode cX2_parseUnit 131 = .ok (.aload_n 0, 1) := by decide +kernel
theorem dX2_parseUnit_132 : decode cX2_parseUnit 132 = .ok (.bipush 41, 2) := by decide +kernel
theorem dX2_parseUnit_134 : decode cX2_parseUnit 134 = .ok (.invokevirtual 58, 3) := by decide +kernel
theorem dX2_parseUnit_137 : decode cX2_parseUnit 137 = .ok (.goto 75, 3) := by decide +kernel
theorem dX2_parseUnit_140 : decode cX2_parseUnit 140 = .ok (.aload_n 0, 1) := by decide +kernel
theorem dX2_parseUnit_141 : decode cX2_parseUnit 141 = .ok (.sipush 268, 3) := by decide +kernel
theorem dX2_parseUnit_144 : decode cX2_parseUnit 144 = .ok (.invokevirtual 58, 3) := by decide +kernel
theorem dX2_parseUnit_147 : decode cX2_parseUnit 147 = .ok (.aload_n 0, 1) := by decide +kernel
theorem dX2_parseUnit_148 : decode cX2_parseUnit 148 = .ok (.iload_n 1, 1) := by decide +kernel
theorem dX2_parseUnit_149 : decode cX2_parseUnit 149 = .ok (.invokevirtual 113, 3) := by decide +kernel
theorem dX2_parseUnit_152 : decode cX2_parseUnit 152 = .ok (.aload_n 0, 1) := by decide +kernel
theorem dX2_parseUnit_153 : decode cX2_parseUnit 153 = .ok (.iload_n 1, 1) := by decide +kernel
theorem dX2_parseUnit_154 : decode cX2_parseUnit 154 = .ok (.invokevirtual 119, 3) := by decide +kernel
theorem dX2_parseUnit_157 : decode cX2_parseUnit 157 = .ok (.aload_n 0, 1) := by decide +kernel
theorem dX2_parseUnit_158 : decode cX2_parseUnit 158 = .ok (.bipush 44, 2) := by decide +kernel
theorem dX2_parseUnit_160 : decode cX2_parseUnit 160 = .ok (.invokevirtual 58, 3) := by decide +kernel
theorem dX2_parseUnit_163 : decode cX2_parseUnit 163 = .ok (.aload_n 0, 1) := by decide +kernel
theorem dX2_parseUnit_164 : decode cX2_parseUnit 164 = .ok (.iload_n 1, 1) := by decide +kernel
theorem dX2_parseUnit_165 : decode cX2_parseUnit 165 = .ok (.invokevirtual 119, 3) := by decide +kernel
theorem dX2_parseUnit_168 : decode cX2_parseUnit 168 = .ok (.aload_n 0, 1) := by decide +kernel
theorem dX2_parseUnit_169 : decode cX2_parseUnit 169 = .ok (.bipush 41, 2) := by decide +kernel
theorem dX2_parseUnit_171 : decode cX2_parseUnit 171 = .ok (.invokevirtual 58, 3) := by decide +kernel
theorem dX2_parseUnit_174 : decode cX2_parseUnit 174 = .ok (.aload_n 0, 1) := by decide +kernel
theorem dX2_parseUnit_175 : decode cX2_parseUnit 175 = .ok (.getfield 22, 3) := by decide +kernel
theorem dX2_parseUnit_178 : decode cX2_parseUnit 178 = .ok (.sipush 268, 3) := by decide +kernel
theorem dX2_parseUnit_181 : decode cX2_parseUnit 181 = .ok (.iconst 0, 1) := by decide +kernel
theorem dX2_parseUnit_182 : decode cX2_parseUnit 182 = .ok (.invokevirtual 100, 3) := by decide +kernel
theorem dX2_parseUnit_185 : decode cX2_parseUnit 185 = .ok (.goto 27, 3) := by decide +kernel
theorem dX2_parseUnit_188 : decode cX2_parseUnit 188 = .ok (.aload_n 0, 1) := by decide +kernel
theorem dX2_parseUnit_189 : decode cX2_parseUnit 189 = .ok (.iload_n 1, 1) := by decide +kernel
theorem dX2_parseUnit_190 : decode cX2_parseUnit 190 = .ok (.invokevirtual 113, 3) := by decide +kernel
theorem dX2_parseUnit_193 : decode cX2_parseUnit 193 = .ok (.aload_n 0, 1) := by decide +kernel
theorem dX2_parseUnit_194 : decode cX2_parseUnit 194 = .ok (.iload_n 1, 1) := by decide +kernel
theorem dX2_parseUnit_195 : decode cX2_parseUnit 195 = .ok (.invokevirtual 119, 3) := by decide +kernel
theorem dX2_parseUnit_198 : decode cX2_parseUnit 198 = .ok (.aload_n 0, 1) := by decide +kernel
theorem dX2_parseUnit_199 : decode cX2_parseUnit 199 = .ok (.bipush 41, 2) := by decide +kernel
theorem dX2_parseUnit_201 : decode cX2_parseUnit 201 = .ok (.invokevirtual 58, 3) := by decide +kernel
theorem dX2_parseUnit_204 : decode cX2_parseUnit 204 = .ok (.goto 8, 3) := by decide +kernel
theorem dX2_parseUnit_207 : decode cX2_parseUnit 207 = .ok (.aload_n 0, 1) := by decide +kernel
theorem dX2_parseUnit_208 : decode cX2_parseUnit 208 = .ok (.iconst 1, 1) := by decide +kernel
theorem dX2_parseUnit_209 : decode cX2_parseUnit 209 = .ok (.invokevirtual 47, 3) := by decide +kernel
theorem dX2_parseUnit_212 : decode cX2_parseUnit 212 = .ok (.return_, 1) := by decide +kernel
theorem dX2_parseInside_0 : decode cX2_parseInside 0 = .ok (.aload_n 0, 1) := by decide +kernel
theorem dX2_parseInside_1 : decode cX2_parseInside 1 = .ok (.getfield 9, 3) := by decide +kernel
theorem dX2_parseInside_4 : decode cX2_parseInside 4 = .ok (.ifCond .ne 16, 3) := by decide +kernel
theorem dX2_parseInside_7 : decode cX2_parseInside 7 = .ok (.iload_n 1, 1) := by decide +kernel
theorem dX2_parseInside_8 : decode cX2_parseInside 8 = .ok (.bipush 6, 2) := by decide +kernel
theorem dX2_parseInside_10 : decode cX2_parseInside 10 = .ok (.if_icmp .ge 10, 3) := by decide +kernel
theorem dX2_parseInside_13 : decode cX2_parseInside 13 = .ok (.aload_n 0, 1) := by decide +kernel
theorem dX2_parseInside_14 : decode cX2_parseInside 14 = .ok (.iload_n 1, 1) := by decide +kernel
theorem dX2_parseInside_15 : decode cX2_parseInside 15 = .ok (.iconst 1, 1) := by decide +kernel
theorem dX2_parseInside_16 : decode cX2_parseInside 16 = .ok (.iadd, 1) := by decide +kernel
theorem dX2_parseInside_17 : decode cX2_parseInside 17 = .ok (.invokevirtual 65, 3) := by decide +kernel
theorem dX2_parseInside_20 : decode cX2_parseInside 20 = .ok (.return_, 1) := by decide +kernel
theorem dX2_acceptOpening_0 : decode cX2_acceptOpening 0 = .ok (.aload_n 0, 1) := by decide +kernel
theorem dX2_acceptOpening_1 : decode cX2_acceptOpening 1 = .ok (.invokevirtual 40, 3) := by decide +kernel
theorem dX2_acceptOpening_4 : decode cX2_acceptOpening 4 = .ok (.bipush 40, 2) := by decide +kernel
theorem dX2_acceptOpening_6 : decode cX2_acceptOpening 6 = .ok (.if_icmp .ne 14, 3) := by decide +kernel
theorem dX2_acceptOpening_9 : decode cX2_acceptOpening 9 = .ok (.iload_n 1, 1) := by decide +kernel
theorem dX2_acceptOpening_10 : decode cX2_acceptOpening 10 = .ok (.bipush 6, 2) := by decide +kernel
theorem dX2_acceptOpening_12 : decode cX2_acceptOpening 12 = .ok (.if_icmp .lt 8, 3) := by decide +kernel
theorem dX2_acceptOpening_15 : decode cX2_acceptOpening 15 = .ok (.aload_n 0, 1) := by decide +kernel
theorem dX2_acceptOpening_16 : decode cX2_acceptOpening 16 = .ok (.iconst 2, 1) := by decide +kernel
theorem dX2_acceptOpening_17 : decode cX2_acceptOpening 17 = .ok (.invokevirtual 47, 3) := by decide +kernel
theorem dX2_acceptOpening_20 : decode cX2_acceptOpening 20 = .ok (.aload_n 0, 1) := by decide +kernel
theorem dX2_acceptOpening_21 : decode cX2_acceptOpening 21 = .ok (.bipush 40, 2) := by decide +kernel
theorem dX2_acceptOpening_23 : decode cX2_acceptOpening 23 = .ok (.invokevirtual 58, 3) := by decide +kernel
theorem dX2_acceptOpening_26 : decode cX2_acceptOpening 26 = .ok (.return_, 1) := by decide +kernel
theorem dX2_acceptPart_0 : decode cX2_acceptPart 0 = .ok (.aload_n 0, 1) := by decide +kernel
theorem dX2_acceptPart_1 : decode cX2_acceptPart 1 = .ok (.getfield 22, 3) := by decide +kernel
theorem dX2_acceptPart_4 : decode cX2_acceptPart 4 = .ok (.aload_n 0, 1) := by decide +kernel
theorem dX2_acceptPart_5 : decode cX2_acceptPart 5 = .ok (.getfield 18, 3) := by decide +kernel
theorem dX2_acceptPart_8 : decode cX2_acceptPart 8 = .ok (.getfield 122, 3) := by decide +kernel
theorem dX2_acceptPart_11 : decode cX2_acceptPart 11 = .ok (.aload_n 0, 1) := by decide +kernel
theorem dX2_acceptPart_12 : decode cX2_acceptPart 12 = .ok (.getfield 31, 3) := by decide +kernel
theorem dX2_acceptPart_15 : decode cX2_acceptPart 15 = .ok (.laload, 1) := by decide +kernel
theorem dX2_acceptPart_16 : decode cX2_acceptPart 16 = .ok (.invokevirtual 127, 3) := by decide +kernel
theorem dX2_acceptPart_19 : decode cX2_acceptPart 19 = .ok (.istore_n 1, 1) := by decide +kernel
theorem dX2_acceptPart_20 : decode cX2_acceptPart 20 = .ok (.iload_n 1, 1) := by decide +kernel
theorem dX2_acceptPart_21 : decode cX2_acceptPart 21 = .ok (.iconst (-1), 1) := by decide +kernel
theorem dX2_acceptPart_22 : decode cX2_acceptPart 22 = .ok (.if_icmp .ne 8, 3) := by decide +kernel
theorem dX2_acceptPart_25 : decode cX2_acceptPart 25 = .ok (.aload_n 0, 1) := by decide +kernel
theorem dX2_acceptPart_26 : decode cX2_acceptPart 26 = .ok (.iconst 4, 1) := by decide +kernel
theorem dX2_acceptPart_27 : decode cX2_acceptPart 27 = .ok (.invokevirtual 131, 3) := by decide +kernel
theorem dX2_acceptPart_30 : decode cX2_acceptPart 30 = .ok (.aload_n 0, 1) := by decide +kernel
theorem dX2_acceptPart_31 : decode cX2_acceptPart 31 = .ok (.sipush 256, 3) := by decide +kernel
theorem dX2_acceptPart_34 : decode cX2_acceptPart 34 = .ok (.invokevirtual 58, 3) := by decide +kernel
theorem dX2_acceptPart_37 : decode cX2_acceptPart 37 = .ok (.iload_n 1, 1) := by decide +kernel
theorem dX2_acceptPart_38 : decode cX2_acceptPart 38 = .ok (.ireturn, 1) := by decide +kernel
theorem dX2_acceptNewName_0 : decode cX2_acceptNewName 0 = .ok (.aload_n 0, 1) := by decide +kernel
theorem dX2_acceptNewName_1 : decode cX2_acceptNewName 1 = .ok (.getfield 18, 3) := by decide +kernel
theorem dX2_acceptNewName_4 : decode cX2_acceptNewName 4 = .ok (.getfield 122, 3) := by decide +kernel
theorem dX2_acceptNewName_7 : decode cX2_acceptNewName 7 = .ok (.aload_n 0, 1) := by decide +kernel
theorem dX2_acceptNewName_8 : decode cX2_acceptNewName 8 = .ok (.getfield 31, 3) := by decide +kernel
theorem dX2_acceptNewName_11 : decode cX2_acceptNewName 11 = .ok (.laload, 1) := by decide +kernel
theorem dX2_acceptNewName_12 : decode cX2_acceptNewName 12 = .ok (.lstore_n 1, 1) := by decide +kernel
theorem dX2_acceptNewName_13 : decode cX2_acceptNewName 13 = .ok (.aload_n 0, 1) := by decide +kernel
theorem dX2_acceptNewName_14 : decode cX2_acceptNewName 14 = .ok (.invokevirtual 40, 3) := by decide +kernel
theorem dX2_acceptNewName_17 : decode cX2_acceptNewName 17 = .ok (.sipush 256, 3) := by decide +kernel
theorem dX2_acceptNewName_20 : decode cX2_acceptNewName 20 = .ok (.if_icmp .ne 19, 3) := by decide +kernel
theorem dX2_acceptNewName_23 : decode cX2_acceptNewName 23 = .ok (.aload_n 0, 1) := by decide +kernel
theorem dX2_acceptNewName_24 : decode cX2_acceptNewName 24 = .ok (.getfield 22, 3) := by decide +kernel
theorem dX2_acceptNewName_27 : decode cX2_acceptNewName 27 = .ok (.lload_n 1, 1) := by decide +kernel
theorem dX2_acceptNewName_28 : decode cX2_acceptNewName 28 = .ok (.invokevirtual 134, 3) := by decide +kernel
theorem dX2_acceptNewName_31 : decode cX2_acceptNewName 31 = .ok (.ifCond .eq 8, 3) := by decide +kernel
theorem dX2_acceptNewName_34 : decode cX2_acceptNewName 34 = .ok (.aload_n 0, 1) := by decide +kernel
theorem dX2_acceptNewName_35 : decode cX2_acceptNewName 35 = .ok (.iconst 3, 1) := by decide +kernel
theorem dX2_acceptNewName_36 : decode cX2_acceptNewName 36 = .ok (.invokevirtual 131, 3) := by decide +kernel
theorem dX2_acceptNewName_39 : decode cX2_acceptNewName 39 = .ok (.aload_n 0, 1) := by decide +kernel
theorem dX2_acceptNewName_40 : decode cX2_acceptNewName 40 = .ok (.sipush 256, 3) := by decide +kernel
theorem dX2_acceptNewName_43 : decode cX2_acceptNewName 43 = .ok (.invokevirtual 58, 3) := by decide +kernel
theorem dX2_acceptNewName_46 : decode cX2_acceptNewName 46 = .ok (.lload_n 1, 1) := by decide +kernel
theorem dX2_acceptNewName_47 : decode cX2_acceptNewName 47 = .ok (.lreturn, 1) := by decide +kernel
theorem dX2_acceptInt_0 : decode cX2_acceptInt 0 = .ok (.aload_n 0, 1) := by decide +kernel
theorem dX2_acceptInt_1 : decode cX2_acceptInt 1 = .ok (.getfield 18, 3) := by decide +kernel
theorem dX2_acceptInt_4 : decode cX2_acceptInt 4 = .ok (.getfield 122, 3) := by decide +kernel
theorem dX2_acceptInt_7 : decode cX2_acceptInt 7 = .ok (.aload_n 0, 1) := by decide +kernel
theorem dX2_acceptInt_8 : decode cX2_acceptInt 8 = .ok (.getfield 31, 3) := by decide +kernel
theorem dX2_acceptInt_11 : decode cX2_acceptInt 11 = .ok (.laload, 1) := by decide +kernel
theorem dX2_acceptInt_12 : decode cX2_acceptInt 12 = .ok (.lstore_n 3, 1) := by decide +kernel
theorem dX2_acceptInt_13 : decode cX2_acceptInt 13 = .ok (.lload_n 3, 1) := by decide +kernel
theorem dX2_acceptInt_14 : decode cX2_acceptInt 14 = .ok (.iload_n 1, 1) := by decide +kernel
theorem dX2_acceptInt_15 : decode cX2_acceptInt 15 = .ok (.i2l, 1) := by decide +kernel
theorem dX2_acceptInt_16 : decode cX2_acceptInt 16 = .ok (.lcmp, 1) := by decide +kernel
theorem dX2_acceptInt_17 : decode cX2_acceptInt 17 = .ok (.ifCond .lt 14, 3) := by decide +kernel
theorem dX2_acceptInt_20 : decode cX2_acceptInt 20 = .ok (.lload_n 3, 1) := by decide +kernel
theorem dX2_acceptInt_21 : decode cX2_acceptInt 21 = .ok (.iload_n 2, 1) := by decide +kernel
theorem dX2_acceptInt_22 : decode cX2_acceptInt 22 = .ok (.i2l, 1) := by decide +kernel
theorem dX2_acceptInt_23 : decode cX2_acceptInt 23 = .ok (.lcmp, 1) := by decide +kernel
theorem dX2_acceptInt_24 : decode cX2_acceptInt 24 = .ok (.ifCond .gt 7, 3) := by decide +kernel
theorem dX2_acceptInt_27 : decode cX2_acceptInt 27 = .ok (.iconst 1, 1) := by decide +kernel
theorem dX2_acceptInt_28 : decode cX2_acceptInt 28 = .ok (.goto 4, 3) := by decide +kernel
theorem dX2_acceptInt_31 : decode cX2_acceptInt 31 = .ok (.iconst 0, 1) := by decide +kernel
theorem dX2_acceptInt_32 : decode cX2_acceptInt 32 = .ok (.istore 5, 2) := by decide +kernel
theorem dX2_acceptInt_34 : decode cX2_acceptInt 34 = .ok (.aload_n 0, 1) := by decide +kernel
theorem dX2_acceptInt_35 : decode cX2_acceptInt 35 = .ok (.invokevirtual 40, 3) := by decide +kernel
theorem dX2_acceptInt_38 : decode cX2_acceptInt 38 = .ok (.sipush 257, 3) := by decide +kernel
theorem dX2_acceptInt_41 : decode cX2_acceptInt 41 = .ok (.if_icmp .ne 13, 3) := by decide +kernel
theorem dX2_acceptInt_44 : decode cX2_acceptInt 44 = .ok (.iload 5, 2) := by decide +kernel
theorem dX2_acceptInt_46 : decode cX2_acceptInt 46 = .ok (.ifCond .ne 8, 3) := by decide +kernel
theorem dX2_acceptInt_49 : decode cX2_acceptInt 49 = .ok (.aload_n 0, 1) := by decide +kernel
theorem dX2_acceptInt_50 : decode cX2_acceptInt 50 = .ok (.iconst 5, 1) := by decide +kernel
theorem dX2_acceptInt_51 : decode cX2_acceptInt 51 = .ok (.invokevirtual 131, 3) := by decide +kernel
theorem dX2_acceptInt_54 : decode cX2_acceptInt 54 = .ok (.aload_n 0, 1) := by decide +kernel
theorem dX2_acceptInt_55 : decode cX2_acceptInt 55 = .ok (.sipush 257, 3) := by decide +kernel
theorem dX2_acceptInt_58 : decode cX2_acceptInt 58 = .ok (.invokevirtual 58, 3) := by decide +kernel
theorem dX2_acceptInt_61 : decode cX2_acceptInt 61 = .ok (.iload 5, 2) := by decide +kernel
theorem dX2_acceptInt_63 : decode cX2_acceptInt 63 = .ok (.ifCond .eq 8, 3) := by decide +kernel
theorem dX2_acceptInt_66 : decode cX2_acceptInt 66 = .ok (.lload_n 3, 1) := by decide +kernel
theorem dX2_acceptInt_67 : decode cX2_acceptInt 67 = .ok (.l2i, 1) := by decide +kernel
theorem dX2_acceptInt_68 : decode cX2_acceptInt 68 = .ok (.goto 4, 3) := by decide +kernel
theorem dX2_acceptInt_71 : decode cX2_acceptInt 71 = .ok (.iload_n 1, 1) := by decide +kernel
theorem dX2_acceptInt_72 : decode cX2_acceptInt 72 = .ok (.ireturn, 1) := by decide +kernel
theorem dX2_peek_0 : decode cX2_peek 0 = .ok (.aload_n 0, 1) := by decide +kernel
theorem dX2_peek_1 : decode cX2_peek 1 = .ok (.getfield 9, 3) := by decide +kernel
theorem dX2_peek_4 : decode cX2_peek 4 = .ok (.ifCond .ne 18, 3) := by decide +kernel
theorem dX2_peek_7 : decode cX2_peek 7 = .ok (.aload_n 0, 1) := by decide +kernel
theorem dX2_peek_8 : decode cX2_peek 8 = .ok (.getfield 18, 3) := by decide +kernel
theorem dX2_peek_11 : decode cX2_peek 11 = .ok (.getfield 138, 3) := by decide +kernel
theorem dX2_peek_14 : decode cX2_peek 14 = .ok (.aload_n 0, 1) := by decide +kernel
theorem dX2_peek_15 : decode cX2_peek 15 = .ok (.getfield 31, 3) := by decide +kernel
theorem dX2_peek_18 : decode cX2_peek 18 = .ok (.iaload, 1) := by decide +kernel
theorem dX2_peek_19 : decode cX2_peek 19 = .ok (.goto 6, 3) := by decide +kernel
theorem dX2_peek_22 : decode cX2_peek 22 = .ok (.sipush 259, 3) := by decide +kernel
theorem dX2_peek_25 : decode cX2_peek 25 = .ok (.ireturn, 1) := by decide +kernel
theorem dX2_accept_0 : decode cX2_accept 0 = .ok (.aload_n 0, 1) := by decide +kernel
theorem dX2_accept_1 : decode cX2_accept 1 = .ok (.getfield 9, 3) := by decide +kernel
theorem dX2_accept_4 : decode cX2_accept 4 = .ok (.ifCond .eq 4, 3) := by decide +kernel
theorem dX2_accept_7 : decode cX2_accept 7 = .ok (.return_, 1) := by decide +kernel
theorem dX2_accept_8 : decode cX2_accept 8 = .ok (.aload_n 0, 1) := by decide +kernel
theorem dX2_accept_9 : decode cX2_accept 9 = .ok (.getfield 18, 3) := by decide +kernel
theorem dX2_accept_12 : decode cX2_accept 12 = .ok (.getfield 138, 3) := by decide +kernel
theorem dX2_accept_15 : decode cX2_accept 15 = .ok (.aload_n 0, 1) := by decide +kernel
theorem dX2_accept_16 : decode cX2_accept 16 = .ok (.getfield 31, 3) := by decide +kernel
theorem dX2_accept_19 : decode cX2_accept 19 = .ok (.iaload, 1) := by decide +kernel
theorem dX2_accept_20 : decode cX2_accept 20 = .ok (.iload_n 1, 1) := by decide +kernel
theorem dX2_accept_21 : decode cX2_accept 21 = .ok (.if_icmp .ne 26, 3) := by decide +kernel
theorem dX2_accept_24 : decode cX2_accept 24 = .ok (.aload_n 0, 1) := by decide +kernel
theorem dX2_accept_25 : decode cX2_accept 25 = .ok (.getfield 31, 3) := by decide +kernel
theorem dX2_accept_28 : decode cX2_accept 28 = .ok (.sipush 400, 3) := by decide +kernel
theorem dX2_accept_31 : decode cX2_accept 31 = .ok (.if_icmp .ge 16, 3) := by decide +kernel
theorem dX2_accept_34 : decode cX2_accept 34 = .ok (.aload_n 0, 1) := by decide +kernel
theorem dX2_accept_35 : decode cX2_accept 35 = .ok (.dup, 1) := by decide +kernel
theorem dX2_accept_36 : decode cX2_accept 36 = .ok (.getfield 31, 3) := by decide +kernel
theorem dX2_accept_39 : decode cX2_accept 39 = .ok (.iconst 1, 1) := by decide +kernel
theorem dX2_accept_40 : decode cX2_accept 40 = .ok (.iadd, 1) := by decide +kernel
theorem dX2_accept_41 : decode cX2_accept 41 = .ok (.putfield 31, 3) := by decide +kernel
theorem dX2_accept_44 : decode cX2_accept 44 = .ok (.goto 44, 3) := by decide +kernel
theorem dX2_accept_47 : decode cX2_accept 47 = .ok (.aload_n 0, 1) := by decide +kernel
theorem dX2_accept_48 : decode cX2_accept 48 = .ok (.aload_n 0, 1) := by decide +kernel
theorem dX2_accept_49 : decode cX2_accept 49 = .ok (.getfield 18, 3) := by decide +kernel
theorem dX2_accept_52 : decode cX2_accept 52 = .ok (.getfield 138, 3) := by decide +kernel
theorem dX2_accept_55 : decode cX2_accept 55 = .ok (.aload_n 0, 1) := by decide +kernel
theorem dX2_accept_56 : decode cX2_accept 56 = .ok (.getfield 31, 3) := by decide +kernel
theorem dX2_accept_59 : decode cX2_accept 59 = .ok (.iaload, 1) := by decide +kernel
theorem dX2_accept_60 : decode cX2_accept 60 = .ok (.iload_n 1, 1) := by decide +kernel
theorem dX2_accept_61 : decode cX2_accept 61 = .ok (.if_icmp .ne 7, 3) := by decide +kernel
theorem dX2_accept_64 : decode cX2_accept 64 = .ok (.iconst 2, 1) := by decide +kernel
theorem dX2_accept_65 : decode cX2_accept 65 = .ok (.goto 4, 3) := by decide +kernel
theorem dX2_accept_68 : decode cX2_accept 68 = .ok (.iconst 1, 1) := by decide +kernel
theorem dX2_accept_69 : decode cX2_accept 69 = .ok (.putfield 9, 3) := by decide +kernel
theorem dX2_accept_72 : decode cX2_accept 72 = .ok (.aload_n 0, 1) := by decide +kernel
theorem dX2_accept_73 : decode cX2_accept 73 = .ok (.aload_n 0, 1) := by decide +kernel
theorem dX2_accept_74 : decode cX2_accept 74 = .ok (.getfield 18, 3) := by decide +kernel
theorem dX2_accept_77 : decode cX2_accept 77 = .ok (.getfield 141, 3) := by decide +kernel
theorem dX2_accept_80 : decode cX2_accept 80 = .ok (.aload_n 0, 1) := by decide +kernel
theorem dX2_accept_81 : decode cX2_accept 81 = .ok (.getfield 31, 3) := by decide +kernel
theorem dX2_accept_84 : decode cX2_accept 84 = .ok (.iaload, 1) := by decide +kernel
theorem dX2_accept_85 : decode cX2_accept 85 = .ok (.putfield 15, 3) := by decide +kernel
theorem dX2_accept_88 : decode cX2_accept 88 = .ok (.return_, 1) := by decide +kernel
theorem dX2_fail_0 : decode cX2_fail 0 = .ok (.aload_n 0, 1) := by decide +kernel
theorem dX2_fail_1 : decode cX2_fail 1 = .ok (.getfield 9, 3) := by decide +kernel
theorem dX2_fail_4 : decode cX2_fail 4 = .ok (.ifCond .ne 24, 3) := by decide +kernel
theorem dX2_fail_7 : decode cX2_fail 7 = .ok (.aload_n 0, 1) := by decide +kernel
theorem dX2_fail_8 : decode cX2_fail 8 = .ok (.iload_n 1, 1) := by decide +kernel
theorem dX2_fail_9 : decode cX2_fail 9 = .ok (.putfield 9, 3) := by decide +kernel
theorem dX2_fail_12 : decode cX2_fail 12 = .ok (.aload_n 0, 1) := by decide +kernel
theorem dX2_fail_13 : decode cX2_fail 13 = .ok (.aload_n 0, 1) := by decide +kernel
theorem dX2_fail_14 : decode cX2_fail 14 = .ok (.getfield 18, 3) := by decide +kernel
theorem dX2_fail_17 : decode cX2_fail 17 = .ok (.getfield 141, 3) := by decide +kernel
theorem dX2_fail_20 : decode cX2_fail 20 = .ok (.aload_n 0, 1) := by decide +kernel
theorem dX2_fail_21 : decode cX2_fail 21 = .ok (.getfield 31, 3) := by decide +kernel
theorem dX2_fail_24 : decode cX2_fail 24 = .ok (.iaload, 1) := by decide +kernel
theorem dX2_fail_25 : decode cX2_fail 25 = .ok (.putfield 15, 3) := by decide +kernel
theorem dX2_fail_28 : decode cX2_fail 28 = .ok (.return_, 1) := by decide +kernel
theorem dX2_noteSense_0 : decode cX2_noteSense 0 = .ok (.aload_n 0, 1) := by decide +kernel
theorem dX2_noteSense_1 : decode cX2_noteSense 1 = .ok (.getfield 34, 3) := by decide +kernel
theorem dX2_noteSense_4 : decode cX2_noteSense 4 = .ok (.ifCond .ne 24, 3) := by decide +kernel
theorem dX2_noteSense_7 : decode cX2_noteSense 7 = .ok (.aload_n 0, 1) := by decide +kernel
theorem dX2_noteSense_8 : decode cX2_noteSense 8 = .ok (.iload_n 1, 1) := by decide +kernel
theorem dX2_noteSense_9 : decode cX2_noteSense 9 = .ok (.putfield 34, 3) := by decide +kernel
theorem dX2_noteSense_12 : decode cX2_noteSense 12 = .ok (.aload_n 0, 1) := by decide +kernel
theorem dX2_noteSense_13 : decode cX2_noteSense 13 = .ok (.aload_n 0, 1) := by decide +kernel
theorem dX2_noteSense_14 : decode cX2_noteSense 14 = .ok (.getfield 18, 3) := by decide +kernel
theorem dX2_noteSense_17 : decode cX2_noteSense 17 = .ok (.getfield 141, 3) := by decide +kernel
theorem dX2_noteSense_20 : decode cX2_noteSense 20 = .ok (.aload_n 0, 1) := by decide +kernel
theorem dX2_noteSense_21 : decode cX2_noteSense 21 = .ok (.getfield 31, 3) := by decide +kernel
theorem dX2_noteSense_24 : decode cX2_noteSense 24 = .ok (.iaload, 1) := by decide +kernel
theorem dX2_noteSense_25 : decode cX2_noteSense 25 = .ok (.putfield 37, 3) := by decide +kernel
theorem dX2_noteSense_28 : decode cX2_noteSense 28 = .ok (.return_, 1) := by decide +kernel
theorem dX3_init_0 : decode cX3_init 0 = .ok (.aload_n 0, 1) := by decide +kernel
theorem dX3_init_1 : decode cX3_init 1 = .ok (.invokespecial 3, 3) := by decide +kernel
theorem dX3_init_4 : decode cX3_init 4 = .ok (.aload_n 0, 1) := by decide +kernel
theorem dX3_init_5 : decode cX3_init 5 = .ok (.iconst 0, 1) := by decide +kernel
theorem dX3_init_6 : decode cX3_init 6 = .ok (.putfield 9, 3) := by decide +kernel
theorem dX3_init_9 : decode cX3_init 9 = .ok (.aload_n 0, 1) := by decide +kernel
theorem dX3_init_10 : decode cX3_init 10 = .ok (.iconst 0, 1) := by decide +kernel
theorem dX3_init_11 : decode cX3_init 11 = .ok (.putfield 15, 3) := by decide +kernel
theorem dX3_init_14 : decode cX3_init 14 = .ok (.aload_n 0, 1) := by decide +kernel
theorem dX3_init_15 : decode cX3_init 15 = .ok (.iconst 0, 1) := by decide +kernel
theorem dX3_init_16 : decode cX3_init 16 = .ok (.putfield 18, 3) := by decide +kernel
theorem dX3_init_19 : decode cX3_init 19 = .ok (.aload_n 0, 1) := by decide +kernel
theorem dX3_init_20 : decode cX3_init 20 = .ok (.bipush 6, 2) := by decide +kernel
theorem dX3_init_22 : decode cX3_init 22 = .ok (.newarray .int, 2) := by decide +kernel
theorem dX3_init_24 : decode cX3_init 24 = .ok (.putfield 21, 3) := by decide +kernel
theorem dX3_init_27 : decode cX3_init 27 = .ok (.aload_n 0, 1) := by decide +kernel
theorem dX3_init_28 : decode cX3_init 28 = .ok (.bipush 7, 2) := by decide +kernel
theorem dX3_init_30 : decode cX3_init 30 = .ok (.newarray .int, 2) := by decide +kernel
theorem dX3_init_32 : decode cX3_init 32 = .ok (.putfield 25, 3) := by decide +kernel
theorem dX3_init_35 : decode cX3_init 35 = .ok (.aload_n 0, 1) := by decide +kernel
theorem dX3_init_36 : decode cX3_init 36 = .ok (.bipush 42, 2) := by decide +kernel
theorem dX3_init_38 : decode cX3_init 38 = .ok (.newarray .int, 2) := by decide +kernel
theorem dX3_init_40 : decode cX3_init 40 = .ok (.putfield 28, 3) := by decide +kernel
theorem dX3_init_43 : decode cX3_init 43 = .ok (.aload_n 0, 1) := by decide +kernel
theorem dX3_init_44 : decode cX3_init 44 = .ok (.sipush 336, 3) := by decide +kernel
theorem dX3_init_47 : decode cX3_init 47 = .ok (.newarray .long, 2) := by decide +kernel
theorem dX3_init_49 : decode cX3_init 49 = .ok (.putfield 31, 3) := by decide +kernel
theorem dX3_init_52 : decode cX3_init 52 = .ok (.aload_n 0, 1) := by decide +kernel
theorem dX3_init_53 : decode cX3_init 53 = .ok (.aload_n 1, 1) := by decide +kernel
theorem dX3_init_54 : decode cX3_init 54 = .ok (.putfield 35, 3) := by decide +kernel
theorem dX3_init_57 : decode cX3_init 57 = .ok (.return_, 1) := by decide +kernel
theorem dX3_cell_0 : decode cX3_cell 0 = .ok (.iload_n 0, 1) := by decide +kernel
theorem dX3_cell_1 : decode cX3_cell 1 = .ok (.bipush 6, 2) := by decide +kernel
theorem dX3_cell_3 : decode cX3_cell 3 = .ok (.imul, 1) := by decide +kernel
theorem dX3_cell_4 : decode cX3_cell 4 = .ok (.iload_n 1, 1) := by decide +kernel
theorem dX3_cell_5 : decode cX3_cell 5 = .ok (.iadd, 1) := by decide +kernel
theorem dX3_cell_6 : decode cX3_cell 6 = .ok (.ireturn, 1) := by decide +kernel
theorem dX3_hasReader_0 : decode cX3_hasReader 0 = .ok (.iload_n 1, 1) := by decide +kernel
theorem dX3_hasReader_1 : decode cX3_hasReader 1 = .ok (.aload_n 0, 1) := by decide +kernel
theorem dX3_hasReader_2 : decode cX3_hasReader 2 = .ok (.getfield 9, 3) := by decide +kernel
theorem dX3_hasReader_5 : decode cX3_hasReader 5 = .ok (.invokestatic 39, 3) := by decide +kernel
theorem dX3_hasReader_8 : decode cX3_hasReader 8 = .ok (.ifCond .eq 13, 3) := by decide +kernel
theorem dX3_hasReader_11 : decode cX3_hasReader 11 = .ok (.iload_n 1, 1) := by decide +kernel
theorem dX3_hasReader_12 : decode cX3_hasReader 12 = .ok (.bipush 6, 2) := by decide +kernel
theorem dX3_hasReader_14 : decode cX3_hasReader 14 = .ok (.if_icmp .ge 7, 3) := by decide +kernel
theorem dX3_hasReader_17 : decode cX3_hasReader 17 = .ok (.iconst 1, 1) := by decide +kernel
theorem dX3_hasReader_18 : decode cX3_hasReader 18 = .ok (.goto 4, 3) := by decide +kernel
theorem dX3_hasReader_21 : decode cX3_hasReader 21 = .ok (.iconst 0, 1) := by decide +kernel
theorem dX3_hasReader_22 : decode cX3_hasReader 22 = .ok (.ireturn, 1) := by decide +kernel
theorem dX3_isHeld_0 : decode cX3_isHeld 0 = .ok (.aload_n 0, 1) := by decide +kernel
theorem dX3_isHeld_1 : decode cX3_isHeld 1 = .ok (.getfield 15, 3) := by decide +kernel
theorem dX3_isHeld_4 : decode cX3_isHeld 4 = .ok (.iload_n 1, 1) := by decide +kernel
theorem dX3_isHeld_5 : decode cX3_isHeld 5 = .ok (.ishr, 1) := by decide +kernel
theorem dX3_isHeld_6 : decode cX3_isHeld 6 = .ok (.iconst 1, 1) := by decide +kernel
theorem dX3_isHeld_7 : decode cX3_isHeld 7 = .ok (.iand, 1) := by decide +kernel
theorem dX3_isHeld_8 : decode cX3_isHeld 8 = .ok (.ifCond .eq 7, 3) := by decide +kernel
theorem dX3_isHeld_11 : decode cX3_isHeld 11 = .ok (.iconst 1, 1) := by decide +kernel
theorem dX3_isHeld_12 : decode cX3_isHeld 12 = .ok (.goto 4, 3) := by decide +kernel
theorem dX3_isHeld_15 : decode cX3_isHeld 15 = .ok (.iconst 0, 1) := by decide +kernel
theorem dX3_isHeld_16 : decode cX3_isHeld 16 = .ok (.ireturn, 1) := by decide +kernel
theorem dX3_isRead_0 : decode cX3_isRead 0 = .ok (.aload_n 0, 1) := by decide +kernel
theorem dX3_isRead_1 : decode cX3_isRead 1 = .ok (.getfield 25, 3) := by decide +kernel
theorem dX3_isRead_4 : decode cX3_isRead 4 = .ok (.iload_n 1, 1) := by decide +kernel
theorem dX3_isRead_5 : decode cX3_isRead 5 = .ok (.iaload, 1) := by decide +kernel
theorem dX3_isRead_6 : decode cX3_isRead 6 = .ok (.iload_n 2, 1) := by decide +kernel
theorem dX3_isRead_7 : decode cX3_isRead 7 = .ok (.ishr, 1) := by decide +kernel
theorem dX3_isRead_8 : decode cX3_isRead 8 = .ok (.iconst 1, 1) := by decide +kernel
theorem dX3_isRead_9 : decode cX3_isRead 9 = .ok (.iand, 1) := by decide +kernel
theorem dX3_isRead_10 : decode cX3_isRead 10 = .ok (.ifCond .eq 7, 3) := by decide +kernel
theorem dX3_isRead_13 : decode cX3_isRead 13 = .ok (.iconst 1, 1) := by decide +kernel
theorem dX3_isRead_14 : decode cX3_isRead 14 = .ok (.goto 4, 3) := by decide +kernel
theorem dX3_isRead_17 : decode cX3_isRead 17 = .ok (.iconst 0, 1) := by decide +kernel
theorem dX3_isRead_18 : decode cX3_isRead 18 = .ok (.ireturn, 1) := by decide +kernel
theorem dX3_addReader_0 : decode cX3_addReader 0 = .ok (.aload_n 0, 1) := by decide +kernel
theorem dX3_addReader_1 : decode cX3_addReader 1 = .ok (.getfield 9, 3) := by decide +kernel
theorem dX3_addReader_4 : decode cX3_addReader 4 = .ok (.istore_n 2, 1) := by decide +kernel
theorem dX3_addReader_5 : decode cX3_addReader 5 = .ok (.iload_n 2, 1) := by decide +kernel
theorem dX3_addReader_6 : decode cX3_addReader 6 = .ok (.bipush 6, 2) := by decide +kernel
theorem dX3_addReader_8 : decode cX3_addReader 8 = .ok (.if_icmp .ge 20, 3) := by decide +kernel
theorem dX3_addReader_11 : decode cX3_addReader 11 = .ok (.aload_n 0, 1) := by decide +kernel
theorem dX3_addReader_12 : decode cX3_addReader 12 = .ok (.getfield 21, 3) := by decide +kernel
theorem dX3_addReader_15 : decode cX3_addReader 15 = .ok (.iload_n 2, 1) := by decide +kernel
theorem dX3_addReader_16 : decode cX3_addReader 16 = .ok (.iload_n 1, 1) := by decide +kernel
theorem dX3_addReader_17 : decode cX3_addReader 17 = .ok (.iastore, 1) := by decide +kernel
theorem dX3_addReader_18 : decode cX3_addReader 18 = .ok (.aload_n 0, 1) := by decide +kernel
theorem dX3_addReader_19 : decode cX3_addReader 19 = .ok (.dup, 1) := by decide +kernel
theorem dX3_addReader_20 : decode cX3_addReader 20 = .ok (.getfield 9, 3) := by decide +kernel
theorem dX3_addReader_23 : decode cX3_addReader 23 = .ok (.iconst 1, 1) := by decide +kernel
theorem dX3_addReader_24 : decode cX3_addReader 24 = .ok (.iadd, 1) := by decide +kernel
theorem dX3_addReader_25 : decode cX3_addReader 25 = .ok (.putfield 9, 3) := by decide +kernel
theorem dX3_addReader_28 : decode cX3_addReader 28 = .ok (.iload_n 2, 1) := by decide +kernel
theorem dX3_addReader_29 : decode cX3_addReader 29 = .ok (.ireturn, 1) := by decide +kernel
theorem dX3_startAnew_0 : decode cX3_startAnew 0 = .ok (.aload_n 0, 1) := by decide +kernel
theorem dX3_startAnew_1 : decode cX3_startAnew 1 = .ok (.iconst 0, 1) := by decide +kernel
theorem dX3_startAnew_2 : decode cX3_startAnew 2 = .ok (.putfield 18, 3) := by decide +kernel
theorem dX3_startAnew_5 : decode cX3_startAnew 5 = .ok (.iconst 0, 1) := by decide +kernel
theorem dX3_startAnew_6 : decode cX3_startAnew 6 = .ok (.istore_n 1, 1) := by decide +kernel
theorem dX3_startAnew_7 : decode cX3_startAnew 7 = .ok (.iload_n 1, 1) := by decide +kernel
theorem dX3_startAnew_8 : decode cX3_startAnew 8 = .ok (.bipush 7, 2) := by decide +kernel
theorem dX3_startAnew_10 : decode cX3_startAnew 10 = .ok (.if_icmp .ge 16, 3) := by decide +kernel
theorem dX3_startAnew_13 : decode cX3_startAnew 13 = .ok (.aload_n 0, 1) := by decide +kernel
theorem dX3_startAnew_14 : decode cX3_startAnew 14 = .ok (.getfield 25, 3) := by decide +kernel
theorem dX3_startAnew_17 : decode cX3_startAnew 17 = .ok (.iload_n 1, 1) := by decide +kernel
theorem dX3_startAnew_18 : decode cX3_startAnew 18 = .ok (.iconst 0, 1) := by decide +kernel
theorem dX3_startAnew_19 : decode cX3_startAnew 19 = .ok (.iastore, 1) := by decide +kernel
theorem dX3_startAnew_20 : decode cX3_startAnew 20 = .ok (.iinc 1 1, 3) := by decide +kernel
theorem dX3_startAnew_23 : decode cX3_startAnew 23 = .ok (.goto (-16), 3) := by decide +kernel
theorem dX3_startAnew_26 : decode cX3_startAnew 26 = .ok (.iconst 0, 1) := by decide +kernel
theorem dX3_startAnew_27 : decode cX3_startAnew 27 = .ok (.istore_n 1, 1) := by decide +kernel
theorem dX3_startAnew_28 : decode cX3_startAnew 28 = .ok (.iload_n 1, 1) := by decide +kernel
theorem dX3_startAnew_29 : decode cX3_startAnew 29 = .ok (.bipush 42, 2) := by decide +kernel
theorem dX3_startAnew_31 : decode cX3_startAnew 31 = .ok (.if_icmp .ge 16, 3) := by decide +kernel
theorem dX3_startAnew_34 : decode cX3_startAnew 34 = .ok (.aload_n 0, 1) := by decide +kernel
theorem dX3_startAnew_35 : decode cX3_startAnew 35 = .ok (.getfield 28, 3) := by decide +kernel
theorem dX3_startAnew_38 : decode cX3_startAnew 38 = .ok (.iload_n 1, 1) := by decide +kernel
theorem dX3_startAnew_39 : decode cX3_startAnew 39 = .ok (.iconst 0, 1) := by decide +kernel
theorem dX3_startAnew_40 : decode cX3_startAnew 40 = .ok (.iastore, 1) := by decide +kernel
theorem dX3_startAnew_41 : decode cX3_startAnew 41 = .ok (.iinc 1 1, 3) := by decide +kernel
theorem dX3_startAnew_44 : decode cX3_startAnew 44 = .ok (.goto (-16), 3) := by decide +kernel
theorem dX3_startAnew_47 : decode cX3_startAnew 47 = .ok (.iconst 0, 1) := by decide +kernel
theorem dX3_startAnew_48 : decode cX3_startAnew 48 = .ok (.istore_n 1, 1) := by decide +kernel
theorem dX3_startAnew_49 : decode cX3_startAnew 49 = .ok (.iload_n 1, 1) := by decide +kernel
theorem dX3_startAnew_50 : decode cX3_startAnew 50 = .ok (.sipush 336, 3) := by decide +kernel
theorem dX3_startAnew_53 : decode cX3_startAnew 53 = .ok (.if_icmp .ge 16, 3) := by decide +kernel
theorem dX3_startAnew_56 : decode cX3_startAnew 56 = .ok (.aload_n 0, 1) := by decide +kernel
theorem dX3_startAnew_57 : decode cX3_startAnew 57 = .ok (.getfield 31, 3) := by decide +kernel
theorem dX3_startAnew_60 : decode cX3_startAnew 60 = .ok (.iload_n 1, 1) := by decide +kernel
theorem dX3_startAnew_61 : decode cX3_startAnew 61 = .ok (.lconst 0, 1) := by decide +kernel
theorem dX3_startAnew_62 : decode cX3_startAnew 62 = .ok (.lastore, 1) := by decide +kernel
theorem dX3_startAnew_63 : decode cX3_startAnew 63 = .ok (.iinc 1 1, 3) := by decide +kernel
theorem dX3_startAnew_66 : decode cX3_startAnew 66 = .ok (.goto (-17), 3) := by decide +kernel
theorem dX3_startAnew_69 : decode cX3_startAnew 69 = .ok (.return_, 1) := by decide +kernel
theorem dX3_deliver_0 : decode cX3_deliver 0 = .ok (.iconst 0, 1) := by decide +kernel
theorem dX3_deliver_1 : decode cX3_deliver 1 = .ok (.istore_n 2, 1) := by decide +kernel
theorem dX3_deliver_2 : decode cX3_deliver 2 = .ok (.iload_n 2, 1) := by decide +kernel
theorem dX3_deliver_3 : decode cX3_deliver 3 = .ok (.aload_n 0, 1) := by decide +kernel
theorem dX3_deliver_4 : decode cX3_deliver 4 = .ok (.getfield 9, 3) := by decide +kernel
theorem dX3_deliver_7 : decode cX3_deliver 7 = .ok (.if_icmp .ge 32, 3) := by decide +kernel
theorem dX3_deliver_10 : decode cX3_deliver 10 = .ok (.aload_n 0, 1) := by decide +kernel
theorem dX3_deliver_11 : decode cX3_deliver 11 = .ok (.iload_n 1, 1) := by decide +kernel
theorem dX3_deliver_12 : decode cX3_deliver 12 = .ok (.iload_n 2, 1) := by decide +kernel
theorem dX3_deliver_13 : decode cX3_deliver 13 = .ok (.invokevirtual 43, 3) := by decide +kernel
theorem dX3_deliver_16 : decode cX3_deliver 16 = .ok (.ifCond .eq 17, 3) := by decide +kernel
theorem dX3_deliver_19 : decode cX3_deliver 19 = .ok (.aload_n 0, 1) := by decide +kernel
theorem dX3_deliver_20 : decode cX3_deliver 20 = .ok (.iload_n 2, 1) := by decide +kernel
theorem dX3_deliver_21 : decode cX3_deliver 21 = .ok (.invokevirtual 46, 3) := by decide +kernel
theorem dX3_deliver_24 : decode cX3_deliver 24 = .ok (.ifCond .ne 9, 3) := by decide +kernel
theorem dX3_deliver_27 : decode cX3_deliver 27 = .ok (.aload_n 0, 1) := by decide +kernel
theorem dX3_deliver_28 : decode cX3_deliver 28 = .ok (.iload_n 1, 1) := by decide +kernel
theorem dX3_deliver_29 : decode cX3_deliver 29 = .ok (.iload_n 2, 1) := by decide +kernel
theorem dX3_deliver_30 : decode cX3_deliver 30 = .ok (.invokevirtual 50, 3) := by decide +kernel
theorem dX3_deliver_33 : decode cX3_deliver 33 = .ok (.iinc 2 1, 3) := by decide +kernel
theorem dX3_deliver_36 : decode cX3_deliver 36 = .ok (.goto (-34), 3) := by decide +kernel
theorem dX3_deliver_39 : decode cX3_deliver 39 = .ok (.return_, 1) := by decide +kernel
theorem dX3_catchUp_0 : decode cX3_catchUp 0 = .ok (.iconst 0, 1) := by decide +kernel
theorem dX3_catchUp_1 : decode cX3_catchUp 1 = .ok (.istore_n 3, 1) := by decide +kernel
theorem dX3_catchUp_2 : decode cX3_catchUp 2 = .ok (.iload_n 3, 1) := by decide +kernel
theorem dX3_catchUp_3 : decode cX3_catchUp 3 = .ok (.bipush 7, 2) := by decide +kernel
theorem dX3_catchUp_5 : decode cX3_catchUp 5 = .ok (.if_icmp .ge 32, 3) := by decide +kernel
theorem dX3_catchUp_8 : decode cX3_catchUp 8 = .ok (.aload_n 0, 1) := by decide +kernel
theorem dX3_catchUp_9 : decode cX3_catchUp 9 = .ok (.iload_n 3, 1) := by decide +kernel
theorem dX3_catchUp_10 : decode cX3_catchUp 10 = .ok (.iload_n 1, 1) := by decide +kernel
theorem dX3_catchUp_11 : decode cX3_catchUp 11 = .ok (.invokevirtual 43, 3) := by decide +kernel
theorem dX3_catchUp_14 : decode cX3_catchUp 14 = .ok (.ifCond .eq 17, 3) := by decide +kernel
theorem dX3_catchUp_17 : decode cX3_catchUp 17 = .ok (.iload_n 2, 1) := by decide +kernel
theorem dX3_catchUp_18 : decode cX3_catchUp 18 = .ok (.iload_n 3, 1) := by decide +kernel
theorem dX3_catchUp_19 : decode cX3_catchUp 19 = .ok (.ishr, 1) := by decide +kernel
theorem dX3_catchUp_20 : decode cX3_catchUp 20 = .ok (.iconst 1, 1) := by decide +kernel
theorem dX3_catchUp_21 : decode cX3_catchUp 21 = .ok (.iand, 1) := by decide +kernel
theorem dX3_catchUp_22 : decode cX3_catchUp 22 = .ok (.ifCond .eq 9, 3) := by decide +kernel
theorem dX3_catchUp_25 : decode cX3_catchUp 25 = .ok (.aload_n 0, 1) := by decide +kernel
theorem dX3_catchUp_26 : decode cX3_catchUp 26 = .ok (.iload_n 3, 1) := by decide +kernel
theorem dX3_catchUp_27 : decode cX3_catchUp 27 = .ok (.iload_n 1, 1) := by decide +kernel
theorem dX3_catchUp_28 : decode cX3_catchUp 28 = .ok (.invokevirtual 50, 3) := by decide +kernel
theorem dX3_catchUp_31 : decode cX3_catchUp 31 = .ok (.iinc 3 1, 3) := by decide +kernel
theorem dX3_catchUp_34 : decode cX3_catchUp 34 = .ok (.goto (-32), 3) := by decide +kernel
theorem dX3_catchUp_37 : decode cX3_catchUp 37 = .ok (.return_, 1) := by decide +kernel
theorem dX3_offer_0 : decode cX3_offer 0 = .ok (.iload_n 1, 1) := by decide +kernel
theorem dX3_offer_1 : decode cX3_offer 1 = .ok (.bipush 7, 2) := by decide +kernel
theorem dX3_offer_3 : decode cX3_offer 3 = .ok (.invokestatic 39, 3) := by decide +kernel
theorem dX3_offer_6 : decode cX3_offer 6 = .ok (.ifCond .eq 12, 3) := by decide +kernel
theorem dX3_offer_9 : decode cX3_offer 9 = .ok (.iload_n 2, 1) := by decide +kernel
theorem dX3_offer_10 : decode cX3_offer 10 = .ok (.bipush 6, 2) := by decide +kernel
theorem dX3_offer_12 : decode cX3_offer 12 = .ok (.invokestatic 39, 3) := by decide +kernel
theorem dX3_offer_15 : decode cX3_offer 15 = .ok (.ifCond .ne 4, 3) := by decide +kernel
theorem dX3_offer_18 : decode cX3_offer 18 = .ok (.return_, 1) := by decide +kernel
theorem dX3_offer_19 : decode cX3_offer 19 = .ok (.iload_n 1, 1) := by decide +kernel
theorem dX3_offer_20 : decode cX3_offer 20 = .ok (.iload_n 2, 1) := by decide +kernel
theorem dX3_offer_21 : decode cX3_offer 21 = .ok (.invokestatic 54, 3) := by decide +kernel
theorem dX3_offer_24 : decode cX3_offer 24 = .ok (.istore_n 3, 1) := by decide +kernel
theorem dX3_offer_25 : decode cX3_offer 25 = .ok (.aload_n 0, 1) := by decide +kernel
theorem dX3_offer_26 : decode cX3_offer 26 = .ok (.getfield 28, 3) := by decide +kernel
theorem dX3_offer_29 : decode cX3_offer 29 = .ok (.iload_n 3, 1) := by decide +kernel
theorem dX3_offer_30 : decode cX3_offer 30 = .ok (.iaload, 1) := by decide +kernel
theorem dX3_offer_31 : decode cX3_offer 31 = .ok (.ifCond .ne 7, 3) := by decide +kernel
theorem dX3_offer_34 : decode cX3_offer 34 = .ok (.iconst 1, 1) := by decide +kernel
theorem dX3_offer_35 : decode cX3_offer 35 = .ok (.goto 4, 3) := by decide +kernel
theorem dX3_offer_38 : decode cX3_offer 38 = .ok (.iconst 0, 1) := by decide +kernel
theorem dX3_offer_39 : decode cX3_offer 39 = .ok (.istore 4, 2) := by decide +kernel
theorem dX3_offer_41 : decode cX3_offer 41 = .ok (.iconst 0, 1) := by decide +kernel
theorem dX3_offer_42 : decode cX3_offer 42 = .ok (.istore 5, 2) := by decide +kernel
theorem dX3_offer_44 : decode cX3_offer 44 = .ok (.iload 5, 2) := by decide +kernel
theorem dX3_offer_46 : decode cX3_offer 46 = .ok (.bipush 8, 2) := by decide +kernel
theorem dX3_offer_48 : decode cX3_offer 48 = .ok (.if_icmp .ge 100, 3) := by decide +kernel
theorem dX3_offer_51 : decode cX3_offer 51 = .ok (.aload_n 0, 1) := by decide +kernel
theorem dX3_offer_52 : decode cX3_offer 52 = .ok (.getfield 21, 3) := by decide +kernel
theorem dX3_offer_55 : decode cX3_offer 55 = .ok (.iload_n 2, 1) := by decide +kernel
theorem dX3_offer_56 : decode cX3_offer 56 = .ok (.iaload, 1) := by decide +kernel
theorem dX3_offer_57 : decode cX3_offer 57 = .ok (.iload 5, 2) := by decide +kernel
theorem dX3_offer_59 : decode cX3_offer 59 = .ok (.ishr, 1) := by decide +kernel
theorem dX3_offer_60 : decode cX3_offer 60 = .ok (.iconst 1, 1) := by decide +kernel
theorem dX3_offer_61 : decode cX3_offer 61 = .ok (.iand, 1) := by decide +kernel
theorem dX3_offer_62 : decode cX3_offer 62 = .ok (.ifCond .eq 7, 3) := by decide +kernel
theorem dX3_offer_65 : decode cX3_offer 65 = .ok (.iconst 1, 1) := by decide +kernel
theorem dX3_offer_66 : decode cX3_offer 66 = .ok (.goto 4, 3) := by decide +kernel
theorem dX3_offer_69 : decode cX3_offer 69 = .ok (.iconst 0, 1) := by decide +kernel
theorem dX3_offer_70 : decode cX3_offer 70 = .ok (.istore 6, 2) := by decide +kernel
theorem dX3_offer_72 : decode cX3_offer 72 = .ok (.iload 6, 2) := by decide +kernel
theorem dX3_offer_74 : decode cX3_offer 74 = .ok (.ifCond .eq 21, 3) := by decide +kernel
theorem dX3_offer_77 : decode cX3_offer 77 = .ok (.aload_n 0, 1) := by decide +kernel
theorem dX3_offer_78 : decode cX3_offer 78 = .ok (.getfield 35, 3) := by decide +kernel
theorem dX3_offer_81 : decode cX3_offer 81 = .ok (.getfield 58, 3) := by decide +kernel
theorem dX3_offer_84 : decode cX3_offer 84 = .ok (.iload_n 1, 1) := by decide +kernel
theorem dX3_offer_85 : decode cX3_offer 85 = .ok (.bipush 8, 2) := by decide +kernel
theorem dX3_offer_87 : decode cX3_offer 87 = .ok (.imul, 1) := by decide +kernel
theorem dX3_offer_88 : decode cX3_offer 88 = .ok (.iload 5, 2) := by decide +kernel
theorem dX3_offer_90 : decode cX3_offer 90 = .ok (.iadd, 1) := by decide +kernel
theorem dX3_offer_91 : decode cX3_offer 91 = .ok (.laload, 1) := by decide +kernel
theorem dX3_offer_92 : decode cX3_offer 92 = .ok (.goto 4, 3) := by decide +kernel
theorem dX3_offer_95 : decode cX3_offer 95 = .ok (.lconst 0, 1) := by decide +kernel
theorem dX3_offer_96 : decode cX3_offer 96 = .ok (.lstore 7, 2) := by decide +kernel
theorem dX3_offer_98 : decode cX3_offer 98 = .ok (.iload 4, 2) := by decide +kernel
theorem dX3_offer_100 : decode cX3_offer 100 = .ok (.ifCond .ne 21, 3) := by decide +kernel
theorem dX3_offer_103 : decode cX3_offer 103 = .ok (.lload 7, 2) := by decide +kernel
theorem dX3_offer_105 : decode cX3_offer 105 = .ok (.aload_n 0, 1) := by decide +kernel
theorem dX3_offer_106 : decode cX3_offer 106 = .ok (.getfield 31, 3) := by decide +kernel
theorem dX3_offer_109 : decode cX3_offer 109 = .ok (.iload_n 3, 1) := by decide +kernel
theorem dX3_offer_110 : decode cX3_offer 110 = .ok (.bipush 8, 2) := by decide +kernel
theorem dX3_offer_112 : decode cX3_offer 112 = .ok (.imul, 1) := by decide +kernel
theorem dX3_offer_113 : decode cX3_offer 113 = .ok (.iload 5, 2) := by decide +kernel
theorem dX3_offer_115 : decode cX3_offer 115 = .ok (.iadd, 1) := by decide +kernel
theorem dX3_offer_116 : decode cX3_offer 116 = .ok (.laload, 1) := by decide +kernel
theorem dX3_offer_117 : decode cX3_offer 117 = .ok (.lcmp, 1) := by decide +kernel
theorem dX3_offer_118 : decode cX3_offer 118 = .ok (.ifCond .eq 7, 3) := by decide +kernel
theorem dX3_offer_121 : decode cX3_offer 121 = .ok (.iconst 1, 1) := by decide +kernel
theorem dX3_offer_122 : decode cX3_offer 122 = .ok (.goto 4, 3) := by decide +kernel
theorem dX3_offer_125 : decode cX3_offer 125 = .ok (.iconst 0, 1) := by decide +kernel
theorem dX3_offer_126 : decode cX3_offer 126 = .ok (.istore 4, 2) := by decide +kernel
theorem dX3_offer_128 : decode cX3_offer 128 = .ok (.aload_n 0, 1) := by decide +kernel
theorem dX3_offer_129 : decode cX3_offer 129 = .ok (.getfield 31, 3) := by decide +kernel
theorem dX3_offer_132 : decode cX3_offer 132 = .ok (.iload_n 3, 1) := by decide +kernel
theorem dX3_offer_133 : decode cX3_offer 133 = .ok (.bipush 8, 2) := by decide +kernel
theorem dX3_offer_135 : decode cX3_offer 135 = .ok (.imul, 1) := by decide +kernel
theorem dX3_offer_136 : decode cX3_offer 136 = .ok (.iload 5, 2) := by decide +kernel
theorem dX3_offer_138 : decode cX3_offer 138 = .ok (.iadd, 1) := by decide +kernel
theorem dX3_offer_139 : decode cX3_offer 139 = .ok (.lload 7, 2) := by decide +kernel
theorem dX3_offer_141 : decode cX3_offer 141 = .ok (.lastore, 1) := by decide +kernel
theorem dX3_offer_142 : decode cX3_offer 142 = .ok (.iinc 5 1, 3) := by decide +kernel
theorem dX3_offer_145 : decode cX3_offer 145 = .ok (.goto (-101), 3) := by decide +kernel
theorem dX3_offer_148 : decode cX3_offer 148 = .ok (.iload 4, 2) := by decide +kernel
theorem dX3_offer_150 : decode cX3_offer 150 = .ok (.ifCond .eq 23, 3) := by decide +kernel
theorem dX3_offer_153 : decode cX3_offer 153 = .ok (.aload_n 0, 1) := by decide +kernel
theorem dX3_offer_154 : decode cX3_offer 154 = .ok (.getfield 28, 3) := by decide +kernel
theorem dX3_offer_157 : decode cX3_offer 157 = .ok (.iload_n 3, 1) := by decide +kernel
theorem dX3_offer_158 : decode cX3_offer 158 = .ok (.dup2, 1) := by decide +kernel
theorem dX3_offer_159 : decode cX3_offer 159 = .ok (.iaload, 1) := by decide +kernel
theorem dX3_offer_160 : decode cX3_offer 160 = .ok (.iconst 1, 1) := by decide +kernel
theorem dX3_offer_161 : decode cX3_offer 161 = .ok (.iadd, 1) := by decide +kernel
theorem dX3_offer_162 : decode cX3_offer 162 = .ok (.iastore, 1) := by decide +kernel
theorem dX3_offer_163 : decode cX3_offer 163 = .ok (.aload_n 0, 1) := by decide +kernel
theorem dX3_offer_164 : decode cX3_offer 164 = .ok (.dup, 1) := by decide +kernel
theorem dX3_offer_165 : decode cX3_offer 165 = .ok (.getfield 18, 3) := by decide +kernel
theorem dX3_offer_168 : decode cX3_offer 168 = .ok (.iconst 1, 1) := by decide +kernel
theorem dX3_offer_169 : decode cX3_offer 169 = .ok (.iadd, 1) := by decide +kernel
theorem dX3_offer_170 : decode cX3_offer 170 = .ok (.putfield 18, 3) := by decide +kernel
theorem dX3_offer_173 : decode cX3_offer 173 = .ok (.return_, 1) := by decide +kernel
theorem dX3_sumOfLast_0 : decode cX3_sumOfLast 0 = .ok (.lconst 0, 1) := by decide +kernel
theorem dX3_sumOfLast_1 : decode cX3_sumOfLast 1 = .ok (.lstore_n 3, 1) := by decide +kernel
theorem dX3_sumOfLast_2 : decode cX3_sumOfLast 2 = .ok (.iload_n 1, 1) := by decide +kernel
theorem dX3_sumOfLast_3 : decode cX3_sumOfLast 3 = .ok (.bipush 7, 2) := by decide +kernel
theorem dX3_sumOfLast_5 : decode cX3_sumOfLast 5 = .ok (.invokestatic 39, 3) := by decide +kernel
theorem dX3_sumOfLast_8 : decode cX3_sumOfLast 8 = .ok (.ifCond .eq 47, 3) := by decide +kernel
theorem dX3_sumOfLast_11 : decode cX3_sumOfLast 11 = .ok (.iload_n 2, 1) := by decide +kernel
theorem dX3_sumOfLast_12 : decode cX3_sumOfLast 12 = .ok (.bipush 6, 2) := by decide +kernel
theorem dX3_sumOfLast_14 : decode cX3_sumOfLast 14 = .ok (.invokestatic 39, 3) := by decide +kernel
theorem dX3_sumOfLast_17 : decode cX3_sumOfLast 17 = .ok (.ifCond .eq 38, 3) := by decide +kernel
theorem dX3_sumOfLast_20 : decode cX3_sumOfLast 20 = .ok (.iconst 0, 1) := by decide +kernel
theorem dX3_sumOfLast_21 : decode cX3_sumOfLast 21 = .ok (.istore 5, 2) := by decide +kernel
theorem dX3_sumOfLast_23 : decode cX3_sumOfLast 23 = .ok (.iload 5, 2) := by decide +kernel
theorem dX3_sumOfLast_25 : decode cX3_sumOfLast 25 = .ok (.bipush 8, 2) := by decide +kernel
theorem dX3_sumOfLast_27 : decode cX3_sumOfLast 27 = .ok (.if_icmp .ge 28, 3) := by decide +kernel
theorem dX3_sumOfLast_30 : decode cX3_sumOfLast 30 = .ok (.lload_n 3, 1) := by decide +kernel
theorem dX3_sumOfLast_31 : decode cX3_sumOfLast 31 = .ok (.aload_n 0, 1) := by decide +kernel
theorem dX3_sumOfLast_32 : decode cX3_sumOfLast 32 = .ok (.getfield 31, 3) := by decide +kernel
theorem dX3_sumOfLast_35 : decode cX3_sumOfLast 35 = .ok (.iload_n 1, 1) := by decide +kernel
theorem dX3_sumOfLast_36 : decode cX3_sumOfLast 36 = .ok (.iload_n 2, 1) := by decide +kernel
theorem dX3_sumOfLast_37 : decode cX3_sumOfLast 37 = .ok (.invokestatic 54, 3) := by decide +kernel
theorem dX3_sumOfLast_40 : decode cX3_sumOfLast 40 = .ok (.bipush 8, 2) := by decide +kernel
theorem dX3_sumOfLast_42 : decode cX3_sumOfLast 42 = .ok (.imul, 1) := by decide +kernel
theorem dX3_sumOfLast_43 : decode cX3_sumOfLast 43 = .ok (.iload 5, 2) := by decide +kernel
theorem dX3_sumOfLast_45 : decode cX3_sumOfLast 45 = .ok (.iadd, 1) := by decide +kernel
theorem dX3_sumOfLast_46 : decode cX3_sumOfLast 46 = .ok (.laload, 1) := by decide +kernel
theorem dX3_sumOfLast_47 : decode cX3_sumOfLast 47 = .ok (.ladd, 1) := by decide +kernel
theorem dX3_sumOfLast_48 : decode cX3_sumOfLast 48 = .ok (.lstore_n 3, 1) := by decide +kernel
theorem dX3_sumOfLast_49 : decode cX3_sumOfLast 49 = .ok (.iinc 5 1, 3) := by decide +kernel
theorem dX3_sumOfLast_52 : decode cX3_sumOfLast 52 = .ok (.goto (-29), 3) := by decide +kernel
theorem dX3_sumOfLast_55 : decode cX3_sumOfLast 55 = .ok (.lload_n 3, 1) := by decide +kernel
theorem dX3_sumOfLast_56 : decode cX3_sumOfLast 56 = .ok (.lreturn, 1) := by decide +kernel
theorem dX4_init_0 : decode cX4_init 0 = .ok (.aload_n 0, 1) := by decide +kernel
theorem dX4_init_1 : decode cX4_init 1 = .ok (.invokespecial 3, 3) := by decide +kernel
theorem dX4_init_4 : decode cX4_init 4 = .ok (.aload_n 0, 1) := by decide +kernel
theorem dX4_init_5 : decode cX4_init 5 = .ok (.iconst 0, 1) := by decide +kernel
theorem dX4_init_6 : decode cX4_init 6 = .ok (.putfield 9, 3) := by decide +kernel
theorem dX4_init_9 : decode cX4_init 9 = .ok (.aload_n 0, 1) := by decide +kernel
theorem dX4_init_10 : decode cX4_init 10 = .ok (.iconst 0, 1) := by decide +kernel
theorem dX4_init_11 : decode cX4_init 11 = .ok (.putfield 15, 3) := by decide +kernel
theorem dX4_init_14 : decode cX4_init 14 = .ok (.aload_n 0, 1) := by decide +kernel
theorem dX4_init_15 : decode cX4_init 15 = .ok (.bipush 7, 2) := by decide +kernel
theorem dX4_init_17 : decode cX4_init 17 = .ok (.newarray .long, 2) := by decide +kernel
theorem dX4_init_19 : decode cX4_init 19 = .ok (.putfield 18, 3) := by decide +kernel
theorem dX4_init_22 : decode cX4_init 22 = .ok (.aload_n 0, 1) := by decide +kernel
theorem dX4_init_23 : decode cX4_init 23 = .ok (.bipush 7, 2) := by decide +kernel
theorem dX4_init_25 : decode cX4_init 25 = .ok (.newarray .int, 2) := by decide +kernel
theorem dX4_init_27 : decode cX4_init 27 = .ok (.putfield 22, 3) := by decide +kernel
theorem dX4_init_30 : decode cX4_init 30 = .ok (.aload_n 0, 1) := by decide +kernel
theorem dX4_init_31 : decode cX4_init 31 = .ok (.bipush 7, 2) := by decide +kernel
theorem dX4_init_33 : decode cX4_init 33 = .ok (.newarray .int, 2) := by decide +kernel
theorem dX4_init_35 : decode cX4_init 35 = .ok (.putfield 26, 3) := by decide +kernel
theorem dX4_init_38 : decode cX4_init 38 = .ok (.aload_n 0, 1) := by decide +kernel
theorem dX4_init_39 : decode cX4_init 39 = .ok (.bipush 7, 2) := by decide +kernel
theorem dX4_init_41 : decode cX4_init 41 = .ok (.newarray .int, 2) := by decide +kernel
theorem dX4_init_43 : decode cX4_init 43 = .ok (.putfield 29, 3) := by decide +kernel
theorem dX4_init_46 : decode cX4_init 46 = .ok (.aload_n 0, 1) := by decide +kernel
theorem dX4_init_47 : decode cX4_init 47 = .ok (.bipush 7, 2) := by decide +kernel
theorem dX4_init_49 : decode cX4_init 49 = .ok (.newarray .int, 2) := by decide +kernel
theorem dX4_init_51 : decode cX4_init 51 = .ok (.putfield 32, 3) := by decide +kernel
theorem dX4_init_54 : decode cX4_init 54 = .ok (.aload_n 0, 1) := by decide +kernel
theorem dX4_init_55 : decode cX4_init 55 = .ok (.bipush 7, 2) := by decide +kernel
theorem dX4_init_57 : decode cX4_init 57 = .ok (.newarray .int, 2) := by decide +kernel
theorem dX4_init_59 : decode cX4_init 59 = .ok (.putfield 35, 3) := by decide +kernel
theorem dX4_init_62 : decode cX4_init 62 = .ok (.aload_n 0, 1) := by decide +kernel
theorem dX4_init_63 : decode cX4_init 63 = .ok (.bipush 7, 2) := by decide +kernel
theorem dX4_init_65 : decode cX4_init 65 = .ok (.newarray .int, 2) := by decide +kernel
theorem dX4_init_67 : decode cX4_init 67 = .ok (.putfield 38, 3) := by decide +kernel
theorem dX4_init_70 : decode cX4_init 70 = .ok (.aload_n 0, 1) := by decide +kernel
theorem dX4_init_71 : decode cX4_init 71 = .ok (.bipush 7, 2) := by decide +kernel
theorem dX4_init_73 : decode cX4_init 73 = .ok (.newarray .int, 2) := by decide +kernel
theorem dX4_init_75 : decode cX4_init 75 = .ok (.putfield 41, 3) := by decide +kernel
theorem dX4_init_78 : decode cX4_init 78 = .ok (.aload_n 0, 1) := by decide +kernel
theorem dX4_init_79 : decode cX4_init 79 = .ok (.sipush 400, 3) := by decide +kernel
theorem dX4_init_82 : decode cX4_init 82 = .ok (.newarray .int, 2) := by decide +kernel
theorem dX4_init_84 : decode cX4_init 84 = .ok (.putfield 44, 3) := by decide +kernel
theorem dX4_init_87 : decode cX4_init 87 = .ok (.aload_n 0, 1) := by decide +kernel
theorem dX4_init_88 : decode cX4_init 88 = .ok (.sipush 400, 3) := by decide +kernel
theorem dX4_init_91 : decode cX4_init 91 = .ok (.newarray .int, 2) := by decide +kernel
theorem dX4_init_93 : decode cX4_init 93 = .ok (.putfield 47, 3) := by decide +kernel
theorem dX4_init_96 : decode cX4_init 96 = .ok (.aload_n 0, 1) := by decide +kernel
theorem dX4_init_97 : decode cX4_init 97 = .ok (.iconst 0, 1) := by decide +kernel
theorem dX4_init_98 : decode cX4_init 98 = .ok (.putfield 50, 3) := by decide +kernel
theorem dX4_init_101 : decode cX4_init 101 = .ok (.return_, 1) := by decide +kernel
theorem dX4_hasStep_0 : decode cX4_hasStep 0 = .ok (.iload_n 1, 1) := by decide +kernel
theorem dX4_hasStep_1 : decode cX4_hasStep 1 = .ok (.ifCond .lt 21, 3) := by decide +kernel
theorem dX4_hasStep_4 : decode cX4_hasStep 4 = .ok (.iload_n 1, 1) := by decide +kernel
theorem dX4_hasStep_5 : decode cX4_hasStep 5 = .ok (.aload_n 0, 1) := by decide +kernel
theorem dX4_hasStep_6 : decode cX4_hasStep 6 = .ok (.getfield 9, 3) := by decide +kernel
theorem dX4_hasStep_9 : decode cX4_hasStep 9 = .ok (.if_icmp .ge 13, 3) := by decide +kernel
theorem dX4_hasStep_12 : decode cX4_hasStep 12 = .ok (.iload_n 1, 1) := by decide +kernel
theorem dX4_hasStep_13 : decode cX4_hasStep 13 = .ok (.bipush 7, 2) := by decide +kernel
theorem dX4_hasStep_15 : decode cX4_hasStep 15 = .ok (.if_icmp .ge 7, 3) := by decide +kernel
theorem dX4_hasStep_18 : decode cX4_hasStep 18 = .ok (.iconst 1, 1) := by decide +kernel
theorem dX4_hasStep_19 : decode cX4_hasStep 19 = .ok (.goto 4, 3) := by decide +kernel
theorem dX4_hasStep_22 : decode cX4_hasStep 22 = .ok (.iconst 0, 1) := by decide +kernel
theorem dX4_hasStep_23 : decode cX4_hasStep 23 = .ok (.ireturn, 1) := by decide +kernel
theorem dX4_hasReport_0 : decode cX4_hasReport 0 = .ok (.aload_n 0, 1) := by decide +kernel
theorem dX4_hasReport_1 : decode cX4_hasReport 1 = .ok (.iload_n 1, 1) := by decide +kernel
theorem dX4_hasReport_2 : decode cX4_hasReport 2 = .ok (.invokevirtual 53, 3) := by decide +kernel
theorem dX4_hasReport_5 : decode cX4_hasReport 5 = .ok (.ifCond .eq 15, 3) := by decide +kernel
theorem dX4_hasReport_8 : decode cX4_hasReport 8 = .ok (.aload_n 0, 1) := by decide +kernel
theorem dX4_hasReport_9 : decode cX4_hasReport 9 = .ok (.iload_n 1, 1) := by decide +kernel
theorem dX4_hasReport_10 : decode cX4_hasReport 10 = .ok (.invokevirtual 57, 3) := by decide +kernel
theorem dX4_hasReport_13 : decode cX4_hasReport 13 = .ok (.ifCond .eq 7, 3) := by decide +kernel
theorem dX4_hasReport_16 : decode cX4_hasReport 16 = .ok (.iconst 1, 1) := by decide +kernel
theorem dX4_hasReport_17 : decode cX4_hasReport 17 = .ok (.goto 4, 3) := by decide +kernel
theorem dX4_hasReport_20 : decode cX4_hasReport 20 = .ok (.iconst 0, 1) := by decide +kernel
theorem dX4_hasReport_21 : decode cX4_hasReport 21 = .ok (.ireturn, 1) := by decide +kernel
theorem dX4_isReport_0 : decode cX4_isReport 0 = .ok (.aload_n 0, 1) := by decide +kernel
theorem dX4_isReport_1 : decode cX4_isReport 1 = .ok (.getfield 15, 3) := by decide +kernel
theorem dX4_isReport_4 : decode cX4_isReport 4 = .ok (.iload_n 1, 1) := by decide +kernel
theorem dX4_isReport_5 : decode cX4_isReport 5 = .ok (.ishr, 1) := by decide +kernel
theorem dX4_isReport_6 : decode cX4_isReport 6 = .ok (.iconst 1, 1) := by decide +kernel
theorem dX4_isReport_7 : decode cX4_isReport 7 = .ok (.iand, 1) := by decide +kernel
theorem dX4_isReport_8 : decode cX4_isReport 8 = .ok (.ifCond .eq 7, 3) := by decide +kernel
theorem dX4_isReport_11 : decode cX4_isReport 11 = .ok (.iconst 1, 1) := by decide +kernel
theorem dX4_isReport_12 : decode cX4_isReport 12 = .ok (.goto 4, 3) := by decide +kernel
theorem dX4_isReport_15 : decode cX4_isReport 15 = .ok (.iconst 0, 1) := by decide +kernel
theorem dX4_isReport_16 : decode cX4_isReport 16 = .ok (.ireturn, 1) := by decide +kernel
theorem dX4_codeBegin_0 : decode cX4_codeBegin 0 = .ok (.iload_n 1, 1) := by decide +kernel
theorem dX4_codeBegin_1 : decode cX4_codeBegin 1 = .ok (.ifCond .le 20, 3) := by decide +kernel
theorem dX4_codeBegin_4 : decode cX4_codeBegin 4 = .ok (.iload_n 1, 1) := by decide +kernel
theorem dX4_codeBegin_5 : decode cX4_codeBegin 5 = .ok (.bipush 7, 2) := by decide +kernel
theorem dX4_codeBegin_7 : decode cX4_codeBegin 7 = .ok (.if_icmp .ge 14, 3) := by decide +kernel
theorem dX4_codeBegin_10 : decode cX4_codeBegin 10 = .ok (.aload_n 0, 1) := by decide +kernel
theorem dX4_codeBegin_11 : decode cX4_codeBegin 11 = .ok (.getfield 41, 3) := by decide +kernel
theorem dX4_codeBegin_14 : decode cX4_codeBegin 14 = .ok (.iload_n 1, 1) := by decide +kernel
theorem dX4_codeBegin_15 : decode cX4_codeBegin 15 = .ok (.iconst 1, 1) := by decide +kernel
theorem dX4_codeBegin_16 : decode cX4_codeBegin 16 = .ok (.isub, 1) := by decide +kernel
theorem dX4_codeBegin_17 : decode cX4_codeBegin 17 = .ok (.iaload, 1) := by decide +kernel
theorem dX4_codeBegin_18 : decode cX4_codeBegin 18 = .ok (.goto 4, 3) := by decide +kernel
theorem dX4_codeBegin_21 : decode cX4_codeBegin 21 = .ok (.iconst 0, 1) := by decide +kernel
theorem dX4_codeBegin_22 : decode cX4_codeBegin 22 = .ok (.ireturn, 1) := by decide +kernel
theorem dX4_tells_0 : decode cX4_tells 0 = .ok (.iconst 0, 1) := by decide +kernel
theorem dX4_tells_1 : decode cX4_tells 1 = .ok (.istore_n 3, 1) := by decide +kernel
theorem dX4_tells_2 : decode cX4_tells 2 = .ok (.iload_n 3, 1) := by decide +kernel
theorem dX4_tells_3 : decode cX4_tells 3 = .ok (.aload_n 0, 1) := by decide +kernel
theorem dX4_tells_4 : decode cX4_tells 4 = .ok (.getfield 9, 3) := by decide +kernel
theorem dX4_tells_7 : decode cX4_tells 7 = .ok (.if_icmp .ge 22, 3) := by decide +kernel
theorem dX4_tells_10 : decode cX4_tells 10 = .ok (.aload_n 0, 1) := by decide +kernel
theorem dX4_tells_11 : decode cX4_tells 11 = .ok (.getfield 18, 3) := by decide +kernel
theorem dX4_tells_14 : decode cX4_tells 14 = .ok (.iload_n 3, 1) := by decide +kernel
theorem dX4_tells_15 : decode cX4_tells 15 = .ok (.laload, 1) := by decide +kernel
theorem dX4_tells_16 : decode cX4_tells 16 = .ok (.lload_n 1, 1) := by decide +kernel
theorem dX4_tells_17 : decode cX4_tells 17 = .ok (.lcmp, 1) := by decide +kernel
theorem dX4_tells_18 : decode cX4_tells 18 = .ok (.ifCond .ne 5, 3) := by decide +kernel
theorem dX4_tells_21 : decode cX4_tells 21 = .ok (.iconst 1, 1) := by decide +kernel
theorem dX4_tells_22 : decode cX4_tells 22 = .ok (.ireturn, 1) := by decide +kernel
theorem dX4_tells_23 : decode cX4_tells 23 = .ok (.iinc 3 1, 3) := by decide +kernel
theorem dX4_tells_26 : decode cX4_tells 26 = .ok (.goto (-24), 3) := by decide +kernel
theorem dX4_tells_29 : decode cX4_tells 29 = .ok (.iconst 0, 1) := by decide +kernel
theorem dX4_tells_30 : decode cX4_tells 30 = .ok (.ireturn, 1) := by decide +kernel
theorem dX4_partNamed_0 : decode cX4_partNamed 0 = .ok (.iconst 0, 1) := by decide +kernel
theorem dX4_partNamed_1 : decode cX4_partNamed 1 = .ok (.istore_n 3, 1) := by decide +kernel
theorem dX4_partNamed_2 : decode cX4_partNamed 2 = .ok (.iload_n 3, 1) := by decide +kernel
theorem dX4_partNamed_3 : decode cX4_partNamed 3 = .ok (.aload_n 0, 1) := by decide +kernel
theorem dX4_partNamed_4 : decode cX4_partNamed 4 = .ok (.getfield 9, 3) := by decide +kernel
theorem dX4_partNamed_7 : decode cX4_partNamed 7 = .ok (.if_icmp .ge 33, 3) := by decide +kernel
theorem dX4_partNamed_10 : decode cX4_partNamed 10 = .ok (.aload_n 0, 1) := by decide +kernel
theorem dX4_partNamed_11 : decode cX4_partNamed 11 = .ok (.getfield 18, 3) := by decide +kernel
theorem dX4_partNamed_14 : decode cX4_partNamed 14 = .ok (.iload_n 3, 1) := by decide +kernel
theorem dX4_partNamed_15 : decode cX4_partNamed 15 = .ok (.laload, 1) := by decide +kernel
theorem dX4_partNamed_16 : decode cX4_partNamed 16 = .ok (.lload_n 1, 1) := by decide +kernel
theorem dX4_partNamed_17 : decode cX4_partNamed 17 = .ok (.lcmp, 1) := by decide +kernel
theorem dX4_partNamed_18 : decode cX4_partNamed 18 = .ok (.ifCond .ne 16, 3) := by decide +kernel
theorem dX4_partNamed_21 : decode cX4_partNamed 21 = .ok (.aload_n 0, 1) := by decide +kernel
theorem dX4_partNamed_22 : decode cX4_partNamed 22 = .ok (.getfield 15, 3) := by decide +kernel
theorem dX4_partNamed_25 : decode cX4_partNamed 25 = .ok (.iload_n 3, 1) := by decide +kernel
theorem dX4_partNamed_26 : decode cX4_partNamed 26 = .ok (.ishr, 1) := by decide +kernel
theorem dX4_partNamed_27 : decode cX4_partNamed 27 = .ok (.iconst 1, 1) := by decide +kernel
theorem dX4_partNamed_28 : decode cX4_partNamed 28 = .ok (.iand, 1) := by decide +kernel
theorem dX4_partNamed_29 : decode cX4_partNamed 29 = .ok (.ifCond .ne 5, 3) := by decide +kernel
theorem dX4_partNamed_32 : decode cX4_partNamed 32 = .ok (.iload_n 3, 1) := by decide +kernel
theorem dX4_partNamed_33 : decode cX4_partNamed 33 = .ok (.ireturn, 1) := by decide +kernel
theorem dX4_partNamed_34 : decode cX4_partNamed 34 = .ok (.iinc 3 1, 3) := by decide +kernel
theorem dX4_partNamed_37 : decode cX4_partNamed 37 = .ok (.goto (-35), 3) := by decide +kernel
theorem dX4_partNamed_40 : decode cX4_partNamed 40 = .ok (.iconst (-1), 1) := by decide +kernel
theorem dX4_partNamed_41 : decode cX4_partNamed 41 = .ok (.ireturn, 1) := by decide +kernel
theorem dX4_clear_0 : decode cX4_clear 0 = .ok (.aload_n 0, 1) := by decide +kernel
theorem dX4_clear_1 : decode cX4_clear 1 = .ok (.iconst 0, 1) := by decide +kernel
theorem dX4_clear_2 : decode cX4_clear 2 = .ok (.putfield 9, 3) := by decide +kernel
theorem dX4_clear_5 : decode cX4_clear 5 = .ok (.aload_n 0, 1) := by decide +kernel
theorem dX4_clear_6 : decode cX4_clear 6 = .ok (.iconst 0, 1) := by decide +kernel
theorem dX4_clear_7 : decode cX4_clear 7 = .ok (.putfield 15, 3) := by decide +kernel
theorem dX4_clear_10 : decode cX4_clear 10 = .ok (.aload_n 0, 1) := by decide +kernel
theorem dX4_clear_11 : decode cX4_clear 11 = .ok (.iconst 0, 1) := by decide +kernel
theorem dX4_clear_12 : decode cX4_clear 12 = .ok (.putfield 50, 3) := by decide +kernel
theorem dX4_clear_15 : decode cX4_clear 15 = .ok (.return_, 1) := by decide +kernel
theorem dX4_beginStep_0 : decode cX4_beginStep 0 = .ok (.aload_n 0, 1) := by decide +kernel
theorem dX4_beginStep_1 : decode cX4_beginStep 1 = .ok (.getfield 9, 3) := by decide +kernel
theorem dX4_beginStep_4 : decode cX4_beginStep 4 = .ok (.bipush 7, 2) := by decide +kernel
theorem dX4_beginStep_6 : decode cX4_beginStep 6 = .ok (.if_icmp .ge 76, 3) := by decide +kernel
theorem dX4_beginStep_9 : decode cX4_beginStep 9 = .ok (.aload_n 0, 1) := by decide +kernel
theorem dX4_beginStep_10 : decode cX4_beginStep 10 = .ok (.dup, 1) := by decide +kernel
theorem dX4_beginStep_11 : decode cX4_beginStep 11 = .ok (.getfield 15, 3) := by decide +kernel
theorem dX4_beginStep_14 : decode cX4_beginStep 14 = .ok (.iload_n 1, 1) := by decide +kernel
theorem dX4_beginStep_15 : decode cX4_beginStep 15 = .ok (.ifCond .eq 7, 3) := by decide +kernel
theorem dX4_beginStep_18 : decode cX4_beginStep 18 = .ok (.iconst 1, 1) := by decide +kernel
theorem dX4_beginStep_19 : decode cX4_beginStep 19 = .ok (.goto 4, 3) := by decide +kernel
theorem dX4_beginStep_22 : decode cX4_beginStep 22 = .ok (.iconst 0, 1) := by decide +kernel
theorem dX4_beginStep_23 : decode cX4_beginStep 23 = .ok (.aload_n 0, 1) := by decide +kernel
theorem dX4_beginStep_24 : decode cX4_beginStep 24 = .ok (.getfield 9, 3) := by decide +kernel
theorem dX4_beginStep_27 : decode cX4_beginStep 27 = .ok (.ishl, 1) := by decide +kernel
theorem dX4_beginStep_28 : decode cX4_beginStep 28 = .ok (.ior, 1) := by decide +kernel
theorem dX4_beginStep_29 : decode cX4_beginStep 29 = .ok (.putfield 15, 3) := by decide +kernel
theorem dX4_beginStep_32 : decode cX4_beginStep 32 = .ok (.aload_n 0, 1) := by decide +kernel
theorem dX4_beginStep_33 : decode cX4_beginStep 33 = .ok (.getfield 26, 3) := by decide +kernel
theorem dX4_beginStep_36 : decode cX4_beginStep 36 = .ok (.aload_n 0, 1) := by decide +kernel
theorem dX4_beginStep_37 : decode cX4_beginStep 37 = .ok (.getfield 9, 3) := by decide +kernel
theorem dX4_beginStep_40 : decode cX4_beginStep 40 = .ok (.iconst 0, 1) := by decide +kernel
theorem dX4_beginStep_41 : decode cX4_beginStep 41 = .ok (.iastore, 1) := by decide +kernel
theorem dX4_beginStep_42 : decode cX4_beginStep 42 = .ok (.aload_n 0, 1) := by decide +kernel
theorem dX4_beginStep_43 : decode cX4_beginStep 43 = .ok (.getfield 29, 3) := by decide +kernel
theorem dX4_beginStep_46 : decode cX4_beginStep 46 = .ok (.aload_n 0, 1) := by decide +kernel
theorem dX4_beginStep_47 : decode cX4_beginStep 47 = .ok (.getfield 9, 3) := by decide +kernel
theorem dX4_beginStep_50 : decode cX4_beginStep 50 = .ok (.iconst 0, 1) := by decide +kernel
theorem dX4_beginStep_51 : decode cX4_beginStep 51 = .ok (.iastore, 1) := by decide +kernel
theorem dX4_beginStep_52 : decode cX4_beginStep 52 = .ok (.aload_n 0, 1) := by decide +kernel
theorem dX4_beginStep_53 : decode cX4_beginStep 53 = .ok (.getfield 32, 3) := by decide +kernel
theorem dX4_beginStep_56 : decode cX4_beginStep 56 = .ok (.aload_n 0, 1) := by decide +kernel
theorem dX4_beginStep_57 : decode cX4_beginStep 57 = .ok (.getfield 9, 3) := by decide +kernel
theorem dX4_beginStep_60 : decode cX4_beginStep 60 = .ok (.iconst 0, 1) := by decide +kernel
theorem dX4_beginStep_61 : decode cX4_beginStep 61 = .ok (.iastore, 1) := by decide +kernel
theorem dX4_beginStep_62 : decode cX4_beginStep 62 = .ok (.aload_n 0, 1) := by decide +kernel
theorem dX4_beginStep_63 : decode cX4_beginStep 63 = .ok (.getfield 35, 3) := by decide +kernel
theorem dX4_beginStep_66 : decode cX4_beginStep 66 = .ok (.aload_n 0, 1) := by decide +kernel
theorem dX4_beginStep_67 : decode cX4_beginStep 67 = .ok (.getfield 9, 3) := by decide +kernel
theorem dX4_beginStep_70 : decode cX4_beginStep 70 = .ok (.iconst 0, 1) := by decide +kernel
theorem dX4_beginStep_71 : decode cX4_beginStep 71 = .ok (.iastore, 1) := by decide +kernel
theorem dX4_beginStep_72 : decode cX4_beginStep 72 = .ok (.aload_n 0, 1) := by decide +kernel
theorem dX4_beginStep_73 : decode cX4_beginStep 73 = .ok (.getfield 38, 3) := by decide +kernel
theorem dX4_beginStep_76 : decode cX4_beginStep 76 = .ok (.aload_n 0, 1) := by decide +kernel
theorem dX4_beginStep_77 : decode cX4_beginStep 77 = .ok (.getfield 9, 3) := by decide +kernel
theorem dX4_beginStep_80 : decode cX4_beginStep 80 = .ok (.iconst 0, 1) := by decide +kernel
theorem dX4_beginStep_81 : decode cX4_beginStep 81 = .ok (.iastore, 1) := by decide +kernel
theorem dX4_beginStep_82 : decode cX4_beginStep 82 = .ok (.return_, 1) := by decide +kernel
theorem dX4_endStep_0 : decode cX4_endStep 0 = .ok (.aload_n 0, 1) := by decide +kernel
theorem dX4_endStep_1 : decode cX4_endStep 1 = .ok (.getfield 9, 3) := by decide +kernel
theorem dX4_endStep_4 : decode cX4_endStep 4 = .ok (.bipush 7, 2) := by decide +kernel
theorem dX4_endStep_6 : decode cX4_endStep 6 = .ok (.if_icmp .ge 26, 3) := by decide +kernel
theorem dX4_endStep_9 : decode cX4_endStep 9 = .ok (.aload_n 0, 1) := by decide +kernel
theorem dX4_endStep_10 : decode cX4_endStep 10 = .ok (.getfield 41, 3) := by decide +kernel
theorem dX4_endStep_13 : decode cX4_endStep 13 = .ok (.aload_n 0, 1) := by decide +kernel
theorem dX4_endStep_14 : decode cX4_endStep 14 = .ok (.getfield 9, 3) := by decide +kernel
theorem dX4_endStep_17 : decode cX4_endStep 17 = .ok (.aload_n 0, 1) := by decide +kernel
theorem dX4_endStep_18 : decode cX4_endStep 18 = .ok (.getfield 50, 3) := by decide +kernel
theorem dX4_endStep_21 : decode cX4_endStep 21 = .ok (.iastore, 1) := by decide +kernel
theorem dX4_endStep_22 : decode cX4_endStep 22 = .ok (.aload_n 0, 1) := by decide +kernel
theorem dX4_endStep_23 : decode cX4_endStep 23 = .ok (.dup, 1) := by decide +kernel
theorem dX4_endStep_24 : decode cX4_endStep 24 = .ok (.getfield 9, 3) := by decide +kernel
theorem dX4_endStep_27 : decode cX4_endStep 27 = .ok (.iconst 1, 1) := by decide +kernel
theorem dX4_endStep_28 : decode cX4_endStep 28 = .ok (.iadd, 1) := by decide +kernel
theorem dX4_endStep_29 : decode cX4_endStep 29 = .ok (.putfield 9, 3) := by decide +kernel
theorem dX4_endStep_32 : decode cX4_endStep 32 = .ok (.return_, 1) := by decide +kernel
theorem dX4_addTable_0 : decode cX4_addTable 0 = .ok (.aload_n 0, 1) := by decide +kernel
theorem dX4_addTable_1 : decode cX4_addTable 1 = .ok (.getfield 9, 3) := by decide +kernel
theorem dX4_addTable_4 : decode cX4_addTable 4 = .ok (.bipush 7, 2) := by decide +kernel
theorem dX4_addTable_6 : decode cX4_addTable 6 = .ok (.if_icmp .ge 39, 3) := by decide +kernel
theorem dX4_addTable_9 : decode cX4_addTable 9 = .ok (.aload_n 0, 1) := by decide +kernel
theorem dX4_addTable_10 : decode cX4_addTable 10 = .ok (.getfield 32, 3) := by decide +kernel
theorem dX4_addTable_13 : decode cX4_addTable 13 = .ok (.aload_n 0, 1) := by decide +kernel
theorem dX4_addTable_14 : decode cX4_addTable 14 = .ok (.getfield 9, 3) := by decide +kernel
theorem dX4_addTable_17 : decode cX4_addTable 17 = .ok (.dup2, 1) := by decide +kernel
theorem dX4_addTable_18 : decode cX4_addTable 18 = .ok (.iaload, 1) := by decide +kernel
theorem dX4_addTable_19 : decode cX4_addTable 19 = .ok (.iconst 1, 1) := by decide +kernel
theorem dX4_addTable_20 : decode cX4_addTable 20 = .ok (.iload_n 2, 1) := by decide +kernel
theorem dX4_addTable_21 : decode cX4_addTable 21 = .ok (.ishl, 1) := by decide +kernel
theorem dX4_addTable_22 : decode cX4_addTable 22 = .ok (.ior, 1) := by decide +kernel
theorem dX4_addTable_23 : decode cX4_addTable 23 = .ok (.iastore, 1) := by decide +kernel
theorem dX4_addTable_24 : decode cX4_addTable 24 = .ok (.aload_n 0, 1) := by decide +kernel
theorem dX4_addTable_25 : decode cX4_addTable 25 = .ok (.getfield 38, 3) := by decide +kernel
theorem dX4_addTable_28 : decode cX4_addTable 28 = .ok (.aload_n 0, 1) := by decide +kernel
theorem dX4_addTable_29 : decode cX4_addTable 29 = .ok (.getfield 9, 3) := by decide +kernel
theorem dX4_addTable_32 : decode cX4_addTable 32 = .ok (.dup2, 1) := by decide +kernel
theorem dX4_addTable_33 : decode cX4_addTable 33 = .ok (.iaload, 1) := by decide +kernel
theorem dX4_addTable_34 : decode cX4_addTable 34 = .ok (.iconst 1, 1) := by decide +kernel
theorem dX4_addTable_35 : decode cX4_addTable 35 = .ok (.iload_n 2, 1) := by decide +kernel
theorem dX4_addTable_36 : decode cX4_addTable 36 = .ok (.ishl, 1) := by decide +kernel
theorem dX4_addTable_37 : decode cX4_addTable 37 = .ok (.ior, 1) := by decide +kernel
theorem dX4_addTable_38 : decode cX4_addTable 38 = .ok (.iastore, 1) := by decide +kernel
theorem dX4_addTable_39 : decode cX4_addTable 39 = .ok (.aload_n 0, 1) := by decide +kernel
theorem dX4_addTable_40 : decode cX4_addTable 40 = .ok (.iload_n 1, 1) := by decide +kernel
theorem dX4_addTable_41 : decode cX4_addTable 41 = .ok (.iload_n 2, 1) := by decide +kernel
theorem dX4_addTable_42 : decode cX4_addTable 42 = .ok (.invokevirtual 60, 3) := by decide +kernel
theorem dX4_addTable_45 : decode cX4_addTable 45 = .ok (.return_, 1) := by decide +kernel
theorem dX4_addPart_0 : decode cX4_addPart 0 = .ok (.iload_n 1, 1) := by decide +kernel
theorem dX4_addPart_1 : decode cX4_addPart 1 = .ok (.ifCond .lt 61, 3) := by decide +kernel
theorem dX4_addPart_4 : decode cX4_addPart 4 = .ok (.iload_n 1, 1) := by decide +kernel
theorem dX4_addPart_5 : decode cX4_addPart 5 = .ok (.aload_n 0, 1) := by decide +kernel
theorem dX4_addPart_6 : decode cX4_addPart 6 = .ok (.getfield 9, 3) := by decide +kernel
theorem dX4_addPart_9 : decode cX4_addPart 9 = .ok (.if_icmp .ge 53, 3) := by decide +kernel
theorem dX4_addPart_12 : decode cX4_addPart 12 = .ok (.aload_n 0, 1) := by decide +kernel
theorem dX4_addPart_13 : decode cX4_addPart 13 = .ok (.getfield 9, 3) := by decide +kernel
theorem dX4_addPart_16 : decode cX4_addPart 16 = .ok (.bipush 7, 2) := by decide +kernel
theorem dX4_addPart_18 : decode cX4_addPart 18 = .ok (.if_icmp .ge 44, 3) := by decide +kernel
theorem dX4_addPart_21 : decode cX4_addPart 21 = .ok (.aload_n 0, 1) := by decide +kernel
theorem dX4_addPart_22 : decode cX4_addPart 22 = .ok (.getfield 35, 3) := by decide +kernel
theorem dX4_addPart_25 : decode cX4_addPart 25 = .ok (.aload_n 0, 1) := by decide +kernel
theorem dX4_addPart_26 : decode cX4_addPart 26 = .ok (.getfield 9, 3) := by decide +kernel
theorem dX4_addPart_29 : decode cX4_addPart 29 = .ok (.dup2, 1) := by decide +kernel
theorem dX4_addPart_30 : decode cX4_addPart 30 = .ok (.iaload, 1) := by decide +kernel
theorem dX4_addPart_31 : decode cX4_addPart 31 = .ok (.iconst 1, 1) := by decide +kernel
theorem dX4_addPart_32 : decode cX4_addPart 32 = .ok (.iload_n 1, 1) := by decide +kernel
theorem dX4_addPart_33 : decode cX4_addPart 33 = .ok (.ishl, 1) := by decide +kernel
theorem dX4_addPart_34 : decode cX4_addPart 34 = .ok (.ior, 1) := by decide +kernel
theorem dX4_addPart_35 : decode cX4_addPart 35 = .ok (.iastore, 1) := by decide +kernel
theorem dX4_addPart_36 : decode cX4_addPart 36 = .ok (.aload_n 0, 1) := by decide +kernel
theorem dX4_addPart_37 : decode cX4_addPart 37 = .ok (.getfield 38, 3) := by decide +kernel
theorem dX4_addPart_40 : decode cX4_addPart 40 = .ok (.aload_n 0, 1) := by decide +kernel
theorem dX4_addPart_41 : decode cX4_addPart 41 = .ok (.getfield 9, 3) := by decide +kernel
theorem dX4_addPart_44 : decode cX4_addPart 44 = .ok (.dup2, 1) := by decide +kernel
theorem dX4_addPart_45 : decode cX4_addPart 45 = .ok (.iaload, 1) := by decide +kernel
theorem dX4_addPart_46 : decode cX4_addPart 46 = .ok (.aload_n 0, 1) := by decide +kernel
theorem dX4_addPart_47 : decode cX4_addPart 47 = .ok (.getfield 38, 3) := by decide +kernel
theorem dX4_addPart_50 : decode cX4_addPart 50 = .ok (.iload_n 1, 1) := by decide +kernel
theorem dX4_addPart_51 : decode cX4_addPart 51 = .ok (.iaload, 1) := by decide +kernel
theorem dX4_addPart_52 : decode cX4_addPart 52 = .ok (.ior, 1) := by decide +kernel
theorem dX4_addPart_53 : decode cX4_addPart 53 = .ok (.iastore, 1) := by decide +kernel
theorem dX4_addPart_54 : decode cX4_addPart 54 = .ok (.aload_n 0, 1) := by decide +kernel
theorem dX4_addPart_55 : decode cX4_addPart 55 = .ok (.sipush 256, 3) := by decide +kernel
theorem dX4_addPart_58 : decode cX4_addPart 58 = .ok (.iload_n 1, 1) := by decide +kernel
theorem dX4_addPart_59 : decode cX4_addPart 59 = .ok (.invokevirtual 60, 3) := by decide +kernel
theorem dX4_addPart_62 : decode cX4_addPart 62 = .ok (.return_, 1) := by decide +kernel
theorem dX4_addCode_0 : decode cX4_addCode 0 = .ok (.aload_n 0, 1) := by decide +kernel
theorem dX4_addCode_1 : decode cX4_addCode 1 = .ok (.getfield 50, 3) := by decide +kernel
theorem dX4_addCode_4 : decode cX4_addCode 4 = .ok (.sipush 400, 3) := by decide +kernel
theorem dX4_addCode_7 : decode cX4_addCode 7 = .ok (.if_icmp .ge 33, 3) := by decide +kernel
theorem dX4_addCode_10 : decode cX4_addCode 10 = .ok (.aload_n 0, 1) := by decide +kernel
theorem dX4_addCode_11 : decode cX4_addCode 11 = .ok (.getfield 44, 3) := by decide +kernel
theorem dX4_addCode_14 : decode cX4_addCode 14 = .ok (.aload_n 0, 1) := by decide +kernel
theorem dX4_addCode_15 : decode cX4_addCode 15 = .ok (.getfield 50, 3) := by decide +kernel
theorem dX4_addCode_18 : decode cX4_addCode 18 = .ok (.iload_n 1, 1) := by decide +kernel
theorem dX4_addCode_19 : decode cX4_addCode 19 = .ok (.iastore, 1) := by decide +kernel
theorem dX4_addCode_20 : decode cX4_addCode 20 = .ok (.aload_n 0, 1) := by decide +kernel
theorem dX4_addCode_21 : decode cX4_addCode 21 = .ok (.getfield 47, 3) := by decide +kernel
theorem dX4_addCode_24 : decode cX4_addCode 24 = .ok (.aload_n 0, 1) := by decide +kernel
theorem dX4_addCode_25 : decode cX4_addCode 25 = .ok (.getfield 50, 3) := by decide +kernel
theorem dX4_addCode_28 : decode cX4_addCode 28 = .ok (.iload_n 2, 1) := by decide +kernel
theorem dX4_addCode_29 : decode cX4_addCode 29 = .ok (.iastore, 1) := by decide +kernel
theorem dX4_addCode_30 : decode cX4_addCode 30 = .ok (.aload_n 0, 1) := by decide +kernel
theorem dX4_addCode_31 : decode cX4_addCode 31 = .ok (.dup, 1) := by decide +kernel
theorem dX4_addCode_32 : decode cX4_addCode 32 = .ok (.getfield 50, 3) := by decide +kernel
theorem dX4_addCode_35 : decode cX4_addCode 35 = .ok (.iconst 1, 1) := by decide +kernel
theorem dX4_addCode_36 : decode cX4_addCode 36 = .ok (.iadd, 1) := by decide +kernel
theorem dX4_addCode_37 : decode cX4_addCode 37 = .ok (.putfield 50, 3) := by decide +kernel
theorem dX4_addCode_40 : decode cX4_addCode 40 = .ok (.return_, 1) := by decide +kernel
theorem dX4_copyOf_0 : decode cX4_copyOf 0 = .ok (.aload_n 0, 1) := by decide +kernel
theorem dX4_copyOf_1 : decode cX4_copyOf 1 = .ok (.aload_n 1, 1) := by decide +kernel
theorem dX4_copyOf_2 : decode cX4_copyOf 2 = .ok (.getfield 9, 3) := by decide +kernel
theorem dX4_copyOf_5 : decode cX4_copyOf 5 = .ok (.putfield 9, 3) := by decide +kernel
theorem dX4_copyOf_8 : decode cX4_copyOf 8 = .ok (.aload_n 0, 1) := by decide +kernel
theorem dX4_copyOf_9 : decode cX4_copyOf 9 = .ok (.aload_n 1, 1) := by decide +kernel
theorem dX4_copyOf_10 : decode cX4_copyOf 10 = .ok (.getfield 15, 3) := by decide +kernel
theorem dX4_copyOf_13 : decode cX4_copyOf 13 = .ok (.putfield 15, 3) := by decide +kernel
theorem dX4_copyOf_16 : decode cX4_copyOf 16 = .ok (.aload_n 0, 1) := by decide +kernel
theorem dX4_copyOf_17 : decode cX4_copyOf 17 = .ok (.aload_n 1, 1) := by decide +kernel
theorem dX4_copyOf_18 : decode cX4_copyOf 18 = .ok (.getfield 50, 3) := by decide +kernel
theorem dX4_copyOf_21 : decode cX4_copyOf 21 = .ok (.putfield 50, 3) := by decide +kernel
theorem dX4_copyOf_24 : decode cX4_copyOf 24 = .ok (.aload_n 1, 1) := by decide +kernel
theorem dX4_copyOf_25 : decode cX4_copyOf 25 = .ok (.getfield 18, 3) := by decide +kernel
theorem dX4_copyOf_28 : decode cX4_copyOf 28 = .ok (.iconst 0, 1) := by decide +kernel
theorem dX4_copyOf_29 : decode cX4_copyOf 29 = .ok (.aload_n 0, 1) := by decide +kernel
theorem dX4_copyOf_30 : decode cX4_copyOf 30 = .ok (.getfield 18, 3) := by decide +kernel
theorem dX4_copyOf_33 : decode cX4_copyOf 33 = .ok (.iconst 0, 1) := by decide +kernel
theorem dX4_copyOf_34 : decode cX4_copyOf 34 = .ok (.bipush 7, 2) := by decide +kernel
theorem dX4_copyOf_36 : decode cX4_copyOf 36 = .ok (.invokestatic 64, 3) := by decide +kernel
theorem dX4_copyOf_39 : decode cX4_copyOf 39 = .ok (.aload_n 1, 1) := by decide +kernel
theorem dX4_copyOf_40 : decode cX4_copyOf 40 = .ok (.getfield 22, 3) := by decide +kernel
theorem dX4_copyOf_43 : decode cX4_copyOf 43 = .ok (.iconst 0, 1) := by decide +kernel
theorem dX4_copyOf_44 : decode cX4_copyOf 44 = .ok (.aload_n 0, 1) := by decide +kernel
theorem dX4_copyOf_45 : decode cX4_copyOf 45 = .ok (.getfield 22, 3) := by decide +kernel
theorem dX4_copyOf_48 : decode cX4_copyOf 48 = .ok (.iconst 0, 1) := by decide +kernel
theorem dX4_copyOf_49 : decode cX4_copyOf 49 = .ok (.bipush 7, 2) := by decide +kernel
theorem dX4_copyOf_51 : decode cX4_copyOf 51 = .ok (.invokestatic 64, 3) := by decide +kernel
theorem dX4_copyOf_54 : decode cX4_copyOf 54 = .ok (.aload_n 1, 1) := by decide +kernel
theorem dX4_copyOf_55 : decode cX4_copyOf 55 = .ok (.getfield 26, 3) := by decide +kernel
theorem dX4_copyOf_58 : decode cX4_copyOf 58 = .ok (.iconst 0, 1) := by decide +kernel
theorem dX4_copyOf_59 : decode cX4_copyOf 59 = .ok (.aload_n 0, 1) := by decide +kernel
theorem dX4_copyOf_60 : decode cX4_copyOf 60 = .ok (.getfield 26, 3) := by decide +kernel
theorem dX4_copyOf_63 : decode cX4_copyOf 63 = .ok (.iconst 0, 1) := by decide +kernel
theorem dX4_copyOf_64 : decode cX4_copyOf 64 = .ok (.bipush 7, 2) := by decide +kernel
theorem dX4_copyOf_66 : decode cX4_copyOf 66 = .ok (.invokestatic 64, 3) := by decide +kernel
theorem dX4_copyOf_69 : decode cX4_copyOf 69 = .ok (.aload_n 1, 1) := by decide +kernel
theorem dX4_copyOf_70 : decode cX4_copyOf 70 = .ok (.getfield 29, 3) := by decide +kernel
theorem dX4_copyOf_73 : decode cX4_copyOf 73 = .ok (.iconst 0, 1) := by decide +kernel
theorem dX4_copyOf_74 : decode cX4_copyOf 74 = .ok (.aload_n 0, 1) := by decide +kernel
theorem dX4_copyOf_75 : decode cX4_copyOf 75 = .ok (.getfield 29, 3) := by decide +kernel
theorem dX4_copyOf_78 : decode cX4_copyOf 78 = .ok (.iconst 0, 1) := by decide +kernel
theorem dX4_copyOf_79 : decode cX4_copyOf 79 = .ok (.bipush 7, 2) := by decide +kernel
theorem dX4_copyOf_81 : decode cX4_copyOf 81 = .ok (.invokestatic 64, 3) := by decide +kernel
theorem dX4_copyOf_84 : decode cX4_copyOf 84 = .ok (.aload_n 1, 1) := by decide +kernel
theorem dX4_copyOf_85 : decode cX4_copyOf 85 = .ok (.getfield 32, 3) := by decide +kernel
theorem dX4_copyOf_88 : decode cX4_copyOf 88 = .ok (.iconst 0, 1) := by decide +kernel
theorem dX4_copyOf_89 : decode cX4_copyOf 89 = .ok (.aload_n 0, 1) := by decide +kernel
theorem dX4_copyOf_90 : decode cX4_copyOf 90 = .ok (.getfield 32, 3) := by decide +kernel
theorem dX4_copyOf_93 : decode cX4_copyOf 93 = .ok (.iconst 0, 1) := by decide +kernel
theorem dX4_copyOf_94 : decode cX4_copyOf 94 = .ok (.bipush 7, 2) := by decide +kernel
theorem dX4_copyOf_96 : decode cX4_copyOf 96 = .ok (.invokestatic 64, 3) := by decide +kernel
theorem dX4_copyOf_99 : decode cX4_copyOf 99 = .ok (.aload_n 1, 1) := by decide +kernel
theorem dX4_copyOf_100 : decode cX4_copyOf 100 = .ok (.getfield 35, 3) := by decide +kernel
theorem dX4_copyOf_103 : decode cX4_copyOf 103 = .ok (.iconst 0, 1) := by decide +kernel
theorem dX4_copyOf_104 : decode cX4_copyOf 104 = .ok (.aload_n 0, 1) := by decide +kernel
theorem dX4_copyOf_105 : decode cX4_copyOf 105 = .ok (.getfield 35, 3) := by decide +kernel
theorem dX4_copyOf_108 : decode cX4_copyOf 108 = .ok (.iconst 0, 1) := by decide +kernel
theorem dX4_copyOf_109 : decode cX4_copyOf 109 = .ok (.bipush 7, 2) := by decide +kernel
theorem dX4_copyOf_111 : decode cX4_copyOf 111 = .ok (.invokestatic 64, 3) := by decide +kernel
theorem dX4_copyOf_114 : decode cX4_copyOf 114 = .ok (.aload_n 1, 1) := by decide +kernel
theorem dX4_copyOf_115 : decode cX4_copyOf 115 = .ok (.getfield 38, 3) := by decide +kernel
theorem dX4_copyOf_118 : decode cX4_copyOf 118 = .ok (.iconst 0, 1) := by decide +kernel
theorem dX4_copyOf_119 : decode cX4_copyOf 119 = .ok (.aload_n 0, 1) := by decide +kernel
theorem dX4_copyOf_120 : decode cX4_copyOf 120 = .ok (.getfield 38, 3) := by decide +kernel
theorem dX4_copyOf_123 : decode cX4_copyOf 123 = .ok (.iconst 0, 1) := by decide +kernel
theorem dX4_copyOf_124 : decode cX4_copyOf 124 = .ok (.bipush 7, 2) := by decide +kernel
theorem dX4_copyOf_126 : decode cX4_copyOf 126 = .ok (.invokestatic 64, 3) := by decide +kernel
theorem dX4_copyOf_129 : decode cX4_copyOf 129 = .ok (.aload_n 1, 1) := by decide +kernel
theorem dX4_copyOf_130 : decode cX4_copyOf 130 = .ok (.getfield 41, 3) := by decide +kernel
theorem dX4_copyOf_133 : decode cX4_copyOf 133 = .ok (.iconst 0, 1) := by decide +kernel
theorem dX4_copyOf_134 : decode cX4_copyOf 134 = .ok (.aload_n 0, 1) := by decide +kernel
theorem dX4_copyOf_135 : decode cX4_copyOf 135 = .ok (.getfield 41, 3) := by decide +kernel
theorem dX4_copyOf_138 : decode cX4_copyOf 138 = .ok (.iconst 0, 1) := by decide +kernel
theorem dX4_copyOf_139 : decode cX4_copyOf 139 = .ok (.bipush 7, 2) := by decide +kernel
theorem dX4_copyOf_141 : decode cX4_copyOf 141 = .ok (.invokestatic 64, 3) := by decide +kernel
theorem dX4_copyOf_144 : decode cX4_copyOf 144 = .ok (.aload_n 1, 1) := by decide +kernel
theorem dX4_copyOf_145 : decode cX4_copyOf 145 = .ok (.getfield 44, 3) := by decide +kernel
theorem dX4_copyOf_148 : decode cX4_copyOf 148 = .ok (.iconst 0, 1) := by decide +kernel
theorem dX4_copyOf_149 : decode cX4_copyOf 149 = .ok (.aload_n 0, 1) := by decide +kernel
theorem dX4_copyOf_150 : decode cX4_copyOf 150 = .ok (.getfield 44, 3) := by decide +kernel
theorem dX4_copyOf_153 : decode cX4_copyOf 153 = .ok (.iconst 0, 1) := by decide +kernel
theorem dX4_copyOf_154 : decode cX4_copyOf 154 = .ok (.sipush 400, 3) := by decide +kernel
theorem dX4_copyOf_157 : decode cX4_copyOf 157 = .ok (.invokestatic 64, 3) := by decide +kernel
theorem dX4_copyOf_160 : decode cX4_copyOf 160 = .ok (.aload_n 1, 1) := by decide +kernel
theorem dX4_copyOf_161 : decode cX4_copyOf 161 = .ok (.getfield 47, 3) := by decide +kernel
theorem dX4_copyOf_164 : decode cX4_copyOf 164 = .ok (.iconst 0, 1) := by decide +kernel
theorem dX4_copyOf_165 : decode cX4_copyOf 165 = .ok (.aload_n 0, 1) := by decide +kernel
theorem dX4_copyOf_166 : decode cX4_copyOf 166 = .ok (.getfield 47, 3) := by decide +kernel
theorem dX4_copyOf_169 : decode cX4_copyOf 169 = .ok (.iconst 0, 1) := by decide +kernel
theorem dX4_copyOf_170 : decode cX4_copyOf 170 = .ok (.sipush 400, 3) := by decide +kernel
theorem dX4_copyOf_173 : decode cX4_copyOf 173 = .ok (.invokestatic 64, 3) := by decide +kernel
theorem dX4_copyOf_176 : decode cX4_copyOf 176 = .ok (.return_, 1) := by decide +kernel
theorem dX5_init_0 : decode cX5_init 0 = .ok (.aload_n 0, 1) := by decide +kernel
theorem dX5_init_1 : decode cX5_init 1 = .ok (.invokespecial 3, 3) := by decide +kernel
theorem dX5_init_4 : decode cX5_init 4 = .ok (.aload_n 0, 1) := by decide +kernel
theorem dX5_init_5 : decode cX5_init 5 = .ok (.bipush 6, 2) := by decide +kernel
theorem dX5_init_7 : decode cX5_init 7 = .ok (.newarray .int, 2) := by decide +kernel
theorem dX5_init_9 : decode cX5_init 9 = .ok (.putfield 9, 3) := by decide +kernel
theorem dX5_init_12 : decode cX5_init 12 = .ok (.aload_n 0, 1) := by decide +kernel
theorem dX5_init_13 : decode cX5_init 13 = .ok (.bipush 6, 2) := by decide +kernel
theorem dX5_init_15 : decode cX5_init 15 = .ok (.newarray .int, 2) := by decide +kernel
theorem dX5_init_17 : decode cX5_init 17 = .ok (.putfield 15, 3) := by decide +kernel
theorem dX5_init_20 : decode cX5_init 20 = .ok (.aload_n 0, 1) := by decide +kernel
theorem dX5_init_21 : decode cX5_init 21 = .ok (.bipush 6, 2) := by decide +kernel
theorem dX5_init_23 : decode cX5_init 23 = .ok (.newarray .int, 2) := by decide +kernel
theorem dX5_init_25 : decode cX5_init 25 = .ok (.putfield 18, 3) := by decide +kernel
theorem dX5_init_28 : decode cX5_init 28 = .ok (.aload_n 0, 1) := by decide +kernel
theorem dX5_init_29 : decode cX5_init 29 = .ok (.bipush 6, 2) := by decide +kernel
theorem dX5_init_31 : decode cX5_init 31 = .ok (.newarray .int, 2) := by decide +kernel
theorem dX5_init_33 : decode cX5_init 33 = .ok (.putfield 21, 3) := by decide +kernel
theorem dX5_init_36 : decode cX5_init 36 = .ok (.aload_n 0, 1) := by decide +kernel
theorem dX5_init_37 : decode cX5_init 37 = .ok (.bipush 6, 2) := by decide +kernel
theorem dX5_init_39 : decode cX5_init 39 = .ok (.newarray .int, 2) := by decide +kernel
theorem dX5_init_41 : decode cX5_init 41 = .ok (.putfield 24, 3) := by decide +kernel
theorem dX5_init_44 : decode cX5_init 44 = .ok (.aload_n 0, 1) := by decide +kernel
theorem dX5_init_45 : decode cX5_init 45 = .ok (.iconst 0, 1) := by decide +kernel
theorem dX5_init_46 : decode cX5_init 46 = .ok (.putfield 27, 3) := by decide +kernel
theorem dX5_init_49 : decode cX5_init 49 = .ok (.aload_n 0, 1) := by decide +kernel
theorem dX5_init_50 : decode cX5_init 50 = .ok (.new 31, 3) := by decide +kernel
theorem dX5_init_53 : decode cX5_init 53 = .ok (.dup, 1) := by decide +kernel
theorem dX5_init_54 : decode cX5_init 54 = .ok (.invokespecial 33, 3) := by decide +kernel
theorem dX5_init_57 : decode cX5_init 57 = .ok (.putfield 34, 3) := by decide +kernel
theorem dX5_init_60 : decode cX5_init 60 = .ok (.aload_n 0, 1) := by decide +kernel
theorem dX5_init_61 : decode cX5_init 61 = .ok (.new 31, 3) := by decide +kernel
theorem dX5_init_64 : decode cX5_init 64 = .ok (.dup, 1) := by decide +kernel
theorem dX5_init_65 : decode cX5_init 65 = .ok (.invokespecial 33, 3) := by decide +kernel
theorem dX5_init_68 : decode cX5_init 68 = .ok (.putfield 38, 3) := by decide +kernel
theorem dX5_init_71 : decode cX5_init 71 = .ok (.return_, 1) := by decide +kernel
theorem dX5_load_0 : decode cX5_load 0 = .ok (.aload_n 0, 1) := by decide +kernel
theorem dX5_load_1 : decode cX5_load 1 = .ok (.getfield 38, 3) := by decide +kernel
theorem dX5_load_4 : decode cX5_load 4 = .ok (.iload_n 1, 1) := by decide +kernel
theorem dX5_load_5 : decode cX5_load 5 = .ok (.iload_n 2, 1) := by decide +kernel
theorem dX5_load_6 : decode cX5_load 6 = .ok (.iload_n 3, 1) := by decide +kernel
theorem dX5_load_7 : decode cX5_load 7 = .ok (.invokevirtual 41, 3) := by decide +kernel
theorem dX5_load_10 : decode cX5_load 10 = .ok (.aload_n 0, 1) := by decide +kernel
theorem dX5_load_11 : decode cX5_load 11 = .ok (.getfield 18, 3) := by decide +kernel
theorem dX5_load_14 : decode cX5_load 14 = .ok (.iload_n 1, 1) := by decide +kernel
theorem dX5_load_15 : decode cX5_load 15 = .ok (.dup2, 1) := by decide +kernel
theorem dX5_load_16 : decode cX5_load 16 = .ok (.iaload, 1) := by decide +kernel
theorem dX5_load_17 : decode cX5_load 17 = .ok (.iconst 1, 1) := by decide +kernel
theorem dX5_load_18 : decode cX5_load 18 = .ok (.iadd, 1) := by decide +kernel
theorem dX5_load_19 : decode cX5_load 19 = .ok (.iastore, 1) := by decide +kernel
theorem dX5_load_20 : decode cX5_load 20 = .ok (.aload_n 0, 1) := by decide +kernel
theorem dX5_load_21 : decode cX5_load 21 = .ok (.getfield 18, 3) := by decide +kernel
theorem dX5_load_24 : decode cX5_load 24 = .ok (.iload_n 1, 1) := by decide +kernel
theorem dX5_load_25 : decode cX5_load 25 = .ok (.iaload, 1) := by decide +kernel
theorem dX5_load_26 : decode cX5_load 26 = .ok (.ireturn, 1) := by decide +kernel
theorem dX5_bringIn_0 : decode cX5_bringIn 0 = .ok (.aload_n 0, 1) := by decide +kernel
theorem dX5_bringIn_1 : decode cX5_bringIn 1 = .ok (.getfield 34, 3) := by decide +kernel
theorem dX5_bringIn_4 : decode cX5_bringIn 4 = .ok (.aload_n 0, 1) := by decide +kernel
theorem dX5_bringIn_5 : decode cX5_bringIn 5 = .ok (.getfield 38, 3) := by decide +kernel
theorem dX5_bringIn_8 : decode cX5_bringIn 8 = .ok (.iload_n 1, 1) := by decide +kernel
theorem dX5_bringIn_9 : decode cX5_bringIn 9 = .ok (.invokevirtual 45, 3) := by decide +kernel
theorem dX5_bringIn_12 : decode cX5_bringIn 12 = .ok (.aload_n 0, 1) := by decide +kernel
theorem dX5_bringIn_13 : decode cX5_bringIn 13 = .ok (.getfield 15, 3) := by decide +kernel
theorem dX5_bringIn_16 : decode cX5_bringIn 16 = .ok (.iload_n 1, 1) := by decide +kernel
theorem dX5_bringIn_17 : decode cX5_bringIn 17 = .ok (.aload_n 0, 1) := by decide +kernel
theorem dX5_bringIn_18 : decode cX5_bringIn 18 = .ok (.getfield 18, 3) := by decide +kernel
theorem dX5_bringIn_21 : decode cX5_bringIn 21 = .ok (.iload_n 1, 1) := by decide +kernel
theorem dX5_bringIn_22 : decode cX5_bringIn 22 = .ok (.iaload, 1) := by decide +kernel
theorem dX5_bringIn_23 : decode cX5_bringIn 23 = .ok (.iastore, 1) := by decide +kernel
theorem dX5_bringIn_24 : decode cX5_bringIn 24 = .ok (.aload_n 0, 1) := by decide +kernel
theorem dX5_bringIn_25 : decode cX5_bringIn 25 = .ok (.getfield 18, 3) := by decide +kernel
theorem dX5_bringIn_28 : decode cX5_bringIn 28 = .ok (.iload_n 1, 1) := by decide +kernel
theorem dX5_bringIn_29 : decode cX5_bringIn 29 = .ok (.iconst 0, 1) := by decide +kernel
theorem dX5_bringIn_30 : decode cX5_bringIn 30 = .ok (.iastore, 1) := by decide +kernel
theorem dX5_bringIn_31 : decode cX5_bringIn 31 = .ok (.aload_n 0, 1) := by decide +kernel
theorem dX5_bringIn_32 : decode cX5_bringIn 32 = .ok (.dup, 1) := by decide +kernel
theorem dX5_bringIn_33 : decode cX5_bringIn 33 = .ok (.getfield 27, 3) := by decide +kernel
theorem dX5_bringIn_36 : decode cX5_bringIn 36 = .ok (.iconst 1, 1) := by decide +kernel
theorem dX5_bringIn_37 : decode cX5_bringIn 37 = .ok (.iload_n 1, 1) := by decide +kernel
theorem dX5_bringIn_38 : decode cX5_bringIn 38 = .ok (.ishl, 1) := by decide +kernel
theorem dX5_bringIn_39 : decode cX5_bringIn 39 = .ok (.ior, 1) := by decide +kernel
theorem dX5_bringIn_40 : decode cX5_bringIn 40 = .ok (.putfield 27, 3) := by decide +kernel
theorem dX5_bringIn_43 : decode cX5_bringIn 43 = .ok (.aload_n 0, 1) := by decide +kernel
theorem dX5_bringIn_44 : decode cX5_bringIn 44 = .ok (.getfield 9, 3) := by decide +kernel
theorem dX5_bringIn_47 : decode cX5_bringIn 47 = .ok (.iload_n 1, 1) := by decide +kernel
theorem dX5_bringIn_48 : decode cX5_bringIn 48 = .ok (.dup2, 1) := by decide +kernel
theorem dX5_bringIn_49 : decode cX5_bringIn 49 = .ok (.iaload, 1) := by decide +kernel
theorem dX5_bringIn_50 : decode cX5_bringIn 50 = .ok (.iconst 1, 1) := by decide +kernel
theorem dX5_bringIn_51 : decode cX5_bringIn 51 = .ok (.iadd, 1) := by decide +kernel
theorem dX5_bringIn_52 : decode cX5_bringIn 52 = .ok (.iastore, 1) := by decide +kernel
theorem dX5_bringIn_53 : decode cX5_bringIn 53 = .ok (.aload_n 0, 1) := by decide +kernel
theorem dX5_bringIn_54 : decode cX5_bringIn 54 = .ok (.getfield 9, 3) := by decide +kernel
theorem dX5_bringIn_57 : decode cX5_bringIn 57 = .ok (.iload_n 1, 1) := by decide +kernel
theorem dX5_bringIn_58 : decode cX5_bringIn 58 = .ok (.iaload, 1) := by decide +kernel
theorem dX5_bringIn_59 : decode cX5_bringIn 59 = .ok (.ireturn, 1) := by decide +kernel
theorem dX6_init_0 : decode cX6_init 0 = .ok (.aload_n 0, 1) := by decide +kernel
theorem dX6_init_1 : decode cX6_init 1 = .ok (.invokespecial 3, 3) := by decide +kernel
theorem dX6_init_4 : decode cX6_init 4 = .ok (.aload_n 0, 1) := by decide +kernel
theorem dX6_init_5 : decode cX6_init 5 = .ok (.sipush 2000, 3) := by decide +kernel
theorem dX6_init_8 : decode cX6_init 8 = .ok (.newarray .byte, 2) := by decide +kernel
theorem dX6_init_10 : decode cX6_init 10 = .ok (.putfield 9, 3) := by decide +kernel
theorem dX6_init_13 : decode cX6_init 13 = .ok (.aload_n 0, 1) := by decide +kernel
theorem dX6_init_14 : decode cX6_init 14 = .ok (.iconst 0, 1) := by decide +kernel
theorem dX6_init_15 : decode cX6_init 15 = .ok (.putfield 15, 3) := by decide +kernel
theorem dX6_init_18 : decode cX6_init 18 = .ok (.return_, 1) := by decide +kernel
theorem dX6_addWord_0 : decode cX6_addWord 0 = .ok (.bipush 24, 2) := by decide +kernel
theorem dX6_addWord_2 : decode cX6_addWord 2 = .ok (.istore_n 2, 1) := by decide +kernel
theorem dX6_addWord_3 : decode cX6_addWord 3 = .ok (.iload_n 2, 1) := by decide +kernel
theorem dX6_addWord_4 : decode cX6_addWord 4 = .ok (.ifCond .lt 42, 3) := by decide +kernel
theorem dX6_addWord_7 : decode cX6_addWord 7 = .ok (.aload_n 0, 1) := by decide +kernel
theorem dX6_addWord_8 : decode cX6_addWord 8 = .ok (.getfield 15, 3) := by decide +kernel
theorem dX6_addWord_11 : decode cX6_addWord 11 = .ok (.sipush 2000, 3) := by decide +kernel
theorem dX6_addWord_14 : decode cX6_addWord 14 = .ok (.if_icmp .ge 26, 3) := by decide +kernel
theorem dX6_addWord_17 : decode cX6_addWord 17 = .ok (.aload_n 0, 1) := by decide +kernel
theorem dX6_addWord_18 : decode cX6_addWord 18 = .ok (.getfield 9, 3) := by decide +kernel
theorem dX6_addWord_21 : decode cX6_addWord 21 = .ok (.aload_n 0, 1) := by decide +kernel
theorem dX6_addWord_22 : decode cX6_addWord 22 = .ok (.getfield 15, 3) := by decide +kernel
theorem dX6_addWord_25 : decode cX6_addWord 25 = .ok (.iload_n 1, 1) := by decide +kernel
theorem dX6_addWord_26 : decode cX6_addWord 26 = .ok (.iload_n 2, 1) := by decide +kernel
theorem dX6_addWord_27 : decode cX6_addWord 27 = .ok (.ishr, 1) := by decide +kernel
theorem dX6_addWord_28 : decode cX6_addWord 28 = .ok (.i2b, 1) := by decide +kernel
theorem dX6_addWord_29 : decode cX6_addWord 29 = .ok (.bastore, 1) := by decide +kernel
theorem dX6_addWord_30 : decode cX6_addWord 30 = .ok (.aload_n 0, 1) := by decide +kernel
theorem dX6_addWord_31 : decode cX6_addWord 31 = .ok (.dup, 1) := by decide +kernel
theorem dX6_addWord_32 : decode cX6_addWord 32 = .ok (.getfield 15, 3) := by decide +kernel
theorem dX6_addWord_35 : decode cX6_addWord 35 = .ok (.iconst 1, 1) := by decide +kernel
theorem dX6_addWord_36 : decode cX6_addWord 36 = .ok (.iadd, 1) := by decide +kernel
theorem dX6_addWord_37 : decode cX6_addWord 37 = .ok (.putfield 15, 3) := by decide +kernel
theorem dX6_addWord_40 : decode cX6_addWord 40 = .ok (.iinc 2 (-8), 3) := by decide +kernel
theorem dX6_addWord_43 : decode cX6_addWord 43 = .ok (.goto (-40), 3) := by decide +kernel
theorem dX6_addWord_46 : decode cX6_addWord 46 = .ok (.return_, 1) := by decide +kernel
theorem dX6_byteAt_0 : decode cX6_byteAt 0 = .ok (.iload_n 1, 1) := by decide +kernel
theorem dX6_byteAt_1 : decode cX6_byteAt 1 = .ok (.aload_n 0, 1) := by decide +kernel
theorem dX6_byteAt_2 : decode cX6_byteAt 2 = .ok (.getfield 15, 3) := by decide +kernel
theorem dX6_byteAt_5 : decode cX6_byteAt 5 = .ok (.invokestatic 19, 3) := by decide +kernel
theorem dX6_byteAt_8 : decode cX6_byteAt 8 = .ok (.ifCond .eq 23, 3) := by decide +kernel
theorem dX6_byteAt_11 : decode cX6_byteAt 11 = .ok (.iload_n 1, 1) := by decide +kernel
theorem dX6_byteAt_12 : decode cX6_byteAt 12 = .ok (.sipush 2000, 3) := by decide +kernel
theorem dX6_byteAt_15 : decode cX6_byteAt 15 = .ok (.if_icmp .ge 16, 3) := by decide +kernel
theorem dX6_byteAt_18 : decode cX6_byteAt 18 = .ok (.aload_n 0, 1) := by decide +kernel
theorem dX6_byteAt_19 : decode cX6_byteAt 19 = .ok (.getfield 9, 3) := by decide +kernel
theorem dX6_byteAt_22 : decode cX6_byteAt 22 = .ok (.iload_n 1, 1) := by decide +kernel
theorem dX6_byteAt_23 : decode cX6_byteAt 23 = .ok (.baload, 1) := by decide +kernel
theorem dX6_byteAt_24 : decode cX6_byteAt 24 = .ok (.sipush 255, 3) := by decide +kernel
theorem dX6_byteAt_27 : decode cX6_byteAt 27 = .ok (.iand, 1) := by decide +kernel
theorem dX6_byteAt_28 : decode cX6_byteAt 28 = .ok (.goto 4, 3) := by decide +kernel
theorem dX6_byteAt_31 : decode cX6_byteAt 31 = .ok (.iconst (-1), 1) := by decide +kernel
theorem dX6_byteAt_32 : decode cX6_byteAt 32 = .ok (.ireturn, 1) := by decide +kernel
theorem dX7_init_0 : decode cX7_init 0 = .ok (.aload_n 0, 1) := by decide +kernel
theorem dX7_init_1 : decode cX7_init 1 = .ok (.invokespecial 3, 3) := by decide +kernel
theorem dX7_init_4 : decode cX7_init 4 = .ok (.aload_n 0, 1) := by decide +kernel
theorem dX7_init_5 : decode cX7_init 5 = .ok (.sipush 401, 3) := by decide +kernel
theorem dX7_init_8 : decode cX7_init 8 = .ok (.newarray .int, 2) := by decide +kernel
theorem dX7_init_10 : decode cX7_init 10 = .ok (.putfield 9, 3) := by decide +kernel
theorem dX7_init_13 : decode cX7_init 13 = .ok (.aload_n 0, 1) := by decide +kernel
theorem dX7_init_14 : decode cX7_init 14 = .ok (.sipush 401, 3) := by decide +kernel
theorem dX7_init_17 : decode cX7_init 17 = .ok (.newarray .int, 2) := by decide +kernel
theorem dX7_init_19 : decode cX7_init 19 = .ok (.putfield 15, 3) := by decide +kernel
theorem dX7_init_22 : decode cX7_init 22 = .ok (.aload_n 0, 1) := by decide +kernel
theorem dX7_init_23 : decode cX7_init 23 = .ok (.sipush 401, 3) := by decide +kernel
theorem dX7_init_26 : decode cX7_init 26 = .ok (.newarray .long, 2) := by decide +kernel
theorem dX7_init_28 : decode cX7_init 28 = .ok (.putfield 18, 3) := by decide +kernel
theorem dX7_init_31 : decode cX7_init 31 = .ok (.aload_n 0, 1) := by decide +kernel
theorem dX7_init_32 : decode cX7_init 32 = .ok (.aload_n 1, 1) := by decide +kernel
theorem dX7_init_33 : decode cX7_init 33 = .ok (.putfield 22, 3) := by decide +kernel
theorem dX7_init_36 : decode cX7_init 36 = .ok (.return_, 1) := by decide +kernel
theorem dX7_scanTape_0 : decode cX7_scanTape 0 = .ok (.aload_n 0, 1) := by decide +kernel
theorem dX7_scanTape_1 : decode cX7_scanTape 1 = .ok (.iconst 0, 1) := by decide +kernel
theorem dX7_scanTape_2 : decode cX7_scanTape 2 = .ok (.putfield 26, 3) := by decide +kernel
theorem dX7_scanTape_5 : decode cX7_scanTape 5 = .ok (.iconst 1, 1) := by decide +kernel
theorem dX7_scanTape_6 : decode cX7_scanTape 6 = .ok (.istore_n 1, 1) := by decide +kernel
theorem dX7_scanTape_7 : decode cX7_scanTape 7 = .ok (.iconst 0, 1) := by decide +kernel
theorem dX7_scanTape_8 : decode cX7_scanTape 8 = .ok (.istore_n 2, 1) := by decide +kernel
theorem dX7_scanTape_9 : decode cX7_scanTape 9 = .ok (.iload_n 2, 1) := by decide +kernel
theorem dX7_scanTape_10 : decode cX7_scanTape 10 = .ok (.sipush 400, 3) := by decide +kernel
theorem dX7_scanTape_13 : decode cX7_scanTape 13 = .ok (.if_icmp .gt 77, 3) := by decide +kernel
theorem dX7_scanTape_16 : decode cX7_scanTape 16 = .ok (.iload_n 1, 1) := by decide +kernel
theorem dX7_scanTape_17 : decode cX7_scanTape 17 = .ok (.ifCond .eq 73, 3) := by decide +kernel
theorem dX7_scanTape_20 : decode cX7_scanTape 20 = .ok (.aload_n 0, 1) := by decide +kernel
theorem dX7_scanTape_21 : decode cX7_scanTape 21 = .ok (.invokevirtual 30, 3) := by decide +kernel
theorem dX7_scanTape_24 : decode cX7_scanTape 24 = .ok (.aload_n 0, 1) := by decide +kernel
theorem dX7_scanTape_25 : decode cX7_scanTape 25 = .ok (.getfield 15, 3) := by decide +kernel
theorem dX7_scanTape_28 : decode cX7_scanTape 28 = .ok (.iload_n 2, 1) := by decide +kernel
theorem dX7_scanTape_29 : decode cX7_scanTape 29 = .ok (.aload_n 0, 1) := by decide +kernel
theorem dX7_scanTape_30 : decode cX7_scanTape 30 = .ok (.getfield 26, 3) := by decide +kernel
theorem dX7_scanTape_33 : decode cX7_scanTape 33 = .ok (.iastore, 1) := by decide +kernel
theorem dX7_scanTape_34 : decode cX7_scanTape 34 = .ok (.aload_n 0, 1) := by decide +kernel
theorem dX7_scanTape_35 : decode cX7_scanTape 35 = .ok (.getfield 9, 3) := by decide +kernel
theorem dX7_scanTape_38 : decode cX7_scanTape 38 = .ok (.iload_n 2, 1) := by decide +kernel
theorem dX7_scanTape_39 : decode cX7_scanTape 39 = .ok (.aload_n 0, 1) := by decide +kernel
theorem dX7_scanTape_40 : decode cX7_scanTape 40 = .ok (.invokevirtual 33, 3) := by decide +kernel
theorem dX7_scanTape_43 : decode cX7_scanTape 43 = .ok (.iastore, 1) := by decide +kernel
theorem dX7_scanTape_44 : decode cX7_scanTape 44 = .ok (.aload_n 0, 1) := by decide +kernel
theorem dX7_scanTape_45 : decode cX7_scanTape 45 = .ok (.getfield 18, 3) := by decide +kernel
theorem dX7_scanTape_48 : decode cX7_scanTape 48 = .ok (.iload_n 2, 1) := by decide +kernel
theorem dX7_scanTape_49 : decode cX7_scanTape 49 = .ok (.aload_n 0, 1) := by decide +kernel
theorem dX7_scanTape_50 : decode cX7_scanTape 50 = .ok (.getfield 37, 3) := by decide +kernel
theorem dX7_scanTape_53 : decode cX7_scanTape 53 = .ok (.lastore, 1) := by decide +kernel
theorem dX7_scanTape_54 : decode cX7_scanTape 54 = .ok (.aload_n 0, 1) := by decide +kernel
theorem dX7_scanTape_55 : decode cX7_scanTape 55 = .ok (.getfield 9, 3) := by decide +kernel
theorem dX7_scanTape_58 : decode cX7_scanTape 58 = .ok (.iload_n 2, 1) := by decide +kernel
theorem dX7_scanTape_59 : decode cX7_scanTape 59 = .ok (.iaload, 1) := by decide +kernel
theorem dX7_scanTape_60 : decode cX7_scanTape 60 = .ok (.sipush 258, 3) := by decide +kernel
theorem dX7_scanTape_63 : decode cX7_scanTape 63 = .ok (.if_icmp .eq 19, 3) := by decide +kernel
theorem dX7_scanTape_66 : decode cX7_scanTape 66 = .ok (.aload_n 0, 1) := by decide +kernel
theorem dX7_scanTape_67 : decode cX7_scanTape 67 = .ok (.getfield 9, 3) := by decide +kernel
theorem dX7_scanTape_70 : decode cX7_scanTape 70 = .ok (.iload_n 2, 1) := by decide +kernel
theorem dX7_scanTape_71 : decode cX7_scanTape 71 = .ok (.iaload, 1) := by decide +kernel
theorem dX7_scanTape_72 : decode cX7_scanTape 72 = .ok (.sipush 259, 3) := by decide +kernel
theorem dX7_scanTape_75 : decode cX7_scanTape 75 = .ok (.if_icmp .eq 7, 3) := by decide +kernel
theorem dX7_scanTape_78 : decode cX7_scanTape 78 = .ok (.iconst 1, 1) := by decide +kernel
theorem dX7_scanTape_79 : decode cX7_scanTape 79 = .ok (.goto 4, 3) := by decide +kernel
theorem dX7_scanTape_82 : decode cX7_scanTape 82 = .ok (.iconst 0, 1) := by decide +kernel
theorem dX7_scanTape_83 : decode cX7_scanTape 83 = .ok (.istore_n 1, 1) := by decide +kernel
