theorem dX0_init_0 : decode cX0_init 0 = .ok (.aload_n 0, 1) := by decide +kernel
theorem dX0_init_1 : decode cX0_init 1 = .ok (.invokespecial 3, 3) := by decide +kernel
theorem dX0_init_4 : decode cX0_init 4 = .ok (.aload_n 0, 1) := by decide +kernel
theorem dX0_init_5 : decode cX0_init 5 = .ok (.bipush 8, 2) := by decide +kernel
theorem dX0_init_7 : decode cX0_init 7 = .ok (.newarray .int, 2) := by decide +kernel
theorem dX0_init_9 : decode cX0_init 9 = .ok (.putfield 9, 3) := by decide +kernel
theorem dX0_init_12 : decode cX0_init 12 = .ok (.aload_n 0, 1) := by decide +kernel
theorem dX0_init_13 : decode cX0_init 13 = .ok (.bipush 8, 2) := by decide +kernel
theorem dX0_init_15 : decode cX0_init 15 = .ok (.newarray .int, 2) := by decide +kernel
theorem dX0_init_17 : decode cX0_init 17 = .ok (.putfield 15, 3) := by decide +kernel
theorem dX0_init_20 : decode cX0_init 20 = .ok (.return_, 1) := by decide +kernel
theorem dX0_addCorner_0 : decode cX0_addCorner 0 = .ok (.aload_n 0, 1) := by decide +kernel
theorem dX0_addCorner_1 : decode cX0_addCorner 1 = .ok (.getfield 18, 3) := by decide +kernel
theorem dX0_addCorner_4 : decode cX0_addCorner 4 = .ok (.bipush 8, 2) := by decide +kernel
theorem dX0_addCorner_6 : decode cX0_addCorner 6 = .ok (.if_icmp .ge 26, 3) := by decide +kernel
theorem dX0_addCorner_9 : decode cX0_addCorner 9 = .ok (.iload_n 1, 1) := by decide +kernel
theorem dX0_addCorner_10 : decode cX0_addCorner 10 = .ok (.bipush 10, 2) := by decide +kernel
theorem dX0_addCorner_12 : decode cX0_addCorner 12 = .ok (.sipush 1000, 3) := by decide +kernel
theorem dX0_addCorner_15 : decode cX0_addCorner 15 = .ok (.invokestatic 22, 3) := by decide +kernel
theorem dX0_addCorner_18 : decode cX0_addCorner 18 = .ok (.ifCond .eq 14, 3) := by decide +kernel
theorem dX0_addCorner_21 : decode cX0_addCorner 21 = .ok (.iload_n 2, 1) := by decide +kernel
theorem dX0_addCorner_22 : decode cX0_addCorner 22 = .ok (.iconst 1, 1) := by decide +kernel
theorem dX0_addCorner_23 : decode cX0_addCorner 23 = .ok (.sipush 1000, 3) := by decide +kernel
theorem dX0_addCorner_26 : decode cX0_addCorner 26 = .ok (.invokestatic 22, 3) := by decide +kernel
theorem dX0_addCorner_29 : decode cX0_addCorner 29 = .ok (.ifCond .ne 5, 3) := by decide +kernel
theorem dX0_addCorner_32 : decode cX0_addCorner 32 = .ok (.iconst (-1), 1) := by decide +kernel
theorem dX0_addCorner_33 : decode cX0_addCorner 33 = .ok (.ireturn, 1) := by decide +kernel
theorem dX0_addCorner_34 : decode cX0_addCorner 34 = .ok (.aload_n 0, 1) := by decide +kernel
theorem dX0_addCorner_35 : decode cX0_addCorner 35 = .ok (.getfield 18, 3) := by decide +kernel
theorem dX0_addCorner_38 : decode cX0_addCorner 38 = .ok (.ifCond .le 35, 3) := by decide +kernel
theorem dX0_addCorner_41 : decode cX0_addCorner 41 = .ok (.iload_n 1, 1) := by decide +kernel
theorem dX0_addCorner_42 : decode cX0_addCorner 42 = .ok (.aload_n 0, 1) := by decide +kernel
theorem dX0_addCorner_43 : decode cX0_addCorner 43 = .ok (.getfield 9, 3) := by decide +kernel
theorem dX0_addCorner_46 : decode cX0_addCorner 46 = .ok (.aload_n 0, 1) := by decide +kernel
theorem dX0_addCorner_47 : decode cX0_addCorner 47 = .ok (.getfield 18, 3) := by decide +kernel
theorem dX0_addCorner_50 : decode cX0_addCorner 50 = .ok (.iconst 1, 1) := by decide +kernel
theorem dX0_addCorner_51 : decode cX0_addCorner 51 = .ok (.isub, 1) := by decide +kernel
theorem dX0_addCorner_52 : decode cX0_addCorner 52 = .ok (.iaload, 1) := by decide +kernel
theorem dX0_addCorner_53 : decode cX0_addCorner 53 = .ok (.if_icmp .le 18, 3) := by decide +kernel
theorem dX0_addCorner_56 : decode cX0_addCorner 56 = .ok (.iload_n 2, 1) := by decide +kernel
theorem dX0_addCorner_57 : decode cX0_addCorner 57 = .ok (.aload_n 0, 1) := by decide +kernel
theorem dX0_addCorner_58 : decode cX0_addCorner 58 = .ok (.getfield 15, 3) := by decide +kernel
theorem dX0_addCorner_61 : decode cX0_addCorner 61 = .ok (.aload_n 0, 1) := by decide +kernel
theorem dX0_addCorner_62 : decode cX0_addCorner 62 = .ok (.getfield 18, 3) := by decide +kernel
theorem dX0_addCorner_65 : decode cX0_addCorner 65 = .ok (.iconst 1, 1) := by decide +kernel
theorem dX0_addCorner_66 : decode cX0_addCorner 66 = .ok (.isub, 1) := by decide +kernel
theorem dX0_addCorner_67 : decode cX0_addCorner 67 = .ok (.iaload, 1) := by decide +kernel
theorem dX0_addCorner_68 : decode cX0_addCorner 68 = .ok (.if_icmp .lt 5, 3) := by decide +kernel
theorem dX0_addCorner_71 : decode cX0_addCorner 71 = .ok (.iconst (-1), 1) := by decide +kernel
theorem dX0_addCorner_72 : decode cX0_addCorner 72 = .ok (.ireturn, 1) := by decide +kernel
theorem dX0_addCorner_73 : decode cX0_addCorner 73 = .ok (.aload_n 0, 1) := by decide +kernel
theorem dX0_addCorner_74 : decode cX0_addCorner 74 = .ok (.getfield 9, 3) := by decide +kernel
theorem dX0_addCorner_77 : decode cX0_addCorner 77 = .ok (.aload_n 0, 1) := by decide +kernel
theorem dX0_addCorner_78 : decode cX0_addCorner 78 = .ok (.getfield 18, 3) := by decide +kernel
theorem dX0_addCorner_81 : decode cX0_addCorner 81 = .ok (.iload_n 1, 1) := by decide +kernel
theorem dX0_addCorner_82 : decode cX0_addCorner 82 = .ok (.iastore, 1) := by decide +kernel
theorem dX0_addCorner_83 : decode cX0_addCorner 83 = .ok (.aload_n 0, 1) := by decide +kernel
theorem dX0_addCorner_84 : decode cX0_addCorner 84 = .ok (.getfield 15, 3) := by decide +kernel
theorem dX0_addCorner_87 : decode cX0_addCorner 87 = .ok (.aload_n 0, 1) := by decide +kernel
theorem dX0_addCorner_88 : decode cX0_addCorner 88 = .ok (.getfield 18, 3) := by decide +kernel
theorem dX0_addCorner_91 : decode cX0_addCorner 91 = .ok (.iload_n 2, 1) := by decide +kernel
theorem dX0_addCorner_92 : decode cX0_addCorner 92 = .ok (.iastore, 1) := by decide +kernel
theorem dX0_addCorner_93 : decode cX0_addCorner 93 = .ok (.aload_n 0, 1) := by decide +kernel
theorem dX0_addCorner_94 : decode cX0_addCorner 94 = .ok (.dup, 1) := by decide +kernel
theorem dX0_addCorner_95 : decode cX0_addCorner 95 = .ok (.getfield 18, 3) := by decide +kernel
theorem dX0_addCorner_98 : decode cX0_addCorner 98 = .ok (.iconst 1, 1) := by decide +kernel
theorem dX0_addCorner_99 : decode cX0_addCorner 99 = .ok (.iadd, 1) := by decide +kernel
theorem dX0_addCorner_100 : decode cX0_addCorner 100 = .ok (.putfield 18, 3) := by decide +kernel
theorem dX0_addCorner_103 : decode cX0_addCorner 103 = .ok (.aload_n 0, 1) := by decide +kernel
theorem dX0_addCorner_104 : decode cX0_addCorner 104 = .ok (.getfield 18, 3) := by decide +kernel
theorem dX0_addCorner_107 : decode cX0_addCorner 107 = .ok (.ireturn, 1) := by decide +kernel
theorem dX0_cornerReached_0 : decode cX0_cornerReached 0 = .ok (.aload_n 0, 1) := by decide +kernel
theorem dX0_cornerReached_1 : decode cX0_cornerReached 1 = .ok (.getfield 18, 3) := by decide +kernel
theorem dX0_cornerReached_4 : decode cX0_cornerReached 4 = .ok (.iconst 1, 1) := by decide +kernel
theorem dX0_cornerReached_5 : decode cX0_cornerReached 5 = .ok (.isub, 1) := by decide +kernel
theorem dX0_cornerReached_6 : decode cX0_cornerReached 6 = .ok (.istore 6, 2) := by decide +kernel
theorem dX0_cornerReached_8 : decode cX0_cornerReached 8 = .ok (.iload 6, 2) := by decide +kernel
theorem dX0_cornerReached_10 : decode cX0_cornerReached 10 = .ok (.ifCond .lt 35, 3) := by decide +kernel
theorem dX0_cornerReached_13 : decode cX0_cornerReached 13 = .ok (.ldc2_w 26, 3) := by decide +kernel
theorem dX0_cornerReached_16 : decode cX0_cornerReached 16 = .ok (.lload_n 2, 1) := by decide +kernel
theorem dX0_cornerReached_17 : decode cX0_cornerReached 17 = .ok (.lmul, 1) := by decide +kernel
theorem dX0_cornerReached_18 : decode cX0_cornerReached 18 = .ok (.iload_n 1, 1) := by decide +kernel
theorem dX0_cornerReached_19 : decode cX0_cornerReached 19 = .ok (.i2l, 1) := by decide +kernel
theorem dX0_cornerReached_20 : decode cX0_cornerReached 20 = .ok (.aload_n 0, 1) := by decide +kernel
theorem dX0_cornerReached_21 : decode cX0_cornerReached 21 = .ok (.getfield 9, 3) := by decide +kernel
theorem dX0_cornerReached_24 : decode cX0_cornerReached 24 = .ok (.iload 6, 2) := by decide +kernel
theorem dX0_cornerReached_26 : decode cX0_cornerReached 26 = .ok (.iaload, 1) := by decide +kernel
theorem dX0_cornerReached_27 : decode cX0_cornerReached 27 = .ok (.i2l, 1) := by decide +kernel
theorem dX0_cornerReached_28 : decode cX0_cornerReached 28 = .ok (.lmul, 1) := by decide +kernel
theorem dX0_cornerReached_29 : decode cX0_cornerReached 29 = .ok (.lload 4, 2) := by decide +kernel
theorem dX0_cornerReached_31 : decode cX0_cornerReached 31 = .ok (.lmul, 1) := by decide +kernel
theorem dX0_cornerReached_32 : decode cX0_cornerReached 32 = .ok (.lcmp, 1) := by decide +kernel
theorem dX0_cornerReached_33 : decode cX0_cornerReached 33 = .ok (.ifCond .lt 6, 3) := by decide +kernel
theorem dX0_cornerReached_36 : decode cX0_cornerReached 36 = .ok (.iload 6, 2) := by decide +kernel
theorem dX0_cornerReached_38 : decode cX0_cornerReached 38 = .ok (.ireturn, 1) := by decide +kernel
theorem dX0_cornerReached_39 : decode cX0_cornerReached 39 = .ok (.iinc 6 (-1), 3) := by decide +kernel
theorem dX0_cornerReached_42 : decode cX0_cornerReached 42 = .ok (.goto (-34), 3) := by decide +kernel
theorem dX0_cornerReached_45 : decode cX0_cornerReached 45 = .ok (.iconst (-1), 1) := by decide +kernel
theorem dX0_cornerReached_46 : decode cX0_cornerReached 46 = .ok (.ireturn, 1) := by decide +kernel
theorem dX1_init_0 : decode cX1_init 0 = .ok (.aload_n 0, 1) := by decide +kernel
theorem dX1_init_1 : decode cX1_init 1 = .ok (.invokespecial 3, 3) := by decide +kernel
theorem dX1_init_4 : decode cX1_init 4 = .ok (.aload_n 0, 1) := by decide +kernel
theorem dX1_init_5 : decode cX1_init 5 = .ok (.sipush 3480, 3) := by decide +kernel
theorem dX1_init_8 : decode cX1_init 8 = .ok (.newarray .int, 2) := by decide +kernel
theorem dX1_init_10 : decode cX1_init 10 = .ok (.putfield 9, 3) := by decide +kernel
theorem dX1_init_13 : decode cX1_init 13 = .ok (.aload_n 0, 1) := by decide +kernel
theorem dX1_init_14 : decode cX1_init 14 = .ok (.bipush 30, 2) := by decide +kernel
theorem dX1_init_16 : decode cX1_init 16 = .ok (.newarray .int, 2) := by decide +kernel
theorem dX1_init_18 : decode cX1_init 18 = .ok (.putfield 15, 3) := by decide +kernel
theorem dX1_init_21 : decode cX1_init 21 = .ok (.aload_n 0, 1) := by decide +kernel
theorem dX1_init_22 : decode cX1_init 22 = .ok (.aload_n 1, 1) := by decide +kernel
theorem dX1_init_23 : decode cX1_init 23 = .ok (.putfield 18, 3) := by decide +kernel
theorem dX1_init_26 : decode cX1_init 26 = .ok (.aload_n 0, 1) := by decide +kernel
theorem dX1_init_27 : decode cX1_init 27 = .ok (.aload_n 2, 1) := by decide +kernel
theorem dX1_init_28 : decode cX1_init 28 = .ok (.putfield 22, 3) := by decide +kernel
theorem dX1_init_31 : decode cX1_init 31 = .ok (.aload_n 0, 1) := by decide +kernel
theorem dX1_init_32 : decode cX1_init 32 = .ok (.aload_n 3, 1) := by decide +kernel
theorem dX1_init_33 : decode cX1_init 33 = .ok (.putfield 26, 3) := by decide +kernel
theorem dX1_init_36 : decode cX1_init 36 = .ok (.return_, 1) := by decide +kernel
theorem dX1_gather_0 : decode cX1_gather 0 = .ok (.iconst 0, 1) := by decide +kernel
theorem dX1_gather_1 : decode cX1_gather 1 = .ok (.istore_n 1, 1) := by decide +kernel
theorem dX1_gather_2 : decode cX1_gather 2 = .ok (.iload_n 1, 1) := by decide +kernel
theorem dX1_gather_3 : decode cX1_gather 3 = .ok (.aload_n 0, 1) := by decide +kernel
theorem dX1_gather_4 : decode cX1_gather 4 = .ok (.getfield 9, 3) := by decide +kernel
theorem dX1_gather_7 : decode cX1_gather 7 = .ok (.arraylength, 1) := by decide +kernel
theorem dX1_gather_8 : decode cX1_gather 8 = .ok (.if_icmp .ge 16, 3) := by decide +kernel
theorem dX1_gather_11 : decode cX1_gather 11 = .ok (.aload_n 0, 1) := by decide +kernel
theorem dX1_gather_12 : decode cX1_gather 12 = .ok (.getfield 9, 3) := by decide +kernel
theorem dX1_gather_15 : decode cX1_gather 15 = .ok (.iload_n 1, 1) := by decide +kernel
theorem dX1_gather_16 : decode cX1_gather 16 = .ok (.iconst 0, 1) := by decide +kernel
theorem dX1_gather_17 : decode cX1_gather 17 = .ok (.iastore, 1) := by decide +kernel
theorem dX1_gather_18 : decode cX1_gather 18 = .ok (.iinc 1 1, 3) := by decide +kernel
theorem dX1_gather_21 : decode cX1_gather 21 = .ok (.goto (-19), 3) := by decide +kernel
theorem dX1_gather_24 : decode cX1_gather 24 = .ok (.iconst 0, 1) := by decide +kernel
theorem dX1_gather_25 : decode cX1_gather 25 = .ok (.istore_n 1, 1) := by decide +kernel
theorem dX1_gather_26 : decode cX1_gather 26 = .ok (.iload_n 1, 1) := by decide +kernel
theorem dX1_gather_27 : decode cX1_gather 27 = .ok (.bipush 30, 2) := by decide +kernel
theorem dX1_gather_29 : decode cX1_gather 29 = .ok (.if_icmp .ge 16, 3) := by decide +kernel
theorem dX1_gather_32 : decode cX1_gather 32 = .ok (.aload_n 0, 1) := by decide +kernel
theorem dX1_gather_33 : decode cX1_gather 33 = .ok (.getfield 15, 3) := by decide +kernel
theorem dX1_gather_36 : decode cX1_gather 36 = .ok (.iload_n 1, 1) := by decide +kernel
theorem dX1_gather_37 : decode cX1_gather 37 = .ok (.iconst 0, 1) := by decide +kernel
theorem dX1_gather_38 : decode cX1_gather 38 = .ok (.iastore, 1) := by decide +kernel
theorem dX1_gather_39 : decode cX1_gather 39 = .ok (.iinc 1 1, 3) := by decide +kernel
theorem dX1_gather_42 : decode cX1_gather 42 = .ok (.goto (-16), 3) := by decide +kernel
theorem dX1_gather_45 : decode cX1_gather 45 = .ok (.iconst 1, 1) := by decide +kernel
theorem dX1_gather_46 : decode cX1_gather 46 = .ok (.istore_n 1, 1) := by decide +kernel
theorem dX1_gather_47 : decode cX1_gather 47 = .ok (.iload_n 1, 1) := by decide +kernel
theorem dX1_gather_48 : decode cX1_gather 48 = .ok (.aload_n 0, 1) := by decide +kernel
theorem dX1_gather_49 : decode cX1_gather 49 = .ok (.getfield 18, 3) := by decide +kernel
theorem dX1_gather_52 : decode cX1_gather 52 = .ok (.getfield 30, 3) := by decide +kernel
theorem dX1_gather_55 : decode cX1_gather 55 = .ok (.if_icmp .ge 64, 3) := by decide +kernel
theorem dX1_gather_58 : decode cX1_gather 58 = .ok (.iconst 0, 1) := by decide +kernel
theorem dX1_gather_59 : decode cX1_gather 59 = .ok (.istore_n 2, 1) := by decide +kernel
theorem dX1_gather_60 : decode cX1_gather 60 = .ok (.iload_n 2, 1) := by decide +kernel
theorem dX1_gather_61 : decode cX1_gather 61 = .ok (.bipush 16, 2) := by decide +kernel
theorem dX1_gather_63 : decode cX1_gather 63 = .ok (.if_icmp .gt 50, 3) := by decide +kernel
theorem dX1_gather_66 : decode cX1_gather 66 = .ok (.iconst 0, 1) := by decide +kernel
theorem dX1_gather_67 : decode cX1_gather 67 = .ok (.istore_n 3, 1) := by decide +kernel
theorem dX1_gather_68 : decode cX1_gather 68 = .ok (.iload_n 3, 1) := by decide +kernel
theorem dX1_gather_69 : decode cX1_gather 69 = .ok (.aload_n 0, 1) := by decide +kernel
theorem dX1_gather_70 : decode cX1_gather 70 = .ok (.getfield 26, 3) := by decide +kernel
theorem dX1_gather_73 : decode cX1_gather 73 = .ok (.invokevirtual 36, 3) := by decide +kernel
theorem dX1_gather_76 : decode cX1_gather 76 = .ok (.if_icmp .ge 31, 3) := by decide +kernel
theorem dX1_gather_79 : decode cX1_gather 79 = .ok (.aload_n 0, 1) := by decide +kernel
theorem dX1_gather_80 : decode cX1_gather 80 = .ok (.iload_n 1, 1) := by decide +kernel
theorem dX1_gather_81 : decode cX1_gather 81 = .ok (.aload_n 0, 1) := by decide +kernel
theorem dX1_gather_82 : decode cX1_gather 82 = .ok (.getfield 18, 3) := by decide +kernel
theorem dX1_gather_85 : decode cX1_gather 85 = .ok (.iload_n 1, 1) := by decide +kernel
theorem dX1_gather_86 : decode cX1_gather 86 = .ok (.iload_n 2, 1) := by decide +kernel
theorem dX1_gather_87 : decode cX1_gather 87 = .ok (.aload_n 0, 1) := by decide +kernel
theorem dX1_gather_88 : decode cX1_gather 88 = .ok (.getfield 26, 3) := by decide +kernel
theorem dX1_gather_91 : decode cX1_gather 91 = .ok (.iload_n 3, 1) := by decide +kernel
theorem dX1_gather_92 : decode cX1_gather 92 = .ok (.invokevirtual 42, 3) := by decide +kernel
theorem dX1_gather_95 : decode cX1_gather 95 = .ok (.invokevirtual 46, 3) := by decide +kernel
theorem dX1_gather_98 : decode cX1_gather 98 = .ok (.invokevirtual 50, 3) := by decide +kernel
theorem dX1_gather_101 : decode cX1_gather 101 = .ok (.iinc 3 1, 3) := by decide +kernel
theorem dX1_gather_104 : decode cX1_gather 104 = .ok (.goto (-36), 3) := by decide +kernel
theorem dX1_gather_107 : decode cX1_gather 107 = .ok (.iinc 2 1, 3) := by decide +kernel
theorem dX1_gather_110 : decode cX1_gather 110 = .ok (.goto (-50), 3) := by decide +kernel
theorem dX1_gather_113 : decode cX1_gather 113 = .ok (.iinc 1 1, 3) := by decide +kernel
theorem dX1_gather_116 : decode cX1_gather 116 = .ok (.goto (-69), 3) := by decide +kernel
theorem dX1_gather_119 : decode cX1_gather 119 = .ok (.return_, 1) := by decide +kernel
theorem dX1_gatherOf_0 : decode cX1_gatherOf 0 = .ok (.aload_n 0, 1) := by decide +kernel
theorem dX1_gatherOf_1 : decode cX1_gatherOf 1 = .ok (.getfield 18, 3) := by decide +kernel
theorem dX1_gatherOf_4 : decode cX1_gatherOf 4 = .ok (.getfield 54, 3) := by decide +kernel
theorem dX1_gatherOf_7 : decode cX1_gatherOf 7 = .ok (.iload_n 1, 1) := by decide +kernel
theorem dX1_gatherOf_8 : decode cX1_gatherOf 8 = .ok (.iaload, 1) := by decide +kernel
theorem dX1_gatherOf_9 : decode cX1_gatherOf 9 = .ok (.istore 4, 2) := by decide +kernel
theorem dX1_gatherOf_11 : decode cX1_gatherOf 11 = .ok (.iconst 0, 1) := by decide +kernel
theorem dX1_gatherOf_12 : decode cX1_gatherOf 12 = .ok (.istore 5, 2) := by decide +kernel
theorem dX1_gatherOf_14 : decode cX1_gatherOf 14 = .ok (.iconst 0, 1) := by decide +kernel
theorem dX1_gatherOf_15 : decode cX1_gatherOf 15 = .ok (.istore 6, 2) := by decide +kernel
theorem dX1_gatherOf_17 : decode cX1_gatherOf 17 = .ok (.iload_n 1, 1) := by decide +kernel
theorem dX1_gatherOf_18 : decode cX1_gatherOf 18 = .ok (.istore 7, 2) := by decide +kernel
theorem dX1_gatherOf_20 : decode cX1_gatherOf 20 = .ok (.iload 7, 2) := by decide +kernel
theorem dX1_gatherOf_22 : decode cX1_gatherOf 22 = .ok (.iconst 1, 1) := by decide +kernel
theorem dX1_gatherOf_23 : decode cX1_gatherOf 23 = .ok (.if_icmp .lt 127, 3) := by decide +kernel
theorem dX1_gatherOf_26 : decode cX1_gatherOf 26 = .ok (.iload 4, 2) := by decide +kernel
theorem dX1_gatherOf_28 : decode cX1_gatherOf 28 = .ok (.iload 7, 2) := by decide +kernel
theorem dX1_gatherOf_30 : decode cX1_gatherOf 30 = .ok (.invokestatic 57, 3) := by decide +kernel
theorem dX1_gatherOf_33 : decode cX1_gatherOf 33 = .ok (.ifCond .eq 23, 3) := by decide +kernel
theorem dX1_gatherOf_36 : decode cX1_gatherOf 36 = .ok (.aload_n 0, 1) := by decide +kernel
theorem dX1_gatherOf_37 : decode cX1_gatherOf 37 = .ok (.getfield 22, 3) := by decide +kernel
theorem dX1_gatherOf_40 : decode cX1_gatherOf 40 = .ok (.iload 7, 2) := by decide +kernel
theorem dX1_gatherOf_42 : decode cX1_gatherOf 42 = .ok (.aload_n 0, 1) := by decide +kernel
theorem dX1_gatherOf_43 : decode cX1_gatherOf 43 = .ok (.getfield 18, 3) := by decide +kernel
theorem dX1_gatherOf_46 : decode cX1_gatherOf 46 = .ok (.invokevirtual 61, 3) := by decide +kernel
theorem dX1_gatherOf_49 : decode cX1_gatherOf 49 = .ok (.lload_n 2, 1) := by decide +kernel
theorem dX1_gatherOf_50 : decode cX1_gatherOf 50 = .ok (.invokevirtual 65, 3) := by decide +kernel
theorem dX1_gatherOf_53 : decode cX1_gatherOf 53 = .ok (.goto 4, 3) := by decide +kernel
theorem dX1_gatherOf_56 : decode cX1_gatherOf 56 = .ok (.iconst (-1), 1) := by decide +kernel
theorem dX1_gatherOf_57 : decode cX1_gatherOf 57 = .ok (.istore 8, 2) := by decide +kernel
theorem dX1_gatherOf_59 : decode cX1_gatherOf 59 = .ok (.iload 8, 2) := by decide +kernel
theorem dX1_gatherOf_61 : decode cX1_gatherOf 61 = .ok (.iconst (-1), 1) := by decide +kernel
theorem dX1_gatherOf_62 : decode cX1_gatherOf 62 = .ok (.if_icmp .eq 82, 3) := by decide +kernel
theorem dX1_gatherOf_65 : decode cX1_gatherOf 65 = .ok (.aload_n 0, 1) := by decide +kernel
theorem dX1_gatherOf_66 : decode cX1_gatherOf 66 = .ok (.getfield 22, 3) := by decide +kernel
theorem dX1_gatherOf_69 : decode cX1_gatherOf 69 = .ok (.iload 7, 2) := by decide +kernel
theorem dX1_gatherOf_71 : decode cX1_gatherOf 71 = .ok (.iload 8, 2) := by decide +kernel
theorem dX1_gatherOf_73 : decode cX1_gatherOf 73 = .ok (.invokevirtual 71, 3) := by decide +kernel
theorem dX1_gatherOf_76 : decode cX1_gatherOf 76 = .ok (.istore 9, 2) := by decide +kernel
theorem dX1_gatherOf_78 : decode cX1_gatherOf 78 = .ok (.iload 5, 2) := by decide +kernel
theorem dX1_gatherOf_80 : decode cX1_gatherOf 80 = .ok (.ifCond .ne 25, 3) := by decide +kernel
theorem dX1_gatherOf_83 : decode cX1_gatherOf 83 = .ok (.aload_n 0, 1) := by decide +kernel
theorem dX1_gatherOf_84 : decode cX1_gatherOf 84 = .ok (.getfield 15, 3) := by decide +kernel
theorem dX1_gatherOf_87 : decode cX1_gatherOf 87 = .ok (.iload 7, 2) := by decide +kernel
theorem dX1_gatherOf_89 : decode cX1_gatherOf 89 = .ok (.aload_n 0, 1) := by decide +kernel
theorem dX1_gatherOf_90 : decode cX1_gatherOf 90 = .ok (.getfield 15, 3) := by decide +kernel
theorem dX1_gatherOf_93 : decode cX1_gatherOf 93 = .ok (.iload 7, 2) := by decide +kernel
theorem dX1_gatherOf_95 : decode cX1_gatherOf 95 = .ok (.iaload, 1) := by decide +kernel
theorem dX1_gatherOf_96 : decode cX1_gatherOf 96 = .ok (.iload 9, 2) := by decide +kernel
theorem dX1_gatherOf_98 : decode cX1_gatherOf 98 = .ok (.invokestatic 75, 3) := by decide +kernel
theorem dX1_gatherOf_101 : decode cX1_gatherOf 101 = .ok (.iastore, 1) := by decide +kernel
theorem dX1_gatherOf_102 : decode cX1_gatherOf 102 = .ok (.goto 34, 3) := by decide +kernel
theorem dX1_gatherOf_105 : decode cX1_gatherOf 105 = .ok (.iload 7, 2) := by decide +kernel
theorem dX1_gatherOf_107 : decode cX1_gatherOf 107 = .ok (.iload 5, 2) := by decide +kernel
theorem dX1_gatherOf_109 : decode cX1_gatherOf 109 = .ok (.invokestatic 80, 3) := by decide +kernel
theorem dX1_gatherOf_112 : decode cX1_gatherOf 112 = .ok (.iload 8, 2) := by decide +kernel
theorem dX1_gatherOf_114 : decode cX1_gatherOf 114 = .ok (.iadd, 1) := by decide +kernel
theorem dX1_gatherOf_115 : decode cX1_gatherOf 115 = .ok (.istore 10, 2) := by decide +kernel
theorem dX1_gatherOf_117 : decode cX1_gatherOf 117 = .ok (.aload_n 0, 1) := by decide +kernel
theorem dX1_gatherOf_118 : decode cX1_gatherOf 118 = .ok (.getfield 9, 3) := by decide +kernel
theorem dX1_gatherOf_121 : decode cX1_gatherOf 121 = .ok (.iload 10, 2) := by decide +kernel
theorem dX1_gatherOf_123 : decode cX1_gatherOf 123 = .ok (.aload_n 0, 1) := by decide +kernel
theorem dX1_gatherOf_124 : decode cX1_gatherOf 124 = .ok (.getfield 9, 3) := by decide +kernel
theorem dX1_gatherOf_127 : decode cX1_gatherOf 127 = .ok (.iload 10, 2) := by decide +kernel
theorem dX1_gatherOf_129 : decode cX1_gatherOf 129 = .ok (.iaload, 1) := by decide +kernel
theorem dX1_gatherOf_130 : decode cX1_gatherOf 130 = .ok (.iload 6, 2) := by decide +kernel
theorem dX1_gatherOf_132 : decode cX1_gatherOf 132 = .ok (.invokestatic 75, 3) := by decide +kernel
theorem dX1_gatherOf_135 : decode cX1_gatherOf 135 = .ok (.iastore, 1) := by decide +kernel
theorem dX1_gatherOf_136 : decode cX1_gatherOf 136 = .ok (.iload 7, 2) := by decide +kernel
theorem dX1_gatherOf_138 : decode cX1_gatherOf 138 = .ok (.istore 5, 2) := by decide +kernel
theorem dX1_gatherOf_140 : decode cX1_gatherOf 140 = .ok (.iload 9, 2) := by decide +kernel
theorem dX1_gatherOf_142 : decode cX1_gatherOf 142 = .ok (.istore 6, 2) := by decide +kernel
theorem dX1_gatherOf_144 : decode cX1_gatherOf 144 = .ok (.iinc 7 (-1), 3) := by decide +kernel
theorem dX1_gatherOf_147 : decode cX1_gatherOf 147 = .ok (.goto (-127), 3) := by decide +kernel
theorem dX1_gatherOf_150 : decode cX1_gatherOf 150 = .ok (.return_, 1) := by decide +kernel
theorem dX1_rowOf_0 : decode cX1_rowOf 0 = .ok (.iload_n 1, 1) := by decide +kernel
theorem dX1_rowOf_1 : decode cX1_rowOf 1 = .ok (.iload_n 1, 1) := by decide +kernel
theorem dX1_rowOf_2 : decode cX1_rowOf 2 = .ok (.iconst 1, 1) := by decide +kernel
theorem dX1_rowOf_3 : decode cX1_rowOf 3 = .ok (.isub, 1) := by decide +kernel
theorem dX1_rowOf_4 : decode cX1_rowOf 4 = .ok (.imul, 1) := by decide +kernel
theorem dX1_rowOf_5 : decode cX1_rowOf 5 = .ok (.iconst 2, 1) := by decide +kernel
theorem dX1_rowOf_6 : decode cX1_rowOf 6 = .ok (.idiv, 1) := by decide +kernel
theorem dX1_rowOf_7 : decode cX1_rowOf 7 = .ok (.iload_n 0, 1) := by decide +kernel
theorem dX1_rowOf_8 : decode cX1_rowOf 8 = .ok (.iadd, 1) := by decide +kernel
theorem dX1_rowOf_9 : decode cX1_rowOf 9 = .ok (.bipush 8, 2) := by decide +kernel
theorem dX1_rowOf_11 : decode cX1_rowOf 11 = .ok (.imul, 1) := by decide +kernel
theorem dX1_rowOf_12 : decode cX1_rowOf 12 = .ok (.ireturn, 1) := by decide +kernel
theorem dX1_leastDial_0 : decode cX1_leastDial 0 = .ok (.lconst 1, 1) := by decide +kernel
theorem dX1_leastDial_1 : decode cX1_leastDial 1 = .ok (.lstore_n 3, 1) := by decide +kernel
theorem dX1_leastDial_2 : decode cX1_leastDial 2 = .ok (.iload_n 1, 1) := by decide +kernel
theorem dX1_leastDial_3 : decode cX1_leastDial 3 = .ok (.iconst 1, 1) := by decide +kernel
theorem dX1_leastDial_4 : decode cX1_leastDial 4 = .ok (.iadd, 1) := by decide +kernel
theorem dX1_leastDial_5 : decode cX1_leastDial 5 = .ok (.istore 5, 2) := by decide +kernel
theorem dX1_leastDial_7 : decode cX1_leastDial 7 = .ok (.iload 5, 2) := by decide +kernel
theorem dX1_leastDial_9 : decode cX1_leastDial 9 = .ok (.aload_n 0, 1) := by decide +kernel
theorem dX1_leastDial_10 : decode cX1_leastDial 10 = .ok (.getfield 18, 3) := by decide +kernel
theorem dX1_leastDial_13 : decode cX1_leastDial 13 = .ok (.getfield 30, 3) := by decide +kernel
theorem dX1_leastDial_16 : decode cX1_leastDial 16 = .ok (.if_icmp .ge 104, 3) := by decide +kernel
theorem dX1_leastDial_19 : decode cX1_leastDial 19 = .ok (.iload_n 1, 1) := by decide +kernel
theorem dX1_leastDial_20 : decode cX1_leastDial 20 = .ok (.iload 5, 2) := by decide +kernel
theorem dX1_leastDial_22 : decode cX1_leastDial 22 = .ok (.invokestatic 80, 3) := by decide +kernel
theorem dX1_leastDial_25 : decode cX1_leastDial 25 = .ok (.istore 6, 2) := by decide +kernel
theorem dX1_leastDial_27 : decode cX1_leastDial 27 = .ok (.iconst 0, 1) := by decide +kernel
theorem dX1_leastDial_28 : decode cX1_leastDial 28 = .ok (.istore 7, 2) := by decide +kernel
theorem dX1_leastDial_30 : decode cX1_leastDial 30 = .ok (.iload 7, 2) := by decide +kernel
theorem dX1_leastDial_32 : decode cX1_leastDial 32 = .ok (.bipush 8, 2) := by decide +kernel
theorem dX1_leastDial_34 : decode cX1_leastDial 34 = .ok (.if_icmp .ge 80, 3) := by decide +kernel
theorem dX1_leastDial_37 : decode cX1_leastDial 37 = .ok (.aload_n 0, 1) := by decide +kernel
theorem dX1_leastDial_38 : decode cX1_leastDial 38 = .ok (.getfield 22, 3) := by decide +kernel
theorem dX1_leastDial_41 : decode cX1_leastDial 41 = .ok (.iload_n 1, 1) := by decide +kernel
theorem dX1_leastDial_42 : decode cX1_leastDial 42 = .ok (.iload 7, 2) := by decide +kernel
theorem dX1_leastDial_44 : decode cX1_leastDial 44 = .ok (.invokevirtual 71, 3) := by decide +kernel
theorem dX1_leastDial_47 : decode cX1_leastDial 47 = .ok (.istore 8, 2) := by decide +kernel
theorem dX1_leastDial_49 : decode cX1_leastDial 49 = .ok (.aload_n 0, 1) := by decide +kernel
theorem dX1_leastDial_50 : decode cX1_leastDial 50 = .ok (.getfield 9, 3) := by decide +kernel
theorem dX1_leastDial_53 : decode cX1_leastDial 53 = .ok (.iload 6, 2) := by decide +kernel
theorem dX1_leastDial_55 : decode cX1_leastDial 55 = .ok (.iload 7, 2) := by decide +kernel
theorem dX1_leastDial_57 : decode cX1_leastDial 57 = .ok (.iadd, 1) := by decide +kernel
theorem dX1_leastDial_58 : decode cX1_leastDial 58 = .ok (.iaload, 1) := by decide +kernel
theorem dX1_leastDial_59 : decode cX1_leastDial 59 = .ok (.ifCond .le 49, 3) := by decide +kernel
theorem dX1_leastDial_62 : decode cX1_leastDial 62 = .ok (.iload 8, 2) := by decide +kernel
theorem dX1_leastDial_64 : decode cX1_leastDial 64 = .ok (.ifCond .le 44, 3) := by decide +kernel
theorem dX1_leastDial_67 : decode cX1_leastDial 67 = .ok (.aload_n 2, 1) := by decide +kernel
theorem dX1_leastDial_68 : decode cX1_leastDial 68 = .ok (.iload 5, 2) := by decide +kernel
theorem dX1_leastDial_70 : decode cX1_leastDial 70 = .ok (.iaload, 1) := by decide +kernel
theorem dX1_leastDial_71 : decode cX1_leastDial 71 = .ok (.aload_n 0, 1) := by decide +kernel
theorem dX1_leastDial_72 : decode cX1_leastDial 72 = .ok (.getfield 9, 3) := by decide +kernel
theorem dX1_leastDial_75 : decode cX1_leastDial 75 = .ok (.iload 6, 2) := by decide +kernel
theorem dX1_leastDial_77 : decode cX1_leastDial 77 = .ok (.iload 7, 2) := by decide +kernel
theorem dX1_leastDial_79 : decode cX1_leastDial 79 = .ok (.iadd, 1) := by decide +kernel
theorem dX1_leastDial_80 : decode cX1_leastDial 80 = .ok (.iaload, 1) := by decide +kernel
theorem dX1_leastDial_81 : decode cX1_leastDial 81 = .ok (.imul, 1) := by decide +kernel
theorem dX1_leastDial_82 : decode cX1_leastDial 82 = .ok (.aload_n 0, 1) := by decide +kernel
theorem dX1_leastDial_83 : decode cX1_leastDial 83 = .ok (.getfield 26, 3) := by decide +kernel
theorem dX1_leastDial_86 : decode cX1_leastDial 86 = .ok (.getfield 83, 3) := by decide +kernel
theorem dX1_leastDial_89 : decode cX1_leastDial 89 = .ok (.iadd, 1) := by decide +kernel
theorem dX1_leastDial_90 : decode cX1_leastDial 90 = .ok (.istore 9, 2) := by decide +kernel
theorem dX1_leastDial_92 : decode cX1_leastDial 92 = .ok (.lload_n 3, 1) := by decide +kernel
theorem dX1_leastDial_93 : decode cX1_leastDial 93 = .ok (.iload 9, 2) := by decide +kernel
theorem dX1_leastDial_95 : decode cX1_leastDial 95 = .ok (.iload 8, 2) := by decide +kernel
theorem dX1_leastDial_97 : decode cX1_leastDial 97 = .ok (.iadd, 1) := by decide +kernel
theorem dX1_leastDial_98 : decode cX1_leastDial 98 = .ok (.iconst 1, 1) := by decide +kernel
theorem dX1_leastDial_99 : decode cX1_leastDial 99 = .ok (.isub, 1) := by decide +kernel
theorem dX1_leastDial_100 : decode cX1_leastDial 100 = .ok (.iload 8, 2) := by decide +kernel
theorem dX1_leastDial_102 : decode cX1_leastDial 102 = .ok (.idiv, 1) := by decide +kernel
theorem dX1_leastDial_103 : decode cX1_leastDial 103 = .ok (.i2l, 1) := by decide +kernel
theorem dX1_leastDial_104 : decode cX1_leastDial 104 = .ok (.invokestatic 86, 3) := by decide +kernel
theorem dX1_leastDial_107 : decode cX1_leastDial 107 = .ok (.lstore_n 3, 1) := by decide +kernel
theorem dX1_leastDial_108 : decode cX1_leastDial 108 = .ok (.iinc 7 1, 3) := by decide +kernel
theorem dX1_leastDial_111 : decode cX1_leastDial 111 = .ok (.goto (-81), 3) := by decide +kernel
theorem dX1_leastDial_114 : decode cX1_leastDial 114 = .ok (.iinc 5 1, 3) := by decide +kernel
theorem dX1_leastDial_117 : decode cX1_leastDial 117 = .ok (.goto (-110), 3) := by decide +kernel
theorem dX1_leastDial_120 : decode cX1_leastDial 120 = .ok (.lload_n 3, 1) := by decide +kernel
theorem dX1_leastDial_121 : decode cX1_leastDial 121 = .ok (.lreturn, 1) := by decide +kernel
theorem dX1_areMetAround_0 : decode cX1_areMetAround 0 = .ok (.aload_n 2, 1) := by decide +kernel
theorem dX1_areMetAround_1 : decode cX1_areMetAround 1 = .ok (.iload_n 1, 1) := by decide +kernel
theorem dX1_areMetAround_2 : decode cX1_areMetAround 2 = .ok (.iaload, 1) := by decide +kernel
theorem dX1_areMetAround_3 : decode cX1_areMetAround 3 = .ok (.aload_n 0, 1) := by decide +kernel
theorem dX1_areMetAround_4 : decode cX1_areMetAround 4 = .ok (.getfield 15, 3) := by decide +kernel
theorem dX1_areMetAround_7 : decode cX1_areMetAround 7 = .ok (.iload_n 1, 1) := by decide +kernel
theorem dX1_areMetAround_8 : decode cX1_areMetAround 8 = .ok (.iaload, 1) := by decide +kernel
theorem dX1_areMetAround_9 : decode cX1_areMetAround 9 = .ok (.imul, 1) := by decide +kernel
theorem dX1_areMetAround_10 : decode cX1_areMetAround 10 = .ok (.aload_n 0, 1) := by decide +kernel
theorem dX1_areMetAround_11 : decode cX1_areMetAround 11 = .ok (.getfield 26, 3) := by decide +kernel
theorem dX1_areMetAround_14 : decode cX1_areMetAround 14 = .ok (.getfield 89, 3) := by decide +kernel
theorem dX1_areMetAround_17 : decode cX1_areMetAround 17 = .ok (.if_icmp .le 5, 3) := by decide +kernel
theorem dX1_areMetAround_20 : decode cX1_areMetAround 20 = .ok (.iconst 0, 1) := by decide +kernel
theorem dX1_areMetAround_21 : decode cX1_areMetAround 21 = .ok (.ireturn, 1) := by decide +kernel
theorem dX1_areMetAround_22 : decode cX1_areMetAround 22 = .ok (.iconst 1, 1) := by decide +kernel
theorem dX1_areMetAround_23 : decode cX1_areMetAround 23 = .ok (.istore_n 3, 1) := by decide +kernel
theorem dX1_areMetAround_24 : decode cX1_areMetAround 24 = .ok (.iload_n 3, 1) := by decide +kernel
theorem dX1_areMetAround_25 : decode cX1_areMetAround 25 = .ok (.aload_n 0, 1) := by decide +kernel
theorem dX1_areMetAround_26 : decode cX1_areMetAround 26 = .ok (.getfield 18, 3) := by decide +kernel
theorem dX1_areMetAround_29 : decode cX1_areMetAround 29 = .ok (.getfield 30, 3) := by decide +kernel
theorem dX1_areMetAround_32 : decode cX1_areMetAround 32 = .ok (.if_icmp .ge 41, 3) := by decide +kernel
theorem dX1_areMetAround_35 : decode cX1_areMetAround 35 = .ok (.iload_n 3, 1) := by decide +kernel
theorem dX1_areMetAround_36 : decode cX1_areMetAround 36 = .ok (.iload_n 1, 1) := by decide +kernel
theorem dX1_areMetAround_37 : decode cX1_areMetAround 37 = .ok (.if_icmp .ge 13, 3) := by decide +kernel
theorem dX1_areMetAround_40 : decode cX1_areMetAround 40 = .ok (.aload_n 0, 1) := by decide +kernel
theorem dX1_areMetAround_41 : decode cX1_areMetAround 41 = .ok (.iload_n 3, 1) := by decide +kernel
theorem dX1_areMetAround_42 : decode cX1_areMetAround 42 = .ok (.iload_n 1, 1) := by decide +kernel
theorem dX1_areMetAround_43 : decode cX1_areMetAround 43 = .ok (.aload_n 2, 1) := by decide +kernel
theorem dX1_areMetAround_44 : decode cX1_areMetAround 44 = .ok (.invokevirtual 92, 3) := by decide +kernel
theorem dX1_areMetAround_47 : decode cX1_areMetAround 47 = .ok (.ifCond .eq 18, 3) := by decide +kernel
theorem dX1_areMetAround_50 : decode cX1_areMetAround 50 = .ok (.iload_n 3, 1) := by decide +kernel
theorem dX1_areMetAround_51 : decode cX1_areMetAround 51 = .ok (.iload_n 1, 1) := by decide +kernel
theorem dX1_areMetAround_52 : decode cX1_areMetAround 52 = .ok (.if_icmp .le 15, 3) := by decide +kernel
theorem dX1_areMetAround_55 : decode cX1_areMetAround 55 = .ok (.aload_n 0, 1) := by decide +kernel
theorem dX1_areMetAround_56 : decode cX1_areMetAround 56 = .ok (.iload_n 1, 1) := by decide +kernel
theorem dX1_areMetAround_57 : decode cX1_areMetAround 57 = .ok (.iload_n 3, 1) := by decide +kernel
theorem dX1_areMetAround_58 : decode cX1_areMetAround 58 = .ok (.aload_n 2, 1) := by decide +kernel
theorem dX1_areMetAround_59 : decode cX1_areMetAround 59 = .ok (.invokevirtual 92, 3) := by decide +kernel
theorem dX1_areMetAround_62 : decode cX1_areMetAround 62 = .ok (.ifCond .ne 5, 3) := by decide +kernel
theorem dX1_areMetAround_65 : decode cX1_areMetAround 65 = .ok (.iconst 0, 1) := by decide +kernel
theorem dX1_areMetAround_66 : decode cX1_areMetAround 66 = .ok (.ireturn, 1) := by decide +kernel
theorem dX1_areMetAround_67 : decode cX1_areMetAround 67 = .ok (.iinc 3 1, 3) := by decide +kernel
theorem dX1_areMetAround_70 : decode cX1_areMetAround 70 = .ok (.goto (-46), 3) := by decide +kernel
theorem dX1_areMetAround_73 : decode cX1_areMetAround 73 = .ok (.iconst 1, 1) := by decide +kernel
theorem dX1_areMetAround_74 : decode cX1_areMetAround 74 = .ok (.ireturn, 1) := by decide +kernel
theorem dX1_isMet_0 : decode cX1_isMet 0 = .ok (.iload_n 1, 1) := by decide +kernel
theorem dX1_isMet_1 : decode cX1_isMet 1 = .ok (.iload_n 2, 1) := by decide +kernel
theorem dX1_isMet_2 : decode cX1_isMet 2 = .ok (.invokestatic 80, 3) := by decide +kernel
theorem dX1_isMet_5 : decode cX1_isMet 5 = .ok (.istore 4, 2) := by decide +kernel
theorem dX1_isMet_7 : decode cX1_isMet 7 = .ok (.iconst 0, 1) := by decide +kernel
theorem dX1_isMet_8 : decode cX1_isMet 8 = .ok (.istore 5, 2) := by decide +kernel
theorem dX1_isMet_10 : decode cX1_isMet 10 = .ok (.iload 5, 2) := by decide +kernel
theorem dX1_isMet_12 : decode cX1_isMet 12 = .ok (.bipush 8, 2) := by decide +kernel
theorem dX1_isMet_14 : decode cX1_isMet 14 = .ok (.if_icmp .ge 59, 3) := by decide +kernel
theorem dX1_isMet_17 : decode cX1_isMet 17 = .ok (.aload_n 0, 1) := by decide +kernel
theorem dX1_isMet_18 : decode cX1_isMet 18 = .ok (.getfield 9, 3) := by decide +kernel
theorem dX1_isMet_21 : decode cX1_isMet 21 = .ok (.iload 4, 2) := by decide +kernel
theorem dX1_isMet_23 : decode cX1_isMet 23 = .ok (.iload 5, 2) := by decide +kernel
theorem dX1_isMet_25 : decode cX1_isMet 25 = .ok (.iadd, 1) := by decide +kernel
theorem dX1_isMet_26 : decode cX1_isMet 26 = .ok (.iaload, 1) := by decide +kernel
theorem dX1_isMet_27 : decode cX1_isMet 27 = .ok (.istore 6, 2) := by decide +kernel
theorem dX1_isMet_29 : decode cX1_isMet 29 = .ok (.iload 6, 2) := by decide +kernel
theorem dX1_isMet_31 : decode cX1_isMet 31 = .ok (.ifCond .le 36, 3) := by decide +kernel
theorem dX1_isMet_34 : decode cX1_isMet 34 = .ok (.aload_n 3, 1) := by decide +kernel
theorem dX1_isMet_35 : decode cX1_isMet 35 = .ok (.iload_n 1, 1) := by decide +kernel
theorem dX1_isMet_36 : decode cX1_isMet 36 = .ok (.iaload, 1) := by decide +kernel
theorem dX1_isMet_37 : decode cX1_isMet 37 = .ok (.aload_n 0, 1) := by decide +kernel
theorem dX1_isMet_38 : decode cX1_isMet 38 = .ok (.getfield 22, 3) := by decide +kernel
theorem dX1_isMet_41 : decode cX1_isMet 41 = .ok (.iload_n 1, 1) := by decide +kernel
theorem dX1_isMet_42 : decode cX1_isMet 42 = .ok (.iload 5, 2) := by decide +kernel
theorem dX1_isMet_44 : decode cX1_isMet 44 = .ok (.invokevirtual 71, 3) := by decide +kernel
theorem dX1_isMet_47 : decode cX1_isMet 47 = .ok (.imul, 1) := by decide +kernel
theorem dX1_isMet_48 : decode cX1_isMet 48 = .ok (.aload_n 3, 1) := by decide +kernel
theorem dX1_isMet_49 : decode cX1_isMet 49 = .ok (.iload_n 2, 1) := by decide +kernel
theorem dX1_isMet_50 : decode cX1_isMet 50 = .ok (.iaload, 1) := by decide +kernel
theorem dX1_isMet_51 : decode cX1_isMet 51 = .ok (.iload 6, 2) := by decide +kernel
theorem dX1_isMet_53 : decode cX1_isMet 53 = .ok (.imul, 1) := by decide +kernel
theorem dX1_isMet_54 : decode cX1_isMet 54 = .ok (.aload_n 0, 1) := by decide +kernel
theorem dX1_isMet_55 : decode cX1_isMet 55 = .ok (.getfield 26, 3) := by decide +kernel
theorem dX1_isMet_58 : decode cX1_isMet 58 = .ok (.getfield 83, 3) := by decide +kernel
theorem dX1_isMet_61 : decode cX1_isMet 61 = .ok (.iadd, 1) := by decide +kernel
theorem dX1_isMet_62 : decode cX1_isMet 62 = .ok (.if_icmp .ge 5, 3) := by decide +kernel
theorem dX1_isMet_65 : decode cX1_isMet 65 = .ok (.iconst 0, 1) := by decide +kernel
theorem dX1_isMet_66 : decode cX1_isMet 66 = .ok (.ireturn, 1) := by decide +kernel
theorem dX1_isMet_67 : decode cX1_isMet 67 = .ok (.iinc 5 1, 3) := by decide +kernel
theorem dX1_isMet_70 : decode cX1_isMet 70 = .ok (.goto (-60), 3) := by decide +kernel
theorem dX1_isMet_73 : decode cX1_isMet 73 = .ok (.iconst 1, 1) := by decide +kernel
theorem dX1_isMet_74 : decode cX1_isMet 74 = .ok (.ireturn, 1) := by decide +kernel
theorem dX2_init_0 : decode cX2_init 0 = .ok (.aload_n 0, 1) := by decide +kernel
theorem dX2_init_1 : decode cX2_init 1 = .ok (.invokespecial 3, 3) := by decide +kernel
theorem dX2_init_4 : decode cX2_init 4 = .ok (.aload_n 0, 1) := by decide +kernel
theorem dX2_init_5 : decode cX2_init 5 = .ok (.aload_n 1, 1) := by decide +kernel
theorem dX2_init_6 : decode cX2_init 6 = .ok (.putfield 9, 3) := by decide +kernel
theorem dX2_init_9 : decode cX2_init 9 = .ok (.aload_n 0, 1) := by decide +kernel
theorem dX2_init_10 : decode cX2_init 10 = .ok (.aload_n 2, 1) := by decide +kernel
theorem dX2_init_11 : decode cX2_init 11 = .ok (.putfield 15, 3) := by decide +kernel
theorem dX2_init_14 : decode cX2_init 14 = .ok (.aload_n 0, 1) := by decide +kernel
theorem dX2_init_15 : decode cX2_init 15 = .ok (.aload_n 3, 1) := by decide +kernel
theorem dX2_init_16 : decode cX2_init 16 = .ok (.putfield 19, 3) := by decide +kernel
theorem dX2_init_19 : decode cX2_init 19 = .ok (.return_, 1) := by decide +kernel
theorem dX2_look_0 : decode cX2_look 0 = .ok (.aload_n 0, 1) := by decide +kernel
theorem dX2_look_1 : decode cX2_look 1 = .ok (.iconst 0, 1) := by decide +kernel
theorem dX2_look_2 : decode cX2_look 2 = .ok (.iconst (-1), 1) := by decide +kernel
theorem dX2_look_3 : decode cX2_look 3 = .ok (.iconst (-1), 1) := by decide +kernel
theorem dX2_look_4 : decode cX2_look 4 = .ok (.iconst (-1), 1) := by decide +kernel
theorem dX2_look_5 : decode cX2_look 5 = .ok (.invokevirtual 23, 3) := by decide +kernel
theorem dX2_look_8 : decode cX2_look 8 = .ok (.iconst 1, 1) := by decide +kernel
theorem dX2_look_9 : decode cX2_look 9 = .ok (.istore_n 1, 1) := by decide +kernel
theorem dX2_look_10 : decode cX2_look 10 = .ok (.iload_n 1, 1) := by decide +kernel
theorem dX2_look_11 : decode cX2_look 11 = .ok (.aload_n 0, 1) := by decide +kernel
theorem dX2_look_12 : decode cX2_look 12 = .ok (.getfield 9, 3) := by decide +kernel
theorem dX2_look_15 : decode cX2_look 15 = .ok (.getfield 27, 3) := by decide +kernel
theorem dX2_look_18 : decode cX2_look 18 = .ok (.if_icmp .ge 21, 3) := by decide +kernel
theorem dX2_look_21 : decode cX2_look 21 = .ok (.aload_n 0, 1) := by decide +kernel
theorem dX2_look_22 : decode cX2_look 22 = .ok (.getfield 33, 3) := by decide +kernel
theorem dX2_look_25 : decode cX2_look 25 = .ok (.ifCond .ne 14, 3) := by decide +kernel
theorem dX2_look_28 : decode cX2_look 28 = .ok (.aload_n 0, 1) := by decide +kernel
theorem dX2_look_29 : decode cX2_look 29 = .ok (.iload_n 1, 1) := by decide +kernel
theorem dX2_look_30 : decode cX2_look 30 = .ok (.invokevirtual 36, 3) := by decide +kernel
theorem dX2_look_33 : decode cX2_look 33 = .ok (.iinc 1 1, 3) := by decide +kernel
theorem dX2_look_36 : decode cX2_look 36 = .ok (.goto (-26), 3) := by decide +kernel
theorem dX2_look_39 : decode cX2_look 39 = .ok (.iconst 1, 1) := by decide +kernel
theorem dX2_look_40 : decode cX2_look 40 = .ok (.istore_n 1, 1) := by decide +kernel
theorem dX2_look_41 : decode cX2_look 41 = .ok (.iload_n 1, 1) := by decide +kernel
theorem dX2_look_42 : decode cX2_look 42 = .ok (.aload_n 0, 1) := by decide +kernel
theorem dX2_look_43 : decode cX2_look 43 = .ok (.getfield 9, 3) := by decide +kernel
theorem dX2_look_46 : decode cX2_look 46 = .ok (.getfield 27, 3) := by decide +kernel
theorem dX2_look_49 : decode cX2_look 49 = .ok (.if_icmp .ge 46, 3) := by decide +kernel
theorem dX2_look_52 : decode cX2_look 52 = .ok (.aload_n 0, 1) := by decide +kernel
theorem dX2_look_53 : decode cX2_look 53 = .ok (.getfield 33, 3) := by decide +kernel
theorem dX2_look_56 : decode cX2_look 56 = .ok (.ifCond .ne 39, 3) := by decide +kernel
theorem dX2_look_59 : decode cX2_look 59 = .ok (.aload_n 0, 1) := by decide +kernel
theorem dX2_look_60 : decode cX2_look 60 = .ok (.getfield 15, 3) := by decide +kernel
theorem dX2_look_63 : decode cX2_look 63 = .ok (.iload_n 1, 1) := by decide +kernel
theorem dX2_look_64 : decode cX2_look 64 = .ok (.aload_n 0, 1) := by decide +kernel
theorem dX2_look_65 : decode cX2_look 65 = .ok (.getfield 9, 3) := by decide +kernel
theorem dX2_look_68 : decode cX2_look 68 = .ok (.iload_n 1, 1) := by decide +kernel
theorem dX2_look_69 : decode cX2_look 69 = .ok (.invokevirtual 40, 3) := by decide +kernel
theorem dX2_look_72 : decode cX2_look 72 = .ok (.i2l, 1) := by decide +kernel
theorem dX2_look_73 : decode cX2_look 73 = .ok (.lconst 1, 1) := by decide +kernel
theorem dX2_look_74 : decode cX2_look 74 = .ok (.invokevirtual 44, 3) := by decide +kernel
theorem dX2_look_77 : decode cX2_look 77 = .ok (.iconst (-1), 1) := by decide +kernel
theorem dX2_look_78 : decode cX2_look 78 = .ok (.if_icmp .eq 11, 3) := by decide +kernel
theorem dX2_look_81 : decode cX2_look 81 = .ok (.aload_n 0, 1) := by decide +kernel
theorem dX2_look_82 : decode cX2_look 82 = .ok (.iconst 4, 1) := by decide +kernel
theorem dX2_look_83 : decode cX2_look 83 = .ok (.iload_n 1, 1) := by decide +kernel
theorem dX2_look_84 : decode cX2_look 84 = .ok (.iconst (-1), 1) := by decide +kernel
theorem dX2_look_85 : decode cX2_look 85 = .ok (.iconst (-1), 1) := by decide +kernel
theorem dX2_look_86 : decode cX2_look 86 = .ok (.invokevirtual 23, 3) := by decide +kernel
theorem dX2_look_89 : decode cX2_look 89 = .ok (.iinc 1 1, 3) := by decide +kernel
theorem dX2_look_92 : decode cX2_look 92 = .ok (.goto (-51), 3) := by decide +kernel
theorem dX2_look_95 : decode cX2_look 95 = .ok (.return_, 1) := by decide +kernel
theorem dX2_note_0 : decode cX2_note 0 = .ok (.aload_n 0, 1) := by decide +kernel
theorem dX2_note_1 : decode cX2_note 1 = .ok (.iload_n 1, 1) := by decide +kernel
theorem dX2_note_2 : decode cX2_note 2 = .ok (.putfield 33, 3) := by decide +kernel
theorem dX2_note_5 : decode cX2_note 5 = .ok (.aload_n 0, 1) := by decide +kernel
theorem dX2_note_6 : decode cX2_note 6 = .ok (.iload_n 2, 1) := by decide +kernel
theorem dX2_note_7 : decode cX2_note 7 = .ok (.putfield 50, 3) := by decide +kernel
theorem dX2_note_10 : decode cX2_note 10 = .ok (.aload_n 0, 1) := by decide +kernel
theorem dX2_note_11 : decode cX2_note 11 = .ok (.iload_n 3, 1) := by decide +kernel
theorem dX2_note_12 : decode cX2_note 12 = .ok (.putfield 53, 3) := by decide +kernel
theorem dX2_note_15 : decode cX2_note 15 = .ok (.aload_n 0, 1) := by decide +kernel
theorem dX2_note_16 : decode cX2_note 16 = .ok (.iload 4, 2) := by decide +kernel
theorem dX2_note_18 : decode cX2_note 18 = .ok (.putfield 56, 3) := by decide +kernel
theorem dX2_note_21 : decode cX2_note 21 = .ok (.return_, 1) := by decide +kernel
theorem dX2_lookAtLine_0 : decode cX2_lookAtLine 0 = .ok (.aload_n 0, 1) := by decide +kernel
theorem dX2_lookAtLine_1 : decode cX2_lookAtLine 1 = .ok (.getfield 15, 3) := by decide +kernel
theorem dX2_lookAtLine_4 : decode cX2_lookAtLine 4 = .ok (.aload_n 0, 1) := by decide +kernel
theorem dX2_lookAtLine_5 : decode cX2_lookAtLine 5 = .ok (.getfield 9, 3) := by decide +kernel
theorem dX2_lookAtLine_8 : decode cX2_lookAtLine 8 = .ok (.getfield 59, 3) := by decide +kernel
theorem dX2_lookAtLine_11 : decode cX2_lookAtLine 11 = .ok (.iload_n 1, 1) := by decide +kernel
theorem dX2_lookAtLine_12 : decode cX2_lookAtLine 12 = .ok (.iaload, 1) := by decide +kernel
theorem dX2_lookAtLine_13 : decode cX2_lookAtLine 13 = .ok (.invokevirtual 63, 3) := by decide +kernel
theorem dX2_lookAtLine_16 : decode cX2_lookAtLine 16 = .ok (.ifCond .ne 12, 3) := by decide +kernel
theorem dX2_lookAtLine_19 : decode cX2_lookAtLine 19 = .ok (.aload_n 0, 1) := by decide +kernel
theorem dX2_lookAtLine_20 : decode cX2_lookAtLine 20 = .ok (.iconst 1, 1) := by decide +kernel
theorem dX2_lookAtLine_21 : decode cX2_lookAtLine 21 = .ok (.iload_n 1, 1) := by decide +kernel
theorem dX2_lookAtLine_22 : decode cX2_lookAtLine 22 = .ok (.iconst (-1), 1) := by decide +kernel
theorem dX2_lookAtLine_23 : decode cX2_lookAtLine 23 = .ok (.iconst (-1), 1) := by decide +kernel
theorem dX2_lookAtLine_24 : decode cX2_lookAtLine 24 = .ok (.invokevirtual 23, 3) := by decide +kernel
theorem dX2_lookAtLine_27 : decode cX2_lookAtLine 27 = .ok (.return_, 1) := by decide +kernel
theorem dX2_lookAtLine_28 : decode cX2_lookAtLine 28 = .ok (.aload_n 0, 1) := by decide +kernel
theorem dX2_lookAtLine_29 : decode cX2_lookAtLine 29 = .ok (.iload_n 1, 1) := by decide +kernel
theorem dX2_lookAtLine_30 : decode cX2_lookAtLine 30 = .ok (.iconst 2, 1) := by decide +kernel
theorem dX2_lookAtLine_31 : decode cX2_lookAtLine 31 = .ok (.invokevirtual 66, 3) := by decide +kernel
theorem dX2_lookAtLine_34 : decode cX2_lookAtLine 34 = .ok (.aload_n 0, 1) := by decide +kernel
theorem dX2_lookAtLine_35 : decode cX2_lookAtLine 35 = .ok (.getfield 33, 3) := by decide +kernel
theorem dX2_lookAtLine_38 : decode cX2_lookAtLine 38 = .ok (.ifCond .ne 9, 3) := by decide +kernel
theorem dX2_lookAtLine_41 : decode cX2_lookAtLine 41 = .ok (.aload_n 0, 1) := by decide +kernel
theorem dX2_lookAtLine_42 : decode cX2_lookAtLine 42 = .ok (.iload_n 1, 1) := by decide +kernel
theorem dX2_lookAtLine_43 : decode cX2_lookAtLine 43 = .ok (.iconst 3, 1) := by decide +kernel
theorem dX2_lookAtLine_44 : decode cX2_lookAtLine 44 = .ok (.invokevirtual 66, 3) := by decide +kernel
theorem dX2_lookAtLine_47 : decode cX2_lookAtLine 47 = .ok (.return_, 1) := by decide +kernel
theorem dX2_lookAtFaults_0 : decode cX2_lookAtFaults 0 = .ok (.iconst 0, 1) := by decide +kernel
theorem dX2_lookAtFaults_1 : decode cX2_lookAtFaults 1 = .ok (.istore_n 3, 1) := by decide +kernel
theorem dX2_lookAtFaults_2 : decode cX2_lookAtFaults 2 = .ok (.iload_n 3, 1) := by decide +kernel
theorem dX2_lookAtFaults_3 : decode cX2_lookAtFaults 3 = .ok (.bipush 16, 2) := by decide +kernel
theorem dX2_lookAtFaults_5 : decode cX2_lookAtFaults 5 = .ok (.if_icmp .gt 95, 3) := by decide +kernel
theorem dX2_lookAtFaults_8 : decode cX2_lookAtFaults 8 = .ok (.iconst 0, 1) := by decide +kernel
theorem dX2_lookAtFaults_9 : decode cX2_lookAtFaults 9 = .ok (.istore 4, 2) := by decide +kernel
theorem dX2_lookAtFaults_11 : decode cX2_lookAtFaults 11 = .ok (.iload 4, 2) := by decide +kernel
theorem dX2_lookAtFaults_13 : decode cX2_lookAtFaults 13 = .ok (.aload_n 0, 1) := by decide +kernel
theorem dX2_lookAtFaults_14 : decode cX2_lookAtFaults 14 = .ok (.getfield 19, 3) := by decide +kernel
theorem dX2_lookAtFaults_17 : decode cX2_lookAtFaults 17 = .ok (.invokevirtual 70, 3) := by decide +kernel
theorem dX2_lookAtFaults_20 : decode cX2_lookAtFaults 20 = .ok (.if_icmp .ge 74, 3) := by decide +kernel
theorem dX2_lookAtFaults_23 : decode cX2_lookAtFaults 23 = .ok (.aload_n 0, 1) := by decide +kernel
theorem dX2_lookAtFaults_24 : decode cX2_lookAtFaults 24 = .ok (.getfield 9, 3) := by decide +kernel
theorem dX2_lookAtFaults_27 : decode cX2_lookAtFaults 27 = .ok (.iload_n 1, 1) := by decide +kernel
theorem dX2_lookAtFaults_28 : decode cX2_lookAtFaults 28 = .ok (.iload_n 3, 1) := by decide +kernel
theorem dX2_lookAtFaults_29 : decode cX2_lookAtFaults 29 = .ok (.aload_n 0, 1) := by decide +kernel
theorem dX2_lookAtFaults_30 : decode cX2_lookAtFaults 30 = .ok (.getfield 19, 3) := by decide +kernel
theorem dX2_lookAtFaults_33 : decode cX2_lookAtFaults 33 = .ok (.iload 4, 2) := by decide +kernel
theorem dX2_lookAtFaults_35 : decode cX2_lookAtFaults 35 = .ok (.invokevirtual 76, 3) := by decide +kernel
theorem dX2_lookAtFaults_38 : decode cX2_lookAtFaults 38 = .ok (.invokevirtual 79, 3) := by decide +kernel
theorem dX2_lookAtFaults_41 : decode cX2_lookAtFaults 41 = .ok (.lstore 5, 2) := by decide +kernel
theorem dX2_lookAtFaults_43 : decode cX2_lookAtFaults 43 = .ok (.iload_n 2, 1) := by decide +kernel
theorem dX2_lookAtFaults_44 : decode cX2_lookAtFaults 44 = .ok (.iconst 2, 1) := by decide +kernel
theorem dX2_lookAtFaults_45 : decode cX2_lookAtFaults 45 = .ok (.if_icmp .ne 16, 3) := by decide +kernel
theorem dX2_lookAtFaults_48 : decode cX2_lookAtFaults 48 = .ok (.aload_n 0, 1) := by decide +kernel
theorem dX2_lookAtFaults_49 : decode cX2_lookAtFaults 49 = .ok (.iload_n 1, 1) := by decide +kernel
theorem dX2_lookAtFaults_50 : decode cX2_lookAtFaults 50 = .ok (.lload 5, 2) := by decide +kernel
theorem dX2_lookAtFaults_52 : decode cX2_lookAtFaults 52 = .ok (.invokevirtual 83, 3) := by decide +kernel
theorem dX2_lookAtFaults_55 : decode cX2_lookAtFaults 55 = .ok (.ifCond .eq 33, 3) := by decide +kernel
theorem dX2_lookAtFaults_58 : decode cX2_lookAtFaults 58 = .ok (.goto 13, 3) := by decide +kernel
theorem dX2_lookAtFaults_61 : decode cX2_lookAtFaults 61 = .ok (.aload_n 0, 1) := by decide +kernel
theorem dX2_lookAtFaults_62 : decode cX2_lookAtFaults 62 = .ok (.iload_n 1, 1) := by decide +kernel
theorem dX2_lookAtFaults_63 : decode cX2_lookAtFaults 63 = .ok (.lload 5, 2) := by decide +kernel
theorem dX2_lookAtFaults_65 : decode cX2_lookAtFaults 65 = .ok (.invokevirtual 87, 3) := by decide +kernel
theorem dX2_lookAtFaults_68 : decode cX2_lookAtFaults 68 = .ok (.ifCond .eq 20, 3) := by decide +kernel
theorem dX2_lookAtFaults_71 : decode cX2_lookAtFaults 71 = .ok (.aload_n 0, 1) := by decide +kernel
theorem dX2_lookAtFaults_72 : decode cX2_lookAtFaults 72 = .ok (.iload_n 2, 1) := by decide +kernel
theorem dX2_lookAtFaults_73 : decode cX2_lookAtFaults 73 = .ok (.iload_n 1, 1) := by decide +kernel
theorem dX2_lookAtFaults_74 : decode cX2_lookAtFaults 74 = .ok (.iload_n 3, 1) := by decide +kernel
theorem dX2_lookAtFaults_75 : decode cX2_lookAtFaults 75 = .ok (.aload_n 0, 1) := by decide +kernel
theorem dX2_lookAtFaults_76 : decode cX2_lookAtFaults 76 = .ok (.getfield 19, 3) := by decide +kernel
theorem dX2_lookAtFaults_79 : decode cX2_lookAtFaults 79 = .ok (.iload 4, 2) := by decide +kernel
theorem dX2_lookAtFaults_81 : decode cX2_lookAtFaults 81 = .ok (.invokevirtual 76, 3) := by decide +kernel
theorem dX2_lookAtFaults_84 : decode cX2_lookAtFaults 84 = .ok (.invokevirtual 23, 3) := by decide +kernel
theorem dX2_lookAtFaults_87 : decode cX2_lookAtFaults 87 = .ok (.return_, 1) := by decide +kernel
theorem dX2_lookAtFaults_88 : decode cX2_lookAtFaults 88 = .ok (.iinc 4 1, 3) := by decide +kernel
theorem dX2_lookAtFaults_91 : decode cX2_lookAtFaults 91 = .ok (.goto (-80), 3) := by decide +kernel
theorem dX2_lookAtFaults_94 : decode cX2_lookAtFaults 94 = .ok (.iinc 3 1, 3) := by decide +kernel
theorem dX2_lookAtFaults_97 : decode cX2_lookAtFaults 97 = .ok (.goto (-95), 3) := by decide +kernel
theorem dX2_lookAtFaults_100 : decode cX2_lookAtFaults 100 = .ok (.return_, 1) := by decide +kernel
theorem dX2_isUnseen_0 : decode cX2_isUnseen 0 = .ok (.aload_n 0, 1) := by decide +kernel
theorem dX2_isUnseen_1 : decode cX2_isUnseen 1 = .ok (.getfield 15, 3) := by decide +kernel
theorem dX2_isUnseen_4 : decode cX2_isUnseen 4 = .ok (.aload_n 0, 1) := by decide +kernel
theorem dX2_isUnseen_5 : decode cX2_isUnseen 5 = .ok (.getfield 9, 3) := by decide +kernel
theorem dX2_isUnseen_8 : decode cX2_isUnseen 8 = .ok (.getfield 59, 3) := by decide +kernel
theorem dX2_isUnseen_11 : decode cX2_isUnseen 11 = .ok (.iload_n 1, 1) := by decide +kernel
theorem dX2_isUnseen_12 : decode cX2_isUnseen 12 = .ok (.iaload, 1) := by decide +kernel
theorem dX2_isUnseen_13 : decode cX2_isUnseen 13 = .ok (.invokevirtual 63, 3) := by decide +kernel
theorem dX2_isUnseen_16 : decode cX2_isUnseen 16 = .ok (.istore 4, 2) := by decide +kernel
theorem dX2_isUnseen_18 : decode cX2_isUnseen 18 = .ok (.aload_n 0, 1) := by decide +kernel
theorem dX2_isUnseen_19 : decode cX2_isUnseen 19 = .ok (.getfield 15, 3) := by decide +kernel
theorem dX2_isUnseen_22 : decode cX2_isUnseen 22 = .ok (.iload 4, 2) := by decide +kernel
theorem dX2_isUnseen_24 : decode cX2_isUnseen 24 = .ok (.aload_n 0, 1) := by decide +kernel
theorem dX2_isUnseen_25 : decode cX2_isUnseen 25 = .ok (.getfield 9, 3) := by decide +kernel
theorem dX2_isUnseen_28 : decode cX2_isUnseen 28 = .ok (.invokevirtual 90, 3) := by decide +kernel
theorem dX2_isUnseen_31 : decode cX2_isUnseen 31 = .ok (.lload_n 2, 1) := by decide +kernel
theorem dX2_isUnseen_32 : decode cX2_isUnseen 32 = .ok (.invokevirtual 44, 3) := by decide +kernel
theorem dX2_isUnseen_35 : decode cX2_isUnseen 35 = .ok (.iconst (-1), 1) := by decide +kernel
theorem dX2_isUnseen_36 : decode cX2_isUnseen 36 = .ok (.if_icmp .ne 7, 3) := by decide +kernel
theorem dX2_isUnseen_39 : decode cX2_isUnseen 39 = .ok (.iconst 1, 1) := by decide +kernel
theorem dX2_isUnseen_40 : decode cX2_isUnseen 40 = .ok (.goto 4, 3) := by decide +kernel
theorem dX2_isUnseen_43 : decode cX2_isUnseen 43 = .ok (.iconst 0, 1) := by decide +kernel
theorem dX2_isUnseen_44 : decode cX2_isUnseen 44 = .ok (.ireturn, 1) := by decide +kernel
theorem dX2_isOutOfOrder_0 : decode cX2_isOutOfOrder 0 = .ok (.aload_n 0, 1) := by decide +kernel
theorem dX2_isOutOfOrder_1 : decode cX2_isOutOfOrder 1 = .ok (.getfield 9, 3) := by decide +kernel
theorem dX2_isOutOfOrder_4 : decode cX2_isOutOfOrder 4 = .ok (.getfield 59, 3) := by decide +kernel
theorem dX2_isOutOfOrder_7 : decode cX2_isOutOfOrder 7 = .ok (.iload_n 1, 1) := by decide +kernel
theorem dX2_isOutOfOrder_8 : decode cX2_isOutOfOrder 8 = .ok (.iaload, 1) := by decide +kernel
theorem dX2_isOutOfOrder_9 : decode cX2_isOutOfOrder 9 = .ok (.istore 4, 2) := by decide +kernel
theorem dX2_isOutOfOrder_11 : decode cX2_isOutOfOrder 11 = .ok (.iconst (-1), 1) := by decide +kernel
theorem dX2_isOutOfOrder_12 : decode cX2_isOutOfOrder 12 = .ok (.istore 5, 2) := by decide +kernel
theorem dX2_isOutOfOrder_14 : decode cX2_isOutOfOrder 14 = .ok (.iload_n 1, 1) := by decide +kernel
theorem dX2_isOutOfOrder_15 : decode cX2_isOutOfOrder 15 = .ok (.istore 6, 2) := by decide +kernel
theorem dX2_isOutOfOrder_17 : decode cX2_isOutOfOrder 17 = .ok (.iload 6, 2) := by decide +kernel
theorem dX2_isOutOfOrder_19 : decode cX2_isOutOfOrder 19 = .ok (.iconst 1, 1) := by decide +kernel
theorem dX2_isOutOfOrder_20 : decode cX2_isOutOfOrder 20 = .ok (.if_icmp .lt 90, 3) := by decide +kernel
theorem dX2_isOutOfOrder_23 : decode cX2_isOutOfOrder 23 = .ok (.iload 4, 2) := by decide +kernel
theorem dX2_isOutOfOrder_25 : decode cX2_isOutOfOrder 25 = .ok (.iload 6, 2) := by decide +kernel
theorem dX2_isOutOfOrder_27 : decode cX2_isOutOfOrder 27 = .ok (.invokestatic 94, 3) := by decide +kernel
theorem dX2_isOutOfOrder_30 : decode cX2_isOutOfOrder 30 = .ok (.ifCond .eq 23, 3) := by decide +kernel
theorem dX2_isOutOfOrder_33 : decode cX2_isOutOfOrder 33 = .ok (.aload_n 0, 1) := by decide +kernel
theorem dX2_isOutOfOrder_34 : decode cX2_isOutOfOrder 34 = .ok (.getfield 15, 3) := by decide +kernel
theorem dX2_isOutOfOrder_37 : decode cX2_isOutOfOrder 37 = .ok (.iload 6, 2) := by decide +kernel
theorem dX2_isOutOfOrder_39 : decode cX2_isOutOfOrder 39 = .ok (.aload_n 0, 1) := by decide +kernel
theorem dX2_isOutOfOrder_40 : decode cX2_isOutOfOrder 40 = .ok (.getfield 9, 3) := by decide +kernel
theorem dX2_isOutOfOrder_43 : decode cX2_isOutOfOrder 43 = .ok (.invokevirtual 90, 3) := by decide +kernel
theorem dX2_isOutOfOrder_46 : decode cX2_isOutOfOrder 46 = .ok (.lload_n 2, 1) := by decide +kernel
theorem dX2_isOutOfOrder_47 : decode cX2_isOutOfOrder 47 = .ok (.invokevirtual 98, 3) := by decide +kernel
theorem dX2_isOutOfOrder_50 : decode cX2_isOutOfOrder 50 = .ok (.goto 4, 3) := by decide +kernel
theorem dX2_isOutOfOrder_53 : decode cX2_isOutOfOrder 53 = .ok (.iconst (-1), 1) := by decide +kernel
theorem dX2_isOutOfOrder_54 : decode cX2_isOutOfOrder 54 = .ok (.istore 7, 2) := by decide +kernel
theorem dX2_isOutOfOrder_56 : decode cX2_isOutOfOrder 56 = .ok (.iload 7, 2) := by decide +kernel
theorem dX2_isOutOfOrder_58 : decode cX2_isOutOfOrder 58 = .ok (.iconst (-1), 1) := by decide +kernel
theorem dX2_isOutOfOrder_59 : decode cX2_isOutOfOrder 59 = .ok (.if_icmp .eq 45, 3) := by decide +kernel
theorem dX2_isOutOfOrder_62 : decode cX2_isOutOfOrder 62 = .ok (.iload 5, 2) := by decide +kernel
theorem dX2_isOutOfOrder_64 : decode cX2_isOutOfOrder 64 = .ok (.iconst (-1), 1) := by decide +kernel
theorem dX2_isOutOfOrder_65 : decode cX2_isOutOfOrder 65 = .ok (.if_icmp .ne 18, 3) := by decide +kernel
theorem dX2_isOutOfOrder_68 : decode cX2_isOutOfOrder 68 = .ok (.iload 7, 2) := by decide +kernel
theorem dX2_isOutOfOrder_70 : decode cX2_isOutOfOrder 70 = .ok (.aload_n 0, 1) := by decide +kernel
theorem dX2_isOutOfOrder_71 : decode cX2_isOutOfOrder 71 = .ok (.getfield 19, 3) := by decide +kernel
theorem dX2_isOutOfOrder_74 : decode cX2_isOutOfOrder 74 = .ok (.getfield 101, 3) := by decide +kernel
theorem dX2_isOutOfOrder_77 : decode cX2_isOutOfOrder 77 = .ok (.if_icmp .le 23, 3) := by decide +kernel
theorem dX2_isOutOfOrder_80 : decode cX2_isOutOfOrder 80 = .ok (.goto 18, 3) := by decide +kernel
theorem dX2_isOutOfOrder_83 : decode cX2_isOutOfOrder 83 = .ok (.iload 7, 2) := by decide +kernel
theorem dX2_isOutOfOrder_85 : decode cX2_isOutOfOrder 85 = .ok (.iload 5, 2) := by decide +kernel
theorem dX2_isOutOfOrder_87 : decode cX2_isOutOfOrder 87 = .ok (.aload_n 0, 1) := by decide +kernel
theorem dX2_isOutOfOrder_88 : decode cX2_isOutOfOrder 88 = .ok (.getfield 19, 3) := by decide +kernel
theorem dX2_isOutOfOrder_91 : decode cX2_isOutOfOrder 91 = .ok (.getfield 104, 3) := by decide +kernel
theorem dX2_isOutOfOrder_94 : decode cX2_isOutOfOrder 94 = .ok (.iadd, 1) := by decide +kernel
theorem dX2_isOutOfOrder_95 : decode cX2_isOutOfOrder 95 = .ok (.if_icmp .ge 5, 3) := by decide +kernel
theorem dX2_isOutOfOrder_98 : decode cX2_isOutOfOrder 98 = .ok (.iconst 1, 1) := by decide +kernel
theorem dX2_isOutOfOrder_99 : decode cX2_isOutOfOrder 99 = .ok (.ireturn, 1) := by decide +kernel
theorem dX2_isOutOfOrder_100 : decode cX2_isOutOfOrder 100 = .ok (.iload 7, 2) := by decide +kernel
theorem dX2_isOutOfOrder_102 : decode cX2_isOutOfOrder 102 = .ok (.istore 5, 2) := by decide +kernel
theorem dX2_isOutOfOrder_104 : decode cX2_isOutOfOrder 104 = .ok (.iinc 6 (-1), 3) := by decide +kernel
theorem dX2_isOutOfOrder_107 : decode cX2_isOutOfOrder 107 = .ok (.goto (-90), 3) := by decide +kernel
theorem dX2_isOutOfOrder_110 : decode cX2_isOutOfOrder 110 = .ok (.iconst 0, 1) := by decide +kernel
theorem dX2_isOutOfOrder_111 : decode cX2_isOutOfOrder 111 = .ok (.ireturn, 1) := by decide +kernel
theorem dX3_init_0 : decode cX3_init 0 = .ok (.aload_n 0, 1) := by decide +kernel
theorem dX3_init_1 : decode cX3_init 1 = .ok (.invokespecial 3, 3) := by decide +kernel
theorem dX3_init_4 : decode cX3_init 4 = .ok (.aload_n 0, 1) := by decide +kernel
theorem dX3_init_5 : decode cX3_init 5 = .ok (.iconst 1, 1) := by decide +kernel
theorem dX3_init_6 : decode cX3_init 6 = .ok (.putfield 9, 3) := by decide +kernel
theorem dX3_init_9 : decode cX3_init 9 = .ok (.aload_n 0, 1) := by decide +kernel
theorem dX3_init_10 : decode cX3_init 10 = .ok (.sipush 1000, 3) := by decide +kernel
theorem dX3_init_13 : decode cX3_init 13 = .ok (.putfield 15, 3) := by decide +kernel
theorem dX3_init_16 : decode cX3_init 16 = .ok (.aload_n 0, 1) := by decide +kernel
theorem dX3_init_17 : decode cX3_init 17 = .ok (.iconst 1, 1) := by decide +kernel
theorem dX3_init_18 : decode cX3_init 18 = .ok (.putfield 18, 3) := by decide +kernel
theorem dX3_init_21 : decode cX3_init 21 = .ok (.aload_n 0, 1) := by decide +kernel
theorem dX3_init_22 : decode cX3_init 22 = .ok (.bipush 30, 2) := by decide +kernel
theorem dX3_init_24 : decode cX3_init 24 = .ok (.newarray .int, 2) := by decide +kernel
theorem dX3_init_26 : decode cX3_init 26 = .ok (.putfield 21, 3) := by decide +kernel
theorem dX3_init_29 : decode cX3_init 29 = .ok (.aload_n 0, 1) := by decide +kernel
theorem dX3_init_30 : decode cX3_init 30 = .ok (.bipush 30, 2) := by decide +kernel
theorem dX3_init_32 : decode cX3_init 32 = .ok (.newarray .int, 2) := by decide +kernel
theorem dX3_init_34 : decode cX3_init 34 = .ok (.putfield 25, 3) := by decide +kernel
theorem dX3_init_37 : decode cX3_init 37 = .ok (.aload_n 0, 1) := by decide +kernel
theorem dX3_init_38 : decode cX3_init 38 = .ok (.bipush 30, 2) := by decide +kernel
theorem dX3_init_40 : decode cX3_init 40 = .ok (.newarray .int, 2) := by decide +kernel
theorem dX3_init_42 : decode cX3_init 42 = .ok (.putfield 28, 3) := by decide +kernel
theorem dX3_init_45 : decode cX3_init 45 = .ok (.aload_n 0, 1) := by decide +kernel
theorem dX3_init_46 : decode cX3_init 46 = .ok (.bipush 30, 2) := by decide +kernel
theorem dX3_init_48 : decode cX3_init 48 = .ok (.newarray .int, 2) := by decide +kernel
theorem dX3_init_50 : decode cX3_init 50 = .ok (.putfield 31, 3) := by decide +kernel
theorem dX3_init_53 : decode cX3_init 53 = .ok (.aload_n 0, 1) := by decide +kernel
theorem dX3_init_54 : decode cX3_init 54 = .ok (.bipush 30, 2) := by decide +kernel
theorem dX3_init_56 : decode cX3_init 56 = .ok (.newarray .int, 2) := by decide +kernel
theorem dX3_init_58 : decode cX3_init 58 = .ok (.putfield 34, 3) := by decide +kernel
theorem dX3_init_61 : decode cX3_init 61 = .ok (.return_, 1) := by decide +kernel
theorem dX3_isKnot_0 : decode cX3_isKnot 0 = .ok (.iload_n 1, 1) := by decide +kernel
theorem dX3_isKnot_1 : decode cX3_isKnot 1 = .ok (.ifCond .lt 15, 3) := by decide +kernel
theorem dX3_isKnot_4 : decode cX3_isKnot 4 = .ok (.iload_n 1, 1) := by decide +kernel
theorem dX3_isKnot_5 : decode cX3_isKnot 5 = .ok (.aload_n 0, 1) := by decide +kernel
theorem dX3_isKnot_6 : decode cX3_isKnot 6 = .ok (.getfield 9, 3) := by decide +kernel
theorem dX3_isKnot_9 : decode cX3_isKnot 9 = .ok (.if_icmp .ge 7, 3) := by decide +kernel
theorem dX3_isKnot_12 : decode cX3_isKnot 12 = .ok (.iconst 1, 1) := by decide +kernel
theorem dX3_isKnot_13 : decode cX3_isKnot 13 = .ok (.goto 4, 3) := by decide +kernel
theorem dX3_isKnot_16 : decode cX3_isKnot 16 = .ok (.iconst 0, 1) := by decide +kernel
theorem dX3_isKnot_17 : decode cX3_isKnot 17 = .ok (.ireturn, 1) := by decide +kernel
theorem dX3_isLine_0 : decode cX3_isLine 0 = .ok (.iload_n 1, 1) := by decide +kernel
theorem dX3_isLine_1 : decode cX3_isLine 1 = .ok (.iconst 1, 1) := by decide +kernel
theorem dX3_isLine_2 : decode cX3_isLine 2 = .ok (.if_icmp .lt 15, 3) := by decide +kernel
theorem dX3_isLine_5 : decode cX3_isLine 5 = .ok (.iload_n 1, 1) := by decide +kernel
theorem dX3_isLine_6 : decode cX3_isLine 6 = .ok (.aload_n 0, 1) := by decide +kernel
theorem dX3_isLine_7 : decode cX3_isLine 7 = .ok (.getfield 9, 3) := by decide +kernel
theorem dX3_isLine_10 : decode cX3_isLine 10 = .ok (.if_icmp .ge 7, 3) := by decide +kernel
theorem dX3_isLine_13 : decode cX3_isLine 13 = .ok (.iconst 1, 1) := by decide +kernel
theorem dX3_isLine_14 : decode cX3_isLine 14 = .ok (.goto 4, 3) := by decide +kernel
theorem dX3_isLine_17 : decode cX3_isLine 17 = .ok (.iconst 0, 1) := by decide +kernel
theorem dX3_isLine_18 : decode cX3_isLine 18 = .ok (.ireturn, 1) := by decide +kernel
theorem dX3_isOnWay_0 : decode cX3_isOnWay 0 = .ok (.aload_n 0, 1) := by decide +kernel
theorem dX3_isOnWay_1 : decode cX3_isOnWay 1 = .ok (.iload_n 1, 1) := by decide +kernel
theorem dX3_isOnWay_2 : decode cX3_isOnWay 2 = .ok (.invokevirtual 37, 3) := by decide +kernel
theorem dX3_isOnWay_5 : decode cX3_isOnWay 5 = .ok (.ifCond .eq 28, 3) := by decide +kernel
theorem dX3_isOnWay_8 : decode cX3_isOnWay 8 = .ok (.aload_n 0, 1) := by decide +kernel
theorem dX3_isOnWay_9 : decode cX3_isOnWay 9 = .ok (.iload_n 2, 1) := by decide +kernel
theorem dX3_isOnWay_10 : decode cX3_isOnWay 10 = .ok (.invokevirtual 37, 3) := by decide +kernel
theorem dX3_isOnWay_13 : decode cX3_isOnWay 13 = .ok (.ifCond .eq 20, 3) := by decide +kernel
theorem dX3_isOnWay_16 : decode cX3_isOnWay 16 = .ok (.aload_n 0, 1) := by decide +kernel
theorem dX3_isOnWay_17 : decode cX3_isOnWay 17 = .ok (.getfield 31, 3) := by decide +kernel
theorem dX3_isOnWay_20 : decode cX3_isOnWay 20 = .ok (.iload_n 2, 1) := by decide +kernel
theorem dX3_isOnWay_21 : decode cX3_isOnWay 21 = .ok (.iaload, 1) := by decide +kernel
theorem dX3_isOnWay_22 : decode cX3_isOnWay 22 = .ok (.iload_n 1, 1) := by decide +kernel
theorem dX3_isOnWay_23 : decode cX3_isOnWay 23 = .ok (.invokestatic 41, 3) := by decide +kernel
theorem dX3_isOnWay_26 : decode cX3_isOnWay 26 = .ok (.ifCond .eq 7, 3) := by decide +kernel
theorem dX3_isOnWay_29 : decode cX3_isOnWay 29 = .ok (.iconst 1, 1) := by decide +kernel
theorem dX3_isOnWay_30 : decode cX3_isOnWay 30 = .ok (.goto 4, 3) := by decide +kernel
theorem dX3_isOnWay_33 : decode cX3_isOnWay 33 = .ok (.iconst 0, 1) := by decide +kernel
theorem dX3_isOnWay_34 : decode cX3_isOnWay 34 = .ok (.ireturn, 1) := by decide +kernel
theorem dX3_isFault_0 : decode cX3_isFault 0 = .ok (.aload_n 0, 1) := by decide +kernel
theorem dX3_isFault_1 : decode cX3_isFault 1 = .ok (.iload_n 1, 1) := by decide +kernel
theorem dX3_isFault_2 : decode cX3_isFault 2 = .ok (.invokevirtual 37, 3) := by decide +kernel
theorem dX3_isFault_5 : decode cX3_isFault 5 = .ok (.ifCond .eq 28, 3) := by decide +kernel
theorem dX3_isFault_8 : decode cX3_isFault 8 = .ok (.iload_n 2, 1) := by decide +kernel
theorem dX3_isFault_9 : decode cX3_isFault 9 = .ok (.iconst 0, 1) := by decide +kernel
theorem dX3_isFault_10 : decode cX3_isFault 10 = .ok (.bipush 16, 2) := by decide +kernel
theorem dX3_isFault_12 : decode cX3_isFault 12 = .ok (.invokestatic 45, 3) := by decide +kernel
theorem dX3_isFault_15 : decode cX3_isFault 15 = .ok (.ifCond .eq 18, 3) := by decide +kernel
theorem dX3_isFault_18 : decode cX3_isFault 18 = .ok (.iload_n 3, 1) := by decide +kernel
theorem dX3_isFault_19 : decode cX3_isFault 19 = .ok (.iconst 0, 1) := by decide +kernel
theorem dX3_isFault_20 : decode cX3_isFault 20 = .ok (.sipush 1000, 3) := by decide +kernel
theorem dX3_isFault_23 : decode cX3_isFault 23 = .ok (.invokestatic 45, 3) := by decide +kernel
theorem dX3_isFault_26 : decode cX3_isFault 26 = .ok (.ifCond .eq 7, 3) := by decide +kernel
theorem dX3_isFault_29 : decode cX3_isFault 29 = .ok (.iconst 1, 1) := by decide +kernel
theorem dX3_isFault_30 : decode cX3_isFault 30 = .ok (.goto 4, 3) := by decide +kernel
theorem dX3_isFault_33 : decode cX3_isFault 33 = .ok (.iconst 0, 1) := by decide +kernel
theorem dX3_isFault_34 : decode cX3_isFault 34 = .ok (.ireturn, 1) := by decide +kernel
theorem dX3_hang_0 : decode cX3_hang 0 = .ok (.aload_n 0, 1) := by decide +kernel
theorem dX3_hang_1 : decode cX3_hang 1 = .ok (.getfield 9, 3) := by decide +kernel
theorem dX3_hang_4 : decode cX3_hang 4 = .ok (.istore_n 3, 1) := by decide +kernel
theorem dX3_hang_5 : decode cX3_hang 5 = .ok (.aload_n 0, 1) := by decide +kernel
theorem dX3_hang_6 : decode cX3_hang 6 = .ok (.getfield 21, 3) := by decide +kernel
theorem dX3_hang_9 : decode cX3_hang 9 = .ok (.iload_n 3, 1) := by decide +kernel
theorem dX3_hang_10 : decode cX3_hang 10 = .ok (.iload_n 1, 1) := by decide +kernel
theorem dX3_hang_11 : decode cX3_hang 11 = .ok (.iastore, 1) := by decide +kernel
theorem dX3_hang_12 : decode cX3_hang 12 = .ok (.aload_n 0, 1) := by decide +kernel
theorem dX3_hang_13 : decode cX3_hang 13 = .ok (.getfield 25, 3) := by decide +kernel
theorem dX3_hang_16 : decode cX3_hang 16 = .ok (.iload_n 3, 1) := by decide +kernel
theorem dX3_hang_17 : decode cX3_hang 17 = .ok (.iload_n 2, 1) := by decide +kernel
theorem dX3_hang_18 : decode cX3_hang 18 = .ok (.iastore, 1) := by decide +kernel
theorem dX3_hang_19 : decode cX3_hang 19 = .ok (.aload_n 0, 1) := by decide +kernel
theorem dX3_hang_20 : decode cX3_hang 20 = .ok (.getfield 28, 3) := by decide +kernel
theorem dX3_hang_23 : decode cX3_hang 23 = .ok (.iload_n 3, 1) := by decide +kernel
theorem dX3_hang_24 : decode cX3_hang 24 = .ok (.aload_n 0, 1) := by decide +kernel
theorem dX3_hang_25 : decode cX3_hang 25 = .ok (.getfield 28, 3) := by decide +kernel
theorem dX3_hang_28 : decode cX3_hang 28 = .ok (.iload_n 1, 1) := by decide +kernel
theorem dX3_hang_29 : decode cX3_hang 29 = .ok (.iaload, 1) := by decide +kernel
theorem dX3_hang_30 : decode cX3_hang 30 = .ok (.aload_n 0, 1) := by decide +kernel
theorem dX3_hang_31 : decode cX3_hang 31 = .ok (.getfield 25, 3) := by decide +kernel
theorem dX3_hang_34 : decode cX3_hang 34 = .ok (.iload_n 1, 1) := by decide +kernel
theorem dX3_hang_35 : decode cX3_hang 35 = .ok (.iaload, 1) := by decide +kernel
theorem dX3_hang_36 : decode cX3_hang 36 = .ok (.iadd, 1) := by decide +kernel
theorem dX3_hang_37 : decode cX3_hang 37 = .ok (.iastore, 1) := by decide +kernel
theorem dX3_hang_38 : decode cX3_hang 38 = .ok (.aload_n 0, 1) := by decide +kernel
theorem dX3_hang_39 : decode cX3_hang 39 = .ok (.getfield 31, 3) := by decide +kernel
theorem dX3_hang_42 : decode cX3_hang 42 = .ok (.iload_n 3, 1) := by decide +kernel
theorem dX3_hang_43 : decode cX3_hang 43 = .ok (.aload_n 0, 1) := by decide +kernel
theorem dX3_hang_44 : decode cX3_hang 44 = .ok (.getfield 31, 3) := by decide +kernel
theorem dX3_hang_47 : decode cX3_hang 47 = .ok (.iload_n 1, 1) := by decide +kernel
theorem dX3_hang_48 : decode cX3_hang 48 = .ok (.iaload, 1) := by decide +kernel
theorem dX3_hang_49 : decode cX3_hang 49 = .ok (.iconst 1, 1) := by decide +kernel
theorem dX3_hang_50 : decode cX3_hang 50 = .ok (.iload_n 3, 1) := by decide +kernel
theorem dX3_hang_51 : decode cX3_hang 51 = .ok (.ishl, 1) := by decide +kernel
theorem dX3_hang_52 : decode cX3_hang 52 = .ok (.ior, 1) := by decide +kernel
theorem dX3_hang_53 : decode cX3_hang 53 = .ok (.iastore, 1) := by decide +kernel
theorem dX3_hang_54 : decode cX3_hang 54 = .ok (.aload_n 0, 1) := by decide +kernel
theorem dX3_hang_55 : decode cX3_hang 55 = .ok (.iload_n 3, 1) := by decide +kernel
theorem dX3_hang_56 : decode cX3_hang 56 = .ok (.iconst 1, 1) := by decide +kernel
theorem dX3_hang_57 : decode cX3_hang 57 = .ok (.iadd, 1) := by decide +kernel
theorem dX3_hang_58 : decode cX3_hang 58 = .ok (.putfield 9, 3) := by decide +kernel
theorem dX3_hang_61 : decode cX3_hang 61 = .ok (.iload_n 3, 1) := by decide +kernel
theorem dX3_hang_62 : decode cX3_hang 62 = .ok (.ireturn, 1) := by decide +kernel
theorem dX3_sumOf_0 : decode cX3_sumOf 0 = .ok (.ldc2_w 49, 3) := by decide +kernel
theorem dX3_sumOf_3 : decode cX3_sumOf 3 = .ok (.aload_n 0, 1) := by decide +kernel
theorem dX3_sumOf_4 : decode cX3_sumOf 4 = .ok (.getfield 18, 3) := by decide +kernel
theorem dX3_sumOf_7 : decode cX3_sumOf 7 = .ok (.aload_n 0, 1) := by decide +kernel
theorem dX3_sumOf_8 : decode cX3_sumOf 8 = .ok (.getfield 28, 3) := by decide +kernel
theorem dX3_sumOf_11 : decode cX3_sumOf 11 = .ok (.iload_n 1, 1) := by decide +kernel
theorem dX3_sumOf_12 : decode cX3_sumOf 12 = .ok (.iaload, 1) := by decide +kernel
theorem dX3_sumOf_13 : decode cX3_sumOf 13 = .ok (.iadd, 1) := by decide +kernel
theorem dX3_sumOf_14 : decode cX3_sumOf 14 = .ok (.iload_n 3, 1) := by decide +kernel
theorem dX3_sumOf_15 : decode cX3_sumOf 15 = .ok (.iadd, 1) := by decide +kernel
theorem dX3_sumOf_16 : decode cX3_sumOf 16 = .ok (.i2l, 1) := by decide +kernel
theorem dX3_sumOf_17 : decode cX3_sumOf 17 = .ok (.lmul, 1) := by decide +kernel
theorem dX3_sumOf_18 : decode cX3_sumOf 18 = .ok (.iload_n 2, 1) := by decide +kernel
theorem dX3_sumOf_19 : decode cX3_sumOf 19 = .ok (.i2l, 1) := by decide +kernel
theorem dX3_sumOf_20 : decode cX3_sumOf 20 = .ok (.aload_n 0, 1) := by decide +kernel
theorem dX3_sumOf_21 : decode cX3_sumOf 21 = .ok (.getfield 25, 3) := by decide +kernel
theorem dX3_sumOf_24 : decode cX3_sumOf 24 = .ok (.iload_n 1, 1) := by decide +kernel
theorem dX3_sumOf_25 : decode cX3_sumOf 25 = .ok (.iaload, 1) := by decide +kernel
theorem dX3_sumOf_26 : decode cX3_sumOf 26 = .ok (.i2l, 1) := by decide +kernel
theorem dX3_sumOf_27 : decode cX3_sumOf 27 = .ok (.lmul, 1) := by decide +kernel
theorem dX3_sumOf_28 : decode cX3_sumOf 28 = .ok (.ladd, 1) := by decide +kernel
theorem dX3_sumOf_29 : decode cX3_sumOf 29 = .ok (.lreturn, 1) := by decide +kernel
theorem dX3_sixteenForces_0 : decode cX3_sixteenForces 0 = .ok (.ldc2_w 49, 3) := by decide +kernel
theorem dX3_sixteenForces_3 : decode cX3_sixteenForces 3 = .ok (.aload_n 0, 1) := by decide +kernel
theorem dX3_sixteenForces_4 : decode cX3_sixteenForces 4 = .ok (.getfield 15, 3) := by decide +kernel
theorem dX3_sixteenForces_7 : decode cX3_sixteenForces 7 = .ok (.i2l, 1) := by decide +kernel
theorem dX3_sixteenForces_8 : decode cX3_sixteenForces 8 = .ok (.lmul, 1) := by decide +kernel
theorem dX3_sixteenForces_9 : decode cX3_sixteenForces 9 = .ok (.lreturn, 1) := by decide +kernel
theorem dX3_currentByLoads_0 : decode cX3_currentByLoads 0 = .ok (.iconst 0, 1) := by decide +kernel
theorem dX3_currentByLoads_1 : decode cX3_currentByLoads 1 = .ok (.istore_n 2, 1) := by decide +kernel
theorem dX3_currentByLoads_2 : decode cX3_currentByLoads 2 = .ok (.iload_n 1, 1) := by decide +kernel
theorem dX3_currentByLoads_3 : decode cX3_currentByLoads 3 = .ok (.istore_n 3, 1) := by decide +kernel
theorem dX3_currentByLoads_4 : decode cX3_currentByLoads 4 = .ok (.iload_n 3, 1) := by decide +kernel
theorem dX3_currentByLoads_5 : decode cX3_currentByLoads 5 = .ok (.aload_n 0, 1) := by decide +kernel
theorem dX3_currentByLoads_6 : decode cX3_currentByLoads 6 = .ok (.getfield 9, 3) := by decide +kernel
theorem dX3_currentByLoads_9 : decode cX3_currentByLoads 9 = .ok (.if_icmp .ge 31, 3) := by decide +kernel
theorem dX3_currentByLoads_12 : decode cX3_currentByLoads 12 = .ok (.aload_n 0, 1) := by decide +kernel
theorem dX3_currentByLoads_13 : decode cX3_currentByLoads 13 = .ok (.getfield 31, 3) := by decide +kernel
theorem dX3_currentByLoads_16 : decode cX3_currentByLoads 16 = .ok (.iload_n 3, 1) := by decide +kernel
theorem dX3_currentByLoads_17 : decode cX3_currentByLoads 17 = .ok (.iaload, 1) := by decide +kernel
theorem dX3_currentByLoads_18 : decode cX3_currentByLoads 18 = .ok (.iload_n 1, 1) := by decide +kernel
theorem dX3_currentByLoads_19 : decode cX3_currentByLoads 19 = .ok (.invokestatic 41, 3) := by decide +kernel
theorem dX3_currentByLoads_22 : decode cX3_currentByLoads 22 = .ok (.ifCond .eq 12, 3) := by decide +kernel
theorem dX3_currentByLoads_25 : decode cX3_currentByLoads 25 = .ok (.iload_n 2, 1) := by decide +kernel
theorem dX3_currentByLoads_26 : decode cX3_currentByLoads 26 = .ok (.aload_n 0, 1) := by decide +kernel
theorem dX3_currentByLoads_27 : decode cX3_currentByLoads 27 = .ok (.getfield 34, 3) := by decide +kernel
theorem dX3_currentByLoads_30 : decode cX3_currentByLoads 30 = .ok (.iload_n 3, 1) := by decide +kernel
theorem dX3_currentByLoads_31 : decode cX3_currentByLoads 31 = .ok (.iaload, 1) := by decide +kernel
theorem dX3_currentByLoads_32 : decode cX3_currentByLoads 32 = .ok (.iadd, 1) := by decide +kernel
theorem dX3_currentByLoads_33 : decode cX3_currentByLoads 33 = .ok (.istore_n 2, 1) := by decide +kernel
theorem dX3_currentByLoads_34 : decode cX3_currentByLoads 34 = .ok (.iinc 3 1, 3) := by decide +kernel
theorem dX3_currentByLoads_37 : decode cX3_currentByLoads 37 = .ok (.goto (-33), 3) := by decide +kernel
theorem dX3_currentByLoads_40 : decode cX3_currentByLoads 40 = .ok (.iload_n 2, 1) := by decide +kernel
theorem dX3_currentByLoads_41 : decode cX3_currentByLoads 41 = .ok (.ireturn, 1) := by decide +kernel
theorem dX4_init_0 : decode cX4_init 0 = .ok (.aload_n 0, 1) := by decide +kernel
theorem dX4_init_1 : decode cX4_init 1 = .ok (.invokespecial 3, 3) := by decide +kernel
theorem dX4_init_4 : decode cX4_init 4 = .ok (.aload_n 0, 1) := by decide +kernel
theorem dX4_init_5 : decode cX4_init 5 = .ok (.bipush 10, 2) := by decide +kernel
theorem dX4_init_7 : decode cX4_init 7 = .ok (.newarray .int, 2) := by decide +kernel
theorem dX4_init_9 : decode cX4_init 9 = .ok (.putfield 9, 3) := by decide +kernel
theorem dX4_init_12 : decode cX4_init 12 = .ok (.aload_n 0, 1) := by decide +kernel
theorem dX4_init_13 : decode cX4_init 13 = .ok (.bipush 10, 2) := by decide +kernel
theorem dX4_init_15 : decode cX4_init 15 = .ok (.newarray .int, 2) := by decide +kernel
theorem dX4_init_17 : decode cX4_init 17 = .ok (.putfield 15, 3) := by decide +kernel
theorem dX4_init_20 : decode cX4_init 20 = .ok (.aload_n 0, 1) := by decide +kernel
theorem dX4_init_21 : decode cX4_init 21 = .ok (.bipush 10, 2) := by decide +kernel
theorem dX4_init_23 : decode cX4_init 23 = .ok (.newarray .int, 2) := by decide +kernel
theorem dX4_init_25 : decode cX4_init 25 = .ok (.putfield 18, 3) := by decide +kernel
theorem dX4_init_28 : decode cX4_init 28 = .ok (.aload_n 0, 1) := by decide +kernel
theorem dX4_init_29 : decode cX4_init 29 = .ok (.bipush 30, 2) := by decide +kernel
theorem dX4_init_31 : decode cX4_init 31 = .ok (.newarray .int, 2) := by decide +kernel
theorem dX4_init_33 : decode cX4_init 33 = .ok (.putfield 21, 3) := by decide +kernel
theorem dX4_init_36 : decode cX4_init 36 = .ok (.aload_n 0, 1) := by decide +kernel
theorem dX4_init_37 : decode cX4_init 37 = .ok (.aload_n 1, 1) := by decide +kernel
theorem dX4_init_38 : decode cX4_init 38 = .ok (.putfield 24, 3) := by decide +kernel
theorem dX4_init_41 : decode cX4_init 41 = .ok (.aload_n 0, 1) := by decide +kernel
theorem dX4_init_42 : decode cX4_init 42 = .ok (.aload_n 2, 1) := by decide +kernel
theorem dX4_init_43 : decode cX4_init 43 = .ok (.putfield 28, 3) := by decide +kernel
theorem dX4_init_46 : decode cX4_init 46 = .ok (.return_, 1) := by decide +kernel
theorem dX4_gatherLines_0 : decode cX4_gatherLines 0 = .ok (.aload_n 0, 1) := by decide +kernel
theorem dX4_gatherLines_1 : decode cX4_gatherLines 1 = .ok (.iconst 0, 1) := by decide +kernel
theorem dX4_gatherLines_2 : decode cX4_gatherLines 2 = .ok (.putfield 32, 3) := by decide +kernel
theorem dX4_gatherLines_5 : decode cX4_gatherLines 5 = .ok (.iconst 1, 1) := by decide +kernel
theorem dX4_gatherLines_6 : decode cX4_gatherLines 6 = .ok (.istore_n 1, 1) := by decide +kernel
theorem dX4_gatherLines_7 : decode cX4_gatherLines 7 = .ok (.iload_n 1, 1) := by decide +kernel
theorem dX4_gatherLines_8 : decode cX4_gatherLines 8 = .ok (.bipush 30, 2) := by decide +kernel
theorem dX4_gatherLines_10 : decode cX4_gatherLines 10 = .ok (.if_icmp .ge 74, 3) := by decide +kernel
theorem dX4_gatherLines_13 : decode cX4_gatherLines 13 = .ok (.aload_n 0, 1) := by decide +kernel
theorem dX4_gatherLines_14 : decode cX4_gatherLines 14 = .ok (.getfield 24, 3) := by decide +kernel
theorem dX4_gatherLines_17 : decode cX4_gatherLines 17 = .ok (.getfield 36, 3) := by decide +kernel
theorem dX4_gatherLines_20 : decode cX4_gatherLines 20 = .ok (.iload_n 1, 1) := by decide +kernel
theorem dX4_gatherLines_21 : decode cX4_gatherLines 21 = .ok (.iaload, 1) := by decide +kernel
theorem dX4_gatherLines_22 : decode cX4_gatherLines 22 = .ok (.iconst (-1), 1) := by decide +kernel
theorem dX4_gatherLines_23 : decode cX4_gatherLines 23 = .ok (.if_icmp .eq 55, 3) := by decide +kernel
theorem dX4_gatherLines_26 : decode cX4_gatherLines 26 = .ok (.aload_n 0, 1) := by decide +kernel
theorem dX4_gatherLines_27 : decode cX4_gatherLines 27 = .ok (.getfield 24, 3) := by decide +kernel
theorem dX4_gatherLines_30 : decode cX4_gatherLines 30 = .ok (.getfield 36, 3) := by decide +kernel
theorem dX4_gatherLines_33 : decode cX4_gatherLines 33 = .ok (.iload_n 1, 1) := by decide +kernel
theorem dX4_gatherLines_34 : decode cX4_gatherLines 34 = .ok (.iaload, 1) := by decide +kernel
theorem dX4_gatherLines_35 : decode cX4_gatherLines 35 = .ok (.aload_n 0, 1) := by decide +kernel
theorem dX4_gatherLines_36 : decode cX4_gatherLines 36 = .ok (.getfield 24, 3) := by decide +kernel
theorem dX4_gatherLines_39 : decode cX4_gatherLines 39 = .ok (.getfield 41, 3) := by decide +kernel
theorem dX4_gatherLines_42 : decode cX4_gatherLines 42 = .ok (.iload_n 1, 1) := by decide +kernel
theorem dX4_gatherLines_43 : decode cX4_gatherLines 43 = .ok (.iaload, 1) := by decide +kernel
theorem dX4_gatherLines_44 : decode cX4_gatherLines 44 = .ok (.if_icmp .eq 34, 3) := by decide +kernel
theorem dX4_gatherLines_47 : decode cX4_gatherLines 47 = .ok (.aload_n 0, 1) := by decide +kernel
theorem dX4_gatherLines_48 : decode cX4_gatherLines 48 = .ok (.getfield 32, 3) := by decide +kernel
theorem dX4_gatherLines_51 : decode cX4_gatherLines 51 = .ok (.bipush 10, 2) := by decide +kernel
theorem dX4_gatherLines_53 : decode cX4_gatherLines 53 = .ok (.if_icmp .lt 5, 3) := by decide +kernel
theorem dX4_gatherLines_56 : decode cX4_gatherLines 56 = .ok (.iconst 0, 1) := by decide +kernel
theorem dX4_gatherLines_57 : decode cX4_gatherLines 57 = .ok (.ireturn, 1) := by decide +kernel
theorem dX4_gatherLines_58 : decode cX4_gatherLines 58 = .ok (.aload_n 0, 1) := by decide +kernel
theorem dX4_gatherLines_59 : decode cX4_gatherLines 59 = .ok (.getfield 15, 3) := by decide +kernel
theorem dX4_gatherLines_62 : decode cX4_gatherLines 62 = .ok (.aload_n 0, 1) := by decide +kernel
theorem dX4_gatherLines_63 : decode cX4_gatherLines 63 = .ok (.getfield 32, 3) := by decide +kernel
theorem dX4_gatherLines_66 : decode cX4_gatherLines 66 = .ok (.iload_n 1, 1) := by decide +kernel
theorem dX4_gatherLines_67 : decode cX4_gatherLines 67 = .ok (.iastore, 1) := by decide +kernel
theorem dX4_gatherLines_68 : decode cX4_gatherLines 68 = .ok (.aload_n 0, 1) := by decide +kernel
theorem dX4_gatherLines_69 : decode cX4_gatherLines 69 = .ok (.dup, 1) := by decide +kernel
theorem dX4_gatherLines_70 : decode cX4_gatherLines 70 = .ok (.getfield 32, 3) := by decide +kernel
theorem dX4_gatherLines_73 : decode cX4_gatherLines 73 = .ok (.iconst 1, 1) := by decide +kernel
theorem dX4_gatherLines_74 : decode cX4_gatherLines 74 = .ok (.iadd, 1) := by decide +kernel
theorem dX4_gatherLines_75 : decode cX4_gatherLines 75 = .ok (.putfield 32, 3) := by decide +kernel
theorem dX4_gatherLines_78 : decode cX4_gatherLines 78 = .ok (.iinc 1 1, 3) := by decide +kernel
theorem dX4_gatherLines_81 : decode cX4_gatherLines 81 = .ok (.goto (-74), 3) := by decide +kernel
theorem dX4_gatherLines_84 : decode cX4_gatherLines 84 = .ok (.iconst 1, 1) := by decide +kernel
theorem dX4_gatherLines_85 : decode cX4_gatherLines 85 = .ok (.ireturn, 1) := by decide +kernel
theorem dX4_find_0 : decode cX4_find 0 = .ok (.aload_n 0, 1) := by decide +kernel
theorem dX4_find_1 : decode cX4_find 1 = .ok (.getfield 24, 3) := by decide +kernel
theorem dX4_find_4 : decode cX4_find 4 = .ok (.getfield 41, 3) := by decide +kernel
theorem dX4_find_7 : decode cX4_find 7 = .ok (.iconst 0, 1) := by decide +kernel
theorem dX4_find_8 : decode cX4_find 8 = .ok (.aload_n 0, 1) := by decide +kernel
theorem dX4_find_9 : decode cX4_find 9 = .ok (.getfield 21, 3) := by decide +kernel
theorem dX4_find_12 : decode cX4_find 12 = .ok (.iconst 0, 1) := by decide +kernel
theorem dX4_find_13 : decode cX4_find 13 = .ok (.bipush 30, 2) := by decide +kernel
theorem dX4_find_15 : decode cX4_find 15 = .ok (.invokestatic 42, 3) := by decide +kernel
theorem dX4_find_18 : decode cX4_find 18 = .ok (.iconst 0, 1) := by decide +kernel
theorem dX4_find_19 : decode cX4_find 19 = .ok (.istore_n 1, 1) := by decide +kernel
theorem dX4_find_20 : decode cX4_find 20 = .ok (.iconst 0, 1) := by decide +kernel
theorem dX4_find_21 : decode cX4_find 21 = .ok (.istore_n 2, 1) := by decide +kernel
theorem dX4_find_22 : decode cX4_find 22 = .ok (.iload_n 2, 1) := by decide +kernel
theorem dX4_find_23 : decode cX4_find 23 = .ok (.aload_n 0, 1) := by decide +kernel
theorem dX4_find_24 : decode cX4_find 24 = .ok (.getfield 32, 3) := by decide +kernel
theorem dX4_find_27 : decode cX4_find 27 = .ok (.if_icmp .ge 46, 3) := by decide +kernel
theorem dX4_find_30 : decode cX4_find 30 = .ok (.iload_n 2, 1) := by decide +kernel
theorem dX4_find_31 : decode cX4_find 31 = .ok (.bipush 10, 2) := by decide +kernel
theorem dX4_find_33 : decode cX4_find 33 = .ok (.if_icmp .ge 40, 3) := by decide +kernel
theorem dX4_find_36 : decode cX4_find 36 = .ok (.aload_n 0, 1) := by decide +kernel
theorem dX4_find_37 : decode cX4_find 37 = .ok (.iload_n 1, 1) := by decide +kernel
theorem dX4_find_38 : decode cX4_find 38 = .ok (.invokevirtual 48, 3) := by decide +kernel
theorem dX4_find_41 : decode cX4_find 41 = .ok (.istore_n 3, 1) := by decide +kernel
theorem dX4_find_42 : decode cX4_find 42 = .ok (.iload_n 3, 1) := by decide +kernel
theorem dX4_find_43 : decode cX4_find 43 = .ok (.iconst (-1), 1) := by decide +kernel
theorem dX4_find_44 : decode cX4_find 44 = .ok (.if_icmp .ne 5, 3) := by decide +kernel
theorem dX4_find_47 : decode cX4_find 47 = .ok (.iconst (-1), 1) := by decide +kernel
theorem dX4_find_48 : decode cX4_find 48 = .ok (.ireturn, 1) := by decide +kernel
theorem dX4_find_49 : decode cX4_find 49 = .ok (.iload_n 1, 1) := by decide +kernel
theorem dX4_find_50 : decode cX4_find 50 = .ok (.iconst 1, 1) := by decide +kernel
theorem dX4_find_51 : decode cX4_find 51 = .ok (.iload_n 3, 1) := by decide +kernel
theorem dX4_find_52 : decode cX4_find 52 = .ok (.ishl, 1) := by decide +kernel
theorem dX4_find_53 : decode cX4_find 53 = .ok (.ior, 1) := by decide +kernel
theorem dX4_find_54 : decode cX4_find 54 = .ok (.istore_n 1, 1) := by decide +kernel
theorem dX4_find_55 : decode cX4_find 55 = .ok (.aload_n 0, 1) := by decide +kernel
theorem dX4_find_56 : decode cX4_find 56 = .ok (.getfield 18, 3) := by decide +kernel
theorem dX4_find_59 : decode cX4_find 59 = .ok (.iload_n 2, 1) := by decide +kernel
theorem dX4_find_60 : decode cX4_find 60 = .ok (.aload_n 0, 1) := by decide +kernel
theorem dX4_find_61 : decode cX4_find 61 = .ok (.getfield 15, 3) := by decide +kernel
theorem dX4_find_64 : decode cX4_find 64 = .ok (.iload_n 3, 1) := by decide +kernel
theorem dX4_find_65 : decode cX4_find 65 = .ok (.iaload, 1) := by decide +kernel
theorem dX4_find_66 : decode cX4_find 66 = .ok (.iastore, 1) := by decide +kernel
theorem dX4_find_67 : decode cX4_find 67 = .ok (.iinc 2 1, 3) := by decide +kernel
theorem dX4_find_70 : decode cX4_find 70 = .ok (.goto (-48), 3) := by decide +kernel
theorem dX4_find_73 : decode cX4_find 73 = .ok (.aload_n 0, 1) := by decide +kernel
theorem dX4_find_74 : decode cX4_find 74 = .ok (.getfield 18, 3) := by decide +kernel
theorem dX4_find_77 : decode cX4_find 77 = .ok (.iconst 0, 1) := by decide +kernel
theorem dX4_find_78 : decode cX4_find 78 = .ok (.aload_n 0, 1) := by decide +kernel
theorem dX4_find_79 : decode cX4_find 79 = .ok (.getfield 9, 3) := by decide +kernel
theorem dX4_find_82 : decode cX4_find 82 = .ok (.iconst 0, 1) := by decide +kernel
theorem dX4_find_83 : decode cX4_find 83 = .ok (.bipush 10, 2) := by decide +kernel
theorem dX4_find_85 : decode cX4_find 85 = .ok (.invokestatic 42, 3) := by decide +kernel
theorem dX4_find_88 : decode cX4_find 88 = .ok (.aload_n 0, 1) := by decide +kernel
theorem dX4_find_89 : decode cX4_find 89 = .ok (.aload_n 0, 1) := by decide +kernel
theorem dX4_find_90 : decode cX4_find 90 = .ok (.getfield 32, 3) := by decide +kernel
theorem dX4_find_93 : decode cX4_find 93 = .ok (.putfield 52, 3) := by decide +kernel
theorem dX4_find_96 : decode cX4_find 96 = .ok (.aload_n 0, 1) := by decide +kernel
theorem dX4_find_97 : decode cX4_find 97 = .ok (.getfield 52, 3) := by decide +kernel
theorem dX4_find_100 : decode cX4_find 100 = .ok (.ireturn, 1) := by decide +kernel
theorem dX4_lowestThatCanGo_0 : decode cX4_lowestThatCanGo 0 = .ok (.iconst 0, 1) := by decide +kernel
theorem dX4_lowestThatCanGo_1 : decode cX4_lowestThatCanGo 1 = .ok (.istore_n 2, 1) := by decide +kernel
theorem dX4_lowestThatCanGo_2 : decode cX4_lowestThatCanGo 2 = .ok (.iload_n 2, 1) := by decide +kernel
theorem dX4_lowestThatCanGo_3 : decode cX4_lowestThatCanGo 3 = .ok (.aload_n 0, 1) := by decide +kernel
theorem dX4_lowestThatCanGo_4 : decode cX4_lowestThatCanGo 4 = .ok (.getfield 32, 3) := by decide +kernel
theorem dX4_lowestThatCanGo_7 : decode cX4_lowestThatCanGo 7 = .ok (.if_icmp .ge 71, 3) := by decide +kernel
theorem dX4_lowestThatCanGo_10 : decode cX4_lowestThatCanGo 10 = .ok (.iload_n 1, 1) := by decide +kernel
theorem dX4_lowestThatCanGo_11 : decode cX4_lowestThatCanGo 11 = .ok (.iload_n 2, 1) := by decide +kernel
theorem dX4_lowestThatCanGo_12 : decode cX4_lowestThatCanGo 12 = .ok (.invokestatic 55, 3) := by decide +kernel
theorem dX4_lowestThatCanGo_15 : decode cX4_lowestThatCanGo 15 = .ok (.ifCond .ne 57, 3) := by decide +kernel
theorem dX4_lowestThatCanGo_18 : decode cX4_lowestThatCanGo 18 = .ok (.aload_n 0, 1) := by decide +kernel
theorem dX4_lowestThatCanGo_19 : decode cX4_lowestThatCanGo 19 = .ok (.getfield 15, 3) := by decide +kernel
theorem dX4_lowestThatCanGo_22 : decode cX4_lowestThatCanGo 22 = .ok (.iload_n 2, 1) := by decide +kernel
theorem dX4_lowestThatCanGo_23 : decode cX4_lowestThatCanGo 23 = .ok (.iaload, 1) := by decide +kernel
theorem dX4_lowestThatCanGo_24 : decode cX4_lowestThatCanGo 24 = .ok (.istore_n 3, 1) := by decide +kernel
theorem dX4_lowestThatCanGo_25 : decode cX4_lowestThatCanGo 25 = .ok (.aload_n 0, 1) := by decide +kernel
theorem dX4_lowestThatCanGo_26 : decode cX4_lowestThatCanGo 26 = .ok (.getfield 21, 3) := by decide +kernel
theorem dX4_lowestThatCanGo_29 : decode cX4_lowestThatCanGo 29 = .ok (.iload_n 3, 1) := by decide +kernel
theorem dX4_lowestThatCanGo_30 : decode cX4_lowestThatCanGo 30 = .ok (.aload_n 0, 1) := by decide +kernel
theorem dX4_lowestThatCanGo_31 : decode cX4_lowestThatCanGo 31 = .ok (.getfield 24, 3) := by decide +kernel
theorem dX4_lowestThatCanGo_34 : decode cX4_lowestThatCanGo 34 = .ok (.getfield 36, 3) := by decide +kernel
theorem dX4_lowestThatCanGo_37 : decode cX4_lowestThatCanGo 37 = .ok (.iload_n 3, 1) := by decide +kernel
theorem dX4_lowestThatCanGo_38 : decode cX4_lowestThatCanGo 38 = .ok (.iaload, 1) := by decide +kernel
theorem dX4_lowestThatCanGo_39 : decode cX4_lowestThatCanGo 39 = .ok (.iastore, 1) := by decide +kernel
theorem dX4_lowestThatCanGo_40 : decode cX4_lowestThatCanGo 40 = .ok (.aload_n 0, 1) := by decide +kernel
theorem dX4_lowestThatCanGo_41 : decode cX4_lowestThatCanGo 41 = .ok (.getfield 28, 3) := by decide +kernel
theorem dX4_lowestThatCanGo_44 : decode cX4_lowestThatCanGo 44 = .ok (.iload_n 3, 1) := by decide +kernel
theorem dX4_lowestThatCanGo_45 : decode cX4_lowestThatCanGo 45 = .ok (.aload_n 0, 1) := by decide +kernel
theorem dX4_lowestThatCanGo_46 : decode cX4_lowestThatCanGo 46 = .ok (.getfield 21, 3) := by decide +kernel
theorem dX4_lowestThatCanGo_49 : decode cX4_lowestThatCanGo 49 = .ok (.invokevirtual 59, 3) := by decide +kernel
theorem dX4_lowestThatCanGo_52 : decode cX4_lowestThatCanGo 52 = .ok (.ifCond .eq 5, 3) := by decide +kernel
theorem dX4_lowestThatCanGo_55 : decode cX4_lowestThatCanGo 55 = .ok (.iload_n 2, 1) := by decide +kernel
theorem dX4_lowestThatCanGo_56 : decode cX4_lowestThatCanGo 56 = .ok (.ireturn, 1) := by decide +kernel
theorem dX4_lowestThatCanGo_57 : decode cX4_lowestThatCanGo 57 = .ok (.aload_n 0, 1) := by decide +kernel
theorem dX4_lowestThatCanGo_58 : decode cX4_lowestThatCanGo 58 = .ok (.getfield 21, 3) := by decide +kernel
theorem dX4_lowestThatCanGo_61 : decode cX4_lowestThatCanGo 61 = .ok (.iload_n 3, 1) := by decide +kernel
theorem dX4_lowestThatCanGo_62 : decode cX4_lowestThatCanGo 62 = .ok (.aload_n 0, 1) := by decide +kernel
theorem dX4_lowestThatCanGo_63 : decode cX4_lowestThatCanGo 63 = .ok (.getfield 24, 3) := by decide +kernel
theorem dX4_lowestThatCanGo_66 : decode cX4_lowestThatCanGo 66 = .ok (.getfield 41, 3) := by decide +kernel
theorem dX4_lowestThatCanGo_69 : decode cX4_lowestThatCanGo 69 = .ok (.iload_n 3, 1) := by decide +kernel
theorem dX4_lowestThatCanGo_70 : decode cX4_lowestThatCanGo 70 = .ok (.iaload, 1) := by decide +kernel
theorem dX4_lowestThatCanGo_71 : decode cX4_lowestThatCanGo 71 = .ok (.iastore, 1) := by decide +kernel
theorem dX4_lowestThatCanGo_72 : decode cX4_lowestThatCanGo 72 = .ok (.iinc 2 1, 3) := by decide +kernel
theorem dX4_lowestThatCanGo_75 : decode cX4_lowestThatCanGo 75 = .ok (.goto (-73), 3) := by decide +kernel
theorem dX4_lowestThatCanGo_78 : decode cX4_lowestThatCanGo 78 = .ok (.iconst (-1), 1) := by decide +kernel
theorem dX4_lowestThatCanGo_79 : decode cX4_lowestThatCanGo 79 = .ok (.ireturn, 1) := by decide +kernel
theorem dX5_init_0 : decode cX5_init 0 = .ok (.aload_n 0, 1) := by decide +kernel
theorem dX5_init_1 : decode cX5_init 1 = .ok (.invokespecial 3, 3) := by decide +kernel
theorem dX5_init_4 : decode cX5_init 4 = .ok (.aload_n 0, 1) := by decide +kernel
theorem dX5_init_5 : decode cX5_init 5 = .ok (.bipush 8, 2) := by decide +kernel
theorem dX5_init_7 : decode cX5_init 7 = .ok (.anewarray 9, 3) := by decide +kernel
theorem dX5_init_10 : decode cX5_init 10 = .ok (.putfield 11, 3) := by decide +kernel
theorem dX5_init_13 : decode cX5_init 13 = .ok (.aload_n 0, 1) := by decide +kernel
theorem dX5_init_14 : decode cX5_init 14 = .ok (.bipush 30, 2) := by decide +kernel
theorem dX5_init_16 : decode cX5_init 16 = .ok (.newarray .int, 2) := by decide +kernel
theorem dX5_init_18 : decode cX5_init 18 = .ok (.putfield 17, 3) := by decide +kernel
theorem dX5_init_21 : decode cX5_init 21 = .ok (.aload_n 0, 1) := by decide +kernel
theorem dX5_init_22 : decode cX5_init 22 = .ok (.bipush 30, 2) := by decide +kernel
theorem dX5_init_24 : decode cX5_init 24 = .ok (.newarray .int, 2) := by decide +kernel
theorem dX5_init_26 : decode cX5_init 26 = .ok (.putfield 21, 3) := by decide +kernel
theorem dX5_init_29 : decode cX5_init 29 = .ok (.aload_n 0, 1) := by decide +kernel
theorem dX5_init_30 : decode cX5_init 30 = .ok (.bipush 30, 2) := by decide +kernel
theorem dX5_init_32 : decode cX5_init 32 = .ok (.newarray .int, 2) := by decide +kernel
theorem dX5_init_34 : decode cX5_init 34 = .ok (.putfield 24, 3) := by decide +kernel
theorem dX5_init_37 : decode cX5_init 37 = .ok (.aload_n 0, 1) := by decide +kernel
theorem dX5_init_38 : decode cX5_init 38 = .ok (.bipush 30, 2) := by decide +kernel
theorem dX5_init_40 : decode cX5_init 40 = .ok (.newarray .int, 2) := by decide +kernel
theorem dX5_init_42 : decode cX5_init 42 = .ok (.putfield 27, 3) := by decide +kernel
theorem dX5_init_45 : decode cX5_init 45 = .ok (.iconst 0, 1) := by decide +kernel
theorem dX5_init_46 : decode cX5_init 46 = .ok (.istore_n 1, 1) := by decide +kernel
theorem dX5_init_47 : decode cX5_init 47 = .ok (.iload_n 1, 1) := by decide +kernel
theorem dX5_init_48 : decode cX5_init 48 = .ok (.bipush 8, 2) := by decide +kernel
theorem dX5_init_50 : decode cX5_init 50 = .ok (.if_icmp .ge 22, 3) := by decide +kernel
theorem dX5_init_53 : decode cX5_init 53 = .ok (.aload_n 0, 1) := by decide +kernel
theorem dX5_init_54 : decode cX5_init 54 = .ok (.getfield 11, 3) := by decide +kernel
theorem dX5_init_57 : decode cX5_init 57 = .ok (.iload_n 1, 1) := by decide +kernel
theorem dX5_init_58 : decode cX5_init 58 = .ok (.new 9, 3) := by decide +kernel
theorem dX5_init_61 : decode cX5_init 61 = .ok (.dup, 1) := by decide +kernel
theorem dX5_init_62 : decode cX5_init 62 = .ok (.invokespecial 30, 3) := by decide +kernel
theorem dX5_init_65 : decode cX5_init 65 = .ok (.aastore, 1) := by decide +kernel
theorem dX5_init_66 : decode cX5_init 66 = .ok (.iinc 1 1, 3) := by decide +kernel
theorem dX5_init_69 : decode cX5_init 69 = .ok (.goto (-22), 3) := by decide +kernel
theorem dX5_init_72 : decode cX5_init 72 = .ok (.iconst 0, 1) := by decide +kernel
theorem dX5_init_73 : decode cX5_init 73 = .ok (.istore_n 1, 1) := by decide +kernel
theorem dX5_init_74 : decode cX5_init 74 = .ok (.iload_n 1, 1) := by decide +kernel
theorem dX5_init_75 : decode cX5_init 75 = .ok (.bipush 30, 2) := by decide +kernel
theorem dX5_init_77 : decode cX5_init 77 = .ok (.if_icmp .ge 16, 3) := by decide +kernel
theorem dX5_init_80 : decode cX5_init 80 = .ok (.aload_n 0, 1) := by decide +kernel
theorem dX5_init_81 : decode cX5_init 81 = .ok (.getfield 27, 3) := by decide +kernel
theorem dX5_init_84 : decode cX5_init 84 = .ok (.iload_n 1, 1) := by decide +kernel
theorem dX5_init_85 : decode cX5_init 85 = .ok (.iconst (-1), 1) := by decide +kernel
theorem dX5_init_86 : decode cX5_init 86 = .ok (.iastore, 1) := by decide +kernel
theorem dX5_init_87 : decode cX5_init 87 = .ok (.iinc 1 1, 3) := by decide +kernel
theorem dX5_init_90 : decode cX5_init 90 = .ok (.goto (-16), 3) := by decide +kernel
theorem dX5_init_93 : decode cX5_init 93 = .ok (.return_, 1) := by decide +kernel
theorem dX5_isThere_0 : decode cX5_isThere 0 = .ok (.aload_n 0, 1) := by decide +kernel
theorem dX5_isThere_1 : decode cX5_isThere 1 = .ok (.getfield 31, 3) := by decide +kernel
theorem dX5_isThere_4 : decode cX5_isThere 4 = .ok (.iload_n 1, 1) := by decide +kernel
theorem dX5_isThere_5 : decode cX5_isThere 5 = .ok (.invokestatic 35, 3) := by decide +kernel
theorem dX5_isThere_8 : decode cX5_isThere 8 = .ok (.ireturn, 1) := by decide +kernel
theorem dX5_place_0 : decode cX5_place 0 = .ok (.aload_n 0, 1) := by decide +kernel
theorem dX5_place_1 : decode cX5_place 1 = .ok (.dup, 1) := by decide +kernel
theorem dX5_place_2 : decode cX5_place 2 = .ok (.getfield 31, 3) := by decide +kernel
theorem dX5_place_5 : decode cX5_place 5 = .ok (.iconst 1, 1) := by decide +kernel
theorem dX5_place_6 : decode cX5_place 6 = .ok (.iload_n 1, 1) := by decide +kernel
theorem dX5_place_7 : decode cX5_place 7 = .ok (.ishl, 1) := by decide +kernel
theorem dX5_place_8 : decode cX5_place 8 = .ok (.ior, 1) := by decide +kernel
theorem dX5_place_9 : decode cX5_place 9 = .ok (.putfield 31, 3) := by decide +kernel
theorem dX5_place_12 : decode cX5_place 12 = .ok (.aload_n 0, 1) := by decide +kernel
theorem dX5_place_13 : decode cX5_place 13 = .ok (.dup, 1) := by decide +kernel
theorem dX5_place_14 : decode cX5_place 14 = .ok (.getfield 39, 3) := by decide +kernel
theorem dX5_place_17 : decode cX5_place 17 = .ok (.iconst 1, 1) := by decide +kernel
theorem dX5_place_18 : decode cX5_place 18 = .ok (.iload_n 1, 1) := by decide +kernel
theorem dX5_place_19 : decode cX5_place 19 = .ok (.ishl, 1) := by decide +kernel
theorem dX5_place_20 : decode cX5_place 20 = .ok (.iconst (-1), 1) := by decide +kernel
theorem dX5_place_21 : decode cX5_place 21 = .ok (.ixor, 1) := by decide +kernel
theorem dX5_place_22 : decode cX5_place 22 = .ok (.iand, 1) := by decide +kernel
theorem dX5_place_23 : decode cX5_place 23 = .ok (.putfield 39, 3) := by decide +kernel
theorem dX5_place_26 : decode cX5_place 26 = .ok (.aload_n 0, 1) := by decide +kernel
theorem dX5_place_27 : decode cX5_place 27 = .ok (.getfield 17, 3) := by decide +kernel
theorem dX5_place_30 : decode cX5_place 30 = .ok (.iload_n 1, 1) := by decide +kernel
theorem dX5_place_31 : decode cX5_place 31 = .ok (.iload_n 2, 1) := by decide +kernel
theorem dX5_place_32 : decode cX5_place 32 = .ok (.iastore, 1) := by decide +kernel
theorem dX5_place_33 : decode cX5_place 33 = .ok (.aload_n 0, 1) := by decide +kernel
theorem dX5_place_34 : decode cX5_place 34 = .ok (.getfield 21, 3) := by decide +kernel
theorem dX5_place_37 : decode cX5_place 37 = .ok (.iload_n 1, 1) := by decide +kernel
theorem dX5_place_38 : decode cX5_place 38 = .ok (.iload_n 3, 1) := by decide +kernel
theorem dX5_place_39 : decode cX5_place 39 = .ok (.iastore, 1) := by decide +kernel
theorem dX5_place_40 : decode cX5_place 40 = .ok (.aload_n 0, 1) := by decide +kernel
theorem dX5_place_41 : decode cX5_place 41 = .ok (.getfield 24, 3) := by decide +kernel
theorem dX5_place_44 : decode cX5_place 44 = .ok (.iload_n 1, 1) := by decide +kernel
theorem dX5_place_45 : decode cX5_place 45 = .ok (.iload 4, 2) := by decide +kernel
theorem dX5_place_47 : decode cX5_place 47 = .ok (.iastore, 1) := by decide +kernel
theorem dX5_place_48 : decode cX5_place 48 = .ok (.aload_n 0, 1) := by decide +kernel
theorem dX5_place_49 : decode cX5_place 49 = .ok (.getfield 27, 3) := by decide +kernel
theorem dX5_place_52 : decode cX5_place 52 = .ok (.iload_n 1, 1) := by decide +kernel
theorem dX5_place_53 : decode cX5_place 53 = .ok (.iconst (-1), 1) := by decide +kernel
theorem dX5_place_54 : decode cX5_place 54 = .ok (.iastore, 1) := by decide +kernel
theorem dX5_place_55 : decode cX5_place 55 = .ok (.return_, 1) := by decide +kernel
theorem dX5_takeAway_0 : decode cX5_takeAway 0 = .ok (.aload_n 0, 1) := by decide +kernel
theorem dX5_takeAway_1 : decode cX5_takeAway 1 = .ok (.dup, 1) := by decide +kernel
theorem dX5_takeAway_2 : decode cX5_takeAway 2 = .ok (.getfield 31, 3) := by decide +kernel
theorem dX5_takeAway_5 : decode cX5_takeAway 5 = .ok (.iconst 1, 1) := by decide +kernel
theorem dX5_takeAway_6 : decode cX5_takeAway 6 = .ok (.iload_n 1, 1) := by decide +kernel
theorem dX5_takeAway_7 : decode cX5_takeAway 7 = .ok (.ishl, 1) := by decide +kernel
theorem dX5_takeAway_8 : decode cX5_takeAway 8 = .ok (.iconst (-1), 1) := by decide +kernel
theorem dX5_takeAway_9 : decode cX5_takeAway 9 = .ok (.ixor, 1) := by decide +kernel
theorem dX5_takeAway_10 : decode cX5_takeAway 10 = .ok (.iand, 1) := by decide +kernel
theorem dX5_takeAway_11 : decode cX5_takeAway 11 = .ok (.putfield 31, 3) := by decide +kernel
theorem dX5_takeAway_14 : decode cX5_takeAway 14 = .ok (.aload_n 0, 1) := by decide +kernel
theorem dX5_takeAway_15 : decode cX5_takeAway 15 = .ok (.dup, 1) := by decide +kernel
theorem dX5_takeAway_16 : decode cX5_takeAway 16 = .ok (.getfield 39, 3) := by decide +kernel
theorem dX5_takeAway_19 : decode cX5_takeAway 19 = .ok (.iconst 1, 1) := by decide +kernel
theorem dX5_takeAway_20 : decode cX5_takeAway 20 = .ok (.iload_n 1, 1) := by decide +kernel
theorem dX5_takeAway_21 : decode cX5_takeAway 21 = .ok (.ishl, 1) := by decide +kernel
theorem dX5_takeAway_22 : decode cX5_takeAway 22 = .ok (.iconst (-1), 1) := by decide +kernel
theorem dX5_takeAway_23 : decode cX5_takeAway 23 = .ok (.ixor, 1) := by decide +kernel
theorem dX5_takeAway_24 : decode cX5_takeAway 24 = .ok (.iand, 1) := by decide +kernel
theorem dX5_takeAway_25 : decode cX5_takeAway 25 = .ok (.putfield 39, 3) := by decide +kernel
theorem dX5_takeAway_28 : decode cX5_takeAway 28 = .ok (.aload_n 0, 1) := by decide +kernel
theorem dX5_takeAway_29 : decode cX5_takeAway 29 = .ok (.getfield 27, 3) := by decide +kernel
theorem dX5_takeAway_32 : decode cX5_takeAway 32 = .ok (.iload_n 1, 1) := by decide +kernel
theorem dX5_takeAway_33 : decode cX5_takeAway 33 = .ok (.iconst (-1), 1) := by decide +kernel
theorem dX5_takeAway_34 : decode cX5_takeAway 34 = .ok (.iastore, 1) := by decide +kernel
theorem dX5_takeAway_35 : decode cX5_takeAway 35 = .ok (.return_, 1) := by decide +kernel
theorem dX5_setFailing_0 : decode cX5_setFailing 0 = .ok (.aload_n 0, 1) := by decide +kernel
theorem dX5_setFailing_1 : decode cX5_setFailing 1 = .ok (.iload_n 2, 1) := by decide +kernel
theorem dX5_setFailing_2 : decode cX5_setFailing 2 = .ok (.ifCond .eq 14, 3) := by decide +kernel
theorem dX5_setFailing_5 : decode cX5_setFailing 5 = .ok (.aload_n 0, 1) := by decide +kernel
theorem dX5_setFailing_6 : decode cX5_setFailing 6 = .ok (.getfield 39, 3) := by decide +kernel
theorem dX5_setFailing_9 : decode cX5_setFailing 9 = .ok (.iconst 1, 1) := by decide +kernel
theorem dX5_setFailing_10 : decode cX5_setFailing 10 = .ok (.iload_n 1, 1) := by decide +kernel
theorem dX5_setFailing_11 : decode cX5_setFailing 11 = .ok (.ishl, 1) := by decide +kernel
theorem dX5_setFailing_12 : decode cX5_setFailing 12 = .ok (.ior, 1) := by decide +kernel
theorem dX5_setFailing_13 : decode cX5_setFailing 13 = .ok (.goto 13, 3) := by decide +kernel
theorem dX5_setFailing_16 : decode cX5_setFailing 16 = .ok (.aload_n 0, 1) := by decide +kernel
theorem dX5_setFailing_17 : decode cX5_setFailing 17 = .ok (.getfield 39, 3) := by decide +kernel
theorem dX5_setFailing_20 : decode cX5_setFailing 20 = .ok (.iconst 1, 1) := by decide +kernel
theorem dX5_setFailing_21 : decode cX5_setFailing 21 = .ok (.iload_n 1, 1) := by decide +kernel
theorem dX5_setFailing_22 : decode cX5_setFailing 22 = .ok (.ishl, 1) := by decide +kernel
theorem dX5_setFailing_23 : decode cX5_setFailing 23 = .ok (.iconst (-1), 1) := by decide +kernel
theorem dX5_setFailing_24 : decode cX5_setFailing 24 = .ok (.ixor, 1) := by decide +kernel
theorem dX5_setFailing_25 : decode cX5_setFailing 25 = .ok (.iand, 1) := by decide +kernel
theorem dX5_setFailing_26 : decode cX5_setFailing 26 = .ok (.putfield 39, 3) := by decide +kernel
theorem dX5_setFailing_29 : decode cX5_setFailing 29 = .ok (.return_, 1) := by decide +kernel
theorem dX5_lastOf_0 : decode cX5_lastOf 0 = .ok (.iload_n 1, 1) := by decide +kernel
theorem dX5_lastOf_1 : decode cX5_lastOf 1 = .ok (.aload_n 0, 1) := by decide +kernel
theorem dX5_lastOf_2 : decode cX5_lastOf 2 = .ok (.getfield 31, 3) := by decide +kernel
theorem dX5_lastOf_5 : decode cX5_lastOf 5 = .ok (.iand, 1) := by decide +kernel
theorem dX5_lastOf_6 : decode cX5_lastOf 6 = .ok (.istore_n 2, 1) := by decide +kernel
theorem dX5_lastOf_7 : decode cX5_lastOf 7 = .ok (.iload_n 2, 1) := by decide +kernel
theorem dX5_lastOf_8 : decode cX5_lastOf 8 = .ok (.ifCond .ne 7, 3) := by decide +kernel
theorem dX5_lastOf_11 : decode cX5_lastOf 11 = .ok (.iconst 0, 1) := by decide +kernel
theorem dX5_lastOf_12 : decode cX5_lastOf 12 = .ok (.goto 10, 3) := by decide +kernel
theorem dX5_lastOf_15 : decode cX5_lastOf 15 = .ok (.bipush 31, 2) := by decide +kernel
theorem dX5_lastOf_17 : decode cX5_lastOf 17 = .ok (.iload_n 2, 1) := by decide +kernel
theorem dX5_lastOf_18 : decode cX5_lastOf 18 = .ok (.invokestatic 42, 3) := by decide +kernel
theorem dX5_lastOf_21 : decode cX5_lastOf 21 = .ok (.isub, 1) := by decide +kernel
theorem dX5_lastOf_22 : decode cX5_lastOf 22 = .ok (.ireturn, 1) := by decide +kernel
theorem dX5_cornerReached_0 : decode cX5_cornerReached 0 = .ok (.aload_n 0, 1) := by decide +kernel
theorem dX5_cornerReached_1 : decode cX5_cornerReached 1 = .ok (.getfield 31, 3) := by decide +kernel
theorem dX5_cornerReached_4 : decode cX5_cornerReached 4 = .ok (.iload_n 1, 1) := by decide +kernel
theorem dX5_cornerReached_5 : decode cX5_cornerReached 5 = .ok (.invokestatic 35, 3) := by decide +kernel
theorem dX5_cornerReached_8 : decode cX5_cornerReached 8 = .ok (.ifCond .ne 5, 3) := by decide +kernel
theorem dX5_cornerReached_11 : decode cX5_cornerReached 11 = .ok (.iconst (-1), 1) := by decide +kernel
theorem dX5_cornerReached_12 : decode cX5_cornerReached 12 = .ok (.ireturn, 1) := by decide +kernel
theorem dX5_cornerReached_13 : decode cX5_cornerReached 13 = .ok (.aload_n 0, 1) := by decide +kernel
theorem dX5_cornerReached_14 : decode cX5_cornerReached 14 = .ok (.getfield 11, 3) := by decide +kernel
theorem dX5_cornerReached_17 : decode cX5_cornerReached 17 = .ok (.aload_n 0, 1) := by decide +kernel
theorem dX5_cornerReached_18 : decode cX5_cornerReached 18 = .ok (.getfield 17, 3) := by decide +kernel
theorem dX5_cornerReached_21 : decode cX5_cornerReached 21 = .ok (.iload_n 1, 1) := by decide +kernel
theorem dX5_cornerReached_22 : decode cX5_cornerReached 22 = .ok (.iaload, 1) := by decide +kernel
theorem dX5_cornerReached_23 : decode cX5_cornerReached 23 = .ok (.aaload, 1) := by decide +kernel
theorem dX5_cornerReached_24 : decode cX5_cornerReached 24 = .ok (.aload_n 0, 1) := by decide +kernel
theorem dX5_cornerReached_25 : decode cX5_cornerReached 25 = .ok (.getfield 24, 3) := by decide +kernel
theorem dX5_cornerReached_28 : decode cX5_cornerReached 28 = .ok (.iload_n 1, 1) := by decide +kernel
theorem dX5_cornerReached_29 : decode cX5_cornerReached 29 = .ok (.iaload, 1) := by decide +kernel
theorem dX5_cornerReached_30 : decode cX5_cornerReached 30 = .ok (.lload_n 2, 1) := by decide +kernel
theorem dX5_cornerReached_31 : decode cX5_cornerReached 31 = .ok (.lload 4, 2) := by decide +kernel
theorem dX5_cornerReached_33 : decode cX5_cornerReached 33 = .ok (.invokevirtual 48, 3) := by decide +kernel
theorem dX5_cornerReached_36 : decode cX5_cornerReached 36 = .ok (.ireturn, 1) := by decide +kernel
theorem dX5_ticksAt_0 : decode cX5_ticksAt 0 = .ok (.aload_n 0, 1) := by decide +kernel
theorem dX5_ticksAt_1 : decode cX5_ticksAt 1 = .ok (.getfield 11, 3) := by decide +kernel
theorem dX5_ticksAt_4 : decode cX5_ticksAt 4 = .ok (.aload_n 0, 1) := by decide +kernel
theorem dX5_ticksAt_5 : decode cX5_ticksAt 5 = .ok (.getfield 17, 3) := by decide +kernel
theorem dX5_ticksAt_8 : decode cX5_ticksAt 8 = .ok (.iload_n 1, 1) := by decide +kernel
theorem dX5_ticksAt_9 : decode cX5_ticksAt 9 = .ok (.iaload, 1) := by decide +kernel
theorem dX5_ticksAt_10 : decode cX5_ticksAt 10 = .ok (.aaload, 1) := by decide +kernel
theorem dX5_ticksAt_11 : decode cX5_ticksAt 11 = .ok (.getfield 52, 3) := by decide +kernel
theorem dX5_ticksAt_14 : decode cX5_ticksAt 14 = .ok (.iload_n 2, 1) := by decide +kernel
theorem dX5_ticksAt_15 : decode cX5_ticksAt 15 = .ok (.iaload, 1) := by decide +kernel
theorem dX5_ticksAt_16 : decode cX5_ticksAt 16 = .ok (.ireturn, 1) := by decide +kernel
theorem dX5_waitAt_0 : decode cX5_waitAt 0 = .ok (.aload_n 0, 1) := by decide +kernel
theorem dX5_waitAt_1 : decode cX5_waitAt 1 = .ok (.getfield 31, 3) := by decide +kernel
theorem dX5_waitAt_4 : decode cX5_waitAt 4 = .ok (.iload_n 1, 1) := by decide +kernel
theorem dX5_waitAt_5 : decode cX5_waitAt 5 = .ok (.invokestatic 35, 3) := by decide +kernel
theorem dX5_waitAt_8 : decode cX5_waitAt 8 = .ok (.ifCond .ne 5, 3) := by decide +kernel
theorem dX5_waitAt_11 : decode cX5_waitAt 11 = .ok (.iconst (-1), 1) := by decide +kernel
theorem dX5_waitAt_12 : decode cX5_waitAt 12 = .ok (.ireturn, 1) := by decide +kernel
theorem dX5_waitAt_13 : decode cX5_waitAt 13 = .ok (.aload_n 0, 1) := by decide +kernel
theorem dX5_waitAt_14 : decode cX5_waitAt 14 = .ok (.getfield 11, 3) := by decide +kernel
theorem dX5_waitAt_17 : decode cX5_waitAt 17 = .ok (.aload_n 0, 1) := by decide +kernel
theorem dX5_waitAt_18 : decode cX5_waitAt 18 = .ok (.getfield 17, 3) := by decide +kernel
theorem dX5_waitAt_21 : decode cX5_waitAt 21 = .ok (.iload_n 1, 1) := by decide +kernel
theorem dX5_waitAt_22 : decode cX5_waitAt 22 = .ok (.iaload, 1) := by decide +kernel
theorem dX5_waitAt_23 : decode cX5_waitAt 23 = .ok (.aaload, 1) := by decide +kernel
theorem dX5_waitAt_24 : decode cX5_waitAt 24 = .ok (.astore 6, 2) := by decide +kernel
theorem dX5_waitAt_26 : decode cX5_waitAt 26 = .ok (.aload 6, 2) := by decide +kernel
theorem dX5_waitAt_28 : decode cX5_waitAt 28 = .ok (.aload_n 0, 1) := by decide +kernel
theorem dX5_waitAt_29 : decode cX5_waitAt 29 = .ok (.getfield 24, 3) := by decide +kernel
theorem dX5_waitAt_32 : decode cX5_waitAt 32 = .ok (.iload_n 1, 1) := by decide +kernel
theorem dX5_waitAt_33 : decode cX5_waitAt 33 = .ok (.iaload, 1) := by decide +kernel
theorem dX5_waitAt_34 : decode cX5_waitAt 34 = .ok (.lload_n 2, 1) := by decide +kernel
theorem dX5_waitAt_35 : decode cX5_waitAt 35 = .ok (.lload 4, 2) := by decide +kernel
theorem dX5_waitAt_37 : decode cX5_waitAt 37 = .ok (.invokevirtual 48, 3) := by decide +kernel
theorem dX5_waitAt_40 : decode cX5_waitAt 40 = .ok (.istore 7, 2) := by decide +kernel
theorem dX5_waitAt_42 : decode cX5_waitAt 42 = .ok (.iload 7, 2) := by decide +kernel
theorem dX5_waitAt_44 : decode cX5_waitAt 44 = .ok (.iconst (-1), 1) := by decide +kernel
theorem dX5_waitAt_45 : decode cX5_waitAt 45 = .ok (.if_icmp .ne 7, 3) := by decide +kernel
theorem dX5_waitAt_48 : decode cX5_waitAt 48 = .ok (.iconst (-1), 1) := by decide +kernel
theorem dX5_waitAt_49 : decode cX5_waitAt 49 = .ok (.goto 18, 3) := by decide +kernel
theorem dX5_waitAt_52 : decode cX5_waitAt 52 = .ok (.aload_n 0, 1) := by decide +kernel
theorem dX5_waitAt_53 : decode cX5_waitAt 53 = .ok (.getfield 21, 3) := by decide +kernel
theorem dX5_waitAt_56 : decode cX5_waitAt 56 = .ok (.iload_n 1, 1) := by decide +kernel
theorem dX5_waitAt_57 : decode cX5_waitAt 57 = .ok (.iaload, 1) := by decide +kernel
theorem dX5_waitAt_58 : decode cX5_waitAt 58 = .ok (.aload 6, 2) := by decide +kernel
theorem dX5_waitAt_60 : decode cX5_waitAt 60 = .ok (.getfield 52, 3) := by decide +kernel
theorem dX5_waitAt_63 : decode cX5_waitAt 63 = .ok (.iload 7, 2) := by decide +kernel
theorem dX5_waitAt_65 : decode cX5_waitAt 65 = .ok (.iaload, 1) := by decide +kernel
theorem dX5_waitAt_66 : decode cX5_waitAt 66 = .ok (.imul, 1) := by decide +kernel
theorem dX5_waitAt_67 : decode cX5_waitAt 67 = .ok (.ireturn, 1) := by decide +kernel
theorem dX5_leastTenthsSeen_0 : decode cX5_leastTenthsSeen 0 = .ok (.aload_n 0, 1) := by decide +kernel
theorem dX5_leastTenthsSeen_1 : decode cX5_leastTenthsSeen 1 = .ok (.iload_n 1, 1) := by decide +kernel
theorem dX5_leastTenthsSeen_2 : decode cX5_leastTenthsSeen 2 = .ok (.invokevirtual 55, 3) := by decide +kernel
theorem dX5_leastTenthsSeen_5 : decode cX5_leastTenthsSeen 5 = .ok (.ifCond .eq 20, 3) := by decide +kernel
theorem dX5_leastTenthsSeen_8 : decode cX5_leastTenthsSeen 8 = .ok (.aload_n 0, 1) := by decide +kernel
theorem dX5_leastTenthsSeen_9 : decode cX5_leastTenthsSeen 9 = .ok (.getfield 11, 3) := by decide +kernel
theorem dX5_leastTenthsSeen_12 : decode cX5_leastTenthsSeen 12 = .ok (.aload_n 0, 1) := by decide +kernel
theorem dX5_leastTenthsSeen_13 : decode cX5_leastTenthsSeen 13 = .ok (.getfield 17, 3) := by decide +kernel
theorem dX5_leastTenthsSeen_16 : decode cX5_leastTenthsSeen 16 = .ok (.iload_n 1, 1) := by decide +kernel
theorem dX5_leastTenthsSeen_17 : decode cX5_leastTenthsSeen 17 = .ok (.iaload, 1) := by decide +kernel
theorem dX5_leastTenthsSeen_18 : decode cX5_leastTenthsSeen 18 = .ok (.aaload, 1) := by decide +kernel
theorem dX5_leastTenthsSeen_19 : decode cX5_leastTenthsSeen 19 = .ok (.getfield 59, 3) := by decide +kernel
theorem dX5_leastTenthsSeen_22 : decode cX5_leastTenthsSeen 22 = .ok (.ifCond .ne 7, 3) := by decide +kernel
theorem dX5_leastTenthsSeen_25 : decode cX5_leastTenthsSeen 25 = .ok (.ldc2_w 62, 3) := by decide +kernel
theorem dX5_leastTenthsSeen_28 : decode cX5_leastTenthsSeen 28 = .ok (.lreturn, 1) := by decide +kernel
theorem dX5_leastTenthsSeen_29 : decode cX5_leastTenthsSeen 29 = .ok (.aload_n 0, 1) := by decide +kernel
theorem dX5_leastTenthsSeen_30 : decode cX5_leastTenthsSeen 30 = .ok (.getfield 24, 3) := by decide +kernel
theorem dX5_leastTenthsSeen_33 : decode cX5_leastTenthsSeen 33 = .ok (.iload_n 1, 1) := by decide +kernel
theorem dX5_leastTenthsSeen_34 : decode cX5_leastTenthsSeen 34 = .ok (.iaload, 1) := by decide +kernel
theorem dX5_leastTenthsSeen_35 : decode cX5_leastTenthsSeen 35 = .ok (.i2l, 1) := by decide +kernel
theorem dX5_leastTenthsSeen_36 : decode cX5_leastTenthsSeen 36 = .ok (.aload_n 0, 1) := by decide +kernel
theorem dX5_leastTenthsSeen_37 : decode cX5_leastTenthsSeen 37 = .ok (.getfield 11, 3) := by decide +kernel
theorem dX5_leastTenthsSeen_40 : decode cX5_leastTenthsSeen 40 = .ok (.aload_n 0, 1) := by decide +kernel
theorem dX5_leastTenthsSeen_41 : decode cX5_leastTenthsSeen 41 = .ok (.getfield 17, 3) := by decide +kernel
theorem dX5_leastTenthsSeen_44 : decode cX5_leastTenthsSeen 44 = .ok (.iload_n 1, 1) := by decide +kernel
theorem dX5_leastTenthsSeen_45 : decode cX5_leastTenthsSeen 45 = .ok (.iaload, 1) := by decide +kernel
theorem dX5_leastTenthsSeen_46 : decode cX5_leastTenthsSeen 46 = .ok (.aaload, 1) := by decide +kernel
theorem dX5_leastTenthsSeen_47 : decode cX5_leastTenthsSeen 47 = .ok (.getfield 64, 3) := by decide +kernel
theorem dX5_leastTenthsSeen_50 : decode cX5_leastTenthsSeen 50 = .ok (.iconst 0, 1) := by decide +kernel
theorem dX5_leastTenthsSeen_51 : decode cX5_leastTenthsSeen 51 = .ok (.iaload, 1) := by decide +kernel
theorem dX5_leastTenthsSeen_52 : decode cX5_leastTenthsSeen 52 = .ok (.i2l, 1) := by decide +kernel
theorem dX5_leastTenthsSeen_53 : decode cX5_leastTenthsSeen 53 = .ok (.lmul, 1) := by decide +kernel
theorem dX5_leastTenthsSeen_54 : decode cX5_leastTenthsSeen 54 = .ok (.lreturn, 1) := by decide +kernel
theorem dX5_sumOfDials_0 : decode cX5_sumOfDials 0 = .ok (.iconst 0, 1) := by decide +kernel
theorem dX5_sumOfDials_1 : decode cX5_sumOfDials 1 = .ok (.istore_n 1, 1) := by decide +kernel
theorem dX5_sumOfDials_2 : decode cX5_sumOfDials 2 = .ok (.iconst 0, 1) := by decide +kernel
theorem dX5_sumOfDials_3 : decode cX5_sumOfDials 3 = .ok (.istore_n 2, 1) := by decide +kernel
theorem dX5_sumOfDials_4 : decode cX5_sumOfDials 4 = .ok (.iload_n 2, 1) := by decide +kernel
theorem dX5_sumOfDials_5 : decode cX5_sumOfDials 5 = .ok (.bipush 30, 2) := by decide +kernel
theorem dX5_sumOfDials_7 : decode cX5_sumOfDials 7 = .ok (.if_icmp .ge 30, 3) := by decide +kernel
theorem dX5_sumOfDials_10 : decode cX5_sumOfDials 10 = .ok (.iload_n 1, 1) := by decide +kernel
theorem dX5_sumOfDials_11 : decode cX5_sumOfDials 11 = .ok (.aload_n 0, 1) := by decide +kernel
theorem dX5_sumOfDials_12 : decode cX5_sumOfDials 12 = .ok (.iload_n 2, 1) := by decide +kernel
theorem dX5_sumOfDials_13 : decode cX5_sumOfDials 13 = .ok (.invokevirtual 55, 3) := by decide +kernel
theorem dX5_sumOfDials_16 : decode cX5_sumOfDials 16 = .ok (.ifCond .eq 12, 3) := by decide +kernel
theorem dX5_sumOfDials_19 : decode cX5_sumOfDials 19 = .ok (.aload_n 0, 1) := by decide +kernel
theorem dX5_sumOfDials_20 : decode cX5_sumOfDials 20 = .ok (.getfield 21, 3) := by decide +kernel
theorem dX5_sumOfDials_23 : decode cX5_sumOfDials 23 = .ok (.iload_n 2, 1) := by decide +kernel
theorem dX5_sumOfDials_24 : decode cX5_sumOfDials 24 = .ok (.iaload, 1) := by decide +kernel
theorem dX5_sumOfDials_25 : decode cX5_sumOfDials 25 = .ok (.goto 4, 3) := by decide +kernel
theorem dX5_sumOfDials_28 : decode cX5_sumOfDials 28 = .ok (.iconst 0, 1) := by decide +kernel
theorem dX5_sumOfDials_29 : decode cX5_sumOfDials 29 = .ok (.iadd, 1) := by decide +kernel
theorem dX5_sumOfDials_30 : decode cX5_sumOfDials 30 = .ok (.istore_n 1, 1) := by decide +kernel
theorem dX5_sumOfDials_31 : decode cX5_sumOfDials 31 = .ok (.iinc 2 1, 3) := by decide +kernel
theorem dX5_sumOfDials_34 : decode cX5_sumOfDials 34 = .ok (.goto (-30), 3) := by decide +kernel
theorem dX5_sumOfDials_37 : decode cX5_sumOfDials 37 = .ok (.iload_n 1, 1) := by decide +kernel
theorem dX5_sumOfDials_38 : decode cX5_sumOfDials 38 = .ok (.ireturn, 1) := by decide +kernel
theorem dX5_keepDialsAsGoal_0 : decode cX5_keepDialsAsGoal 0 = .ok (.iconst 0, 1) := by decide +kernel
theorem dX5_keepDialsAsGoal_1 : decode cX5_keepDialsAsGoal 1 = .ok (.istore_n 1, 1) := by decide +kernel
theorem dX5_keepDialsAsGoal_2 : decode cX5_keepDialsAsGoal 2 = .ok (.iconst 0, 1) := by decide +kernel
theorem dX5_keepDialsAsGoal_3 : decode cX5_keepDialsAsGoal 3 = .ok (.istore_n 2, 1) := by decide +kernel
theorem dX5_keepDialsAsGoal_4 : decode cX5_keepDialsAsGoal 4 = .ok (.iload_n 2, 1) := by decide +kernel
theorem dX5_keepDialsAsGoal_5 : decode cX5_keepDialsAsGoal 5 = .ok (.bipush 30, 2) := by decide +kernel
theorem dX5_keepDialsAsGoal_7 : decode cX5_keepDialsAsGoal 7 = .ok (.if_icmp .ge 49, 3) := by decide +kernel
theorem dX5_keepDialsAsGoal_10 : decode cX5_keepDialsAsGoal 10 = .ok (.aload_n 0, 1) := by decide +kernel
theorem dX5_keepDialsAsGoal_11 : decode cX5_keepDialsAsGoal 11 = .ok (.getfield 27, 3) := by decide +kernel
theorem dX5_keepDialsAsGoal_14 : decode cX5_keepDialsAsGoal 14 = .ok (.iload_n 2, 1) := by decide +kernel
theorem dX5_keepDialsAsGoal_15 : decode cX5_keepDialsAsGoal 15 = .ok (.aload_n 0, 1) := by decide +kernel
theorem dX5_keepDialsAsGoal_16 : decode cX5_keepDialsAsGoal 16 = .ok (.iload_n 2, 1) := by decide +kernel
theorem dX5_keepDialsAsGoal_17 : decode cX5_keepDialsAsGoal 17 = .ok (.invokevirtual 55, 3) := by decide +kernel
theorem dX5_keepDialsAsGoal_20 : decode cX5_keepDialsAsGoal 20 = .ok (.ifCond .eq 12, 3) := by decide +kernel
theorem dX5_keepDialsAsGoal_23 : decode cX5_keepDialsAsGoal 23 = .ok (.aload_n 0, 1) := by decide +kernel
theorem dX5_keepDialsAsGoal_24 : decode cX5_keepDialsAsGoal 24 = .ok (.getfield 21, 3) := by decide +kernel
theorem dX5_keepDialsAsGoal_27 : decode cX5_keepDialsAsGoal 27 = .ok (.iload_n 2, 1) := by decide +kernel
theorem dX5_keepDialsAsGoal_28 : decode cX5_keepDialsAsGoal 28 = .ok (.iaload, 1) := by decide +kernel
theorem dX5_keepDialsAsGoal_29 : decode cX5_keepDialsAsGoal 29 = .ok (.goto 4, 3) := by decide +kernel
theorem dX5_keepDialsAsGoal_32 : decode cX5_keepDialsAsGoal 32 = .ok (.iconst (-1), 1) := by decide +kernel
theorem dX5_keepDialsAsGoal_33 : decode cX5_keepDialsAsGoal 33 = .ok (.iastore, 1) := by decide +kernel
theorem dX5_keepDialsAsGoal_34 : decode cX5_keepDialsAsGoal 34 = .ok (.iload_n 1, 1) := by decide +kernel
theorem dX5_keepDialsAsGoal_35 : decode cX5_keepDialsAsGoal 35 = .ok (.aload_n 0, 1) := by decide +kernel
theorem dX5_keepDialsAsGoal_36 : decode cX5_keepDialsAsGoal 36 = .ok (.iload_n 2, 1) := by decide +kernel
theorem dX5_keepDialsAsGoal_37 : decode cX5_keepDialsAsGoal 37 = .ok (.invokevirtual 55, 3) := by decide +kernel
theorem dX5_keepDialsAsGoal_40 : decode cX5_keepDialsAsGoal 40 = .ok (.ifCond .eq 7, 3) := by decide +kernel
theorem dX5_keepDialsAsGoal_43 : decode cX5_keepDialsAsGoal 43 = .ok (.iconst 1, 1) := by decide +kernel
theorem dX5_keepDialsAsGoal_44 : decode cX5_keepDialsAsGoal 44 = .ok (.goto 4, 3) := by decide +kernel
theorem dX5_keepDialsAsGoal_47 : decode cX5_keepDialsAsGoal 47 = .ok (.iconst 0, 1) := by decide +kernel
theorem dX5_keepDialsAsGoal_48 : decode cX5_keepDialsAsGoal 48 = .ok (.iadd, 1) := by decide +kernel
theorem dX5_keepDialsAsGoal_49 : decode cX5_keepDialsAsGoal 49 = .ok (.istore_n 1, 1) := by decide +kernel
theorem dX5_keepDialsAsGoal_50 : decode cX5_keepDialsAsGoal 50 = .ok (.iinc 2 1, 3) := by decide +kernel
theorem dX5_keepDialsAsGoal_53 : decode cX5_keepDialsAsGoal 53 = .ok (.goto (-49), 3) := by decide +kernel
theorem dX5_keepDialsAsGoal_56 : decode cX5_keepDialsAsGoal 56 = .ok (.iload_n 1, 1) := by decide +kernel
theorem dX5_keepDialsAsGoal_57 : decode cX5_keepDialsAsGoal 57 = .ok (.ireturn, 1) := by decide +kernel
theorem dX6_init_0 : decode cX6_init 0 = .ok (.aload_n 0, 1) := by decide +kernel
theorem dX6_init_1 : decode cX6_init 1 = .ok (.invokespecial 3, 3) := by decide +kernel
theorem dX6_init_4 : decode cX6_init 4 = .ok (.aload_n 0, 1) := by decide +kernel
theorem dX6_init_5 : decode cX6_init 5 = .ok (.iconst 1, 1) := by decide +kernel
theorem dX6_init_6 : decode cX6_init 6 = .ok (.putfield 9, 3) := by decide +kernel
theorem dX6_init_9 : decode cX6_init 9 = .ok (.aload_n 0, 1) := by decide +kernel
theorem dX6_init_10 : decode cX6_init 10 = .ok (.ldc 15, 2) := by decide +kernel
theorem dX6_init_12 : decode cX6_init 12 = .ok (.putfield 16, 3) := by decide +kernel
theorem dX6_init_15 : decode cX6_init 15 = .ok (.aload_n 0, 1) := by decide +kernel
theorem dX6_init_16 : decode cX6_init 16 = .ok (.iconst 0, 1) := by decide +kernel
theorem dX6_init_17 : decode cX6_init 17 = .ok (.putfield 19, 3) := by decide +kernel
theorem dX6_init_20 : decode cX6_init 20 = .ok (.return_, 1) := by decide +kernel
theorem dX6_resistancesAsked_0 : decode cX6_resistancesAsked 0 = .ok (.aload_n 0, 1) := by decide +kernel
theorem dX6_resistancesAsked_1 : decode cX6_resistancesAsked 1 = .ok (.getfield 19, 3) := by decide +kernel
theorem dX6_resistancesAsked_4 : decode cX6_resistancesAsked 4 = .ok (.ifCond .ne 7, 3) := by decide +kernel
theorem dX6_resistancesAsked_7 : decode cX6_resistancesAsked 7 = .ok (.iconst 1, 1) := by decide +kernel
theorem dX6_resistancesAsked_8 : decode cX6_resistancesAsked 8 = .ok (.goto 4, 3) := by decide +kernel
theorem dX6_resistancesAsked_11 : decode cX6_resistancesAsked 11 = .ok (.iconst 2, 1) := by decide +kernel
theorem dX6_resistancesAsked_12 : decode cX6_resistancesAsked 12 = .ok (.ireturn, 1) := by decide +kernel
theorem dX6_resistanceAsked_0 : decode cX6_resistanceAsked 0 = .ok (.iload_n 1, 1) := by decide +kernel
theorem dX6_resistanceAsked_1 : decode cX6_resistanceAsked 1 = .ok (.ifCond .ne 7, 3) := by decide +kernel
theorem dX6_resistanceAsked_4 : decode cX6_resistanceAsked 4 = .ok (.iconst 0, 1) := by decide +kernel
theorem dX6_resistanceAsked_5 : decode cX6_resistanceAsked 5 = .ok (.goto 7, 3) := by decide +kernel
theorem dX6_resistanceAsked_8 : decode cX6_resistanceAsked 8 = .ok (.aload_n 0, 1) := by decide +kernel
theorem dX6_resistanceAsked_9 : decode cX6_resistanceAsked 9 = .ok (.getfield 19, 3) := by decide +kernel
theorem dX6_resistanceAsked_12 : decode cX6_resistanceAsked 12 = .ok (.ireturn, 1) := by decide +kernel
theorem dJ6_numberOfLeadingZeros_0f7a4_0 : decode cJ6_numberOfLeadingZeros_0f7a4 0 = .ok (.iload_n 0, 1) := by decide +kernel
theorem dJ6_numberOfLeadingZeros_0f7a4_1 : decode cJ6_numberOfLeadingZeros_0f7a4 1 = .ok (.ifCond .gt 14, 3) := by decide +kernel
theorem dJ6_numberOfLeadingZeros_0f7a4_4 : decode cJ6_numberOfLeadingZeros_0f7a4 4 = .ok (.iload_n 0, 1) := by decide +kernel
theorem dJ6_numberOfLeadingZeros_0f7a4_5 : decode cJ6_numberOfLeadingZeros_0f7a4 5 = .ok (.ifCond .ne 8, 3) := by decide +kernel
theorem dJ6_numberOfLeadingZeros_0f7a4_8 : decode cJ6_numberOfLeadingZeros_0f7a4 8 = .ok (.bipush 32, 2) := by decide +kernel
theorem dJ6_numberOfLeadingZeros_0f7a4_10 : decode cJ6_numberOfLeadingZeros_0f7a4 10 = .ok (.goto 4, 3) := by decide +kernel
theorem dJ6_numberOfLeadingZeros_0f7a4_13 : decode cJ6_numberOfLeadingZeros_0f7a4 13 = .ok (.iconst 0, 1) := by decide +kernel
theorem dJ6_numberOfLeadingZeros_0f7a4_14 : decode cJ6_numberOfLeadingZeros_0f7a4 14 = .ok (.ireturn, 1) := by decide +kernel
theorem dJ6_numberOfLeadingZeros_0f7a4_15 : decode cJ6_numberOfLeadingZeros_0f7a4 15 = .ok (.bipush 31, 2) := by decide +kernel
theorem dJ6_numberOfLeadingZeros_0f7a4_17 : decode cJ6_numberOfLeadingZeros_0f7a4 17 = .ok (.istore_n 1, 1) := by decide +kernel
theorem dJ6_numberOfLeadingZeros_0f7a4_18 : decode cJ6_numberOfLeadingZeros_0f7a4 18 = .ok (.iload_n 0, 1) := by decide +kernel
theorem dJ6_numberOfLeadingZeros_0f7a4_19 : decode cJ6_numberOfLeadingZeros_0f7a4 19 = .ok (.ldc_w 264, 3) := by decide +kernel
theorem dJ6_numberOfLeadingZeros_0f7a4_22 : decode cJ6_numberOfLeadingZeros_0f7a4 22 = .ok (.if_icmp .lt 11, 3) := by decide +kernel
theorem dJ6_numberOfLeadingZeros_0f7a4_25 : decode cJ6_numberOfLeadingZeros_0f7a4 25 = .ok (.iinc 1 (-16), 3) := by decide +kernel
theorem dJ6_numberOfLeadingZeros_0f7a4_28 : decode cJ6_numberOfLeadingZeros_0f7a4 28 = .ok (.iload_n 0, 1) := by decide +kernel
theorem dJ6_numberOfLeadingZeros_0f7a4_29 : decode cJ6_numberOfLeadingZeros_0f7a4 29 = .ok (.bipush 16, 2) := by decide +kernel
theorem dJ6_numberOfLeadingZeros_0f7a4_31 : decode cJ6_numberOfLeadingZeros_0f7a4 31 = .ok (.iushr, 1) := by decide +kernel
theorem dJ6_numberOfLeadingZeros_0f7a4_32 : decode cJ6_numberOfLeadingZeros_0f7a4 32 = .ok (.istore_n 0, 1) := by decide +kernel
theorem dJ6_numberOfLeadingZeros_0f7a4_33 : decode cJ6_numberOfLeadingZeros_0f7a4 33 = .ok (.iload_n 0, 1) := by decide +kernel
theorem dJ6_numberOfLeadingZeros_0f7a4_34 : decode cJ6_numberOfLeadingZeros_0f7a4 34 = .ok (.sipush 256, 3) := by decide +kernel
theorem dJ6_numberOfLeadingZeros_0f7a4_37 : decode cJ6_numberOfLeadingZeros_0f7a4 37 = .ok (.if_icmp .lt 11, 3) := by decide +kernel
theorem dJ6_numberOfLeadingZeros_0f7a4_40 : decode cJ6_numberOfLeadingZeros_0f7a4 40 = .ok (.iinc 1 (-8), 3) := by decide +kernel
theorem dJ6_numberOfLeadingZeros_0f7a4_43 : decode cJ6_numberOfLeadingZeros_0f7a4 43 = .ok (.iload_n 0, 1) := by decide +kernel
theorem dJ6_numberOfLeadingZeros_0f7a4_44 : decode cJ6_numberOfLeadingZeros_0f7a4 44 = .ok (.bipush 8, 2) := by decide +kernel
theorem dJ6_numberOfLeadingZeros_0f7a4_46 : decode cJ6_numberOfLeadingZeros_0f7a4 46 = .ok (.iushr, 1) := by decide +kernel
theorem dJ6_numberOfLeadingZeros_0f7a4_47 : decode cJ6_numberOfLeadingZeros_0f7a4 47 = .ok (.istore_n 0, 1) := by decide +kernel
theorem dJ6_numberOfLeadingZeros_0f7a4_48 : decode cJ6_numberOfLeadingZeros_0f7a4 48 = .ok (.iload_n 0, 1) := by decide +kernel
theorem dJ6_numberOfLeadingZeros_0f7a4_49 : decode cJ6_numberOfLeadingZeros_0f7a4 49 = .ok (.bipush 16, 2) := by decide +kernel
theorem dJ6_numberOfLeadingZeros_0f7a4_51 : decode cJ6_numberOfLeadingZeros_0f7a4 51 = .ok (.if_icmp .lt 10, 3) := by decide +kernel
theorem dJ6_numberOfLeadingZeros_0f7a4_54 : decode cJ6_numberOfLeadingZeros_0f7a4 54 = .ok (.iinc 1 (-4), 3) := by decide +kernel
theorem dJ6_numberOfLeadingZeros_0f7a4_57 : decode cJ6_numberOfLeadingZeros_0f7a4 57 = .ok (.iload_n 0, 1) := by decide +kernel
theorem dJ6_numberOfLeadingZeros_0f7a4_58 : decode cJ6_numberOfLeadingZeros_0f7a4 58 = .ok (.iconst 4, 1) := by decide +kernel
theorem dJ6_numberOfLeadingZeros_0f7a4_59 : decode cJ6_numberOfLeadingZeros_0f7a4 59 = .ok (.iushr, 1) := by decide +kernel
theorem dJ6_numberOfLeadingZeros_0f7a4_60 : decode cJ6_numberOfLeadingZeros_0f7a4 60 = .ok (.istore_n 0, 1) := by decide +kernel
theorem dJ6_numberOfLeadingZeros_0f7a4_61 : decode cJ6_numberOfLeadingZeros_0f7a4 61 = .ok (.iload_n 0, 1) := by decide +kernel
theorem dJ6_numberOfLeadingZeros_0f7a4_62 : decode cJ6_numberOfLeadingZeros_0f7a4 62 = .ok (.iconst 4, 1) := by decide +kernel
theorem dJ6_numberOfLeadingZeros_0f7a4_63 : decode cJ6_numberOfLeadingZeros_0f7a4 63 = .ok (.if_icmp .lt 10, 3) := by decide +kernel
theorem dJ6_numberOfLeadingZeros_0f7a4_66 : decode cJ6_numberOfLeadingZeros_0f7a4 66 = .ok (.iinc 1 (-2), 3) := by decide +kernel
theorem dJ6_numberOfLeadingZeros_0f7a4_69 : decode cJ6_numberOfLeadingZeros_0f7a4 69 = .ok (.iload_n 0, 1) := by decide +kernel
theorem dJ6_numberOfLeadingZeros_0f7a4_70 : decode cJ6_numberOfLeadingZeros_0f7a4 70 = .ok (.iconst 2, 1) := by decide +kernel
theorem dJ6_numberOfLeadingZeros_0f7a4_71 : decode cJ6_numberOfLeadingZeros_0f7a4 71 = .ok (.iushr, 1) := by decide +kernel
theorem dJ6_numberOfLeadingZeros_0f7a4_72 : decode cJ6_numberOfLeadingZeros_0f7a4 72 = .ok (.istore_n 0, 1) := by decide +kernel
theorem dJ6_numberOfLeadingZeros_0f7a4_73 : decode cJ6_numberOfLeadingZeros_0f7a4 73 = .ok (.iload_n 1, 1) := by decide +kernel
theorem dJ6_numberOfLeadingZeros_0f7a4_74 : decode cJ6_numberOfLeadingZeros_0f7a4 74 = .ok (.iload_n 0, 1) := by decide +kernel
theorem dJ6_numberOfLeadingZeros_0f7a4_75 : decode cJ6_numberOfLeadingZeros_0f7a4 75 = .ok (.iconst 1, 1) := by decide +kernel
theorem dJ6_numberOfLeadingZeros_0f7a4_76 : decode cJ6_numberOfLeadingZeros_0f7a4 76 = .ok (.iushr, 1) := by decide +kernel
theorem dJ6_numberOfLeadingZeros_0f7a4_77 : decode cJ6_numberOfLeadingZeros_0f7a4 77 = .ok (.isub, 1) := by decide +kernel
theorem dJ6_numberOfLeadingZeros_0f7a4_78 : decode cJ6_numberOfLeadingZeros_0f7a4 78 = .ok (.ireturn, 1) := by decide +kernel
theorem dJ6_bitCount_0f7a4_0 : decode cJ6_bitCount_0f7a4 0 = .ok (.iload_n 0, 1) := by decide +kernel
theorem dJ6_bitCount_0f7a4_1 : decode cJ6_bitCount_0f7a4 1 = .ok (.iload_n 0, 1) := by decide +kernel
theorem dJ6_bitCount_0f7a4_2 : decode cJ6_bitCount_0f7a4 2 = .ok (.iconst 1, 1) := by decide +kernel
theorem dJ6_bitCount_0f7a4_3 : decode cJ6_bitCount_0f7a4 3 = .ok (.iushr, 1) := by decide +kernel
theorem dJ6_bitCount_0f7a4_4 : decode cJ6_bitCount_0f7a4 4 = .ok (.ldc_w 265, 3) := by decide +kernel
theorem dJ6_bitCount_0f7a4_7 : decode cJ6_bitCount_0f7a4 7 = .ok (.iand, 1) := by decide +kernel
theorem dJ6_bitCount_0f7a4_8 : decode cJ6_bitCount_0f7a4 8 = .ok (.isub, 1) := by decide +kernel
theorem dJ6_bitCount_0f7a4_9 : decode cJ6_bitCount_0f7a4 9 = .ok (.istore_n 0, 1) := by decide +kernel
theorem dJ6_bitCount_0f7a4_10 : decode cJ6_bitCount_0f7a4 10 = .ok (.iload_n 0, 1) := by decide +kernel
theorem dJ6_bitCount_0f7a4_11 : decode cJ6_bitCount_0f7a4 11 = .ok (.ldc_w 266, 3) := by decide +kernel
theorem dJ6_bitCount_0f7a4_14 : decode cJ6_bitCount_0f7a4 14 = .ok (.iand, 1) := by decide +kernel
theorem dJ6_bitCount_0f7a4_15 : decode cJ6_bitCount_0f7a4 15 = .ok (.iload_n 0, 1) := by decide +kernel
theorem dJ6_bitCount_0f7a4_16 : decode cJ6_bitCount_0f7a4 16 = .ok (.iconst 2, 1) := by decide +kernel
theorem dJ6_bitCount_0f7a4_17 : decode cJ6_bitCount_0f7a4 17 = .ok (.iushr, 1) := by decide +kernel
theorem dJ6_bitCount_0f7a4_18 : decode cJ6_bitCount_0f7a4 18 = .ok (.ldc_w 266, 3) := by decide +kernel
theorem dJ6_bitCount_0f7a4_21 : decode cJ6_bitCount_0f7a4 21 = .ok (.iand, 1) := by decide +kernel
theorem dJ6_bitCount_0f7a4_22 : decode cJ6_bitCount_0f7a4 22 = .ok (.iadd, 1) := by decide +kernel
theorem dJ6_bitCount_0f7a4_23 : decode cJ6_bitCount_0f7a4 23 = .ok (.istore_n 0, 1) := by decide +kernel
theorem dJ6_bitCount_0f7a4_24 : decode cJ6_bitCount_0f7a4 24 = .ok (.iload_n 0, 1) := by decide +kernel
theorem dJ6_bitCount_0f7a4_25 : decode cJ6_bitCount_0f7a4 25 = .ok (.iload_n 0, 1) := by decide +kernel
theorem dJ6_bitCount_0f7a4_26 : decode cJ6_bitCount_0f7a4 26 = .ok (.iconst 4, 1) := by decide +kernel
theorem dJ6_bitCount_0f7a4_27 : decode cJ6_bitCount_0f7a4 27 = .ok (.iushr, 1) := by decide +kernel
theorem dJ6_bitCount_0f7a4_28 : decode cJ6_bitCount_0f7a4 28 = .ok (.iadd, 1) := by decide +kernel
theorem dJ6_bitCount_0f7a4_29 : decode cJ6_bitCount_0f7a4 29 = .ok (.ldc_w 267, 3) := by decide +kernel
theorem dJ6_bitCount_0f7a4_32 : decode cJ6_bitCount_0f7a4 32 = .ok (.iand, 1) := by decide +kernel
theorem dJ6_bitCount_0f7a4_33 : decode cJ6_bitCount_0f7a4 33 = .ok (.istore_n 0, 1) := by decide +kernel
theorem dJ6_bitCount_0f7a4_34 : decode cJ6_bitCount_0f7a4 34 = .ok (.iload_n 0, 1) := by decide +kernel
theorem dJ6_bitCount_0f7a4_35 : decode cJ6_bitCount_0f7a4 35 = .ok (.iload_n 0, 1) := by decide +kernel
theorem dJ6_bitCount_0f7a4_36 : decode cJ6_bitCount_0f7a4 36 = .ok (.bipush 8, 2) := by decide +kernel
theorem dJ6_bitCount_0f7a4_38 : decode cJ6_bitCount_0f7a4 38 = .ok (.iushr, 1) := by decide +kernel
theorem dJ6_bitCount_0f7a4_39 : decode cJ6_bitCount_0f7a4 39 = .ok (.iadd, 1) := by decide +kernel
theorem dJ6_bitCount_0f7a4_40 : decode cJ6_bitCount_0f7a4 40 = .ok (.istore_n 0, 1) := by decide +kernel
theorem dJ6_bitCount_0f7a4_41 : decode cJ6_bitCount_0f7a4 41 = .ok (.iload_n 0, 1) := by decide +kernel
theorem dJ6_bitCount_0f7a4_42 : decode cJ6_bitCount_0f7a4 42 = .ok (.iload_n 0, 1) := by decide +kernel
theorem dJ6_bitCount_0f7a4_43 : decode cJ6_bitCount_0f7a4 43 = .ok (.bipush 16, 2) := by decide +kernel
theorem dJ6_bitCount_0f7a4_45 : decode cJ6_bitCount_0f7a4 45 = .ok (.iushr, 1) := by decide +kernel
theorem dJ6_bitCount_0f7a4_46 : decode cJ6_bitCount_0f7a4 46 = .ok (.iadd, 1) := by decide +kernel
theorem dJ6_bitCount_0f7a4_47 : decode cJ6_bitCount_0f7a4 47 = .ok (.istore_n 0, 1) := by decide +kernel
theorem dJ6_bitCount_0f7a4_48 : decode cJ6_bitCount_0f7a4 48 = .ok (.iload_n 0, 1) := by decide +kernel
theorem dJ6_bitCount_0f7a4_49 : decode cJ6_bitCount_0f7a4 49 = .ok (.bipush 63, 2) := by decide +kernel
theorem dJ6_bitCount_0f7a4_51 : decode cJ6_bitCount_0f7a4 51 = .ok (.iand, 1) := by decide +kernel
theorem dJ6_bitCount_0f7a4_52 : decode cJ6_bitCount_0f7a4 52 = .ok (.ireturn, 1) := by decide +kernel
theorem dJ9_max_7cf53_0 : decode cJ9_max_7cf53 0 = .ok (.iload_n 0, 1) := by decide +kernel
theorem dJ9_max_7cf53_1 : decode cJ9_max_7cf53 1 = .ok (.iload_n 1, 1) := by decide +kernel
theorem dJ9_max_7cf53_2 : decode cJ9_max_7cf53 2 = .ok (.if_icmp .lt 7, 3) := by decide +kernel
theorem dJ9_max_7cf53_5 : decode cJ9_max_7cf53 5 = .ok (.iload_n 0, 1) := by decide +kernel
theorem dJ9_max_7cf53_6 : decode cJ9_max_7cf53 6 = .ok (.goto 4, 3) := by decide +kernel
theorem dJ9_max_7cf53_9 : decode cJ9_max_7cf53 9 = .ok (.iload_n 1, 1) := by decide +kernel
theorem dJ9_max_7cf53_10 : decode cJ9_max_7cf53 10 = .ok (.ireturn, 1) := by decide +kernel
theorem dJ9_max_f86c9_0 : decode cJ9_max_f86c9 0 = .ok (.lload_n 0, 1) := by decide +kernel
theorem dJ9_max_f86c9_1 : decode cJ9_max_f86c9 1 = .ok (.lload_n 2, 1) := by decide +kernel
theorem dJ9_max_f86c9_2 : decode cJ9_max_f86c9 2 = .ok (.lcmp, 1) := by decide +kernel
theorem dJ9_max_f86c9_3 : decode cJ9_max_f86c9 3 = .ok (.ifCond .lt 7, 3) := by decide +kernel
theorem dJ9_max_f86c9_6 : decode cJ9_max_f86c9 6 = .ok (.lload_n 0, 1) := by decide +kernel
theorem dJ9_max_f86c9_7 : decode cJ9_max_f86c9 7 = .ok (.goto 4, 3) := by decide +kernel
theorem dJ9_max_f86c9_10 : decode cJ9_max_f86c9 10 = .ok (.lload_n 2, 1) := by decide +kernel
theorem dJ9_max_f86c9_11 : decode cJ9_max_f86c9 11 = .ok (.lreturn, 1) := by decide +kernel
theorem dJ9_min_f86c9_0 : decode cJ9_min_f86c9 0 = .ok (.lload_n 0, 1) := by decide +kernel
theorem dJ9_min_f86c9_1 : decode cJ9_min_f86c9 1 = .ok (.lload_n 2, 1) := by decide +kernel
theorem dJ9_min_f86c9_2 : decode cJ9_min_f86c9 2 = .ok (.lcmp, 1) := by decide +kernel
theorem dJ9_min_f86c9_3 : decode cJ9_min_f86c9 3 = .ok (.ifCond .gt 7, 3) := by decide +kernel
theorem dJ9_min_f86c9_6 : decode cJ9_min_f86c9 6 = .ok (.lload_n 0, 1) := by decide +kernel
theorem dJ9_min_f86c9_7 : decode cJ9_min_f86c9 7 = .ok (.goto 4, 3) := by decide +kernel
theorem dJ9_min_f86c9_10 : decode cJ9_min_f86c9 10 = .ok (.lload_n 2, 1) := by decide +kernel
theorem dJ9_min_f86c9_11 : decode cJ9_min_f86c9 11 = .ok (.lreturn, 1) := by decide +kernel
