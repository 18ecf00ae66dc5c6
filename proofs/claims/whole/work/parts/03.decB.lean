theorem dX7_init_0 : decode cX7_init 0 = .ok (.aload_n 0, 1) := by decide +kernel
theorem dX7_init_1 : decode cX7_init 1 = .ok (.invokespecial 1, 3) := by decide +kernel
theorem dX7_init_4 : decode cX7_init 4 = .ok (.aload_n 0, 1) := by decide +kernel
theorem dX7_init_5 : decode cX7_init 5 = .ok (.new 7, 3) := by decide +kernel
theorem dX7_init_8 : decode cX7_init 8 = .ok (.dup, 1) := by decide +kernel
theorem dX7_init_9 : decode cX7_init 9 = .ok (.invokespecial 9, 3) := by decide +kernel
theorem dX7_init_12 : decode cX7_init 12 = .ok (.putfield 10, 3) := by decide +kernel
theorem dX7_init_15 : decode cX7_init 15 = .ok (.aload_n 0, 1) := by decide +kernel
theorem dX7_init_16 : decode cX7_init 16 = .ok (.new 16, 3) := by decide +kernel
theorem dX7_init_19 : decode cX7_init 19 = .ok (.dup, 1) := by decide +kernel
theorem dX7_init_20 : decode cX7_init 20 = .ok (.invokespecial 18, 3) := by decide +kernel
theorem dX7_init_23 : decode cX7_init 23 = .ok (.putfield 19, 3) := by decide +kernel
theorem dX7_init_26 : decode cX7_init 26 = .ok (.aload_n 0, 1) := by decide +kernel
theorem dX7_init_27 : decode cX7_init 27 = .ok (.new 23, 3) := by decide +kernel
theorem dX7_init_30 : decode cX7_init 30 = .ok (.dup, 1) := by decide +kernel
theorem dX7_init_31 : decode cX7_init 31 = .ok (.invokespecial 25, 3) := by decide +kernel
theorem dX7_init_34 : decode cX7_init 34 = .ok (.putfield 26, 3) := by decide +kernel
theorem dX7_init_37 : decode cX7_init 37 = .ok (.aload_n 0, 1) := by decide +kernel
theorem dX7_init_38 : decode cX7_init 38 = .ok (.new 30, 3) := by decide +kernel
theorem dX7_init_41 : decode cX7_init 41 = .ok (.dup, 1) := by decide +kernel
theorem dX7_init_42 : decode cX7_init 42 = .ok (.aload_n 0, 1) := by decide +kernel
theorem dX7_init_43 : decode cX7_init 43 = .ok (.getfield 10, 3) := by decide +kernel
theorem dX7_init_46 : decode cX7_init 46 = .ok (.aload_n 0, 1) := by decide +kernel
theorem dX7_init_47 : decode cX7_init 47 = .ok (.getfield 19, 3) := by decide +kernel
theorem dX7_init_50 : decode cX7_init 50 = .ok (.aload_n 0, 1) := by decide +kernel
theorem dX7_init_51 : decode cX7_init 51 = .ok (.getfield 26, 3) := by decide +kernel
theorem dX7_init_54 : decode cX7_init 54 = .ok (.invokespecial 32, 3) := by decide +kernel
theorem dX7_init_57 : decode cX7_init 57 = .ok (.putfield 35, 3) := by decide +kernel
theorem dX7_init_60 : decode cX7_init 60 = .ok (.aload_n 0, 1) := by decide +kernel
theorem dX7_init_61 : decode cX7_init 61 = .ok (.new 39, 3) := by decide +kernel
theorem dX7_init_64 : decode cX7_init 64 = .ok (.dup, 1) := by decide +kernel
theorem dX7_init_65 : decode cX7_init 65 = .ok (.aload_n 0, 1) := by decide +kernel
theorem dX7_init_66 : decode cX7_init 66 = .ok (.getfield 10, 3) := by decide +kernel
theorem dX7_init_69 : decode cX7_init 69 = .ok (.aload_n 0, 1) := by decide +kernel
theorem dX7_init_70 : decode cX7_init 70 = .ok (.getfield 19, 3) := by decide +kernel
theorem dX7_init_73 : decode cX7_init 73 = .ok (.aload_n 0, 1) := by decide +kernel
theorem dX7_init_74 : decode cX7_init 74 = .ok (.getfield 26, 3) := by decide +kernel
theorem dX7_init_77 : decode cX7_init 77 = .ok (.invokespecial 41, 3) := by decide +kernel
theorem dX7_init_80 : decode cX7_init 80 = .ok (.putfield 42, 3) := by decide +kernel
theorem dX7_init_83 : decode cX7_init 83 = .ok (.aload_n 0, 1) := by decide +kernel
theorem dX7_init_84 : decode cX7_init 84 = .ok (.new 46, 3) := by decide +kernel
theorem dX7_init_87 : decode cX7_init 87 = .ok (.dup, 1) := by decide +kernel
theorem dX7_init_88 : decode cX7_init 88 = .ok (.aload_n 0, 1) := by decide +kernel
theorem dX7_init_89 : decode cX7_init 89 = .ok (.getfield 19, 3) := by decide +kernel
theorem dX7_init_92 : decode cX7_init 92 = .ok (.aload_n 0, 1) := by decide +kernel
theorem dX7_init_93 : decode cX7_init 93 = .ok (.getfield 42, 3) := by decide +kernel
theorem dX7_init_96 : decode cX7_init 96 = .ok (.invokespecial 48, 3) := by decide +kernel
theorem dX7_init_99 : decode cX7_init 99 = .ok (.putfield 51, 3) := by decide +kernel
theorem dX7_init_102 : decode cX7_init 102 = .ok (.aload_n 0, 1) := by decide +kernel
theorem dX7_init_103 : decode cX7_init 103 = .ok (.bipush 30, 2) := by decide +kernel
theorem dX7_init_105 : decode cX7_init 105 = .ok (.newarray .int, 2) := by decide +kernel
theorem dX7_init_107 : decode cX7_init 107 = .ok (.putfield 55, 3) := by decide +kernel
theorem dX7_init_110 : decode cX7_init 110 = .ok (.aload_n 0, 1) := by decide +kernel
theorem dX7_init_111 : decode cX7_init 111 = .ok (.bipush 30, 2) := by decide +kernel
theorem dX7_init_113 : decode cX7_init 113 = .ok (.newarray .int, 2) := by decide +kernel
theorem dX7_init_115 : decode cX7_init 115 = .ok (.putfield 59, 3) := by decide +kernel
theorem dX7_init_118 : decode cX7_init 118 = .ok (.return_, 1) := by decide +kernel
theorem dX7_source_0 : decode cX7_source 0 = .ok (.iload_n 1, 1) := by decide +kernel
theorem dX7_source_1 : decode cX7_source 1 = .ok (.iconst 1, 1) := by decide +kernel
theorem dX7_source_2 : decode cX7_source 2 = .ok (.sipush 10000, 3) := by decide +kernel
theorem dX7_source_5 : decode cX7_source 5 = .ok (.invokestatic 62, 3) := by decide +kernel
theorem dX7_source_8 : decode cX7_source 8 = .ok (.ifCond .eq 14, 3) := by decide +kernel
theorem dX7_source_11 : decode cX7_source 11 = .ok (.iload_n 2, 1) := by decide +kernel
theorem dX7_source_12 : decode cX7_source 12 = .ok (.iconst 1, 1) := by decide +kernel
theorem dX7_source_13 : decode cX7_source 13 = .ok (.sipush 1000, 3) := by decide +kernel
theorem dX7_source_16 : decode cX7_source 16 = .ok (.invokestatic 62, 3) := by decide +kernel
theorem dX7_source_19 : decode cX7_source 19 = .ok (.ifCond .ne 5, 3) := by decide +kernel
theorem dX7_source_22 : decode cX7_source 22 = .ok (.iconst 0, 1) := by decide +kernel
theorem dX7_source_23 : decode cX7_source 23 = .ok (.ireturn, 1) := by decide +kernel
theorem dX7_source_24 : decode cX7_source 24 = .ok (.aload_n 0, 1) := by decide +kernel
theorem dX7_source_25 : decode cX7_source 25 = .ok (.getfield 10, 3) := by decide +kernel
theorem dX7_source_28 : decode cX7_source 28 = .ok (.iload_n 1, 1) := by decide +kernel
theorem dX7_source_29 : decode cX7_source 29 = .ok (.putfield 66, 3) := by decide +kernel
theorem dX7_source_32 : decode cX7_source 32 = .ok (.aload_n 0, 1) := by decide +kernel
theorem dX7_source_33 : decode cX7_source 33 = .ok (.getfield 10, 3) := by decide +kernel
theorem dX7_source_36 : decode cX7_source 36 = .ok (.iload_n 2, 1) := by decide +kernel
theorem dX7_source_37 : decode cX7_source 37 = .ok (.putfield 70, 3) := by decide +kernel
theorem dX7_source_40 : decode cX7_source 40 = .ok (.aload_n 0, 1) := by decide +kernel
theorem dX7_source_41 : decode cX7_source 41 = .ok (.iconst 0, 1) := by decide +kernel
theorem dX7_source_42 : decode cX7_source 42 = .ok (.putfield 73, 3) := by decide +kernel
theorem dX7_source_45 : decode cX7_source 45 = .ok (.iconst 1, 1) := by decide +kernel
theorem dX7_source_46 : decode cX7_source 46 = .ok (.ireturn, 1) := by decide +kernel
theorem dX7_line_0 : decode cX7_line 0 = .ok (.aload_n 0, 1) := by decide +kernel
theorem dX7_line_1 : decode cX7_line 1 = .ok (.getfield 10, 3) := by decide +kernel
theorem dX7_line_4 : decode cX7_line 4 = .ok (.iload_n 1, 1) := by decide +kernel
theorem dX7_line_5 : decode cX7_line 5 = .ok (.invokevirtual 77, 3) := by decide +kernel
theorem dX7_line_8 : decode cX7_line 8 = .ok (.ifCond .eq 26, 3) := by decide +kernel
theorem dX7_line_11 : decode cX7_line 11 = .ok (.iload_n 2, 1) := by decide +kernel
theorem dX7_line_12 : decode cX7_line 12 = .ok (.iconst 1, 1) := by decide +kernel
theorem dX7_line_13 : decode cX7_line 13 = .ok (.sipush 1000, 3) := by decide +kernel
theorem dX7_line_16 : decode cX7_line 16 = .ok (.invokestatic 62, 3) := by decide +kernel
theorem dX7_line_19 : decode cX7_line 19 = .ok (.ifCond .eq 15, 3) := by decide +kernel
theorem dX7_line_22 : decode cX7_line 22 = .ok (.aload_n 0, 1) := by decide +kernel
theorem dX7_line_23 : decode cX7_line 23 = .ok (.getfield 10, 3) := by decide +kernel
theorem dX7_line_26 : decode cX7_line 26 = .ok (.getfield 81, 3) := by decide +kernel
theorem dX7_line_29 : decode cX7_line 29 = .ok (.bipush 30, 2) := by decide +kernel
theorem dX7_line_31 : decode cX7_line 31 = .ok (.if_icmp .lt 5, 3) := by decide +kernel
theorem dX7_line_34 : decode cX7_line 34 = .ok (.iconst (-1), 1) := by decide +kernel
theorem dX7_line_35 : decode cX7_line 35 = .ok (.ireturn, 1) := by decide +kernel
theorem dX7_line_36 : decode cX7_line 36 = .ok (.aload_n 0, 1) := by decide +kernel
theorem dX7_line_37 : decode cX7_line 37 = .ok (.iconst 0, 1) := by decide +kernel
theorem dX7_line_38 : decode cX7_line 38 = .ok (.putfield 73, 3) := by decide +kernel
theorem dX7_line_41 : decode cX7_line 41 = .ok (.aload_n 0, 1) := by decide +kernel
theorem dX7_line_42 : decode cX7_line 42 = .ok (.getfield 10, 3) := by decide +kernel
theorem dX7_line_45 : decode cX7_line 45 = .ok (.iload_n 1, 1) := by decide +kernel
theorem dX7_line_46 : decode cX7_line 46 = .ok (.iload_n 2, 1) := by decide +kernel
theorem dX7_line_47 : decode cX7_line 47 = .ok (.invokevirtual 84, 3) := by decide +kernel
theorem dX7_line_50 : decode cX7_line 50 = .ok (.ireturn, 1) := by decide +kernel
theorem dX7_load_0 : decode cX7_load 0 = .ok (.aload_n 0, 1) := by decide +kernel
theorem dX7_load_1 : decode cX7_load 1 = .ok (.getfield 10, 3) := by decide +kernel
theorem dX7_load_4 : decode cX7_load 4 = .ok (.iload_n 1, 1) := by decide +kernel
theorem dX7_load_5 : decode cX7_load 5 = .ok (.invokevirtual 77, 3) := by decide +kernel
theorem dX7_load_8 : decode cX7_load 8 = .ok (.ifCond .eq 14, 3) := by decide +kernel
theorem dX7_load_11 : decode cX7_load 11 = .ok (.iload_n 2, 1) := by decide +kernel
theorem dX7_load_12 : decode cX7_load 12 = .ok (.iconst 0, 1) := by decide +kernel
theorem dX7_load_13 : decode cX7_load 13 = .ok (.sipush 1000, 3) := by decide +kernel
theorem dX7_load_16 : decode cX7_load 16 = .ok (.invokestatic 62, 3) := by decide +kernel
theorem dX7_load_19 : decode cX7_load 19 = .ok (.ifCond .ne 5, 3) := by decide +kernel
theorem dX7_load_22 : decode cX7_load 22 = .ok (.iconst 0, 1) := by decide +kernel
theorem dX7_load_23 : decode cX7_load 23 = .ok (.ireturn, 1) := by decide +kernel
theorem dX7_load_24 : decode cX7_load 24 = .ok (.aload_n 0, 1) := by decide +kernel
theorem dX7_load_25 : decode cX7_load 25 = .ok (.getfield 10, 3) := by decide +kernel
theorem dX7_load_28 : decode cX7_load 28 = .ok (.getfield 88, 3) := by decide +kernel
theorem dX7_load_31 : decode cX7_load 31 = .ok (.iload_n 1, 1) := by decide +kernel
theorem dX7_load_32 : decode cX7_load 32 = .ok (.iload_n 2, 1) := by decide +kernel
theorem dX7_load_33 : decode cX7_load 33 = .ok (.iastore, 1) := by decide +kernel
theorem dX7_load_34 : decode cX7_load 34 = .ok (.aload_n 0, 1) := by decide +kernel
theorem dX7_load_35 : decode cX7_load 35 = .ok (.iconst 0, 1) := by decide +kernel
theorem dX7_load_36 : decode cX7_load 36 = .ok (.putfield 73, 3) := by decide +kernel
theorem dX7_load_39 : decode cX7_load 39 = .ok (.iconst 1, 1) := by decide +kernel
theorem dX7_load_40 : decode cX7_load 40 = .ok (.ireturn, 1) := by decide +kernel
theorem dX7_corner_0 : decode cX7_corner 0 = .ok (.iload_n 1, 1) := by decide +kernel
theorem dX7_corner_1 : decode cX7_corner 1 = .ok (.iconst 0, 1) := by decide +kernel
theorem dX7_corner_2 : decode cX7_corner 2 = .ok (.bipush 7, 2) := by decide +kernel
theorem dX7_corner_4 : decode cX7_corner 4 = .ok (.invokestatic 62, 3) := by decide +kernel
theorem dX7_corner_7 : decode cX7_corner 7 = .ok (.ifCond .ne 5, 3) := by decide +kernel
theorem dX7_corner_10 : decode cX7_corner 10 = .ok (.iconst (-1), 1) := by decide +kernel
theorem dX7_corner_11 : decode cX7_corner 11 = .ok (.ireturn, 1) := by decide +kernel
theorem dX7_corner_12 : decode cX7_corner 12 = .ok (.aload_n 0, 1) := by decide +kernel
theorem dX7_corner_13 : decode cX7_corner 13 = .ok (.getfield 19, 3) := by decide +kernel
theorem dX7_corner_16 : decode cX7_corner 16 = .ok (.getfield 91, 3) := by decide +kernel
theorem dX7_corner_19 : decode cX7_corner 19 = .ok (.iload_n 1, 1) := by decide +kernel
theorem dX7_corner_20 : decode cX7_corner 20 = .ok (.aaload, 1) := by decide +kernel
theorem dX7_corner_21 : decode cX7_corner 21 = .ok (.iload_n 2, 1) := by decide +kernel
theorem dX7_corner_22 : decode cX7_corner 22 = .ok (.iload_n 3, 1) := by decide +kernel
theorem dX7_corner_23 : decode cX7_corner 23 = .ok (.invokevirtual 95, 3) := by decide +kernel
theorem dX7_corner_26 : decode cX7_corner 26 = .ok (.istore 4, 2) := by decide +kernel
theorem dX7_corner_28 : decode cX7_corner 28 = .ok (.iload 4, 2) := by decide +kernel
theorem dX7_corner_30 : decode cX7_corner 30 = .ok (.iconst (-1), 1) := by decide +kernel
theorem dX7_corner_31 : decode cX7_corner 31 = .ok (.if_icmp .eq 8, 3) := by decide +kernel
theorem dX7_corner_34 : decode cX7_corner 34 = .ok (.aload_n 0, 1) := by decide +kernel
theorem dX7_corner_35 : decode cX7_corner 35 = .ok (.iconst 0, 1) := by decide +kernel
theorem dX7_corner_36 : decode cX7_corner 36 = .ok (.putfield 73, 3) := by decide +kernel
theorem dX7_corner_39 : decode cX7_corner 39 = .ok (.iload 4, 2) := by decide +kernel
theorem dX7_corner_41 : decode cX7_corner 41 = .ok (.ireturn, 1) := by decide +kernel
theorem dX7_breaker_0 : decode cX7_breaker 0 = .ok (.aload_n 0, 1) := by decide +kernel
theorem dX7_breaker_1 : decode cX7_breaker 1 = .ok (.getfield 10, 3) := by decide +kernel
theorem dX7_breaker_4 : decode cX7_breaker 4 = .ok (.iload_n 1, 1) := by decide +kernel
theorem dX7_breaker_5 : decode cX7_breaker 5 = .ok (.invokevirtual 100, 3) := by decide +kernel
theorem dX7_breaker_8 : decode cX7_breaker 8 = .ok (.ifCond .eq 35, 3) := by decide +kernel
theorem dX7_breaker_11 : decode cX7_breaker 11 = .ok (.iload_n 2, 1) := by decide +kernel
theorem dX7_breaker_12 : decode cX7_breaker 12 = .ok (.iconst 0, 1) := by decide +kernel
theorem dX7_breaker_13 : decode cX7_breaker 13 = .ok (.bipush 7, 2) := by decide +kernel
theorem dX7_breaker_15 : decode cX7_breaker 15 = .ok (.invokestatic 62, 3) := by decide +kernel
theorem dX7_breaker_18 : decode cX7_breaker 18 = .ok (.ifCond .eq 25, 3) := by decide +kernel
theorem dX7_breaker_21 : decode cX7_breaker 21 = .ok (.iload_n 3, 1) := by decide +kernel
theorem dX7_breaker_22 : decode cX7_breaker 22 = .ok (.iconst 1, 1) := by decide +kernel
theorem dX7_breaker_23 : decode cX7_breaker 23 = .ok (.bipush 40, 2) := by decide +kernel
theorem dX7_breaker_25 : decode cX7_breaker 25 = .ok (.invokestatic 62, 3) := by decide +kernel
theorem dX7_breaker_28 : decode cX7_breaker 28 = .ok (.ifCond .eq 15, 3) := by decide +kernel
theorem dX7_breaker_31 : decode cX7_breaker 31 = .ok (.iload 4, 2) := by decide +kernel
theorem dX7_breaker_33 : decode cX7_breaker 33 = .ok (.iconst 1, 1) := by decide +kernel
theorem dX7_breaker_34 : decode cX7_breaker 34 = .ok (.sipush 10000, 3) := by decide +kernel
theorem dX7_breaker_37 : decode cX7_breaker 37 = .ok (.invokestatic 62, 3) := by decide +kernel
theorem dX7_breaker_40 : decode cX7_breaker 40 = .ok (.ifCond .ne 5, 3) := by decide +kernel
theorem dX7_breaker_43 : decode cX7_breaker 43 = .ok (.iconst 0, 1) := by decide +kernel
theorem dX7_breaker_44 : decode cX7_breaker 44 = .ok (.ireturn, 1) := by decide +kernel
theorem dX7_breaker_45 : decode cX7_breaker 45 = .ok (.aload_n 0, 1) := by decide +kernel
theorem dX7_breaker_46 : decode cX7_breaker 46 = .ok (.getfield 19, 3) := by decide +kernel
theorem dX7_breaker_49 : decode cX7_breaker 49 = .ok (.iload_n 1, 1) := by decide +kernel
theorem dX7_breaker_50 : decode cX7_breaker 50 = .ok (.iload_n 2, 1) := by decide +kernel
theorem dX7_breaker_51 : decode cX7_breaker 51 = .ok (.iload_n 3, 1) := by decide +kernel
theorem dX7_breaker_52 : decode cX7_breaker 52 = .ok (.iload 4, 2) := by decide +kernel
theorem dX7_breaker_54 : decode cX7_breaker 54 = .ok (.invokevirtual 103, 3) := by decide +kernel
theorem dX7_breaker_57 : decode cX7_breaker 57 = .ok (.aload_n 0, 1) := by decide +kernel
theorem dX7_breaker_58 : decode cX7_breaker 58 = .ok (.iconst 0, 1) := by decide +kernel
theorem dX7_breaker_59 : decode cX7_breaker 59 = .ok (.putfield 73, 3) := by decide +kernel
theorem dX7_breaker_62 : decode cX7_breaker 62 = .ok (.iconst 1, 1) := by decide +kernel
theorem dX7_breaker_63 : decode cX7_breaker 63 = .ok (.ireturn, 1) := by decide +kernel
theorem dX7_remove_0 : decode cX7_remove 0 = .ok (.aload_n 0, 1) := by decide +kernel
theorem dX7_remove_1 : decode cX7_remove 1 = .ok (.getfield 19, 3) := by decide +kernel
theorem dX7_remove_4 : decode cX7_remove 4 = .ok (.iload_n 1, 1) := by decide +kernel
theorem dX7_remove_5 : decode cX7_remove 5 = .ok (.invokevirtual 107, 3) := by decide +kernel
theorem dX7_remove_8 : decode cX7_remove 8 = .ok (.ifCond .ne 5, 3) := by decide +kernel
theorem dX7_remove_11 : decode cX7_remove 11 = .ok (.iconst 0, 1) := by decide +kernel
theorem dX7_remove_12 : decode cX7_remove 12 = .ok (.ireturn, 1) := by decide +kernel
theorem dX7_remove_13 : decode cX7_remove 13 = .ok (.aload_n 0, 1) := by decide +kernel
theorem dX7_remove_14 : decode cX7_remove 14 = .ok (.getfield 19, 3) := by decide +kernel
theorem dX7_remove_17 : decode cX7_remove 17 = .ok (.iload_n 1, 1) := by decide +kernel
theorem dX7_remove_18 : decode cX7_remove 18 = .ok (.invokevirtual 110, 3) := by decide +kernel
theorem dX7_remove_21 : decode cX7_remove 21 = .ok (.aload_n 0, 1) := by decide +kernel
theorem dX7_remove_22 : decode cX7_remove 22 = .ok (.iconst 0, 1) := by decide +kernel
theorem dX7_remove_23 : decode cX7_remove 23 = .ok (.putfield 73, 3) := by decide +kernel
theorem dX7_remove_26 : decode cX7_remove 26 = .ok (.iconst 1, 1) := by decide +kernel
theorem dX7_remove_27 : decode cX7_remove 27 = .ok (.ireturn, 1) := by decide +kernel
theorem dX7_dial_0 : decode cX7_dial 0 = .ok (.aload_n 0, 1) := by decide +kernel
theorem dX7_dial_1 : decode cX7_dial 1 = .ok (.getfield 19, 3) := by decide +kernel
theorem dX7_dial_4 : decode cX7_dial 4 = .ok (.iload_n 1, 1) := by decide +kernel
theorem dX7_dial_5 : decode cX7_dial 5 = .ok (.invokevirtual 107, 3) := by decide +kernel
theorem dX7_dial_8 : decode cX7_dial 8 = .ok (.ifCond .eq 13, 3) := by decide +kernel
theorem dX7_dial_11 : decode cX7_dial 11 = .ok (.iload_n 2, 1) := by decide +kernel
theorem dX7_dial_12 : decode cX7_dial 12 = .ok (.iconst 1, 1) := by decide +kernel
theorem dX7_dial_13 : decode cX7_dial 13 = .ok (.bipush 40, 2) := by decide +kernel
theorem dX7_dial_15 : decode cX7_dial 15 = .ok (.invokestatic 62, 3) := by decide +kernel
theorem dX7_dial_18 : decode cX7_dial 18 = .ok (.ifCond .ne 5, 3) := by decide +kernel
theorem dX7_dial_21 : decode cX7_dial 21 = .ok (.iconst 0, 1) := by decide +kernel
theorem dX7_dial_22 : decode cX7_dial 22 = .ok (.ireturn, 1) := by decide +kernel
theorem dX7_dial_23 : decode cX7_dial 23 = .ok (.aload_n 0, 1) := by decide +kernel
theorem dX7_dial_24 : decode cX7_dial 24 = .ok (.getfield 19, 3) := by decide +kernel
theorem dX7_dial_27 : decode cX7_dial 27 = .ok (.getfield 114, 3) := by decide +kernel
theorem dX7_dial_30 : decode cX7_dial 30 = .ok (.iload_n 1, 1) := by decide +kernel
theorem dX7_dial_31 : decode cX7_dial 31 = .ok (.iload_n 2, 1) := by decide +kernel
theorem dX7_dial_32 : decode cX7_dial 32 = .ok (.iastore, 1) := by decide +kernel
theorem dX7_dial_33 : decode cX7_dial 33 = .ok (.aload_n 0, 1) := by decide +kernel
theorem dX7_dial_34 : decode cX7_dial 34 = .ok (.iconst 0, 1) := by decide +kernel
theorem dX7_dial_35 : decode cX7_dial 35 = .ok (.putfield 73, 3) := by decide +kernel
theorem dX7_dial_38 : decode cX7_dial 38 = .ok (.iconst 1, 1) := by decide +kernel
theorem dX7_dial_39 : decode cX7_dial 39 = .ok (.ireturn, 1) := by decide +kernel
theorem dX7_fails_0 : decode cX7_fails 0 = .ok (.aload_n 0, 1) := by decide +kernel
theorem dX7_fails_1 : decode cX7_fails 1 = .ok (.getfield 19, 3) := by decide +kernel
theorem dX7_fails_4 : decode cX7_fails 4 = .ok (.iload_n 1, 1) := by decide +kernel
theorem dX7_fails_5 : decode cX7_fails 5 = .ok (.invokevirtual 107, 3) := by decide +kernel
theorem dX7_fails_8 : decode cX7_fails 8 = .ok (.ifCond .ne 5, 3) := by decide +kernel
theorem dX7_fails_11 : decode cX7_fails 11 = .ok (.iconst 0, 1) := by decide +kernel
theorem dX7_fails_12 : decode cX7_fails 12 = .ok (.ireturn, 1) := by decide +kernel
theorem dX7_fails_13 : decode cX7_fails 13 = .ok (.aload_n 0, 1) := by decide +kernel
theorem dX7_fails_14 : decode cX7_fails 14 = .ok (.getfield 19, 3) := by decide +kernel
theorem dX7_fails_17 : decode cX7_fails 17 = .ok (.iload_n 1, 1) := by decide +kernel
theorem dX7_fails_18 : decode cX7_fails 18 = .ok (.iload_n 2, 1) := by decide +kernel
theorem dX7_fails_19 : decode cX7_fails 19 = .ok (.invokevirtual 117, 3) := by decide +kernel
theorem dX7_fails_22 : decode cX7_fails 22 = .ok (.aload_n 0, 1) := by decide +kernel
theorem dX7_fails_23 : decode cX7_fails 23 = .ok (.iconst 0, 1) := by decide +kernel
theorem dX7_fails_24 : decode cX7_fails 24 = .ok (.putfield 73, 3) := by decide +kernel
theorem dX7_fails_27 : decode cX7_fails 27 = .ok (.iconst 1, 1) := by decide +kernel
theorem dX7_fails_28 : decode cX7_fails 28 = .ok (.ireturn, 1) := by decide +kernel
theorem dX7_told_0 : decode cX7_told 0 = .ok (.iload_n 1, 1) := by decide +kernel
theorem dX7_told_1 : decode cX7_told 1 = .ok (.iconst 1, 1) := by decide +kernel
theorem dX7_told_2 : decode cX7_told 2 = .ok (.sipush 10000, 3) := by decide +kernel
theorem dX7_told_5 : decode cX7_told 5 = .ok (.invokestatic 62, 3) := by decide +kernel
theorem dX7_told_8 : decode cX7_told 8 = .ok (.ifCond .eq 24, 3) := by decide +kernel
theorem dX7_told_11 : decode cX7_told 11 = .ok (.iload_n 2, 1) := by decide +kernel
theorem dX7_told_12 : decode cX7_told 12 = .ok (.iconst 1, 1) := by decide +kernel
theorem dX7_told_13 : decode cX7_told 13 = .ok (.ldc 121, 2) := by decide +kernel
theorem dX7_told_15 : decode cX7_told 15 = .ok (.invokestatic 62, 3) := by decide +kernel
theorem dX7_told_18 : decode cX7_told 18 = .ok (.ifCond .eq 14, 3) := by decide +kernel
theorem dX7_told_21 : decode cX7_told 21 = .ok (.iload_n 3, 1) := by decide +kernel
theorem dX7_told_22 : decode cX7_told 22 = .ok (.iconst 0, 1) := by decide +kernel
theorem dX7_told_23 : decode cX7_told 23 = .ok (.sipush 1000, 3) := by decide +kernel
theorem dX7_told_26 : decode cX7_told 26 = .ok (.invokestatic 62, 3) := by decide +kernel
theorem dX7_told_29 : decode cX7_told 29 = .ok (.ifCond .ne 5, 3) := by decide +kernel
theorem dX7_told_32 : decode cX7_told 32 = .ok (.iconst 0, 1) := by decide +kernel
theorem dX7_told_33 : decode cX7_told 33 = .ok (.ireturn, 1) := by decide +kernel
theorem dX7_told_34 : decode cX7_told 34 = .ok (.aload_n 0, 1) := by decide +kernel
theorem dX7_told_35 : decode cX7_told 35 = .ok (.getfield 26, 3) := by decide +kernel
theorem dX7_told_38 : decode cX7_told 38 = .ok (.iload_n 1, 1) := by decide +kernel
theorem dX7_told_39 : decode cX7_told 39 = .ok (.putfield 122, 3) := by decide +kernel
theorem dX7_told_42 : decode cX7_told 42 = .ok (.aload_n 0, 1) := by decide +kernel
theorem dX7_told_43 : decode cX7_told 43 = .ok (.getfield 26, 3) := by decide +kernel
theorem dX7_told_46 : decode cX7_told 46 = .ok (.iload_n 2, 1) := by decide +kernel
theorem dX7_told_47 : decode cX7_told 47 = .ok (.putfield 125, 3) := by decide +kernel
theorem dX7_told_50 : decode cX7_told 50 = .ok (.aload_n 0, 1) := by decide +kernel
theorem dX7_told_51 : decode cX7_told 51 = .ok (.getfield 26, 3) := by decide +kernel
theorem dX7_told_54 : decode cX7_told 54 = .ok (.iload_n 3, 1) := by decide +kernel
theorem dX7_told_55 : decode cX7_told 55 = .ok (.putfield 128, 3) := by decide +kernel
theorem dX7_told_58 : decode cX7_told 58 = .ok (.aload_n 0, 1) := by decide +kernel
theorem dX7_told_59 : decode cX7_told 59 = .ok (.iconst 0, 1) := by decide +kernel
theorem dX7_told_60 : decode cX7_told 60 = .ok (.putfield 73, 3) := by decide +kernel
theorem dX7_told_63 : decode cX7_told 63 = .ok (.iconst 1, 1) := by decide +kernel
theorem dX7_told_64 : decode cX7_told 64 = .ok (.ireturn, 1) := by decide +kernel
theorem dX7_lineOf_0 : decode cX7_lineOf 0 = .ok (.aload_n 0, 1) := by decide +kernel
theorem dX7_lineOf_1 : decode cX7_lineOf 1 = .ok (.getfield 10, 3) := by decide +kernel
theorem dX7_lineOf_4 : decode cX7_lineOf 4 = .ok (.iload_n 1, 1) := by decide +kernel
theorem dX7_lineOf_5 : decode cX7_lineOf 5 = .ok (.invokevirtual 100, 3) := by decide +kernel
theorem dX7_lineOf_8 : decode cX7_lineOf 8 = .ok (.ifCond .ne 5, 3) := by decide +kernel
theorem dX7_lineOf_11 : decode cX7_lineOf 11 = .ok (.iconst (-1), 1) := by decide +kernel
theorem dX7_lineOf_12 : decode cX7_lineOf 12 = .ok (.ireturn, 1) := by decide +kernel
theorem dX7_lineOf_13 : decode cX7_lineOf 13 = .ok (.iload_n 2, 1) := by decide +kernel
theorem dX7_lineOf_14 : decode cX7_lineOf 14 = .ok (.tableswitch 99 0 4 #[34, 44, 64, 73, 82], 34) := by decide +kernel
theorem dX7_lineOf_48 : decode cX7_lineOf 48 = .ok (.aload_n 0, 1) := by decide +kernel
theorem dX7_lineOf_49 : decode cX7_lineOf 49 = .ok (.getfield 10, 3) := by decide +kernel
theorem dX7_lineOf_52 : decode cX7_lineOf 52 = .ok (.getfield 131, 3) := by decide +kernel
theorem dX7_lineOf_55 : decode cX7_lineOf 55 = .ok (.iload_n 1, 1) := by decide +kernel
theorem dX7_lineOf_56 : decode cX7_lineOf 56 = .ok (.iaload, 1) := by decide +kernel
theorem dX7_lineOf_57 : decode cX7_lineOf 57 = .ok (.ireturn, 1) := by decide +kernel
theorem dX7_lineOf_58 : decode cX7_lineOf 58 = .ok (.aload_n 0, 1) := by decide +kernel
theorem dX7_lineOf_59 : decode cX7_lineOf 59 = .ok (.getfield 19, 3) := by decide +kernel
theorem dX7_lineOf_62 : decode cX7_lineOf 62 = .ok (.aload_n 0, 1) := by decide +kernel
theorem dX7_lineOf_63 : decode cX7_lineOf 63 = .ok (.getfield 10, 3) := by decide +kernel
theorem dX7_lineOf_66 : decode cX7_lineOf 66 = .ok (.getfield 134, 3) := by decide +kernel
theorem dX7_lineOf_69 : decode cX7_lineOf 69 = .ok (.iload_n 1, 1) := by decide +kernel
theorem dX7_lineOf_70 : decode cX7_lineOf 70 = .ok (.iaload, 1) := by decide +kernel
theorem dX7_lineOf_71 : decode cX7_lineOf 71 = .ok (.invokevirtual 137, 3) := by decide +kernel
theorem dX7_lineOf_74 : decode cX7_lineOf 74 = .ok (.invokestatic 141, 3) := by decide +kernel
theorem dX7_lineOf_77 : decode cX7_lineOf 77 = .ok (.ireturn, 1) := by decide +kernel
theorem dX7_lineOf_78 : decode cX7_lineOf 78 = .ok (.aload_n 0, 1) := by decide +kernel
theorem dX7_lineOf_79 : decode cX7_lineOf 79 = .ok (.iload_n 1, 1) := by decide +kernel
theorem dX7_lineOf_80 : decode cX7_lineOf 80 = .ok (.invokevirtual 144, 3) := by decide +kernel
theorem dX7_lineOf_83 : decode cX7_lineOf 83 = .ok (.invokestatic 141, 3) := by decide +kernel
theorem dX7_lineOf_86 : decode cX7_lineOf 86 = .ok (.ireturn, 1) := by decide +kernel
theorem dX7_lineOf_87 : decode cX7_lineOf 87 = .ok (.aload_n 0, 1) := by decide +kernel
theorem dX7_lineOf_88 : decode cX7_lineOf 88 = .ok (.getfield 10, 3) := by decide +kernel
theorem dX7_lineOf_91 : decode cX7_lineOf 91 = .ok (.iload_n 1, 1) := by decide +kernel
theorem dX7_lineOf_92 : decode cX7_lineOf 92 = .ok (.invokevirtual 147, 3) := by decide +kernel
theorem dX7_lineOf_95 : decode cX7_lineOf 95 = .ok (.ireturn, 1) := by decide +kernel
theorem dX7_lineOf_96 : decode cX7_lineOf 96 = .ok (.aload_n 0, 1) := by decide +kernel
theorem dX7_lineOf_97 : decode cX7_lineOf 97 = .ok (.getfield 19, 3) := by decide +kernel
theorem dX7_lineOf_100 : decode cX7_lineOf 100 = .ok (.iload_n 1, 1) := by decide +kernel
theorem dX7_lineOf_101 : decode cX7_lineOf 101 = .ok (.invokevirtual 107, 3) := by decide +kernel
theorem dX7_lineOf_104 : decode cX7_lineOf 104 = .ok (.ifCond .eq 7, 3) := by decide +kernel
theorem dX7_lineOf_107 : decode cX7_lineOf 107 = .ok (.iconst 1, 1) := by decide +kernel
theorem dX7_lineOf_108 : decode cX7_lineOf 108 = .ok (.goto 4, 3) := by decide +kernel
theorem dX7_lineOf_111 : decode cX7_lineOf 111 = .ok (.iconst 0, 1) := by decide +kernel
theorem dX7_lineOf_112 : decode cX7_lineOf 112 = .ok (.ireturn, 1) := by decide +kernel
theorem dX7_lineOf_113 : decode cX7_lineOf 113 = .ok (.aload_n 0, 1) := by decide +kernel
theorem dX7_lineOf_114 : decode cX7_lineOf 114 = .ok (.iload_n 1, 1) := by decide +kernel
theorem dX7_lineOf_115 : decode cX7_lineOf 115 = .ok (.iload_n 2, 1) := by decide +kernel
theorem dX7_lineOf_116 : decode cX7_lineOf 116 = .ok (.invokevirtual 150, 3) := by decide +kernel
theorem dX7_lineOf_119 : decode cX7_lineOf 119 = .ok (.ireturn, 1) := by decide +kernel
theorem dX7_fault_0 : decode cX7_fault 0 = .ok (.aload_n 0, 1) := by decide +kernel
theorem dX7_fault_1 : decode cX7_fault 1 = .ok (.getfield 10, 3) := by decide +kernel
theorem dX7_fault_4 : decode cX7_fault 4 = .ok (.iload_n 1, 1) := by decide +kernel
theorem dX7_fault_5 : decode cX7_fault 5 = .ok (.iload_n 2, 1) := by decide +kernel
theorem dX7_fault_6 : decode cX7_fault 6 = .ok (.iload_n 3, 1) := by decide +kernel
theorem dX7_fault_7 : decode cX7_fault 7 = .ok (.invokevirtual 153, 3) := by decide +kernel
theorem dX7_fault_10 : decode cX7_fault 10 = .ok (.ifCond .ne 7, 3) := by decide +kernel
theorem dX7_fault_13 : decode cX7_fault 13 = .ok (.ldc2_w 156, 3) := by decide +kernel
theorem dX7_fault_16 : decode cX7_fault 16 = .ok (.lreturn, 1) := by decide +kernel
theorem dX7_fault_17 : decode cX7_fault 17 = .ok (.aload_n 0, 1) := by decide +kernel
theorem dX7_fault_18 : decode cX7_fault 18 = .ok (.getfield 10, 3) := by decide +kernel
theorem dX7_fault_21 : decode cX7_fault 21 = .ok (.iload_n 1, 1) := by decide +kernel
theorem dX7_fault_22 : decode cX7_fault 22 = .ok (.iload_n 2, 1) := by decide +kernel
theorem dX7_fault_23 : decode cX7_fault 23 = .ok (.iload_n 3, 1) := by decide +kernel
theorem dX7_fault_24 : decode cX7_fault 24 = .ok (.invokevirtual 158, 3) := by decide +kernel
theorem dX7_fault_27 : decode cX7_fault 27 = .ok (.lstore 5, 2) := by decide +kernel
theorem dX7_fault_29 : decode cX7_fault 29 = .ok (.iload 4, 2) := by decide +kernel
theorem dX7_fault_31 : decode cX7_fault 31 = .ok (.ifCond .ne 6, 3) := by decide +kernel
theorem dX7_fault_34 : decode cX7_fault 34 = .ok (.lload 5, 2) := by decide +kernel
theorem dX7_fault_36 : decode cX7_fault 36 = .ok (.lreturn, 1) := by decide +kernel
theorem dX7_fault_37 : decode cX7_fault 37 = .ok (.iload 4, 2) := by decide +kernel
theorem dX7_fault_39 : decode cX7_fault 39 = .ok (.iconst 1, 1) := by decide +kernel
theorem dX7_fault_40 : decode cX7_fault 40 = .ok (.if_icmp .ne 25, 3) := by decide +kernel
theorem dX7_fault_43 : decode cX7_fault 43 = .ok (.lload 5, 2) := by decide +kernel
theorem dX7_fault_45 : decode cX7_fault 45 = .ok (.lconst 0, 1) := by decide +kernel
theorem dX7_fault_46 : decode cX7_fault 46 = .ok (.lcmp, 1) := by decide +kernel
theorem dX7_fault_47 : decode cX7_fault 47 = .ok (.ifCond .le 18, 3) := by decide +kernel
theorem dX7_fault_50 : decode cX7_fault 50 = .ok (.ldc2_w 162, 3) := by decide +kernel
theorem dX7_fault_53 : decode cX7_fault 53 = .ok (.aload_n 0, 1) := by decide +kernel
theorem dX7_fault_54 : decode cX7_fault 54 = .ok (.getfield 10, 3) := by decide +kernel
theorem dX7_fault_57 : decode cX7_fault 57 = .ok (.invokevirtual 164, 3) := by decide +kernel
theorem dX7_fault_60 : decode cX7_fault 60 = .ok (.lmul, 1) := by decide +kernel
theorem dX7_fault_61 : decode cX7_fault 61 = .ok (.lload 5, 2) := by decide +kernel
theorem dX7_fault_63 : decode cX7_fault 63 = .ok (.ldiv, 1) := by decide +kernel
theorem dX7_fault_64 : decode cX7_fault 64 = .ok (.lreturn, 1) := by decide +kernel
theorem dX7_fault_65 : decode cX7_fault 65 = .ok (.ldc2_w 156, 3) := by decide +kernel
theorem dX7_fault_68 : decode cX7_fault 68 = .ok (.lreturn, 1) := by decide +kernel
theorem dX7_waits_0 : decode cX7_waits 0 = .ok (.aload_n 0, 1) := by decide +kernel
theorem dX7_waits_1 : decode cX7_waits 1 = .ok (.getfield 10, 3) := by decide +kernel
theorem dX7_waits_4 : decode cX7_waits 4 = .ok (.iload_n 2, 1) := by decide +kernel
theorem dX7_waits_5 : decode cX7_waits 5 = .ok (.iload_n 3, 1) := by decide +kernel
theorem dX7_waits_6 : decode cX7_waits 6 = .ok (.iload 4, 2) := by decide +kernel
theorem dX7_waits_8 : decode cX7_waits 8 = .ok (.invokevirtual 153, 3) := by decide +kernel
theorem dX7_waits_11 : decode cX7_waits 11 = .ok (.ifCond .eq 15, 3) := by decide +kernel
theorem dX7_waits_14 : decode cX7_waits 14 = .ok (.aload_n 0, 1) := by decide +kernel
theorem dX7_waits_15 : decode cX7_waits 15 = .ok (.getfield 10, 3) := by decide +kernel
theorem dX7_waits_18 : decode cX7_waits 18 = .ok (.iload_n 1, 1) := by decide +kernel
theorem dX7_waits_19 : decode cX7_waits 19 = .ok (.iload_n 2, 1) := by decide +kernel
theorem dX7_waits_20 : decode cX7_waits 20 = .ok (.invokevirtual 168, 3) := by decide +kernel
theorem dX7_waits_23 : decode cX7_waits 23 = .ok (.ifCond .ne 5, 3) := by decide +kernel
theorem dX7_waits_26 : decode cX7_waits 26 = .ok (.iconst (-1), 1) := by decide +kernel
theorem dX7_waits_27 : decode cX7_waits 27 = .ok (.ireturn, 1) := by decide +kernel
theorem dX7_waits_28 : decode cX7_waits 28 = .ok (.aload_n 0, 1) := by decide +kernel
theorem dX7_waits_29 : decode cX7_waits 29 = .ok (.getfield 19, 3) := by decide +kernel
theorem dX7_waits_32 : decode cX7_waits 32 = .ok (.iload_n 1, 1) := by decide +kernel
theorem dX7_waits_33 : decode cX7_waits 33 = .ok (.aload_n 0, 1) := by decide +kernel
theorem dX7_waits_34 : decode cX7_waits 34 = .ok (.getfield 10, 3) := by decide +kernel
theorem dX7_waits_37 : decode cX7_waits 37 = .ok (.invokevirtual 164, 3) := by decide +kernel
theorem dX7_waits_40 : decode cX7_waits 40 = .ok (.aload_n 0, 1) := by decide +kernel
theorem dX7_waits_41 : decode cX7_waits 41 = .ok (.getfield 10, 3) := by decide +kernel
theorem dX7_waits_44 : decode cX7_waits 44 = .ok (.iload_n 2, 1) := by decide +kernel
theorem dX7_waits_45 : decode cX7_waits 45 = .ok (.iload_n 3, 1) := by decide +kernel
theorem dX7_waits_46 : decode cX7_waits 46 = .ok (.iload 4, 2) := by decide +kernel
theorem dX7_waits_48 : decode cX7_waits 48 = .ok (.invokevirtual 158, 3) := by decide +kernel
theorem dX7_waits_51 : decode cX7_waits 51 = .ok (.invokevirtual 172, 3) := by decide +kernel
theorem dX7_waits_54 : decode cX7_waits 54 = .ok (.ireturn, 1) := by decide +kernel
theorem dX7_run_0 : decode cX7_run 0 = .ok (.aload_n 0, 1) := by decide +kernel
theorem dX7_run_1 : decode cX7_run 1 = .ok (.getfield 10, 3) := by decide +kernel
theorem dX7_run_4 : decode cX7_run 4 = .ok (.iload_n 1, 1) := by decide +kernel
theorem dX7_run_5 : decode cX7_run 5 = .ok (.iload_n 2, 1) := by decide +kernel
theorem dX7_run_6 : decode cX7_run 6 = .ok (.iload_n 3, 1) := by decide +kernel
theorem dX7_run_7 : decode cX7_run 7 = .ok (.invokevirtual 153, 3) := by decide +kernel
theorem dX7_run_10 : decode cX7_run 10 = .ok (.ifCond .ne 5, 3) := by decide +kernel
theorem dX7_run_13 : decode cX7_run 13 = .ok (.iconst (-1), 1) := by decide +kernel
theorem dX7_run_14 : decode cX7_run 14 = .ok (.ireturn, 1) := by decide +kernel
theorem dX7_run_15 : decode cX7_run 15 = .ok (.aload_n 0, 1) := by decide +kernel
theorem dX7_run_16 : decode cX7_run 16 = .ok (.iload_n 1, 1) := by decide +kernel
theorem dX7_run_17 : decode cX7_run 17 = .ok (.iload_n 2, 1) := by decide +kernel
theorem dX7_run_18 : decode cX7_run 18 = .ok (.iload_n 3, 1) := by decide +kernel
theorem dX7_run_19 : decode cX7_run 19 = .ok (.invokevirtual 176, 3) := by decide +kernel
theorem dX7_run_22 : decode cX7_run 22 = .ok (.istore 4, 2) := by decide +kernel
theorem dX7_run_24 : decode cX7_run 24 = .ok (.aload_n 0, 1) := by decide +kernel
theorem dX7_run_25 : decode cX7_run 25 = .ok (.aload_n 0, 1) := by decide +kernel
theorem dX7_run_26 : decode cX7_run 26 = .ok (.iload_n 1, 1) := by decide +kernel
theorem dX7_run_27 : decode cX7_run 27 = .ok (.iload_n 2, 1) := by decide +kernel
theorem dX7_run_28 : decode cX7_run 28 = .ok (.iload_n 3, 1) := by decide +kernel
theorem dX7_run_29 : decode cX7_run 29 = .ok (.iload 4, 2) := by decide +kernel
theorem dX7_run_31 : decode cX7_run 31 = .ok (.invokevirtual 180, 3) := by decide +kernel
theorem dX7_run_34 : decode cX7_run 34 = .ok (.putfield 184, 3) := by decide +kernel
theorem dX7_run_37 : decode cX7_run 37 = .ok (.aload_n 0, 1) := by decide +kernel
theorem dX7_run_38 : decode cX7_run 38 = .ok (.iconst 1, 1) := by decide +kernel
theorem dX7_run_39 : decode cX7_run 39 = .ok (.putfield 73, 3) := by decide +kernel
theorem dX7_run_42 : decode cX7_run 42 = .ok (.iload 4, 2) := by decide +kernel
theorem dX7_run_44 : decode cX7_run 44 = .ok (.ireturn, 1) := by decide +kernel
theorem dX7_ran_0 : decode cX7_ran 0 = .ok (.aload_n 0, 1) := by decide +kernel
theorem dX7_ran_1 : decode cX7_ran 1 = .ok (.getfield 73, 3) := by decide +kernel
theorem dX7_ran_4 : decode cX7_ran 4 = .ok (.ifCond .ne 5, 3) := by decide +kernel
theorem dX7_ran_7 : decode cX7_ran 7 = .ok (.iconst (-1), 1) := by decide +kernel
theorem dX7_ran_8 : decode cX7_ran 8 = .ok (.ireturn, 1) := by decide +kernel
theorem dX7_ran_9 : decode cX7_ran 9 = .ok (.iload_n 2, 1) := by decide +kernel
theorem dX7_ran_10 : decode cX7_ran 10 = .ok (.ifCond .ne 23, 3) := by decide +kernel
theorem dX7_ran_13 : decode cX7_ran 13 = .ok (.aload_n 0, 1) := by decide +kernel
theorem dX7_ran_14 : decode cX7_ran 14 = .ok (.getfield 19, 3) := by decide +kernel
theorem dX7_ran_17 : decode cX7_ran 17 = .ok (.iload_n 1, 1) := by decide +kernel
theorem dX7_ran_18 : decode cX7_ran 18 = .ok (.invokevirtual 107, 3) := by decide +kernel
theorem dX7_ran_21 : decode cX7_ran 21 = .ok (.ifCond .eq 12, 3) := by decide +kernel
theorem dX7_ran_24 : decode cX7_ran 24 = .ok (.aload_n 0, 1) := by decide +kernel
theorem dX7_ran_25 : decode cX7_ran 25 = .ok (.getfield 184, 3) := by decide +kernel
theorem dX7_ran_28 : decode cX7_ran 28 = .ok (.iload_n 1, 1) := by decide +kernel
theorem dX7_ran_29 : decode cX7_ran 29 = .ok (.ishr, 1) := by decide +kernel
theorem dX7_ran_30 : decode cX7_ran 30 = .ok (.iconst 1, 1) := by decide +kernel
theorem dX7_ran_31 : decode cX7_ran 31 = .ok (.iand, 1) := by decide +kernel
theorem dX7_ran_32 : decode cX7_ran 32 = .ok (.ireturn, 1) := by decide +kernel
theorem dX7_ran_33 : decode cX7_ran 33 = .ok (.iload_n 2, 1) := by decide +kernel
theorem dX7_ran_34 : decode cX7_ran 34 = .ok (.iconst 1, 1) := by decide +kernel
theorem dX7_ran_35 : decode cX7_ran 35 = .ok (.if_icmp .ne 37, 3) := by decide +kernel
theorem dX7_ran_38 : decode cX7_ran 38 = .ok (.aload_n 0, 1) := by decide +kernel
theorem dX7_ran_39 : decode cX7_ran 39 = .ok (.getfield 10, 3) := by decide +kernel
theorem dX7_ran_42 : decode cX7_ran 42 = .ok (.iload_n 1, 1) := by decide +kernel
theorem dX7_ran_43 : decode cX7_ran 43 = .ok (.invokevirtual 77, 3) := by decide +kernel
theorem dX7_ran_46 : decode cX7_ran 46 = .ok (.ifCond .eq 26, 3) := by decide +kernel
theorem dX7_ran_49 : decode cX7_ran 49 = .ok (.aload_n 0, 1) := by decide +kernel
theorem dX7_ran_50 : decode cX7_ran 50 = .ok (.getfield 10, 3) := by decide +kernel
theorem dX7_ran_53 : decode cX7_ran 53 = .ok (.getfield 134, 3) := by decide +kernel
theorem dX7_ran_56 : decode cX7_ran 56 = .ok (.iload_n 1, 1) := by decide +kernel
theorem dX7_ran_57 : decode cX7_ran 57 = .ok (.iaload, 1) := by decide +kernel
theorem dX7_ran_58 : decode cX7_ran 58 = .ok (.aload_n 0, 1) := by decide +kernel
theorem dX7_ran_59 : decode cX7_ran 59 = .ok (.getfield 184, 3) := by decide +kernel
theorem dX7_ran_62 : decode cX7_ran 62 = .ok (.iand, 1) := by decide +kernel
theorem dX7_ran_63 : decode cX7_ran 63 = .ok (.ifCond .eq 7, 3) := by decide +kernel
theorem dX7_ran_66 : decode cX7_ran 66 = .ok (.iconst 1, 1) := by decide +kernel
theorem dX7_ran_67 : decode cX7_ran 67 = .ok (.goto 4, 3) := by decide +kernel
theorem dX7_ran_70 : decode cX7_ran 70 = .ok (.iconst 0, 1) := by decide +kernel
theorem dX7_ran_71 : decode cX7_ran 71 = .ok (.ireturn, 1) := by decide +kernel
theorem dX7_ran_72 : decode cX7_ran 72 = .ok (.iconst (-1), 1) := by decide +kernel
theorem dX7_ran_73 : decode cX7_ran 73 = .ok (.ireturn, 1) := by decide +kernel
theorem dX7_right_0 : decode cX7_right 0 = .ok (.iload_n 1, 1) := by decide +kernel
theorem dX7_right_1 : decode cX7_right 1 = .ok (.iconst 0, 1) := by decide +kernel
theorem dX7_right_2 : decode cX7_right 2 = .ok (.iconst 3, 1) := by decide +kernel
theorem dX7_right_3 : decode cX7_right 3 = .ok (.invokestatic 62, 3) := by decide +kernel
theorem dX7_right_6 : decode cX7_right 6 = .ok (.ifCond .ne 5, 3) := by decide +kernel
theorem dX7_right_9 : decode cX7_right 9 = .ok (.iconst (-1), 1) := by decide +kernel
theorem dX7_right_10 : decode cX7_right 10 = .ok (.ireturn, 1) := by decide +kernel
theorem dX7_right_11 : decode cX7_right 11 = .ok (.aload_n 0, 1) := by decide +kernel
theorem dX7_right_12 : decode cX7_right 12 = .ok (.getfield 35, 3) := by decide +kernel
theorem dX7_right_15 : decode cX7_right 15 = .ok (.invokevirtual 187, 3) := by decide +kernel
theorem dX7_right_18 : decode cX7_right 18 = .ok (.iload_n 1, 1) := by decide +kernel
theorem dX7_right_19 : decode cX7_right 19 = .ok (.tableswitch 49 0 2 #[25, 33, 41], 25) := by decide +kernel
theorem dX7_right_44 : decode cX7_right 44 = .ok (.aload_n 0, 1) := by decide +kernel
theorem dX7_right_45 : decode cX7_right 45 = .ok (.getfield 35, 3) := by decide +kernel
theorem dX7_right_48 : decode cX7_right 48 = .ok (.getfield 190, 3) := by decide +kernel
theorem dX7_right_51 : decode cX7_right 51 = .ok (.ireturn, 1) := by decide +kernel
theorem dX7_right_52 : decode cX7_right 52 = .ok (.aload_n 0, 1) := by decide +kernel
theorem dX7_right_53 : decode cX7_right 53 = .ok (.getfield 35, 3) := by decide +kernel
theorem dX7_right_56 : decode cX7_right 56 = .ok (.getfield 193, 3) := by decide +kernel
theorem dX7_right_59 : decode cX7_right 59 = .ok (.ireturn, 1) := by decide +kernel
theorem dX7_right_60 : decode cX7_right 60 = .ok (.aload_n 0, 1) := by decide +kernel
theorem dX7_right_61 : decode cX7_right 61 = .ok (.getfield 35, 3) := by decide +kernel
theorem dX7_right_64 : decode cX7_right 64 = .ok (.getfield 196, 3) := by decide +kernel
theorem dX7_right_67 : decode cX7_right 67 = .ok (.ireturn, 1) := by decide +kernel
theorem dX7_right_68 : decode cX7_right 68 = .ok (.aload_n 0, 1) := by decide +kernel
theorem dX7_right_69 : decode cX7_right 69 = .ok (.getfield 35, 3) := by decide +kernel
theorem dX7_right_72 : decode cX7_right 72 = .ok (.getfield 198, 3) := by decide +kernel
theorem dX7_right_75 : decode cX7_right 75 = .ok (.ireturn, 1) := by decide +kernel
theorem dX7_fit_0 : decode cX7_fit 0 = .ok (.aload_n 0, 1) := by decide +kernel
theorem dX7_fit_1 : decode cX7_fit 1 = .ok (.invokevirtual 201, 3) := by decide +kernel
theorem dX7_fit_4 : decode cX7_fit 4 = .ok (.ifCond .ne 5, 3) := by decide +kernel
theorem dX7_fit_7 : decode cX7_fit 7 = .ok (.iconst (-1), 1) := by decide +kernel
theorem dX7_fit_8 : decode cX7_fit 8 = .ok (.ireturn, 1) := by decide +kernel
theorem dX7_fit_9 : decode cX7_fit 9 = .ok (.aload_n 0, 1) := by decide +kernel
theorem dX7_fit_10 : decode cX7_fit 10 = .ok (.getfield 19, 3) := by decide +kernel
theorem dX7_fit_13 : decode cX7_fit 13 = .ok (.getfield 114, 3) := by decide +kernel
theorem dX7_fit_16 : decode cX7_fit 16 = .ok (.iconst 0, 1) := by decide +kernel
theorem dX7_fit_17 : decode cX7_fit 17 = .ok (.aload_n 0, 1) := by decide +kernel
theorem dX7_fit_18 : decode cX7_fit 18 = .ok (.getfield 59, 3) := by decide +kernel
theorem dX7_fit_21 : decode cX7_fit 21 = .ok (.iconst 0, 1) := by decide +kernel
theorem dX7_fit_22 : decode cX7_fit 22 = .ok (.bipush 30, 2) := by decide +kernel
theorem dX7_fit_24 : decode cX7_fit 24 = .ok (.invokestatic 205, 3) := by decide +kernel
theorem dX7_fit_27 : decode cX7_fit 27 = .ok (.aload_n 0, 1) := by decide +kernel
theorem dX7_fit_28 : decode cX7_fit 28 = .ok (.getfield 55, 3) := by decide +kernel
theorem dX7_fit_31 : decode cX7_fit 31 = .ok (.iconst 0, 1) := by decide +kernel
theorem dX7_fit_32 : decode cX7_fit 32 = .ok (.aload_n 0, 1) := by decide +kernel
theorem dX7_fit_33 : decode cX7_fit 33 = .ok (.getfield 19, 3) := by decide +kernel
theorem dX7_fit_36 : decode cX7_fit 36 = .ok (.getfield 114, 3) := by decide +kernel
theorem dX7_fit_39 : decode cX7_fit 39 = .ok (.iconst 0, 1) := by decide +kernel
theorem dX7_fit_40 : decode cX7_fit 40 = .ok (.bipush 30, 2) := by decide +kernel
theorem dX7_fit_42 : decode cX7_fit 42 = .ok (.invokestatic 205, 3) := by decide +kernel
theorem dX7_fit_45 : decode cX7_fit 45 = .ok (.aload_n 0, 1) := by decide +kernel
theorem dX7_fit_46 : decode cX7_fit 46 = .ok (.getfield 35, 3) := by decide +kernel
theorem dX7_fit_49 : decode cX7_fit 49 = .ok (.invokevirtual 187, 3) := by decide +kernel
theorem dX7_fit_52 : decode cX7_fit 52 = .ok (.aload_n 0, 1) := by decide +kernel
theorem dX7_fit_53 : decode cX7_fit 53 = .ok (.getfield 35, 3) := by decide +kernel
theorem dX7_fit_56 : decode cX7_fit 56 = .ok (.getfield 190, 3) := by decide +kernel
theorem dX7_fit_59 : decode cX7_fit 59 = .ok (.ifCond .eq 23, 3) := by decide +kernel
theorem dX7_fit_62 : decode cX7_fit 62 = .ok (.aload_n 0, 1) := by decide +kernel
theorem dX7_fit_63 : decode cX7_fit 63 = .ok (.getfield 59, 3) := by decide +kernel
theorem dX7_fit_66 : decode cX7_fit 66 = .ok (.iconst 0, 1) := by decide +kernel
theorem dX7_fit_67 : decode cX7_fit 67 = .ok (.aload_n 0, 1) := by decide +kernel
theorem dX7_fit_68 : decode cX7_fit 68 = .ok (.getfield 19, 3) := by decide +kernel
theorem dX7_fit_71 : decode cX7_fit 71 = .ok (.getfield 114, 3) := by decide +kernel
theorem dX7_fit_74 : decode cX7_fit 74 = .ok (.iconst 0, 1) := by decide +kernel
theorem dX7_fit_75 : decode cX7_fit 75 = .ok (.bipush 30, 2) := by decide +kernel
theorem dX7_fit_77 : decode cX7_fit 77 = .ok (.invokestatic 205, 3) := by decide +kernel
theorem dX7_fit_80 : decode cX7_fit 80 = .ok (.iconst (-1), 1) := by decide +kernel
theorem dX7_fit_81 : decode cX7_fit 81 = .ok (.ireturn, 1) := by decide +kernel
theorem dX7_fit_82 : decode cX7_fit 82 = .ok (.aload_n 0, 1) := by decide +kernel
theorem dX7_fit_83 : decode cX7_fit 83 = .ok (.iconst 0, 1) := by decide +kernel
theorem dX7_fit_84 : decode cX7_fit 84 = .ok (.putfield 73, 3) := by decide +kernel
theorem dX7_fit_87 : decode cX7_fit 87 = .ok (.aload_n 0, 1) := by decide +kernel
theorem dX7_fit_88 : decode cX7_fit 88 = .ok (.getfield 19, 3) := by decide +kernel
theorem dX7_fit_91 : decode cX7_fit 91 = .ok (.invokevirtual 211, 3) := by decide +kernel
theorem dX7_fit_94 : decode cX7_fit 94 = .ok (.ireturn, 1) := by decide +kernel
theorem dX7_arc_0 : decode cX7_arc 0 = .ok (.aload_n 0, 1) := by decide +kernel
theorem dX7_arc_1 : decode cX7_arc 1 = .ok (.getfield 10, 3) := by decide +kernel
theorem dX7_arc_4 : decode cX7_arc 4 = .ok (.iload_n 1, 1) := by decide +kernel
theorem dX7_arc_5 : decode cX7_arc 5 = .ok (.iload_n 2, 1) := by decide +kernel
theorem dX7_arc_6 : decode cX7_arc 6 = .ok (.iload_n 3, 1) := by decide +kernel
theorem dX7_arc_7 : decode cX7_arc 7 = .ok (.invokevirtual 153, 3) := by decide +kernel
theorem dX7_arc_10 : decode cX7_arc 10 = .ok (.ifCond .ne 7, 3) := by decide +kernel
theorem dX7_arc_13 : decode cX7_arc 13 = .ok (.ldc2_w 156, 3) := by decide +kernel
theorem dX7_arc_16 : decode cX7_arc 16 = .ok (.lreturn, 1) := by decide +kernel
theorem dX7_arc_17 : decode cX7_arc 17 = .ok (.aload_n 0, 1) := by decide +kernel
theorem dX7_arc_18 : decode cX7_arc 18 = .ok (.iload_n 1, 1) := by decide +kernel
theorem dX7_arc_19 : decode cX7_arc 19 = .ok (.iload_n 2, 1) := by decide +kernel
theorem dX7_arc_20 : decode cX7_arc 20 = .ok (.iload_n 3, 1) := by decide +kernel
theorem dX7_arc_21 : decode cX7_arc 21 = .ok (.invokevirtual 215, 3) := by decide +kernel
theorem dX7_arc_24 : decode cX7_arc 24 = .ok (.lreturn, 1) := by decide +kernel
theorem dX7_worst_0 : decode cX7_worst 0 = .ok (.lconst 0, 1) := by decide +kernel
theorem dX7_worst_1 : decode cX7_worst 1 = .ok (.lstore_n 1, 1) := by decide +kernel
theorem dX7_worst_2 : decode cX7_worst 2 = .ok (.iconst 1, 1) := by decide +kernel
theorem dX7_worst_3 : decode cX7_worst 3 = .ok (.istore_n 3, 1) := by decide +kernel
theorem dX7_worst_4 : decode cX7_worst 4 = .ok (.iload_n 3, 1) := by decide +kernel
theorem dX7_worst_5 : decode cX7_worst 5 = .ok (.aload_n 0, 1) := by decide +kernel
theorem dX7_worst_6 : decode cX7_worst 6 = .ok (.getfield 10, 3) := by decide +kernel
theorem dX7_worst_9 : decode cX7_worst 9 = .ok (.getfield 81, 3) := by decide +kernel
theorem dX7_worst_12 : decode cX7_worst 12 = .ok (.if_icmp .ge 36, 3) := by decide +kernel
theorem dX7_worst_15 : decode cX7_worst 15 = .ok (.aload_n 0, 1) := by decide +kernel
theorem dX7_worst_16 : decode cX7_worst 16 = .ok (.iload_n 3, 1) := by decide +kernel
theorem dX7_worst_17 : decode cX7_worst 17 = .ok (.invokevirtual 218, 3) := by decide +kernel
theorem dX7_worst_20 : decode cX7_worst 20 = .ok (.lstore 4, 2) := by decide +kernel
theorem dX7_worst_22 : decode cX7_worst 22 = .ok (.lload 4, 2) := by decide +kernel
theorem dX7_worst_24 : decode cX7_worst 24 = .ok (.ldc2_w 156, 3) := by decide +kernel
theorem dX7_worst_27 : decode cX7_worst 27 = .ok (.lcmp, 1) := by decide +kernel
theorem dX7_worst_28 : decode cX7_worst 28 = .ok (.ifCond .ne 7, 3) := by decide +kernel
theorem dX7_worst_31 : decode cX7_worst 31 = .ok (.ldc2_w 156, 3) := by decide +kernel
theorem dX7_worst_34 : decode cX7_worst 34 = .ok (.lreturn, 1) := by decide +kernel
theorem dX7_worst_35 : decode cX7_worst 35 = .ok (.lload_n 1, 1) := by decide +kernel
theorem dX7_worst_36 : decode cX7_worst 36 = .ok (.lload 4, 2) := by decide +kernel
theorem dX7_worst_38 : decode cX7_worst 38 = .ok (.invokestatic 222, 3) := by decide +kernel
theorem dX7_worst_41 : decode cX7_worst 41 = .ok (.lstore_n 1, 1) := by decide +kernel
theorem dX7_worst_42 : decode cX7_worst 42 = .ok (.iinc 3 1, 3) := by decide +kernel
theorem dX7_worst_45 : decode cX7_worst 45 = .ok (.goto (-41), 3) := by decide +kernel
theorem dX7_worst_48 : decode cX7_worst 48 = .ok (.lload_n 1, 1) := by decide +kernel
theorem dX7_worst_49 : decode cX7_worst 49 = .ok (.lreturn, 1) := by decide +kernel
theorem dX7_growth_0 : decode cX7_growth 0 = .ok (.ldc2_w 228, 3) := by decide +kernel
theorem dX7_growth_3 : decode cX7_growth 3 = .ok (.lstore_n 1, 1) := by decide +kernel
theorem dX7_growth_4 : decode cX7_growth 4 = .ok (.iconst 1, 1) := by decide +kernel
theorem dX7_growth_5 : decode cX7_growth 5 = .ok (.istore_n 3, 1) := by decide +kernel
theorem dX7_growth_6 : decode cX7_growth 6 = .ok (.iload_n 3, 1) := by decide +kernel
theorem dX7_growth_7 : decode cX7_growth 7 = .ok (.aload_n 0, 1) := by decide +kernel
theorem dX7_growth_8 : decode cX7_growth 8 = .ok (.getfield 10, 3) := by decide +kernel
theorem dX7_growth_11 : decode cX7_growth 11 = .ok (.getfield 81, 3) := by decide +kernel
theorem dX7_growth_14 : decode cX7_growth 14 = .ok (.if_icmp .ge 19, 3) := by decide +kernel
theorem dX7_growth_17 : decode cX7_growth 17 = .ok (.lload_n 1, 1) := by decide +kernel
theorem dX7_growth_18 : decode cX7_growth 18 = .ok (.aload_n 0, 1) := by decide +kernel
theorem dX7_growth_19 : decode cX7_growth 19 = .ok (.iload_n 3, 1) := by decide +kernel
theorem dX7_growth_20 : decode cX7_growth 20 = .ok (.invokevirtual 230, 3) := by decide +kernel
theorem dX7_growth_23 : decode cX7_growth 23 = .ok (.invokestatic 233, 3) := by decide +kernel
theorem dX7_growth_26 : decode cX7_growth 26 = .ok (.lstore_n 1, 1) := by decide +kernel
theorem dX7_growth_27 : decode cX7_growth 27 = .ok (.iinc 3 1, 3) := by decide +kernel
theorem dX7_growth_30 : decode cX7_growth 30 = .ok (.goto (-24), 3) := by decide +kernel
theorem dX7_growth_33 : decode cX7_growth 33 = .ok (.lload_n 1, 1) := by decide +kernel
theorem dX7_growth_34 : decode cX7_growth 34 = .ok (.l2i, 1) := by decide +kernel
theorem dX7_growth_35 : decode cX7_growth 35 = .ok (.ireturn, 1) := by decide +kernel
theorem dX7_goal_0 : decode cX7_goal 0 = .ok (.aload_n 0, 1) := by decide +kernel
theorem dX7_goal_1 : decode cX7_goal 1 = .ok (.iconst 1, 1) := by decide +kernel
theorem dX7_goal_2 : decode cX7_goal 2 = .ok (.putfield 236, 3) := by decide +kernel
theorem dX7_goal_5 : decode cX7_goal 5 = .ok (.aload_n 0, 1) := by decide +kernel
theorem dX7_goal_6 : decode cX7_goal 6 = .ok (.getfield 19, 3) := by decide +kernel
theorem dX7_goal_9 : decode cX7_goal 9 = .ok (.invokevirtual 239, 3) := by decide +kernel
theorem dX7_goal_12 : decode cX7_goal 12 = .ok (.ireturn, 1) := by decide +kernel
theorem dX7_change_0 : decode cX7_change 0 = .ok (.aload_n 0, 1) := by decide +kernel
theorem dX7_change_1 : decode cX7_change 1 = .ok (.getfield 236, 3) := by decide +kernel
theorem dX7_change_4 : decode cX7_change 4 = .ok (.ifCond .eq 13, 3) := by decide +kernel
theorem dX7_change_7 : decode cX7_change 7 = .ok (.aload_n 0, 1) := by decide +kernel
theorem dX7_change_8 : decode cX7_change 8 = .ok (.getfield 51, 3) := by decide +kernel
theorem dX7_change_11 : decode cX7_change 11 = .ok (.invokevirtual 242, 3) := by decide +kernel
theorem dX7_change_14 : decode cX7_change 14 = .ok (.ifCond .ne 5, 3) := by decide +kernel
theorem dX7_change_17 : decode cX7_change 17 = .ok (.iconst (-1), 1) := by decide +kernel
theorem dX7_change_18 : decode cX7_change 18 = .ok (.ireturn, 1) := by decide +kernel
theorem dX7_change_19 : decode cX7_change 19 = .ok (.aload_n 0, 1) := by decide +kernel
theorem dX7_change_20 : decode cX7_change 20 = .ok (.getfield 35, 3) := by decide +kernel
theorem dX7_change_23 : decode cX7_change 23 = .ok (.invokevirtual 187, 3) := by decide +kernel
theorem dX7_change_26 : decode cX7_change 26 = .ok (.aload_n 0, 1) := by decide +kernel
theorem dX7_change_27 : decode cX7_change 27 = .ok (.getfield 35, 3) := by decide +kernel
theorem dX7_change_30 : decode cX7_change 30 = .ok (.getfield 190, 3) := by decide +kernel
theorem dX7_change_33 : decode cX7_change 33 = .ok (.ifCond .eq 5, 3) := by decide +kernel
theorem dX7_change_36 : decode cX7_change 36 = .ok (.iconst (-1), 1) := by decide +kernel
theorem dX7_change_37 : decode cX7_change 37 = .ok (.ireturn, 1) := by decide +kernel
theorem dX7_change_38 : decode cX7_change 38 = .ok (.aload_n 0, 1) := by decide +kernel
theorem dX7_change_39 : decode cX7_change 39 = .ok (.getfield 42, 3) := by decide +kernel
theorem dX7_change_42 : decode cX7_change 42 = .ok (.invokevirtual 245, 3) := by decide +kernel
theorem dX7_change_45 : decode cX7_change 45 = .ok (.aload_n 0, 1) := by decide +kernel
theorem dX7_change_46 : decode cX7_change 46 = .ok (.getfield 51, 3) := by decide +kernel
theorem dX7_change_49 : decode cX7_change 49 = .ok (.invokevirtual 248, 3) := by decide +kernel
theorem dX7_change_52 : decode cX7_change 52 = .ok (.ireturn, 1) := by decide +kernel
theorem dX7_step_0 : decode cX7_step 0 = .ok (.iload_n 1, 1) := by decide +kernel
theorem dX7_step_1 : decode cX7_step 1 = .ok (.iconst 0, 1) := by decide +kernel
theorem dX7_step_2 : decode cX7_step 2 = .ok (.aload_n 0, 1) := by decide +kernel
theorem dX7_step_3 : decode cX7_step 3 = .ok (.getfield 51, 3) := by decide +kernel
theorem dX7_step_6 : decode cX7_step 6 = .ok (.getfield 251, 3) := by decide +kernel
theorem dX7_step_9 : decode cX7_step 9 = .ok (.iconst 1, 1) := by decide +kernel
theorem dX7_step_10 : decode cX7_step 10 = .ok (.isub, 1) := by decide +kernel
theorem dX7_step_11 : decode cX7_step 11 = .ok (.invokestatic 62, 3) := by decide +kernel
theorem dX7_step_14 : decode cX7_step 14 = .ok (.ifCond .eq 15, 3) := by decide +kernel
theorem dX7_step_17 : decode cX7_step 17 = .ok (.aload_n 0, 1) := by decide +kernel
theorem dX7_step_18 : decode cX7_step 18 = .ok (.getfield 51, 3) := by decide +kernel
theorem dX7_step_21 : decode cX7_step 21 = .ok (.getfield 254, 3) := by decide +kernel
theorem dX7_step_24 : decode cX7_step 24 = .ok (.iload_n 1, 1) := by decide +kernel
theorem dX7_step_25 : decode cX7_step 25 = .ok (.iaload, 1) := by decide +kernel
theorem dX7_step_26 : decode cX7_step 26 = .ok (.goto 4, 3) := by decide +kernel
theorem dX7_step_29 : decode cX7_step 29 = .ok (.iconst (-1), 1) := by decide +kernel
theorem dX7_step_30 : decode cX7_step 30 = .ok (.ireturn, 1) := by decide +kernel
theorem dX7_about_0 : decode cX7_about 0 = .ok (.iload_n 1, 1) := by decide +kernel
theorem dX7_about_1 : decode cX7_about 1 = .ok (.tableswitch 131 0 8 #[51, 59, 70, 78, 86, 94, 102, 110, 123], 51) := by decide +kernel
theorem dX7_about_52 : decode cX7_about 52 = .ok (.aload_n 0, 1) := by decide +kernel
theorem dX7_about_53 : decode cX7_about 53 = .ok (.getfield 10, 3) := by decide +kernel
theorem dX7_about_56 : decode cX7_about 56 = .ok (.getfield 81, 3) := by decide +kernel
theorem dX7_about_59 : decode cX7_about 59 = .ok (.ireturn, 1) := by decide +kernel
theorem dX7_about_60 : decode cX7_about 60 = .ok (.aload_n 0, 1) := by decide +kernel
theorem dX7_about_61 : decode cX7_about 61 = .ok (.getfield 19, 3) := by decide +kernel
theorem dX7_about_64 : decode cX7_about 64 = .ok (.getfield 257, 3) := by decide +kernel
theorem dX7_about_67 : decode cX7_about 67 = .ok (.invokestatic 260, 3) := by decide +kernel
theorem dX7_about_70 : decode cX7_about 70 = .ok (.ireturn, 1) := by decide +kernel
theorem dX7_about_71 : decode cX7_about 71 = .ok (.aload_n 0, 1) := by decide +kernel
theorem dX7_about_72 : decode cX7_about 72 = .ok (.getfield 10, 3) := by decide +kernel
theorem dX7_about_75 : decode cX7_about 75 = .ok (.getfield 66, 3) := by decide +kernel
theorem dX7_about_78 : decode cX7_about 78 = .ok (.ireturn, 1) := by decide +kernel
theorem dX7_about_79 : decode cX7_about 79 = .ok (.aload_n 0, 1) := by decide +kernel
theorem dX7_about_80 : decode cX7_about 80 = .ok (.getfield 10, 3) := by decide +kernel
theorem dX7_about_83 : decode cX7_about 83 = .ok (.getfield 70, 3) := by decide +kernel
theorem dX7_about_86 : decode cX7_about 86 = .ok (.ireturn, 1) := by decide +kernel
theorem dX7_about_87 : decode cX7_about 87 = .ok (.aload_n 0, 1) := by decide +kernel
theorem dX7_about_88 : decode cX7_about 88 = .ok (.getfield 26, 3) := by decide +kernel
theorem dX7_about_91 : decode cX7_about 91 = .ok (.getfield 122, 3) := by decide +kernel
theorem dX7_about_94 : decode cX7_about 94 = .ok (.ireturn, 1) := by decide +kernel
theorem dX7_about_95 : decode cX7_about 95 = .ok (.aload_n 0, 1) := by decide +kernel
theorem dX7_about_96 : decode cX7_about 96 = .ok (.getfield 26, 3) := by decide +kernel
theorem dX7_about_99 : decode cX7_about 99 = .ok (.getfield 125, 3) := by decide +kernel
theorem dX7_about_102 : decode cX7_about 102 = .ok (.ireturn, 1) := by decide +kernel
theorem dX7_about_103 : decode cX7_about 103 = .ok (.aload_n 0, 1) := by decide +kernel
theorem dX7_about_104 : decode cX7_about 104 = .ok (.getfield 26, 3) := by decide +kernel
theorem dX7_about_107 : decode cX7_about 107 = .ok (.getfield 128, 3) := by decide +kernel
theorem dX7_about_110 : decode cX7_about 110 = .ok (.ireturn, 1) := by decide +kernel
theorem dX7_about_111 : decode cX7_about 111 = .ok (.aload_n 0, 1) := by decide +kernel
theorem dX7_about_112 : decode cX7_about 112 = .ok (.getfield 236, 3) := by decide +kernel
theorem dX7_about_115 : decode cX7_about 115 = .ok (.ifCond .eq 7, 3) := by decide +kernel
theorem dX7_about_118 : decode cX7_about 118 = .ok (.iconst 1, 1) := by decide +kernel
theorem dX7_about_119 : decode cX7_about 119 = .ok (.goto 4, 3) := by decide +kernel
theorem dX7_about_122 : decode cX7_about 122 = .ok (.iconst 0, 1) := by decide +kernel
theorem dX7_about_123 : decode cX7_about 123 = .ok (.ireturn, 1) := by decide +kernel
theorem dX7_about_124 : decode cX7_about 124 = .ok (.aload_n 0, 1) := by decide +kernel
theorem dX7_about_125 : decode cX7_about 125 = .ok (.getfield 51, 3) := by decide +kernel
theorem dX7_about_128 : decode cX7_about 128 = .ok (.getfield 251, 3) := by decide +kernel
theorem dX7_about_131 : decode cX7_about 131 = .ok (.ireturn, 1) := by decide +kernel
theorem dX7_about_132 : decode cX7_about 132 = .ok (.iconst (-1), 1) := by decide +kernel
theorem dX7_about_133 : decode cX7_about 133 = .ok (.ireturn, 1) := by decide +kernel
theorem dX7_isWithin_0 : decode cX7_isWithin 0 = .ok (.iload_n 0, 1) := by decide +kernel
theorem dX7_isWithin_1 : decode cX7_isWithin 1 = .ok (.iload_n 1, 1) := by decide +kernel
theorem dX7_isWithin_2 : decode cX7_isWithin 2 = .ok (.if_icmp .lt 12, 3) := by decide +kernel
theorem dX7_isWithin_5 : decode cX7_isWithin 5 = .ok (.iload_n 0, 1) := by decide +kernel
theorem dX7_isWithin_6 : decode cX7_isWithin 6 = .ok (.iload_n 2, 1) := by decide +kernel
theorem dX7_isWithin_7 : decode cX7_isWithin 7 = .ok (.if_icmp .gt 7, 3) := by decide +kernel
theorem dX7_isWithin_10 : decode cX7_isWithin 10 = .ok (.iconst 1, 1) := by decide +kernel
theorem dX7_isWithin_11 : decode cX7_isWithin 11 = .ok (.goto 4, 3) := by decide +kernel
theorem dX7_isWithin_14 : decode cX7_isWithin 14 = .ok (.iconst 0, 1) := by decide +kernel
theorem dX7_isWithin_15 : decode cX7_isWithin 15 = .ok (.ireturn, 1) := by decide +kernel
theorem dX7_lineOrNone_0 : decode cX7_lineOrNone 0 = .ok (.iload_n 0, 1) := by decide +kernel
theorem dX7_lineOrNone_1 : decode cX7_lineOrNone 1 = .ok (.ifCond .le 7, 3) := by decide +kernel
theorem dX7_lineOrNone_4 : decode cX7_lineOrNone 4 = .ok (.iload_n 0, 1) := by decide +kernel
theorem dX7_lineOrNone_5 : decode cX7_lineOrNone 5 = .ok (.goto 4, 3) := by decide +kernel
theorem dX7_lineOrNone_8 : decode cX7_lineOrNone 8 = .ok (.iconst (-1), 1) := by decide +kernel
theorem dX7_lineOrNone_9 : decode cX7_lineOrNone 9 = .ok (.ireturn, 1) := by decide +kernel
theorem dX7_holds_0 : decode cX7_holds 0 = .ok (.iload_n 1, 1) := by decide +kernel
theorem dX7_holds_1 : decode cX7_holds 1 = .ok (.ifCond .lt 21, 3) := by decide +kernel
theorem dX7_holds_4 : decode cX7_holds 4 = .ok (.iload_n 1, 1) := by decide +kernel
theorem dX7_holds_5 : decode cX7_holds 5 = .ok (.bipush 30, 2) := by decide +kernel
theorem dX7_holds_7 : decode cX7_holds 7 = .ok (.if_icmp .ge 15, 3) := by decide +kernel
theorem dX7_holds_10 : decode cX7_holds 10 = .ok (.iload_n 0, 1) := by decide +kernel
theorem dX7_holds_11 : decode cX7_holds 11 = .ok (.iload_n 1, 1) := by decide +kernel
theorem dX7_holds_12 : decode cX7_holds 12 = .ok (.ishr, 1) := by decide +kernel
theorem dX7_holds_13 : decode cX7_holds 13 = .ok (.iconst 1, 1) := by decide +kernel
theorem dX7_holds_14 : decode cX7_holds 14 = .ok (.iand, 1) := by decide +kernel
theorem dX7_holds_15 : decode cX7_holds 15 = .ok (.ifCond .eq 7, 3) := by decide +kernel
theorem dX7_holds_18 : decode cX7_holds 18 = .ok (.iconst 1, 1) := by decide +kernel
theorem dX7_holds_19 : decode cX7_holds 19 = .ok (.goto 4, 3) := by decide +kernel
theorem dX7_holds_22 : decode cX7_holds 22 = .ok (.iconst 0, 1) := by decide +kernel
theorem dX7_holds_23 : decode cX7_holds 23 = .ok (.ireturn, 1) := by decide +kernel
theorem dX7_nextOf_0 : decode cX7_nextOf 0 = .ok (.aload_n 0, 1) := by decide +kernel
theorem dX7_nextOf_1 : decode cX7_nextOf 1 = .ok (.getfield 19, 3) := by decide +kernel
theorem dX7_nextOf_4 : decode cX7_nextOf 4 = .ok (.aload_n 0, 1) := by decide +kernel
theorem dX7_nextOf_5 : decode cX7_nextOf 5 = .ok (.getfield 10, 3) := by decide +kernel
theorem dX7_nextOf_8 : decode cX7_nextOf 8 = .ok (.getfield 134, 3) := by decide +kernel
theorem dX7_nextOf_11 : decode cX7_nextOf 11 = .ok (.iload_n 1, 1) := by decide +kernel
theorem dX7_nextOf_12 : decode cX7_nextOf 12 = .ok (.iaload, 1) := by decide +kernel
theorem dX7_nextOf_13 : decode cX7_nextOf 13 = .ok (.invokevirtual 137, 3) := by decide +kernel
theorem dX7_nextOf_16 : decode cX7_nextOf 16 = .ok (.istore_n 2, 1) := by decide +kernel
theorem dX7_nextOf_17 : decode cX7_nextOf 17 = .ok (.aload_n 0, 1) := by decide +kernel
theorem dX7_nextOf_18 : decode cX7_nextOf 18 = .ok (.getfield 19, 3) := by decide +kernel
theorem dX7_nextOf_21 : decode cX7_nextOf 21 = .ok (.aload_n 0, 1) := by decide +kernel
theorem dX7_nextOf_22 : decode cX7_nextOf 22 = .ok (.getfield 10, 3) := by decide +kernel
theorem dX7_nextOf_25 : decode cX7_nextOf 25 = .ok (.getfield 134, 3) := by decide +kernel
theorem dX7_nextOf_28 : decode cX7_nextOf 28 = .ok (.iload_n 2, 1) := by decide +kernel
theorem dX7_nextOf_29 : decode cX7_nextOf 29 = .ok (.iaload, 1) := by decide +kernel
theorem dX7_nextOf_30 : decode cX7_nextOf 30 = .ok (.iconst 1, 1) := by decide +kernel
theorem dX7_nextOf_31 : decode cX7_nextOf 31 = .ok (.iload_n 2, 1) := by decide +kernel
theorem dX7_nextOf_32 : decode cX7_nextOf 32 = .ok (.ishl, 1) := by decide +kernel
theorem dX7_nextOf_33 : decode cX7_nextOf 33 = .ok (.iconst (-1), 1) := by decide +kernel
theorem dX7_nextOf_34 : decode cX7_nextOf 34 = .ok (.ixor, 1) := by decide +kernel
theorem dX7_nextOf_35 : decode cX7_nextOf 35 = .ok (.iand, 1) := by decide +kernel
theorem dX7_nextOf_36 : decode cX7_nextOf 36 = .ok (.invokevirtual 137, 3) := by decide +kernel
theorem dX7_nextOf_39 : decode cX7_nextOf 39 = .ok (.ireturn, 1) := by decide +kernel
theorem dX7_breakerOf_0 : decode cX7_breakerOf 0 = .ok (.aload_n 0, 1) := by decide +kernel
theorem dX7_breakerOf_1 : decode cX7_breakerOf 1 = .ok (.getfield 19, 3) := by decide +kernel
theorem dX7_breakerOf_4 : decode cX7_breakerOf 4 = .ok (.iload_n 1, 1) := by decide +kernel
theorem dX7_breakerOf_5 : decode cX7_breakerOf 5 = .ok (.invokevirtual 107, 3) := by decide +kernel
theorem dX7_breakerOf_8 : decode cX7_breakerOf 8 = .ok (.ifCond .ne 5, 3) := by decide +kernel
theorem dX7_breakerOf_11 : decode cX7_breakerOf 11 = .ok (.iconst (-1), 1) := by decide +kernel
theorem dX7_breakerOf_12 : decode cX7_breakerOf 12 = .ok (.ireturn, 1) := by decide +kernel
theorem dX7_breakerOf_13 : decode cX7_breakerOf 13 = .ok (.iload_n 2, 1) := by decide +kernel
theorem dX7_breakerOf_14 : decode cX7_breakerOf 14 = .ok (.tableswitch 94 5 9 #[34, 44, 54, 64, 84], 34) := by decide +kernel
theorem dX7_breakerOf_48 : decode cX7_breakerOf 48 = .ok (.aload_n 0, 1) := by decide +kernel
theorem dX7_breakerOf_49 : decode cX7_breakerOf 49 = .ok (.getfield 19, 3) := by decide +kernel
theorem dX7_breakerOf_52 : decode cX7_breakerOf 52 = .ok (.getfield 265, 3) := by decide +kernel
theorem dX7_breakerOf_55 : decode cX7_breakerOf 55 = .ok (.iload_n 1, 1) := by decide +kernel
theorem dX7_breakerOf_56 : decode cX7_breakerOf 56 = .ok (.iaload, 1) := by decide +kernel
theorem dX7_breakerOf_57 : decode cX7_breakerOf 57 = .ok (.ireturn, 1) := by decide +kernel
theorem dX7_breakerOf_58 : decode cX7_breakerOf 58 = .ok (.aload_n 0, 1) := by decide +kernel
theorem dX7_breakerOf_59 : decode cX7_breakerOf 59 = .ok (.getfield 19, 3) := by decide +kernel
theorem dX7_breakerOf_62 : decode cX7_breakerOf 62 = .ok (.getfield 114, 3) := by decide +kernel
theorem dX7_breakerOf_65 : decode cX7_breakerOf 65 = .ok (.iload_n 1, 1) := by decide +kernel
theorem dX7_breakerOf_66 : decode cX7_breakerOf 66 = .ok (.iaload, 1) := by decide +kernel
theorem dX7_breakerOf_67 : decode cX7_breakerOf 67 = .ok (.ireturn, 1) := by decide +kernel
theorem dX7_breakerOf_68 : decode cX7_breakerOf 68 = .ok (.aload_n 0, 1) := by decide +kernel
theorem dX7_breakerOf_69 : decode cX7_breakerOf 69 = .ok (.getfield 19, 3) := by decide +kernel
theorem dX7_breakerOf_72 : decode cX7_breakerOf 72 = .ok (.getfield 268, 3) := by decide +kernel
theorem dX7_breakerOf_75 : decode cX7_breakerOf 75 = .ok (.iload_n 1, 1) := by decide +kernel
theorem dX7_breakerOf_76 : decode cX7_breakerOf 76 = .ok (.iaload, 1) := by decide +kernel
theorem dX7_breakerOf_77 : decode cX7_breakerOf 77 = .ok (.ireturn, 1) := by decide +kernel
theorem dX7_breakerOf_78 : decode cX7_breakerOf 78 = .ok (.aload_n 0, 1) := by decide +kernel
theorem dX7_breakerOf_79 : decode cX7_breakerOf 79 = .ok (.getfield 19, 3) := by decide +kernel
theorem dX7_breakerOf_82 : decode cX7_breakerOf 82 = .ok (.getfield 271, 3) := by decide +kernel
theorem dX7_breakerOf_85 : decode cX7_breakerOf 85 = .ok (.iload_n 1, 1) := by decide +kernel
theorem dX7_breakerOf_86 : decode cX7_breakerOf 86 = .ok (.invokestatic 274, 3) := by decide +kernel
theorem dX7_breakerOf_89 : decode cX7_breakerOf 89 = .ok (.ifCond .eq 7, 3) := by decide +kernel
theorem dX7_breakerOf_92 : decode cX7_breakerOf 92 = .ok (.iconst 1, 1) := by decide +kernel
theorem dX7_breakerOf_93 : decode cX7_breakerOf 93 = .ok (.goto 4, 3) := by decide +kernel
theorem dX7_breakerOf_96 : decode cX7_breakerOf 96 = .ok (.iconst 0, 1) := by decide +kernel
theorem dX7_breakerOf_97 : decode cX7_breakerOf 97 = .ok (.ireturn, 1) := by decide +kernel
theorem dX7_breakerOf_98 : decode cX7_breakerOf 98 = .ok (.aload_n 0, 1) := by decide +kernel
theorem dX7_breakerOf_99 : decode cX7_breakerOf 99 = .ok (.getfield 19, 3) := by decide +kernel
theorem dX7_breakerOf_102 : decode cX7_breakerOf 102 = .ok (.getfield 277, 3) := by decide +kernel
theorem dX7_breakerOf_105 : decode cX7_breakerOf 105 = .ok (.iload_n 1, 1) := by decide +kernel
theorem dX7_breakerOf_106 : decode cX7_breakerOf 106 = .ok (.iaload, 1) := by decide +kernel
theorem dX7_breakerOf_107 : decode cX7_breakerOf 107 = .ok (.ireturn, 1) := by decide +kernel
theorem dX7_breakerOf_108 : decode cX7_breakerOf 108 = .ok (.iconst (-1), 1) := by decide +kernel
theorem dX7_breakerOf_109 : decode cX7_breakerOf 109 = .ok (.ireturn, 1) := by decide +kernel
theorem dX7_ableOn_0 : decode cX7_ableOn 0 = .ok (.aload_n 0, 1) := by decide +kernel
theorem dX7_ableOn_1 : decode cX7_ableOn 1 = .ok (.getfield 10, 3) := by decide +kernel
theorem dX7_ableOn_4 : decode cX7_ableOn 4 = .ok (.getfield 134, 3) := by decide +kernel
theorem dX7_ableOn_7 : decode cX7_ableOn 7 = .ok (.iload_n 1, 1) := by decide +kernel
theorem dX7_ableOn_8 : decode cX7_ableOn 8 = .ok (.iaload, 1) := by decide +kernel
theorem dX7_ableOn_9 : decode cX7_ableOn 9 = .ok (.aload_n 0, 1) := by decide +kernel
theorem dX7_ableOn_10 : decode cX7_ableOn 10 = .ok (.getfield 19, 3) := by decide +kernel
theorem dX7_ableOn_13 : decode cX7_ableOn 13 = .ok (.getfield 257, 3) := by decide +kernel
theorem dX7_ableOn_16 : decode cX7_ableOn 16 = .ok (.iand, 1) := by decide +kernel
theorem dX7_ableOn_17 : decode cX7_ableOn 17 = .ok (.aload_n 0, 1) := by decide +kernel
theorem dX7_ableOn_18 : decode cX7_ableOn 18 = .ok (.getfield 19, 3) := by decide +kernel
theorem dX7_ableOn_21 : decode cX7_ableOn 21 = .ok (.getfield 271, 3) := by decide +kernel
theorem dX7_ableOn_24 : decode cX7_ableOn 24 = .ok (.iconst (-1), 1) := by decide +kernel
theorem dX7_ableOn_25 : decode cX7_ableOn 25 = .ok (.ixor, 1) := by decide +kernel
theorem dX7_ableOn_26 : decode cX7_ableOn 26 = .ok (.iand, 1) := by decide +kernel
theorem dX7_ableOn_27 : decode cX7_ableOn 27 = .ok (.ireturn, 1) := by decide +kernel
theorem dX7_clearTick_0 : decode cX7_clearTick 0 = .ok (.aload_n 0, 1) := by decide +kernel
theorem dX7_clearTick_1 : decode cX7_clearTick 1 = .ok (.iload_n 1, 1) := by decide +kernel
theorem dX7_clearTick_2 : decode cX7_clearTick 2 = .ok (.invokevirtual 280, 3) := by decide +kernel
theorem dX7_clearTick_5 : decode cX7_clearTick 5 = .ok (.istore 4, 2) := by decide +kernel
theorem dX7_clearTick_7 : decode cX7_clearTick 7 = .ok (.aload_n 0, 1) := by decide +kernel
theorem dX7_clearTick_8 : decode cX7_clearTick 8 = .ok (.getfield 10, 3) := by decide +kernel
theorem dX7_clearTick_11 : decode cX7_clearTick 11 = .ok (.iload_n 1, 1) := by decide +kernel
theorem dX7_clearTick_12 : decode cX7_clearTick 12 = .ok (.iload_n 2, 1) := by decide +kernel
theorem dX7_clearTick_13 : decode cX7_clearTick 13 = .ok (.iload_n 3, 1) := by decide +kernel
theorem dX7_clearTick_14 : decode cX7_clearTick 14 = .ok (.invokevirtual 158, 3) := by decide +kernel
theorem dX7_clearTick_17 : decode cX7_clearTick 17 = .ok (.lstore 5, 2) := by decide +kernel
theorem dX7_clearTick_19 : decode cX7_clearTick 19 = .ok (.iconst (-1), 1) := by decide +kernel
theorem dX7_clearTick_20 : decode cX7_clearTick 20 = .ok (.istore 7, 2) := by decide +kernel
theorem dX7_clearTick_22 : decode cX7_clearTick 22 = .ok (.iload_n 1, 1) := by decide +kernel
theorem dX7_clearTick_23 : decode cX7_clearTick 23 = .ok (.istore 8, 2) := by decide +kernel
theorem dX7_clearTick_25 : decode cX7_clearTick 25 = .ok (.iload 8, 2) := by decide +kernel
theorem dX7_clearTick_27 : decode cX7_clearTick 27 = .ok (.iconst 1, 1) := by decide +kernel
theorem dX7_clearTick_28 : decode cX7_clearTick 28 = .ok (.if_icmp .lt 66, 3) := by decide +kernel
theorem dX7_clearTick_31 : decode cX7_clearTick 31 = .ok (.iload 4, 2) := by decide +kernel
theorem dX7_clearTick_33 : decode cX7_clearTick 33 = .ok (.iload 8, 2) := by decide +kernel
theorem dX7_clearTick_35 : decode cX7_clearTick 35 = .ok (.invokestatic 274, 3) := by decide +kernel
theorem dX7_clearTick_38 : decode cX7_clearTick 38 = .ok (.ifCond .eq 24, 3) := by decide +kernel
theorem dX7_clearTick_41 : decode cX7_clearTick 41 = .ok (.aload_n 0, 1) := by decide +kernel
theorem dX7_clearTick_42 : decode cX7_clearTick 42 = .ok (.getfield 19, 3) := by decide +kernel
theorem dX7_clearTick_45 : decode cX7_clearTick 45 = .ok (.iload 8, 2) := by decide +kernel
theorem dX7_clearTick_47 : decode cX7_clearTick 47 = .ok (.aload_n 0, 1) := by decide +kernel
theorem dX7_clearTick_48 : decode cX7_clearTick 48 = .ok (.getfield 10, 3) := by decide +kernel
theorem dX7_clearTick_51 : decode cX7_clearTick 51 = .ok (.invokevirtual 164, 3) := by decide +kernel
theorem dX7_clearTick_54 : decode cX7_clearTick 54 = .ok (.lload 5, 2) := by decide +kernel
theorem dX7_clearTick_56 : decode cX7_clearTick 56 = .ok (.invokevirtual 172, 3) := by decide +kernel
theorem dX7_clearTick_59 : decode cX7_clearTick 59 = .ok (.goto 4, 3) := by decide +kernel
theorem dX7_clearTick_62 : decode cX7_clearTick 62 = .ok (.iconst (-1), 1) := by decide +kernel
theorem dX7_clearTick_63 : decode cX7_clearTick 63 = .ok (.istore 9, 2) := by decide +kernel
theorem dX7_clearTick_65 : decode cX7_clearTick 65 = .ok (.iload 9, 2) := by decide +kernel
theorem dX7_clearTick_67 : decode cX7_clearTick 67 = .ok (.iconst (-1), 1) := by decide +kernel
theorem dX7_clearTick_68 : decode cX7_clearTick 68 = .ok (.if_icmp .eq 20, 3) := by decide +kernel
theorem dX7_clearTick_71 : decode cX7_clearTick 71 = .ok (.iload 7, 2) := by decide +kernel
theorem dX7_clearTick_73 : decode cX7_clearTick 73 = .ok (.iconst (-1), 1) := by decide +kernel
theorem dX7_clearTick_74 : decode cX7_clearTick 74 = .ok (.if_icmp .eq 10, 3) := by decide +kernel
theorem dX7_clearTick_77 : decode cX7_clearTick 77 = .ok (.iload 9, 2) := by decide +kernel
theorem dX7_clearTick_79 : decode cX7_clearTick 79 = .ok (.iload 7, 2) := by decide +kernel
theorem dX7_clearTick_81 : decode cX7_clearTick 81 = .ok (.if_icmp .ge 7, 3) := by decide +kernel
theorem dX7_clearTick_84 : decode cX7_clearTick 84 = .ok (.iload 9, 2) := by decide +kernel
theorem dX7_clearTick_86 : decode cX7_clearTick 86 = .ok (.istore 7, 2) := by decide +kernel
theorem dX7_clearTick_88 : decode cX7_clearTick 88 = .ok (.iinc 8 (-1), 3) := by decide +kernel
theorem dX7_clearTick_91 : decode cX7_clearTick 91 = .ok (.goto (-66), 3) := by decide +kernel
theorem dX7_clearTick_94 : decode cX7_clearTick 94 = .ok (.iload 7, 2) := by decide +kernel
theorem dX7_clearTick_96 : decode cX7_clearTick 96 = .ok (.ireturn, 1) := by decide +kernel
theorem dX7_openersAt_0 : decode cX7_openersAt 0 = .ok (.iload 4, 2) := by decide +kernel
theorem dX7_openersAt_2 : decode cX7_openersAt 2 = .ok (.iconst (-1), 1) := by decide +kernel
theorem dX7_openersAt_3 : decode cX7_openersAt 3 = .ok (.if_icmp .ne 5, 3) := by decide +kernel
theorem dX7_openersAt_6 : decode cX7_openersAt 6 = .ok (.iconst 0, 1) := by decide +kernel
theorem dX7_openersAt_7 : decode cX7_openersAt 7 = .ok (.ireturn, 1) := by decide +kernel
theorem dX7_openersAt_8 : decode cX7_openersAt 8 = .ok (.aload_n 0, 1) := by decide +kernel
theorem dX7_openersAt_9 : decode cX7_openersAt 9 = .ok (.iload_n 1, 1) := by decide +kernel
theorem dX7_openersAt_10 : decode cX7_openersAt 10 = .ok (.invokevirtual 280, 3) := by decide +kernel
theorem dX7_openersAt_13 : decode cX7_openersAt 13 = .ok (.istore 5, 2) := by decide +kernel
theorem dX7_openersAt_15 : decode cX7_openersAt 15 = .ok (.aload_n 0, 1) := by decide +kernel
theorem dX7_openersAt_16 : decode cX7_openersAt 16 = .ok (.getfield 10, 3) := by decide +kernel
theorem dX7_openersAt_19 : decode cX7_openersAt 19 = .ok (.iload_n 1, 1) := by decide +kernel
theorem dX7_openersAt_20 : decode cX7_openersAt 20 = .ok (.iload_n 2, 1) := by decide +kernel
theorem dX7_openersAt_21 : decode cX7_openersAt 21 = .ok (.iload_n 3, 1) := by decide +kernel
theorem dX7_openersAt_22 : decode cX7_openersAt 22 = .ok (.invokevirtual 158, 3) := by decide +kernel
theorem dX7_openersAt_25 : decode cX7_openersAt 25 = .ok (.lstore 6, 2) := by decide +kernel
theorem dX7_openersAt_27 : decode cX7_openersAt 27 = .ok (.iconst 0, 1) := by decide +kernel
theorem dX7_openersAt_28 : decode cX7_openersAt 28 = .ok (.istore 8, 2) := by decide +kernel
theorem dX7_openersAt_30 : decode cX7_openersAt 30 = .ok (.iload_n 1, 1) := by decide +kernel
theorem dX7_openersAt_31 : decode cX7_openersAt 31 = .ok (.istore 9, 2) := by decide +kernel
theorem dX7_openersAt_33 : decode cX7_openersAt 33 = .ok (.iload 9, 2) := by decide +kernel
theorem dX7_openersAt_35 : decode cX7_openersAt 35 = .ok (.iconst 1, 1) := by decide +kernel
theorem dX7_openersAt_36 : decode cX7_openersAt 36 = .ok (.if_icmp .lt 51, 3) := by decide +kernel
theorem dX7_openersAt_39 : decode cX7_openersAt 39 = .ok (.iload 5, 2) := by decide +kernel
theorem dX7_openersAt_41 : decode cX7_openersAt 41 = .ok (.iload 9, 2) := by decide +kernel
theorem dX7_openersAt_43 : decode cX7_openersAt 43 = .ok (.invokestatic 274, 3) := by decide +kernel
theorem dX7_openersAt_46 : decode cX7_openersAt 46 = .ok (.ifCond .eq 35, 3) := by decide +kernel
theorem dX7_openersAt_49 : decode cX7_openersAt 49 = .ok (.aload_n 0, 1) := by decide +kernel
theorem dX7_openersAt_50 : decode cX7_openersAt 50 = .ok (.getfield 19, 3) := by decide +kernel
theorem dX7_openersAt_53 : decode cX7_openersAt 53 = .ok (.iload 9, 2) := by decide +kernel
theorem dX7_openersAt_55 : decode cX7_openersAt 55 = .ok (.aload_n 0, 1) := by decide +kernel
theorem dX7_openersAt_56 : decode cX7_openersAt 56 = .ok (.getfield 10, 3) := by decide +kernel
theorem dX7_openersAt_59 : decode cX7_openersAt 59 = .ok (.invokevirtual 164, 3) := by decide +kernel
theorem dX7_openersAt_62 : decode cX7_openersAt 62 = .ok (.lload 6, 2) := by decide +kernel
theorem dX7_openersAt_64 : decode cX7_openersAt 64 = .ok (.invokevirtual 172, 3) := by decide +kernel
theorem dX7_openersAt_67 : decode cX7_openersAt 67 = .ok (.iload 4, 2) := by decide +kernel
theorem dX7_openersAt_69 : decode cX7_openersAt 69 = .ok (.if_icmp .ne 12, 3) := by decide +kernel
theorem dX7_openersAt_72 : decode cX7_openersAt 72 = .ok (.iload 8, 2) := by decide +kernel
theorem dX7_openersAt_74 : decode cX7_openersAt 74 = .ok (.iconst 1, 1) := by decide +kernel
theorem dX7_openersAt_75 : decode cX7_openersAt 75 = .ok (.iload 9, 2) := by decide +kernel
theorem dX7_openersAt_77 : decode cX7_openersAt 77 = .ok (.ishl, 1) := by decide +kernel
theorem dX7_openersAt_78 : decode cX7_openersAt 78 = .ok (.ior, 1) := by decide +kernel
theorem dX7_openersAt_79 : decode cX7_openersAt 79 = .ok (.istore 8, 2) := by decide +kernel
theorem dX7_openersAt_81 : decode cX7_openersAt 81 = .ok (.iinc 9 (-1), 3) := by decide +kernel
theorem dX7_openersAt_84 : decode cX7_openersAt 84 = .ok (.goto (-51), 3) := by decide +kernel
theorem dX7_openersAt_87 : decode cX7_openersAt 87 = .ok (.iload 8, 2) := by decide +kernel
theorem dX7_openersAt_89 : decode cX7_openersAt 89 = .ok (.ireturn, 1) := by decide +kernel
theorem dX7_arcOf_0 : decode cX7_arcOf 0 = .ok (.aload_n 0, 1) := by decide +kernel
theorem dX7_arcOf_1 : decode cX7_arcOf 1 = .ok (.iload_n 1, 1) := by decide +kernel
theorem dX7_arcOf_2 : decode cX7_arcOf 2 = .ok (.iload_n 2, 1) := by decide +kernel
theorem dX7_arcOf_3 : decode cX7_arcOf 3 = .ok (.iload_n 3, 1) := by decide +kernel
theorem dX7_arcOf_4 : decode cX7_arcOf 4 = .ok (.invokevirtual 176, 3) := by decide +kernel
theorem dX7_arcOf_7 : decode cX7_arcOf 7 = .ok (.istore 4, 2) := by decide +kernel
theorem dX7_arcOf_9 : decode cX7_arcOf 9 = .ok (.aload_n 0, 1) := by decide +kernel
theorem dX7_arcOf_10 : decode cX7_arcOf 10 = .ok (.getfield 10, 3) := by decide +kernel
theorem dX7_arcOf_13 : decode cX7_arcOf 13 = .ok (.iload_n 1, 1) := by decide +kernel
theorem dX7_arcOf_14 : decode cX7_arcOf 14 = .ok (.iload_n 2, 1) := by decide +kernel
theorem dX7_arcOf_15 : decode cX7_arcOf 15 = .ok (.iload_n 3, 1) := by decide +kernel
theorem dX7_arcOf_16 : decode cX7_arcOf 16 = .ok (.invokevirtual 158, 3) := by decide +kernel
theorem dX7_arcOf_19 : decode cX7_arcOf 19 = .ok (.lstore 5, 2) := by decide +kernel
theorem dX7_arcOf_21 : decode cX7_arcOf 21 = .ok (.iload 4, 2) := by decide +kernel
theorem dX7_arcOf_23 : decode cX7_arcOf 23 = .ok (.iconst (-1), 1) := by decide +kernel
theorem dX7_arcOf_24 : decode cX7_arcOf 24 = .ok (.if_icmp .eq 10, 3) := by decide +kernel
theorem dX7_arcOf_27 : decode cX7_arcOf 27 = .ok (.lload 5, 2) := by decide +kernel
theorem dX7_arcOf_29 : decode cX7_arcOf 29 = .ok (.lconst 1, 1) := by decide +kernel
theorem dX7_arcOf_30 : decode cX7_arcOf 30 = .ok (.lcmp, 1) := by decide +kernel
theorem dX7_arcOf_31 : decode cX7_arcOf 31 = .ok (.ifCond .ge 7, 3) := by decide +kernel
theorem dX7_arcOf_34 : decode cX7_arcOf 34 = .ok (.ldc2_w 156, 3) := by decide +kernel
theorem dX7_arcOf_37 : decode cX7_arcOf 37 = .ok (.lreturn, 1) := by decide +kernel
theorem dX7_arcOf_38 : decode cX7_arcOf 38 = .ok (.aload_n 0, 1) := by decide +kernel
theorem dX7_arcOf_39 : decode cX7_arcOf 39 = .ok (.getfield 10, 3) := by decide +kernel
theorem dX7_arcOf_42 : decode cX7_arcOf 42 = .ok (.invokevirtual 164, 3) := by decide +kernel
theorem dX7_arcOf_45 : decode cX7_arcOf 45 = .ok (.lstore 7, 2) := by decide +kernel
theorem dX7_arcOf_47 : decode cX7_arcOf 47 = .ok (.lload 7, 2) := by decide +kernel
theorem dX7_arcOf_49 : decode cX7_arcOf 49 = .ok (.lload 7, 2) := by decide +kernel
theorem dX7_arcOf_51 : decode cX7_arcOf 51 = .ok (.lmul, 1) := by decide +kernel
theorem dX7_arcOf_52 : decode cX7_arcOf 52 = .ok (.iload 4, 2) := by decide +kernel
theorem dX7_arcOf_54 : decode cX7_arcOf 54 = .ok (.i2l, 1) := by decide +kernel
theorem dX7_arcOf_55 : decode cX7_arcOf 55 = .ok (.lmul, 1) := by decide +kernel
theorem dX7_arcOf_56 : decode cX7_arcOf 56 = .ok (.lload 5, 2) := by decide +kernel
theorem dX7_arcOf_58 : decode cX7_arcOf 58 = .ok (.lload 5, 2) := by decide +kernel
theorem dX7_arcOf_60 : decode cX7_arcOf 60 = .ok (.lmul, 1) := by decide +kernel
theorem dX7_arcOf_61 : decode cX7_arcOf 61 = .ok (.ldiv, 1) := by decide +kernel
theorem dX7_arcOf_62 : decode cX7_arcOf 62 = .ok (.lreturn, 1) := by decide +kernel
theorem dX7_worstOf_0 : decode cX7_worstOf 0 = .ok (.lconst 0, 1) := by decide +kernel
theorem dX7_worstOf_1 : decode cX7_worstOf 1 = .ok (.lstore_n 2, 1) := by decide +kernel
theorem dX7_worstOf_2 : decode cX7_worstOf 2 = .ok (.iconst 0, 1) := by decide +kernel
theorem dX7_worstOf_3 : decode cX7_worstOf 3 = .ok (.istore 4, 2) := by decide +kernel
theorem dX7_worstOf_5 : decode cX7_worstOf 5 = .ok (.iload 4, 2) := by decide +kernel
theorem dX7_worstOf_7 : decode cX7_worstOf 7 = .ok (.bipush 16, 2) := by decide +kernel
theorem dX7_worstOf_9 : decode cX7_worstOf 9 = .ok (.if_icmp .gt 68, 3) := by decide +kernel
theorem dX7_worstOf_12 : decode cX7_worstOf 12 = .ok (.iconst 0, 1) := by decide +kernel
theorem dX7_worstOf_13 : decode cX7_worstOf 13 = .ok (.istore 5, 2) := by decide +kernel
theorem dX7_worstOf_15 : decode cX7_worstOf 15 = .ok (.iload 5, 2) := by decide +kernel
theorem dX7_worstOf_17 : decode cX7_worstOf 17 = .ok (.aload_n 0, 1) := by decide +kernel
theorem dX7_worstOf_18 : decode cX7_worstOf 18 = .ok (.getfield 26, 3) := by decide +kernel
theorem dX7_worstOf_21 : decode cX7_worstOf 21 = .ok (.invokevirtual 283, 3) := by decide +kernel
theorem dX7_worstOf_24 : decode cX7_worstOf 24 = .ok (.if_icmp .ge 47, 3) := by decide +kernel
theorem dX7_worstOf_27 : decode cX7_worstOf 27 = .ok (.aload_n 0, 1) := by decide +kernel
theorem dX7_worstOf_28 : decode cX7_worstOf 28 = .ok (.iload_n 1, 1) := by decide +kernel
theorem dX7_worstOf_29 : decode cX7_worstOf 29 = .ok (.iload 4, 2) := by decide +kernel
theorem dX7_worstOf_31 : decode cX7_worstOf 31 = .ok (.aload_n 0, 1) := by decide +kernel
theorem dX7_worstOf_32 : decode cX7_worstOf 32 = .ok (.getfield 26, 3) := by decide +kernel
theorem dX7_worstOf_35 : decode cX7_worstOf 35 = .ok (.iload 5, 2) := by decide +kernel
theorem dX7_worstOf_37 : decode cX7_worstOf 37 = .ok (.invokevirtual 286, 3) := by decide +kernel
theorem dX7_worstOf_40 : decode cX7_worstOf 40 = .ok (.invokevirtual 215, 3) := by decide +kernel
theorem dX7_worstOf_43 : decode cX7_worstOf 43 = .ok (.lstore 6, 2) := by decide +kernel
theorem dX7_worstOf_45 : decode cX7_worstOf 45 = .ok (.lload 6, 2) := by decide +kernel
theorem dX7_worstOf_47 : decode cX7_worstOf 47 = .ok (.ldc2_w 156, 3) := by decide +kernel
theorem dX7_worstOf_50 : decode cX7_worstOf 50 = .ok (.lcmp, 1) := by decide +kernel
theorem dX7_worstOf_51 : decode cX7_worstOf 51 = .ok (.ifCond .ne 7, 3) := by decide +kernel
theorem dX7_worstOf_54 : decode cX7_worstOf 54 = .ok (.ldc2_w 156, 3) := by decide +kernel
theorem dX7_worstOf_57 : decode cX7_worstOf 57 = .ok (.lreturn, 1) := by decide +kernel
theorem dX7_worstOf_58 : decode cX7_worstOf 58 = .ok (.lload_n 2, 1) := by decide +kernel
theorem dX7_worstOf_59 : decode cX7_worstOf 59 = .ok (.lload 6, 2) := by decide +kernel
theorem dX7_worstOf_61 : decode cX7_worstOf 61 = .ok (.invokestatic 222, 3) := by decide +kernel
theorem dX7_worstOf_64 : decode cX7_worstOf 64 = .ok (.lstore_n 2, 1) := by decide +kernel
theorem dX7_worstOf_65 : decode cX7_worstOf 65 = .ok (.iinc 5 1, 3) := by decide +kernel
theorem dX7_worstOf_68 : decode cX7_worstOf 68 = .ok (.goto (-53), 3) := by decide +kernel
theorem dX7_worstOf_71 : decode cX7_worstOf 71 = .ok (.iinc 4 1, 3) := by decide +kernel
theorem dX7_worstOf_74 : decode cX7_worstOf 74 = .ok (.goto (-69), 3) := by decide +kernel
theorem dX7_worstOf_77 : decode cX7_worstOf 77 = .ok (.lload_n 2, 1) := by decide +kernel
theorem dX7_worstOf_78 : decode cX7_worstOf 78 = .ok (.lreturn, 1) := by decide +kernel
theorem dX7_growthOf_0 : decode cX7_growthOf 0 = .ok (.aload_n 0, 1) := by decide +kernel
theorem dX7_growthOf_1 : decode cX7_growthOf 1 = .ok (.getfield 10, 3) := by decide +kernel
theorem dX7_growthOf_4 : decode cX7_growthOf 4 = .ok (.iload_n 1, 1) := by decide +kernel
theorem dX7_growthOf_5 : decode cX7_growthOf 5 = .ok (.invokevirtual 147, 3) := by decide +kernel
theorem dX7_growthOf_8 : decode cX7_growthOf 8 = .ok (.i2l, 1) := by decide +kernel
theorem dX7_growthOf_9 : decode cX7_growthOf 9 = .ok (.lstore_n 2, 1) := by decide +kernel
theorem dX7_growthOf_10 : decode cX7_growthOf 10 = .ok (.aload_n 0, 1) := by decide +kernel
theorem dX7_growthOf_11 : decode cX7_growthOf 11 = .ok (.getfield 19, 3) := by decide +kernel
theorem dX7_growthOf_14 : decode cX7_growthOf 14 = .ok (.iload_n 1, 1) := by decide +kernel
theorem dX7_growthOf_15 : decode cX7_growthOf 15 = .ok (.invokevirtual 289, 3) := by decide +kernel
theorem dX7_growthOf_18 : decode cX7_growthOf 18 = .ok (.lstore 4, 2) := by decide +kernel
theorem dX7_growthOf_20 : decode cX7_growthOf 20 = .ok (.lload_n 2, 1) := by decide +kernel
theorem dX7_growthOf_21 : decode cX7_growthOf 21 = .ok (.lconst 1, 1) := by decide +kernel
theorem dX7_growthOf_22 : decode cX7_growthOf 22 = .ok (.lcmp, 1) := by decide +kernel
theorem dX7_growthOf_23 : decode cX7_growthOf 23 = .ok (.ifCond .lt 12, 3) := by decide +kernel
theorem dX7_growthOf_26 : decode cX7_growthOf 26 = .ok (.lload 4, 2) := by decide +kernel
theorem dX7_growthOf_28 : decode cX7_growthOf 28 = .ok (.ldc2_w 156, 3) := by decide +kernel
theorem dX7_growthOf_31 : decode cX7_growthOf 31 = .ok (.lcmp, 1) := by decide +kernel
theorem dX7_growthOf_32 : decode cX7_growthOf 32 = .ok (.ifCond .ne 7, 3) := by decide +kernel
theorem dX7_growthOf_35 : decode cX7_growthOf 35 = .ok (.ldc2_w 228, 3) := by decide +kernel
theorem dX7_growthOf_38 : decode cX7_growthOf 38 = .ok (.lreturn, 1) := by decide +kernel
theorem dX7_growthOf_39 : decode cX7_growthOf 39 = .ok (.ldc2_w 292, 3) := by decide +kernel
theorem dX7_growthOf_42 : decode cX7_growthOf 42 = .ok (.lload 4, 2) := by decide +kernel
theorem dX7_growthOf_44 : decode cX7_growthOf 44 = .ok (.lmul, 1) := by decide +kernel
theorem dX7_growthOf_45 : decode cX7_growthOf 45 = .ok (.lconst 1, 1) := by decide +kernel
theorem dX7_growthOf_46 : decode cX7_growthOf 46 = .ok (.lsub, 1) := by decide +kernel
theorem dX7_growthOf_47 : decode cX7_growthOf 47 = .ok (.lload_n 2, 1) := by decide +kernel
theorem dX7_growthOf_48 : decode cX7_growthOf 48 = .ok (.ldiv, 1) := by decide +kernel
theorem dX7_growthOf_49 : decode cX7_growthOf 49 = .ok (.lreturn, 1) := by decide +kernel
theorem dX7_findLeastDials_0 : decode cX7_findLeastDials 0 = .ok (.aload_n 0, 1) := by decide +kernel
theorem dX7_findLeastDials_1 : decode cX7_findLeastDials 1 = .ok (.getfield 42, 3) := by decide +kernel
theorem dX7_findLeastDials_4 : decode cX7_findLeastDials 4 = .ok (.invokevirtual 245, 3) := by decide +kernel
theorem dX7_findLeastDials_7 : decode cX7_findLeastDials 7 = .ok (.aload_n 0, 1) := by decide +kernel
theorem dX7_findLeastDials_8 : decode cX7_findLeastDials 8 = .ok (.getfield 19, 3) := by decide +kernel
theorem dX7_findLeastDials_11 : decode cX7_findLeastDials 11 = .ok (.getfield 114, 3) := by decide +kernel
theorem dX7_findLeastDials_14 : decode cX7_findLeastDials 14 = .ok (.iconst 0, 1) := by decide +kernel
theorem dX7_findLeastDials_15 : decode cX7_findLeastDials 15 = .ok (.aload_n 0, 1) := by decide +kernel
theorem dX7_findLeastDials_16 : decode cX7_findLeastDials 16 = .ok (.getfield 55, 3) := by decide +kernel
theorem dX7_findLeastDials_19 : decode cX7_findLeastDials 19 = .ok (.iconst 0, 1) := by decide +kernel
theorem dX7_findLeastDials_20 : decode cX7_findLeastDials 20 = .ok (.bipush 30, 2) := by decide +kernel
theorem dX7_findLeastDials_22 : decode cX7_findLeastDials 22 = .ok (.invokestatic 205, 3) := by decide +kernel
theorem dX7_findLeastDials_25 : decode cX7_findLeastDials 25 = .ok (.aload_n 0, 1) := by decide +kernel
theorem dX7_findLeastDials_26 : decode cX7_findLeastDials 26 = .ok (.getfield 10, 3) := by decide +kernel
theorem dX7_findLeastDials_29 : decode cX7_findLeastDials 29 = .ok (.getfield 81, 3) := by decide +kernel
theorem dX7_findLeastDials_32 : decode cX7_findLeastDials 32 = .ok (.iconst 1, 1) := by decide +kernel
theorem dX7_findLeastDials_33 : decode cX7_findLeastDials 33 = .ok (.isub, 1) := by decide +kernel
theorem dX7_findLeastDials_34 : decode cX7_findLeastDials 34 = .ok (.istore_n 1, 1) := by decide +kernel
theorem dX7_findLeastDials_35 : decode cX7_findLeastDials 35 = .ok (.iload_n 1, 1) := by decide +kernel
theorem dX7_findLeastDials_36 : decode cX7_findLeastDials 36 = .ok (.iconst 1, 1) := by decide +kernel
theorem dX7_findLeastDials_37 : decode cX7_findLeastDials 37 = .ok (.if_icmp .lt 51, 3) := by decide +kernel
theorem dX7_findLeastDials_40 : decode cX7_findLeastDials 40 = .ok (.aload_n 0, 1) := by decide +kernel
theorem dX7_findLeastDials_41 : decode cX7_findLeastDials 41 = .ok (.getfield 19, 3) := by decide +kernel
theorem dX7_findLeastDials_44 : decode cX7_findLeastDials 44 = .ok (.iload_n 1, 1) := by decide +kernel
theorem dX7_findLeastDials_45 : decode cX7_findLeastDials 45 = .ok (.invokevirtual 107, 3) := by decide +kernel
theorem dX7_findLeastDials_48 : decode cX7_findLeastDials 48 = .ok (.ifCond .eq 34, 3) := by decide +kernel
theorem dX7_findLeastDials_51 : decode cX7_findLeastDials 51 = .ok (.aload_n 0, 1) := by decide +kernel
theorem dX7_findLeastDials_52 : decode cX7_findLeastDials 52 = .ok (.getfield 42, 3) := by decide +kernel
theorem dX7_findLeastDials_55 : decode cX7_findLeastDials 55 = .ok (.iload_n 1, 1) := by decide +kernel
theorem dX7_findLeastDials_56 : decode cX7_findLeastDials 56 = .ok (.aload_n 0, 1) := by decide +kernel
theorem dX7_findLeastDials_57 : decode cX7_findLeastDials 57 = .ok (.getfield 55, 3) := by decide +kernel
theorem dX7_findLeastDials_60 : decode cX7_findLeastDials 60 = .ok (.invokevirtual 294, 3) := by decide +kernel
theorem dX7_findLeastDials_63 : decode cX7_findLeastDials 63 = .ok (.lstore_n 2, 1) := by decide +kernel
theorem dX7_findLeastDials_64 : decode cX7_findLeastDials 64 = .ok (.lload_n 2, 1) := by decide +kernel
theorem dX7_findLeastDials_65 : decode cX7_findLeastDials 65 = .ok (.ldc2_w 298, 3) := by decide +kernel
theorem dX7_findLeastDials_68 : decode cX7_findLeastDials 68 = .ok (.lcmp, 1) := by decide +kernel
theorem dX7_findLeastDials_69 : decode cX7_findLeastDials 69 = .ok (.ifCond .le 5, 3) := by decide +kernel
theorem dX7_findLeastDials_72 : decode cX7_findLeastDials 72 = .ok (.iconst 0, 1) := by decide +kernel
theorem dX7_findLeastDials_73 : decode cX7_findLeastDials 73 = .ok (.ireturn, 1) := by decide +kernel
theorem dX7_findLeastDials_74 : decode cX7_findLeastDials 74 = .ok (.aload_n 0, 1) := by decide +kernel
theorem dX7_findLeastDials_75 : decode cX7_findLeastDials 75 = .ok (.getfield 55, 3) := by decide +kernel
theorem dX7_findLeastDials_78 : decode cX7_findLeastDials 78 = .ok (.iload_n 1, 1) := by decide +kernel
theorem dX7_findLeastDials_79 : decode cX7_findLeastDials 79 = .ok (.lload_n 2, 1) := by decide +kernel
theorem dX7_findLeastDials_80 : decode cX7_findLeastDials 80 = .ok (.l2i, 1) := by decide +kernel
theorem dX7_findLeastDials_81 : decode cX7_findLeastDials 81 = .ok (.iastore, 1) := by decide +kernel
theorem dX7_findLeastDials_82 : decode cX7_findLeastDials 82 = .ok (.iinc 1 (-1), 3) := by decide +kernel
theorem dX7_findLeastDials_85 : decode cX7_findLeastDials 85 = .ok (.goto (-50), 3) := by decide +kernel
theorem dX7_findLeastDials_88 : decode cX7_findLeastDials 88 = .ok (.iconst 1, 1) := by decide +kernel
theorem dX7_findLeastDials_89 : decode cX7_findLeastDials 89 = .ok (.ireturn, 1) := by decide +kernel
