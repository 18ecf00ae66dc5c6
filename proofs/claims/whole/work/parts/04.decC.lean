theorem dX8_init_0 : decode cX8_init 0 = .ok (.aload_n 0, 1) := by decide +kernel
theorem dX8_init_1 : decode cX8_init 1 = .ok (.invokespecial 1, 3) := by decide +kernel
theorem dX8_init_4 : decode cX8_init 4 = .ok (.aload_n 0, 1) := by decide +kernel
theorem dX8_init_5 : decode cX8_init 5 = .ok (.iconst 1, 1) := by decide +kernel
theorem dX8_init_6 : decode cX8_init 6 = .ok (.putfield 7, 3) := by decide +kernel
theorem dX8_init_9 : decode cX8_init 9 = .ok (.aload_n 0, 1) := by decide +kernel
theorem dX8_init_10 : decode cX8_init 10 = .ok (.sipush 1000, 3) := by decide +kernel
theorem dX8_init_13 : decode cX8_init 13 = .ok (.putfield 13, 3) := by decide +kernel
theorem dX8_init_16 : decode cX8_init 16 = .ok (.aload_n 0, 1) := by decide +kernel
theorem dX8_init_17 : decode cX8_init 17 = .ok (.iconst 1, 1) := by decide +kernel
theorem dX8_init_18 : decode cX8_init 18 = .ok (.putfield 16, 3) := by decide +kernel
theorem dX8_init_21 : decode cX8_init 21 = .ok (.aload_n 0, 1) := by decide +kernel
theorem dX8_init_22 : decode cX8_init 22 = .ok (.iconst 1, 1) := by decide +kernel
theorem dX8_init_23 : decode cX8_init 23 = .ok (.putfield 19, 3) := by decide +kernel
theorem dX8_init_26 : decode cX8_init 26 = .ok (.aload_n 0, 1) := by decide +kernel
theorem dX8_init_27 : decode cX8_init 27 = .ok (.ldc 22, 2) := by decide +kernel
theorem dX8_init_29 : decode cX8_init 29 = .ok (.putfield 23, 3) := by decide +kernel
theorem dX8_init_32 : decode cX8_init 32 = .ok (.aload_n 0, 1) := by decide +kernel
theorem dX8_init_33 : decode cX8_init 33 = .ok (.bipush 30, 2) := by decide +kernel
theorem dX8_init_35 : decode cX8_init 35 = .ok (.newarray .int, 2) := by decide +kernel
theorem dX8_init_37 : decode cX8_init 37 = .ok (.putfield 26, 3) := by decide +kernel
theorem dX8_init_40 : decode cX8_init 40 = .ok (.aload_n 0, 1) := by decide +kernel
theorem dX8_init_41 : decode cX8_init 41 = .ok (.bipush 30, 2) := by decide +kernel
theorem dX8_init_43 : decode cX8_init 43 = .ok (.newarray .int, 2) := by decide +kernel
theorem dX8_init_45 : decode cX8_init 45 = .ok (.putfield 30, 3) := by decide +kernel
theorem dX8_init_48 : decode cX8_init 48 = .ok (.aload_n 0, 1) := by decide +kernel
theorem dX8_init_49 : decode cX8_init 49 = .ok (.bipush 30, 2) := by decide +kernel
theorem dX8_init_51 : decode cX8_init 51 = .ok (.newarray .int, 2) := by decide +kernel
theorem dX8_init_53 : decode cX8_init 53 = .ok (.putfield 33, 3) := by decide +kernel
theorem dX8_init_56 : decode cX8_init 56 = .ok (.aload_n 0, 1) := by decide +kernel
theorem dX8_init_57 : decode cX8_init 57 = .ok (.bipush 8, 2) := by decide +kernel
theorem dX8_init_59 : decode cX8_init 59 = .ok (.newarray .int, 2) := by decide +kernel
theorem dX8_init_61 : decode cX8_init 61 = .ok (.putfield 36, 3) := by decide +kernel
theorem dX8_init_64 : decode cX8_init 64 = .ok (.aload_n 0, 1) := by decide +kernel
theorem dX8_init_65 : decode cX8_init 65 = .ok (.bipush 64, 2) := by decide +kernel
theorem dX8_init_67 : decode cX8_init 67 = .ok (.newarray .int, 2) := by decide +kernel
theorem dX8_init_69 : decode cX8_init 69 = .ok (.putfield 39, 3) := by decide +kernel
theorem dX8_init_72 : decode cX8_init 72 = .ok (.aload_n 0, 1) := by decide +kernel
theorem dX8_init_73 : decode cX8_init 73 = .ok (.bipush 64, 2) := by decide +kernel
theorem dX8_init_75 : decode cX8_init 75 = .ok (.newarray .int, 2) := by decide +kernel
theorem dX8_init_77 : decode cX8_init 77 = .ok (.putfield 42, 3) := by decide +kernel
theorem dX8_init_80 : decode cX8_init 80 = .ok (.aload_n 0, 1) := by decide +kernel
theorem dX8_init_81 : decode cX8_init 81 = .ok (.bipush 30, 2) := by decide +kernel
theorem dX8_init_83 : decode cX8_init 83 = .ok (.newarray .boolean, 2) := by decide +kernel
theorem dX8_init_85 : decode cX8_init 85 = .ok (.putfield 45, 3) := by decide +kernel
theorem dX8_init_88 : decode cX8_init 88 = .ok (.aload_n 0, 1) := by decide +kernel
theorem dX8_init_89 : decode cX8_init 89 = .ok (.bipush 30, 2) := by decide +kernel
theorem dX8_init_91 : decode cX8_init 91 = .ok (.newarray .int, 2) := by decide +kernel
theorem dX8_init_93 : decode cX8_init 93 = .ok (.putfield 49, 3) := by decide +kernel
theorem dX8_init_96 : decode cX8_init 96 = .ok (.aload_n 0, 1) := by decide +kernel
theorem dX8_init_97 : decode cX8_init 97 = .ok (.bipush 30, 2) := by decide +kernel
theorem dX8_init_99 : decode cX8_init 99 = .ok (.newarray .int, 2) := by decide +kernel
theorem dX8_init_101 : decode cX8_init 101 = .ok (.putfield 52, 3) := by decide +kernel
theorem dX8_init_104 : decode cX8_init 104 = .ok (.aload_n 0, 1) := by decide +kernel
theorem dX8_init_105 : decode cX8_init 105 = .ok (.bipush 30, 2) := by decide +kernel
theorem dX8_init_107 : decode cX8_init 107 = .ok (.newarray .int, 2) := by decide +kernel
theorem dX8_init_109 : decode cX8_init 109 = .ok (.putfield 55, 3) := by decide +kernel
theorem dX8_init_112 : decode cX8_init 112 = .ok (.aload_n 0, 1) := by decide +kernel
theorem dX8_init_113 : decode cX8_init 113 = .ok (.bipush 30, 2) := by decide +kernel
theorem dX8_init_115 : decode cX8_init 115 = .ok (.newarray .boolean, 2) := by decide +kernel
theorem dX8_init_117 : decode cX8_init 117 = .ok (.putfield 58, 3) := by decide +kernel
theorem dX8_init_120 : decode cX8_init 120 = .ok (.aload_n 0, 1) := by decide +kernel
theorem dX8_init_121 : decode cX8_init 121 = .ok (.bipush 30, 2) := by decide +kernel
theorem dX8_init_123 : decode cX8_init 123 = .ok (.newarray .int, 2) := by decide +kernel
theorem dX8_init_125 : decode cX8_init 125 = .ok (.putfield 61, 3) := by decide +kernel
theorem dX8_init_128 : decode cX8_init 128 = .ok (.aload_n 0, 1) := by decide +kernel
theorem dX8_init_129 : decode cX8_init 129 = .ok (.bipush 30, 2) := by decide +kernel
theorem dX8_init_131 : decode cX8_init 131 = .ok (.newarray .boolean, 2) := by decide +kernel
theorem dX8_init_133 : decode cX8_init 133 = .ok (.putfield 64, 3) := by decide +kernel
theorem dX8_init_136 : decode cX8_init 136 = .ok (.aload_n 0, 1) := by decide +kernel
theorem dX8_init_137 : decode cX8_init 137 = .ok (.bipush 30, 2) := by decide +kernel
theorem dX8_init_139 : decode cX8_init 139 = .ok (.newarray .boolean, 2) := by decide +kernel
theorem dX8_init_141 : decode cX8_init 141 = .ok (.putfield 67, 3) := by decide +kernel
theorem dX8_init_144 : decode cX8_init 144 = .ok (.aload_n 0, 1) := by decide +kernel
theorem dX8_init_145 : decode cX8_init 145 = .ok (.bipush 10, 2) := by decide +kernel
theorem dX8_init_147 : decode cX8_init 147 = .ok (.newarray .int, 2) := by decide +kernel
theorem dX8_init_149 : decode cX8_init 149 = .ok (.putfield 70, 3) := by decide +kernel
theorem dX8_init_152 : decode cX8_init 152 = .ok (.aload_n 0, 1) := by decide +kernel
theorem dX8_init_153 : decode cX8_init 153 = .ok (.bipush 30, 2) := by decide +kernel
theorem dX8_init_155 : decode cX8_init 155 = .ok (.newarray .int, 2) := by decide +kernel
theorem dX8_init_157 : decode cX8_init 157 = .ok (.putfield 73, 3) := by decide +kernel
theorem dX8_init_160 : decode cX8_init 160 = .ok (.aload_n 0, 1) := by decide +kernel
theorem dX8_init_161 : decode cX8_init 161 = .ok (.bipush 30, 2) := by decide +kernel
theorem dX8_init_163 : decode cX8_init 163 = .ok (.newarray .int, 2) := by decide +kernel
theorem dX8_init_165 : decode cX8_init 165 = .ok (.putfield 76, 3) := by decide +kernel
theorem dX8_init_168 : decode cX8_init 168 = .ok (.aload_n 0, 1) := by decide +kernel
theorem dX8_init_169 : decode cX8_init 169 = .ok (.sipush 1024, 3) := by decide +kernel
theorem dX8_init_172 : decode cX8_init 172 = .ok (.newarray .byte, 2) := by decide +kernel
theorem dX8_init_174 : decode cX8_init 174 = .ok (.putfield 79, 3) := by decide +kernel
theorem dX8_init_177 : decode cX8_init 177 = .ok (.iconst 0, 1) := by decide +kernel
theorem dX8_init_178 : decode cX8_init 178 = .ok (.istore_n 1, 1) := by decide +kernel
theorem dX8_init_179 : decode cX8_init 179 = .ok (.iload_n 1, 1) := by decide +kernel
theorem dX8_init_180 : decode cX8_init 180 = .ok (.bipush 30, 2) := by decide +kernel
theorem dX8_init_182 : decode cX8_init 182 = .ok (.if_icmp .ge 16, 3) := by decide +kernel
theorem dX8_init_185 : decode cX8_init 185 = .ok (.aload_n 0, 1) := by decide +kernel
theorem dX8_init_186 : decode cX8_init 186 = .ok (.getfield 61, 3) := by decide +kernel
theorem dX8_init_189 : decode cX8_init 189 = .ok (.iload_n 1, 1) := by decide +kernel
theorem dX8_init_190 : decode cX8_init 190 = .ok (.iconst (-1), 1) := by decide +kernel
theorem dX8_init_191 : decode cX8_init 191 = .ok (.iastore, 1) := by decide +kernel
theorem dX8_init_192 : decode cX8_init 192 = .ok (.iinc 1 1, 3) := by decide +kernel
theorem dX8_init_195 : decode cX8_init 195 = .ok (.goto (-16), 3) := by decide +kernel
theorem dX8_init_198 : decode cX8_init 198 = .ok (.return_, 1) := by decide +kernel
theorem dX8_isIn_0 : decode cX8_isIn 0 = .ok (.iload_n 0, 1) := by decide +kernel
theorem dX8_isIn_1 : decode cX8_isIn 1 = .ok (.iload_n 1, 1) := by decide +kernel
theorem dX8_isIn_2 : decode cX8_isIn 2 = .ok (.if_icmp .lt 12, 3) := by decide +kernel
theorem dX8_isIn_5 : decode cX8_isIn 5 = .ok (.iload_n 0, 1) := by decide +kernel
theorem dX8_isIn_6 : decode cX8_isIn 6 = .ok (.iload_n 2, 1) := by decide +kernel
theorem dX8_isIn_7 : decode cX8_isIn 7 = .ok (.if_icmp .gt 7, 3) := by decide +kernel
theorem dX8_isIn_10 : decode cX8_isIn 10 = .ok (.iconst 1, 1) := by decide +kernel
theorem dX8_isIn_11 : decode cX8_isIn 11 = .ok (.goto 4, 3) := by decide +kernel
theorem dX8_isIn_14 : decode cX8_isIn 14 = .ok (.iconst 0, 1) := by decide +kernel
theorem dX8_isIn_15 : decode cX8_isIn 15 = .ok (.ireturn, 1) := by decide +kernel
theorem dX8_isLine_0 : decode cX8_isLine 0 = .ok (.iload_n 1, 1) := by decide +kernel
theorem dX8_isLine_1 : decode cX8_isLine 1 = .ok (.iconst 1, 1) := by decide +kernel
theorem dX8_isLine_2 : decode cX8_isLine 2 = .ok (.aload_n 0, 1) := by decide +kernel
theorem dX8_isLine_3 : decode cX8_isLine 3 = .ok (.getfield 7, 3) := by decide +kernel
theorem dX8_isLine_6 : decode cX8_isLine 6 = .ok (.iconst 1, 1) := by decide +kernel
theorem dX8_isLine_7 : decode cX8_isLine 7 = .ok (.isub, 1) := by decide +kernel
theorem dX8_isLine_8 : decode cX8_isLine 8 = .ok (.invokestatic 83, 3) := by decide +kernel
theorem dX8_isLine_11 : decode cX8_isLine 11 = .ok (.ireturn, 1) := by decide +kernel
theorem dX8_isBreaker_0 : decode cX8_isBreaker 0 = .ok (.aload_n 0, 1) := by decide +kernel
theorem dX8_isBreaker_1 : decode cX8_isBreaker 1 = .ok (.iload_n 1, 1) := by decide +kernel
theorem dX8_isBreaker_2 : decode cX8_isBreaker 2 = .ok (.invokevirtual 87, 3) := by decide +kernel
theorem dX8_isBreaker_5 : decode cX8_isBreaker 5 = .ok (.ifCond .eq 16, 3) := by decide +kernel
theorem dX8_isBreaker_8 : decode cX8_isBreaker 8 = .ok (.aload_n 0, 1) := by decide +kernel
theorem dX8_isBreaker_9 : decode cX8_isBreaker 9 = .ok (.getfield 45, 3) := by decide +kernel
theorem dX8_isBreaker_12 : decode cX8_isBreaker 12 = .ok (.iload_n 1, 1) := by decide +kernel
theorem dX8_isBreaker_13 : decode cX8_isBreaker 13 = .ok (.baload, 1) := by decide +kernel
theorem dX8_isBreaker_14 : decode cX8_isBreaker 14 = .ok (.ifCond .eq 7, 3) := by decide +kernel
theorem dX8_isBreaker_17 : decode cX8_isBreaker 17 = .ok (.iconst 1, 1) := by decide +kernel
theorem dX8_isBreaker_18 : decode cX8_isBreaker 18 = .ok (.goto 4, 3) := by decide +kernel
theorem dX8_isBreaker_21 : decode cX8_isBreaker 21 = .ok (.iconst 0, 1) := by decide +kernel
theorem dX8_isBreaker_22 : decode cX8_isBreaker 22 = .ok (.ireturn, 1) := by decide +kernel
theorem dX8_isFault_0 : decode cX8_isFault 0 = .ok (.aload_n 0, 1) := by decide +kernel
theorem dX8_isFault_1 : decode cX8_isFault 1 = .ok (.iload_n 1, 1) := by decide +kernel
theorem dX8_isFault_2 : decode cX8_isFault 2 = .ok (.invokevirtual 87, 3) := by decide +kernel
theorem dX8_isFault_5 : decode cX8_isFault 5 = .ok (.ifCond .eq 28, 3) := by decide +kernel
theorem dX8_isFault_8 : decode cX8_isFault 8 = .ok (.iload_n 2, 1) := by decide +kernel
theorem dX8_isFault_9 : decode cX8_isFault 9 = .ok (.iconst 0, 1) := by decide +kernel
theorem dX8_isFault_10 : decode cX8_isFault 10 = .ok (.bipush 16, 2) := by decide +kernel
theorem dX8_isFault_12 : decode cX8_isFault 12 = .ok (.invokestatic 83, 3) := by decide +kernel
theorem dX8_isFault_15 : decode cX8_isFault 15 = .ok (.ifCond .eq 18, 3) := by decide +kernel
theorem dX8_isFault_18 : decode cX8_isFault 18 = .ok (.iload_n 3, 1) := by decide +kernel
theorem dX8_isFault_19 : decode cX8_isFault 19 = .ok (.iconst 0, 1) := by decide +kernel
theorem dX8_isFault_20 : decode cX8_isFault 20 = .ok (.sipush 1000, 3) := by decide +kernel
theorem dX8_isFault_23 : decode cX8_isFault 23 = .ok (.invokestatic 83, 3) := by decide +kernel
theorem dX8_isFault_26 : decode cX8_isFault 26 = .ok (.ifCond .eq 7, 3) := by decide +kernel
theorem dX8_isFault_29 : decode cX8_isFault 29 = .ok (.iconst 1, 1) := by decide +kernel
theorem dX8_isFault_30 : decode cX8_isFault 30 = .ok (.goto 4, 3) := by decide +kernel
theorem dX8_isFault_33 : decode cX8_isFault 33 = .ok (.iconst 0, 1) := by decide +kernel
theorem dX8_isFault_34 : decode cX8_isFault 34 = .ok (.ireturn, 1) := by decide +kernel
theorem dX8_source_0 : decode cX8_source 0 = .ok (.iload_n 1, 1) := by decide +kernel
theorem dX8_source_1 : decode cX8_source 1 = .ok (.iconst 1, 1) := by decide +kernel
theorem dX8_source_2 : decode cX8_source 2 = .ok (.sipush 10000, 3) := by decide +kernel
theorem dX8_source_5 : decode cX8_source 5 = .ok (.invokestatic 83, 3) := by decide +kernel
theorem dX8_source_8 : decode cX8_source 8 = .ok (.ifCond .eq 14, 3) := by decide +kernel
theorem dX8_source_11 : decode cX8_source 11 = .ok (.iload_n 2, 1) := by decide +kernel
theorem dX8_source_12 : decode cX8_source 12 = .ok (.iconst 1, 1) := by decide +kernel
theorem dX8_source_13 : decode cX8_source 13 = .ok (.sipush 1000, 3) := by decide +kernel
theorem dX8_source_16 : decode cX8_source 16 = .ok (.invokestatic 83, 3) := by decide +kernel
theorem dX8_source_19 : decode cX8_source 19 = .ok (.ifCond .ne 5, 3) := by decide +kernel
theorem dX8_source_22 : decode cX8_source 22 = .ok (.iconst 0, 1) := by decide +kernel
theorem dX8_source_23 : decode cX8_source 23 = .ok (.ireturn, 1) := by decide +kernel
theorem dX8_source_24 : decode cX8_source 24 = .ok (.aload_n 0, 1) := by decide +kernel
theorem dX8_source_25 : decode cX8_source 25 = .ok (.iload_n 1, 1) := by decide +kernel
theorem dX8_source_26 : decode cX8_source 26 = .ok (.putfield 13, 3) := by decide +kernel
theorem dX8_source_29 : decode cX8_source 29 = .ok (.aload_n 0, 1) := by decide +kernel
theorem dX8_source_30 : decode cX8_source 30 = .ok (.iload_n 2, 1) := by decide +kernel
theorem dX8_source_31 : decode cX8_source 31 = .ok (.putfield 16, 3) := by decide +kernel
theorem dX8_source_34 : decode cX8_source 34 = .ok (.aload_n 0, 1) := by decide +kernel
theorem dX8_source_35 : decode cX8_source 35 = .ok (.iconst 0, 1) := by decide +kernel
theorem dX8_source_36 : decode cX8_source 36 = .ok (.putfield 91, 3) := by decide +kernel
theorem dX8_source_39 : decode cX8_source 39 = .ok (.iconst 1, 1) := by decide +kernel
theorem dX8_source_40 : decode cX8_source 40 = .ok (.ireturn, 1) := by decide +kernel
theorem dX8_line_0 : decode cX8_line 0 = .ok (.iload_n 1, 1) := by decide +kernel
theorem dX8_line_1 : decode cX8_line 1 = .ok (.iconst 0, 1) := by decide +kernel
theorem dX8_line_2 : decode cX8_line 2 = .ok (.aload_n 0, 1) := by decide +kernel
theorem dX8_line_3 : decode cX8_line 3 = .ok (.getfield 7, 3) := by decide +kernel
theorem dX8_line_6 : decode cX8_line 6 = .ok (.iconst 1, 1) := by decide +kernel
theorem dX8_line_7 : decode cX8_line 7 = .ok (.isub, 1) := by decide +kernel
theorem dX8_line_8 : decode cX8_line 8 = .ok (.invokestatic 83, 3) := by decide +kernel
theorem dX8_line_11 : decode cX8_line 11 = .ok (.ifCond .eq 23, 3) := by decide +kernel
theorem dX8_line_14 : decode cX8_line 14 = .ok (.iload_n 2, 1) := by decide +kernel
theorem dX8_line_15 : decode cX8_line 15 = .ok (.iconst 1, 1) := by decide +kernel
theorem dX8_line_16 : decode cX8_line 16 = .ok (.sipush 1000, 3) := by decide +kernel
theorem dX8_line_19 : decode cX8_line 19 = .ok (.invokestatic 83, 3) := by decide +kernel
theorem dX8_line_22 : decode cX8_line 22 = .ok (.ifCond .eq 12, 3) := by decide +kernel
theorem dX8_line_25 : decode cX8_line 25 = .ok (.aload_n 0, 1) := by decide +kernel
theorem dX8_line_26 : decode cX8_line 26 = .ok (.getfield 7, 3) := by decide +kernel
theorem dX8_line_29 : decode cX8_line 29 = .ok (.bipush 30, 2) := by decide +kernel
theorem dX8_line_31 : decode cX8_line 31 = .ok (.if_icmp .ne 5, 3) := by decide +kernel
theorem dX8_line_34 : decode cX8_line 34 = .ok (.iconst (-1), 1) := by decide +kernel
theorem dX8_line_35 : decode cX8_line 35 = .ok (.ireturn, 1) := by decide +kernel
theorem dX8_line_36 : decode cX8_line 36 = .ok (.aload_n 0, 1) := by decide +kernel
theorem dX8_line_37 : decode cX8_line 37 = .ok (.getfield 26, 3) := by decide +kernel
theorem dX8_line_40 : decode cX8_line 40 = .ok (.aload_n 0, 1) := by decide +kernel
theorem dX8_line_41 : decode cX8_line 41 = .ok (.getfield 7, 3) := by decide +kernel
theorem dX8_line_44 : decode cX8_line 44 = .ok (.iload_n 1, 1) := by decide +kernel
theorem dX8_line_45 : decode cX8_line 45 = .ok (.iastore, 1) := by decide +kernel
theorem dX8_line_46 : decode cX8_line 46 = .ok (.aload_n 0, 1) := by decide +kernel
theorem dX8_line_47 : decode cX8_line 47 = .ok (.getfield 30, 3) := by decide +kernel
theorem dX8_line_50 : decode cX8_line 50 = .ok (.aload_n 0, 1) := by decide +kernel
theorem dX8_line_51 : decode cX8_line 51 = .ok (.getfield 7, 3) := by decide +kernel
theorem dX8_line_54 : decode cX8_line 54 = .ok (.iload_n 2, 1) := by decide +kernel
theorem dX8_line_55 : decode cX8_line 55 = .ok (.iastore, 1) := by decide +kernel
theorem dX8_line_56 : decode cX8_line 56 = .ok (.aload_n 0, 1) := by decide +kernel
theorem dX8_line_57 : decode cX8_line 57 = .ok (.dup, 1) := by decide +kernel
theorem dX8_line_58 : decode cX8_line 58 = .ok (.getfield 7, 3) := by decide +kernel
theorem dX8_line_61 : decode cX8_line 61 = .ok (.iconst 1, 1) := by decide +kernel
theorem dX8_line_62 : decode cX8_line 62 = .ok (.iadd, 1) := by decide +kernel
theorem dX8_line_63 : decode cX8_line 63 = .ok (.putfield 7, 3) := by decide +kernel
theorem dX8_line_66 : decode cX8_line 66 = .ok (.aload_n 0, 1) := by decide +kernel
theorem dX8_line_67 : decode cX8_line 67 = .ok (.iconst 0, 1) := by decide +kernel
theorem dX8_line_68 : decode cX8_line 68 = .ok (.putfield 91, 3) := by decide +kernel
theorem dX8_line_71 : decode cX8_line 71 = .ok (.aload_n 0, 1) := by decide +kernel
theorem dX8_line_72 : decode cX8_line 72 = .ok (.getfield 7, 3) := by decide +kernel
theorem dX8_line_75 : decode cX8_line 75 = .ok (.iconst 1, 1) := by decide +kernel
theorem dX8_line_76 : decode cX8_line 76 = .ok (.isub, 1) := by decide +kernel
theorem dX8_line_77 : decode cX8_line 77 = .ok (.ireturn, 1) := by decide +kernel
theorem dX8_load_0 : decode cX8_load 0 = .ok (.iload_n 1, 1) := by decide +kernel
theorem dX8_load_1 : decode cX8_load 1 = .ok (.iconst 0, 1) := by decide +kernel
theorem dX8_load_2 : decode cX8_load 2 = .ok (.aload_n 0, 1) := by decide +kernel
theorem dX8_load_3 : decode cX8_load 3 = .ok (.getfield 7, 3) := by decide +kernel
theorem dX8_load_6 : decode cX8_load 6 = .ok (.iconst 1, 1) := by decide +kernel
theorem dX8_load_7 : decode cX8_load 7 = .ok (.isub, 1) := by decide +kernel
theorem dX8_load_8 : decode cX8_load 8 = .ok (.invokestatic 83, 3) := by decide +kernel
theorem dX8_load_11 : decode cX8_load 11 = .ok (.ifCond .eq 14, 3) := by decide +kernel
theorem dX8_load_14 : decode cX8_load 14 = .ok (.iload_n 2, 1) := by decide +kernel
theorem dX8_load_15 : decode cX8_load 15 = .ok (.iconst 0, 1) := by decide +kernel
theorem dX8_load_16 : decode cX8_load 16 = .ok (.sipush 1000, 3) := by decide +kernel
theorem dX8_load_19 : decode cX8_load 19 = .ok (.invokestatic 83, 3) := by decide +kernel
theorem dX8_load_22 : decode cX8_load 22 = .ok (.ifCond .ne 5, 3) := by decide +kernel
theorem dX8_load_25 : decode cX8_load 25 = .ok (.iconst 0, 1) := by decide +kernel
theorem dX8_load_26 : decode cX8_load 26 = .ok (.ireturn, 1) := by decide +kernel
theorem dX8_load_27 : decode cX8_load 27 = .ok (.aload_n 0, 1) := by decide +kernel
theorem dX8_load_28 : decode cX8_load 28 = .ok (.getfield 33, 3) := by decide +kernel
theorem dX8_load_31 : decode cX8_load 31 = .ok (.iload_n 1, 1) := by decide +kernel
theorem dX8_load_32 : decode cX8_load 32 = .ok (.iload_n 2, 1) := by decide +kernel
theorem dX8_load_33 : decode cX8_load 33 = .ok (.iastore, 1) := by decide +kernel
theorem dX8_load_34 : decode cX8_load 34 = .ok (.aload_n 0, 1) := by decide +kernel
theorem dX8_load_35 : decode cX8_load 35 = .ok (.iconst 0, 1) := by decide +kernel
theorem dX8_load_36 : decode cX8_load 36 = .ok (.putfield 91, 3) := by decide +kernel
theorem dX8_load_39 : decode cX8_load 39 = .ok (.iconst 1, 1) := by decide +kernel
theorem dX8_load_40 : decode cX8_load 40 = .ok (.ireturn, 1) := by decide +kernel
theorem dX8_corner_0 : decode cX8_corner 0 = .ok (.iload_n 1, 1) := by decide +kernel
theorem dX8_corner_1 : decode cX8_corner 1 = .ok (.iconst 0, 1) := by decide +kernel
theorem dX8_corner_2 : decode cX8_corner 2 = .ok (.bipush 7, 2) := by decide +kernel
theorem dX8_corner_4 : decode cX8_corner 4 = .ok (.invokestatic 83, 3) := by decide +kernel
theorem dX8_corner_7 : decode cX8_corner 7 = .ok (.ifCond .eq 37, 3) := by decide +kernel
theorem dX8_corner_10 : decode cX8_corner 10 = .ok (.iload_n 2, 1) := by decide +kernel
theorem dX8_corner_11 : decode cX8_corner 11 = .ok (.bipush 10, 2) := by decide +kernel
theorem dX8_corner_13 : decode cX8_corner 13 = .ok (.sipush 1000, 3) := by decide +kernel
theorem dX8_corner_16 : decode cX8_corner 16 = .ok (.invokestatic 83, 3) := by decide +kernel
theorem dX8_corner_19 : decode cX8_corner 19 = .ok (.ifCond .eq 25, 3) := by decide +kernel
theorem dX8_corner_22 : decode cX8_corner 22 = .ok (.iload_n 3, 1) := by decide +kernel
theorem dX8_corner_23 : decode cX8_corner 23 = .ok (.iconst 1, 1) := by decide +kernel
theorem dX8_corner_24 : decode cX8_corner 24 = .ok (.sipush 1000, 3) := by decide +kernel
theorem dX8_corner_27 : decode cX8_corner 27 = .ok (.invokestatic 83, 3) := by decide +kernel
theorem dX8_corner_30 : decode cX8_corner 30 = .ok (.ifCond .eq 14, 3) := by decide +kernel
theorem dX8_corner_33 : decode cX8_corner 33 = .ok (.aload_n 0, 1) := by decide +kernel
theorem dX8_corner_34 : decode cX8_corner 34 = .ok (.getfield 36, 3) := by decide +kernel
theorem dX8_corner_37 : decode cX8_corner 37 = .ok (.iload_n 1, 1) := by decide +kernel
theorem dX8_corner_38 : decode cX8_corner 38 = .ok (.iaload, 1) := by decide +kernel
theorem dX8_corner_39 : decode cX8_corner 39 = .ok (.bipush 8, 2) := by decide +kernel
theorem dX8_corner_41 : decode cX8_corner 41 = .ok (.if_icmp .ne 5, 3) := by decide +kernel
theorem dX8_corner_44 : decode cX8_corner 44 = .ok (.iconst (-1), 1) := by decide +kernel
theorem dX8_corner_45 : decode cX8_corner 45 = .ok (.ireturn, 1) := by decide +kernel
theorem dX8_corner_46 : decode cX8_corner 46 = .ok (.bipush 8, 2) := by decide +kernel
theorem dX8_corner_48 : decode cX8_corner 48 = .ok (.iload_n 1, 1) := by decide +kernel
theorem dX8_corner_49 : decode cX8_corner 49 = .ok (.imul, 1) := by decide +kernel
theorem dX8_corner_50 : decode cX8_corner 50 = .ok (.aload_n 0, 1) := by decide +kernel
theorem dX8_corner_51 : decode cX8_corner 51 = .ok (.getfield 36, 3) := by decide +kernel
theorem dX8_corner_54 : decode cX8_corner 54 = .ok (.iload_n 1, 1) := by decide +kernel
theorem dX8_corner_55 : decode cX8_corner 55 = .ok (.iaload, 1) := by decide +kernel
theorem dX8_corner_56 : decode cX8_corner 56 = .ok (.iadd, 1) := by decide +kernel
theorem dX8_corner_57 : decode cX8_corner 57 = .ok (.istore 4, 2) := by decide +kernel
theorem dX8_corner_59 : decode cX8_corner 59 = .ok (.aload_n 0, 1) := by decide +kernel
theorem dX8_corner_60 : decode cX8_corner 60 = .ok (.getfield 36, 3) := by decide +kernel
theorem dX8_corner_63 : decode cX8_corner 63 = .ok (.iload_n 1, 1) := by decide +kernel
theorem dX8_corner_64 : decode cX8_corner 64 = .ok (.iaload, 1) := by decide +kernel
theorem dX8_corner_65 : decode cX8_corner 65 = .ok (.ifCond .le 31, 3) := by decide +kernel
theorem dX8_corner_68 : decode cX8_corner 68 = .ok (.aload_n 0, 1) := by decide +kernel
theorem dX8_corner_69 : decode cX8_corner 69 = .ok (.getfield 39, 3) := by decide +kernel
theorem dX8_corner_72 : decode cX8_corner 72 = .ok (.iload 4, 2) := by decide +kernel
theorem dX8_corner_74 : decode cX8_corner 74 = .ok (.iconst 1, 1) := by decide +kernel
theorem dX8_corner_75 : decode cX8_corner 75 = .ok (.isub, 1) := by decide +kernel
theorem dX8_corner_76 : decode cX8_corner 76 = .ok (.iaload, 1) := by decide +kernel
theorem dX8_corner_77 : decode cX8_corner 77 = .ok (.iload_n 2, 1) := by decide +kernel
theorem dX8_corner_78 : decode cX8_corner 78 = .ok (.if_icmp .ge 16, 3) := by decide +kernel
theorem dX8_corner_81 : decode cX8_corner 81 = .ok (.aload_n 0, 1) := by decide +kernel
theorem dX8_corner_82 : decode cX8_corner 82 = .ok (.getfield 42, 3) := by decide +kernel
theorem dX8_corner_85 : decode cX8_corner 85 = .ok (.iload 4, 2) := by decide +kernel
theorem dX8_corner_87 : decode cX8_corner 87 = .ok (.iconst 1, 1) := by decide +kernel
theorem dX8_corner_88 : decode cX8_corner 88 = .ok (.isub, 1) := by decide +kernel
theorem dX8_corner_89 : decode cX8_corner 89 = .ok (.iaload, 1) := by decide +kernel
theorem dX8_corner_90 : decode cX8_corner 90 = .ok (.iload_n 3, 1) := by decide +kernel
theorem dX8_corner_91 : decode cX8_corner 91 = .ok (.if_icmp .gt 5, 3) := by decide +kernel
theorem dX8_corner_94 : decode cX8_corner 94 = .ok (.iconst (-1), 1) := by decide +kernel
theorem dX8_corner_95 : decode cX8_corner 95 = .ok (.ireturn, 1) := by decide +kernel
theorem dX8_corner_96 : decode cX8_corner 96 = .ok (.aload_n 0, 1) := by decide +kernel
theorem dX8_corner_97 : decode cX8_corner 97 = .ok (.getfield 39, 3) := by decide +kernel
theorem dX8_corner_100 : decode cX8_corner 100 = .ok (.iload 4, 2) := by decide +kernel
theorem dX8_corner_102 : decode cX8_corner 102 = .ok (.iload_n 2, 1) := by decide +kernel
theorem dX8_corner_103 : decode cX8_corner 103 = .ok (.iastore, 1) := by decide +kernel
theorem dX8_corner_104 : decode cX8_corner 104 = .ok (.aload_n 0, 1) := by decide +kernel
theorem dX8_corner_105 : decode cX8_corner 105 = .ok (.getfield 42, 3) := by decide +kernel
theorem dX8_corner_108 : decode cX8_corner 108 = .ok (.iload 4, 2) := by decide +kernel
theorem dX8_corner_110 : decode cX8_corner 110 = .ok (.iload_n 3, 1) := by decide +kernel
theorem dX8_corner_111 : decode cX8_corner 111 = .ok (.iastore, 1) := by decide +kernel
theorem dX8_corner_112 : decode cX8_corner 112 = .ok (.aload_n 0, 1) := by decide +kernel
theorem dX8_corner_113 : decode cX8_corner 113 = .ok (.getfield 36, 3) := by decide +kernel
theorem dX8_corner_116 : decode cX8_corner 116 = .ok (.iload_n 1, 1) := by decide +kernel
theorem dX8_corner_117 : decode cX8_corner 117 = .ok (.dup2, 1) := by decide +kernel
theorem dX8_corner_118 : decode cX8_corner 118 = .ok (.iaload, 1) := by decide +kernel
theorem dX8_corner_119 : decode cX8_corner 119 = .ok (.iconst 1, 1) := by decide +kernel
theorem dX8_corner_120 : decode cX8_corner 120 = .ok (.iadd, 1) := by decide +kernel
theorem dX8_corner_121 : decode cX8_corner 121 = .ok (.iastore, 1) := by decide +kernel
theorem dX8_corner_122 : decode cX8_corner 122 = .ok (.aload_n 0, 1) := by decide +kernel
theorem dX8_corner_123 : decode cX8_corner 123 = .ok (.iconst 0, 1) := by decide +kernel
theorem dX8_corner_124 : decode cX8_corner 124 = .ok (.putfield 91, 3) := by decide +kernel
theorem dX8_corner_127 : decode cX8_corner 127 = .ok (.aload_n 0, 1) := by decide +kernel
theorem dX8_corner_128 : decode cX8_corner 128 = .ok (.getfield 36, 3) := by decide +kernel
theorem dX8_corner_131 : decode cX8_corner 131 = .ok (.iload_n 1, 1) := by decide +kernel
theorem dX8_corner_132 : decode cX8_corner 132 = .ok (.iaload, 1) := by decide +kernel
theorem dX8_corner_133 : decode cX8_corner 133 = .ok (.ireturn, 1) := by decide +kernel
theorem dX8_breaker_0 : decode cX8_breaker 0 = .ok (.aload_n 0, 1) := by decide +kernel
theorem dX8_breaker_1 : decode cX8_breaker 1 = .ok (.iload_n 1, 1) := by decide +kernel
theorem dX8_breaker_2 : decode cX8_breaker 2 = .ok (.invokevirtual 87, 3) := by decide +kernel
theorem dX8_breaker_5 : decode cX8_breaker 5 = .ok (.ifCond .eq 35, 3) := by decide +kernel
theorem dX8_breaker_8 : decode cX8_breaker 8 = .ok (.iload_n 2, 1) := by decide +kernel
theorem dX8_breaker_9 : decode cX8_breaker 9 = .ok (.iconst 0, 1) := by decide +kernel
theorem dX8_breaker_10 : decode cX8_breaker 10 = .ok (.bipush 7, 2) := by decide +kernel
theorem dX8_breaker_12 : decode cX8_breaker 12 = .ok (.invokestatic 83, 3) := by decide +kernel
theorem dX8_breaker_15 : decode cX8_breaker 15 = .ok (.ifCond .eq 25, 3) := by decide +kernel
theorem dX8_breaker_18 : decode cX8_breaker 18 = .ok (.iload_n 3, 1) := by decide +kernel
theorem dX8_breaker_19 : decode cX8_breaker 19 = .ok (.iconst 1, 1) := by decide +kernel
theorem dX8_breaker_20 : decode cX8_breaker 20 = .ok (.bipush 40, 2) := by decide +kernel
theorem dX8_breaker_22 : decode cX8_breaker 22 = .ok (.invokestatic 83, 3) := by decide +kernel
theorem dX8_breaker_25 : decode cX8_breaker 25 = .ok (.ifCond .eq 15, 3) := by decide +kernel
theorem dX8_breaker_28 : decode cX8_breaker 28 = .ok (.iload 4, 2) := by decide +kernel
theorem dX8_breaker_30 : decode cX8_breaker 30 = .ok (.iconst 1, 1) := by decide +kernel
theorem dX8_breaker_31 : decode cX8_breaker 31 = .ok (.sipush 10000, 3) := by decide +kernel
theorem dX8_breaker_34 : decode cX8_breaker 34 = .ok (.invokestatic 83, 3) := by decide +kernel
theorem dX8_breaker_37 : decode cX8_breaker 37 = .ok (.ifCond .ne 5, 3) := by decide +kernel
theorem dX8_breaker_40 : decode cX8_breaker 40 = .ok (.iconst 0, 1) := by decide +kernel
theorem dX8_breaker_41 : decode cX8_breaker 41 = .ok (.ireturn, 1) := by decide +kernel
theorem dX8_breaker_42 : decode cX8_breaker 42 = .ok (.aload_n 0, 1) := by decide +kernel
theorem dX8_breaker_43 : decode cX8_breaker 43 = .ok (.getfield 45, 3) := by decide +kernel
theorem dX8_breaker_46 : decode cX8_breaker 46 = .ok (.iload_n 1, 1) := by decide +kernel
theorem dX8_breaker_47 : decode cX8_breaker 47 = .ok (.iconst 1, 1) := by decide +kernel
theorem dX8_breaker_48 : decode cX8_breaker 48 = .ok (.bastore, 1) := by decide +kernel
theorem dX8_breaker_49 : decode cX8_breaker 49 = .ok (.aload_n 0, 1) := by decide +kernel
theorem dX8_breaker_50 : decode cX8_breaker 50 = .ok (.getfield 49, 3) := by decide +kernel
theorem dX8_breaker_53 : decode cX8_breaker 53 = .ok (.iload_n 1, 1) := by decide +kernel
theorem dX8_breaker_54 : decode cX8_breaker 54 = .ok (.iload_n 2, 1) := by decide +kernel
theorem dX8_breaker_55 : decode cX8_breaker 55 = .ok (.iastore, 1) := by decide +kernel
theorem dX8_breaker_56 : decode cX8_breaker 56 = .ok (.aload_n 0, 1) := by decide +kernel
theorem dX8_breaker_57 : decode cX8_breaker 57 = .ok (.getfield 52, 3) := by decide +kernel
theorem dX8_breaker_60 : decode cX8_breaker 60 = .ok (.iload_n 1, 1) := by decide +kernel
theorem dX8_breaker_61 : decode cX8_breaker 61 = .ok (.iload_n 3, 1) := by decide +kernel
theorem dX8_breaker_62 : decode cX8_breaker 62 = .ok (.iastore, 1) := by decide +kernel
theorem dX8_breaker_63 : decode cX8_breaker 63 = .ok (.aload_n 0, 1) := by decide +kernel
theorem dX8_breaker_64 : decode cX8_breaker 64 = .ok (.getfield 55, 3) := by decide +kernel
theorem dX8_breaker_67 : decode cX8_breaker 67 = .ok (.iload_n 1, 1) := by decide +kernel
theorem dX8_breaker_68 : decode cX8_breaker 68 = .ok (.iload 4, 2) := by decide +kernel
theorem dX8_breaker_70 : decode cX8_breaker 70 = .ok (.iastore, 1) := by decide +kernel
theorem dX8_breaker_71 : decode cX8_breaker 71 = .ok (.aload_n 0, 1) := by decide +kernel
theorem dX8_breaker_72 : decode cX8_breaker 72 = .ok (.getfield 58, 3) := by decide +kernel
theorem dX8_breaker_75 : decode cX8_breaker 75 = .ok (.iload_n 1, 1) := by decide +kernel
theorem dX8_breaker_76 : decode cX8_breaker 76 = .ok (.iconst 0, 1) := by decide +kernel
theorem dX8_breaker_77 : decode cX8_breaker 77 = .ok (.bastore, 1) := by decide +kernel
theorem dX8_breaker_78 : decode cX8_breaker 78 = .ok (.aload_n 0, 1) := by decide +kernel
theorem dX8_breaker_79 : decode cX8_breaker 79 = .ok (.getfield 61, 3) := by decide +kernel
theorem dX8_breaker_82 : decode cX8_breaker 82 = .ok (.iload_n 1, 1) := by decide +kernel
theorem dX8_breaker_83 : decode cX8_breaker 83 = .ok (.iconst (-1), 1) := by decide +kernel
theorem dX8_breaker_84 : decode cX8_breaker 84 = .ok (.iastore, 1) := by decide +kernel
theorem dX8_breaker_85 : decode cX8_breaker 85 = .ok (.aload_n 0, 1) := by decide +kernel
theorem dX8_breaker_86 : decode cX8_breaker 86 = .ok (.iconst 0, 1) := by decide +kernel
theorem dX8_breaker_87 : decode cX8_breaker 87 = .ok (.putfield 91, 3) := by decide +kernel
theorem dX8_breaker_90 : decode cX8_breaker 90 = .ok (.iconst 1, 1) := by decide +kernel
theorem dX8_breaker_91 : decode cX8_breaker 91 = .ok (.ireturn, 1) := by decide +kernel
theorem dX8_remove_0 : decode cX8_remove 0 = .ok (.aload_n 0, 1) := by decide +kernel
theorem dX8_remove_1 : decode cX8_remove 1 = .ok (.iload_n 1, 1) := by decide +kernel
theorem dX8_remove_2 : decode cX8_remove 2 = .ok (.invokevirtual 95, 3) := by decide +kernel
theorem dX8_remove_5 : decode cX8_remove 5 = .ok (.ifCond .ne 5, 3) := by decide +kernel
theorem dX8_remove_8 : decode cX8_remove 8 = .ok (.iconst 0, 1) := by decide +kernel
theorem dX8_remove_9 : decode cX8_remove 9 = .ok (.ireturn, 1) := by decide +kernel
theorem dX8_remove_10 : decode cX8_remove 10 = .ok (.aload_n 0, 1) := by decide +kernel
theorem dX8_remove_11 : decode cX8_remove 11 = .ok (.getfield 45, 3) := by decide +kernel
theorem dX8_remove_14 : decode cX8_remove 14 = .ok (.iload_n 1, 1) := by decide +kernel
theorem dX8_remove_15 : decode cX8_remove 15 = .ok (.iconst 0, 1) := by decide +kernel
theorem dX8_remove_16 : decode cX8_remove 16 = .ok (.bastore, 1) := by decide +kernel
theorem dX8_remove_17 : decode cX8_remove 17 = .ok (.aload_n 0, 1) := by decide +kernel
theorem dX8_remove_18 : decode cX8_remove 18 = .ok (.getfield 61, 3) := by decide +kernel
theorem dX8_remove_21 : decode cX8_remove 21 = .ok (.iload_n 1, 1) := by decide +kernel
theorem dX8_remove_22 : decode cX8_remove 22 = .ok (.iconst (-1), 1) := by decide +kernel
theorem dX8_remove_23 : decode cX8_remove 23 = .ok (.iastore, 1) := by decide +kernel
theorem dX8_remove_24 : decode cX8_remove 24 = .ok (.aload_n 0, 1) := by decide +kernel
theorem dX8_remove_25 : decode cX8_remove 25 = .ok (.iconst 0, 1) := by decide +kernel
theorem dX8_remove_26 : decode cX8_remove 26 = .ok (.putfield 91, 3) := by decide +kernel
theorem dX8_remove_29 : decode cX8_remove 29 = .ok (.iconst 1, 1) := by decide +kernel
theorem dX8_remove_30 : decode cX8_remove 30 = .ok (.ireturn, 1) := by decide +kernel
theorem dX8_dial_0 : decode cX8_dial 0 = .ok (.aload_n 0, 1) := by decide +kernel
theorem dX8_dial_1 : decode cX8_dial 1 = .ok (.iload_n 1, 1) := by decide +kernel
theorem dX8_dial_2 : decode cX8_dial 2 = .ok (.invokevirtual 95, 3) := by decide +kernel
theorem dX8_dial_5 : decode cX8_dial 5 = .ok (.ifCond .eq 13, 3) := by decide +kernel
theorem dX8_dial_8 : decode cX8_dial 8 = .ok (.iload_n 2, 1) := by decide +kernel
theorem dX8_dial_9 : decode cX8_dial 9 = .ok (.iconst 1, 1) := by decide +kernel
theorem dX8_dial_10 : decode cX8_dial 10 = .ok (.bipush 40, 2) := by decide +kernel
theorem dX8_dial_12 : decode cX8_dial 12 = .ok (.invokestatic 83, 3) := by decide +kernel
theorem dX8_dial_15 : decode cX8_dial 15 = .ok (.ifCond .ne 5, 3) := by decide +kernel
theorem dX8_dial_18 : decode cX8_dial 18 = .ok (.iconst 0, 1) := by decide +kernel
theorem dX8_dial_19 : decode cX8_dial 19 = .ok (.ireturn, 1) := by decide +kernel
theorem dX8_dial_20 : decode cX8_dial 20 = .ok (.aload_n 0, 1) := by decide +kernel
theorem dX8_dial_21 : decode cX8_dial 21 = .ok (.getfield 52, 3) := by decide +kernel
theorem dX8_dial_24 : decode cX8_dial 24 = .ok (.iload_n 1, 1) := by decide +kernel
theorem dX8_dial_25 : decode cX8_dial 25 = .ok (.iload_n 2, 1) := by decide +kernel
theorem dX8_dial_26 : decode cX8_dial 26 = .ok (.iastore, 1) := by decide +kernel
theorem dX8_dial_27 : decode cX8_dial 27 = .ok (.aload_n 0, 1) := by decide +kernel
theorem dX8_dial_28 : decode cX8_dial 28 = .ok (.iconst 0, 1) := by decide +kernel
theorem dX8_dial_29 : decode cX8_dial 29 = .ok (.putfield 91, 3) := by decide +kernel
theorem dX8_dial_32 : decode cX8_dial 32 = .ok (.iconst 1, 1) := by decide +kernel
theorem dX8_dial_33 : decode cX8_dial 33 = .ok (.ireturn, 1) := by decide +kernel
theorem dX8_fails_0 : decode cX8_fails 0 = .ok (.aload_n 0, 1) := by decide +kernel
theorem dX8_fails_1 : decode cX8_fails 1 = .ok (.iload_n 1, 1) := by decide +kernel
theorem dX8_fails_2 : decode cX8_fails 2 = .ok (.invokevirtual 95, 3) := by decide +kernel
theorem dX8_fails_5 : decode cX8_fails 5 = .ok (.ifCond .ne 5, 3) := by decide +kernel
theorem dX8_fails_8 : decode cX8_fails 8 = .ok (.iconst 0, 1) := by decide +kernel
theorem dX8_fails_9 : decode cX8_fails 9 = .ok (.ireturn, 1) := by decide +kernel
theorem dX8_fails_10 : decode cX8_fails 10 = .ok (.aload_n 0, 1) := by decide +kernel
theorem dX8_fails_11 : decode cX8_fails 11 = .ok (.getfield 58, 3) := by decide +kernel
theorem dX8_fails_14 : decode cX8_fails 14 = .ok (.iload_n 1, 1) := by decide +kernel
theorem dX8_fails_15 : decode cX8_fails 15 = .ok (.iload_n 2, 1) := by decide +kernel
theorem dX8_fails_16 : decode cX8_fails 16 = .ok (.bastore, 1) := by decide +kernel
theorem dX8_fails_17 : decode cX8_fails 17 = .ok (.aload_n 0, 1) := by decide +kernel
theorem dX8_fails_18 : decode cX8_fails 18 = .ok (.iconst 0, 1) := by decide +kernel
theorem dX8_fails_19 : decode cX8_fails 19 = .ok (.putfield 91, 3) := by decide +kernel
theorem dX8_fails_22 : decode cX8_fails 22 = .ok (.iconst 1, 1) := by decide +kernel
theorem dX8_fails_23 : decode cX8_fails 23 = .ok (.ireturn, 1) := by decide +kernel
theorem dX8_told_0 : decode cX8_told 0 = .ok (.iload_n 1, 1) := by decide +kernel
theorem dX8_told_1 : decode cX8_told 1 = .ok (.iconst 1, 1) := by decide +kernel
theorem dX8_told_2 : decode cX8_told 2 = .ok (.sipush 10000, 3) := by decide +kernel
theorem dX8_told_5 : decode cX8_told 5 = .ok (.invokestatic 83, 3) := by decide +kernel
theorem dX8_told_8 : decode cX8_told 8 = .ok (.ifCond .eq 24, 3) := by decide +kernel
theorem dX8_told_11 : decode cX8_told 11 = .ok (.iload_n 2, 1) := by decide +kernel
theorem dX8_told_12 : decode cX8_told 12 = .ok (.iconst 1, 1) := by decide +kernel
theorem dX8_told_13 : decode cX8_told 13 = .ok (.ldc 22, 2) := by decide +kernel
theorem dX8_told_15 : decode cX8_told 15 = .ok (.invokestatic 83, 3) := by decide +kernel
theorem dX8_told_18 : decode cX8_told 18 = .ok (.ifCond .eq 14, 3) := by decide +kernel
theorem dX8_told_21 : decode cX8_told 21 = .ok (.iload_n 3, 1) := by decide +kernel
theorem dX8_told_22 : decode cX8_told 22 = .ok (.iconst 0, 1) := by decide +kernel
theorem dX8_told_23 : decode cX8_told 23 = .ok (.sipush 1000, 3) := by decide +kernel
theorem dX8_told_26 : decode cX8_told 26 = .ok (.invokestatic 83, 3) := by decide +kernel
theorem dX8_told_29 : decode cX8_told 29 = .ok (.ifCond .ne 5, 3) := by decide +kernel
theorem dX8_told_32 : decode cX8_told 32 = .ok (.iconst 0, 1) := by decide +kernel
theorem dX8_told_33 : decode cX8_told 33 = .ok (.ireturn, 1) := by decide +kernel
theorem dX8_told_34 : decode cX8_told 34 = .ok (.aload_n 0, 1) := by decide +kernel
theorem dX8_told_35 : decode cX8_told 35 = .ok (.iload_n 1, 1) := by decide +kernel
theorem dX8_told_36 : decode cX8_told 36 = .ok (.putfield 19, 3) := by decide +kernel
theorem dX8_told_39 : decode cX8_told 39 = .ok (.aload_n 0, 1) := by decide +kernel
theorem dX8_told_40 : decode cX8_told 40 = .ok (.iload_n 2, 1) := by decide +kernel
theorem dX8_told_41 : decode cX8_told 41 = .ok (.putfield 23, 3) := by decide +kernel
theorem dX8_told_44 : decode cX8_told 44 = .ok (.aload_n 0, 1) := by decide +kernel
theorem dX8_told_45 : decode cX8_told 45 = .ok (.iload_n 3, 1) := by decide +kernel
theorem dX8_told_46 : decode cX8_told 46 = .ok (.putfield 98, 3) := by decide +kernel
theorem dX8_told_49 : decode cX8_told 49 = .ok (.aload_n 0, 1) := by decide +kernel
theorem dX8_told_50 : decode cX8_told 50 = .ok (.iconst 0, 1) := by decide +kernel
theorem dX8_told_51 : decode cX8_told 51 = .ok (.putfield 91, 3) := by decide +kernel
theorem dX8_told_54 : decode cX8_told 54 = .ok (.iconst 1, 1) := by decide +kernel
theorem dX8_told_55 : decode cX8_told 55 = .ok (.ireturn, 1) := by decide +kernel
theorem dX8_isOnWay_0 : decode cX8_isOnWay 0 = .ok (.iload_n 2, 1) := by decide +kernel
theorem dX8_isOnWay_1 : decode cX8_isOnWay 1 = .ok (.istore_n 3, 1) := by decide +kernel
theorem dX8_isOnWay_2 : decode cX8_isOnWay 2 = .ok (.iload_n 3, 1) := by decide +kernel
theorem dX8_isOnWay_3 : decode cX8_isOnWay 3 = .ok (.ifCond .le 18, 3) := by decide +kernel
theorem dX8_isOnWay_6 : decode cX8_isOnWay 6 = .ok (.iload_n 3, 1) := by decide +kernel
theorem dX8_isOnWay_7 : decode cX8_isOnWay 7 = .ok (.iload_n 1, 1) := by decide +kernel
theorem dX8_isOnWay_8 : decode cX8_isOnWay 8 = .ok (.if_icmp .eq 13, 3) := by decide +kernel
theorem dX8_isOnWay_11 : decode cX8_isOnWay 11 = .ok (.aload_n 0, 1) := by decide +kernel
theorem dX8_isOnWay_12 : decode cX8_isOnWay 12 = .ok (.getfield 26, 3) := by decide +kernel
theorem dX8_isOnWay_15 : decode cX8_isOnWay 15 = .ok (.iload_n 3, 1) := by decide +kernel
theorem dX8_isOnWay_16 : decode cX8_isOnWay 16 = .ok (.iaload, 1) := by decide +kernel
theorem dX8_isOnWay_17 : decode cX8_isOnWay 17 = .ok (.istore_n 3, 1) := by decide +kernel
theorem dX8_isOnWay_18 : decode cX8_isOnWay 18 = .ok (.goto (-16), 3) := by decide +kernel
theorem dX8_isOnWay_21 : decode cX8_isOnWay 21 = .ok (.iload_n 3, 1) := by decide +kernel
theorem dX8_isOnWay_22 : decode cX8_isOnWay 22 = .ok (.iload_n 1, 1) := by decide +kernel
theorem dX8_isOnWay_23 : decode cX8_isOnWay 23 = .ok (.if_icmp .ne 7, 3) := by decide +kernel
theorem dX8_isOnWay_26 : decode cX8_isOnWay 26 = .ok (.iconst 1, 1) := by decide +kernel
theorem dX8_isOnWay_27 : decode cX8_isOnWay 27 = .ok (.goto 4, 3) := by decide +kernel
theorem dX8_isOnWay_30 : decode cX8_isOnWay 30 = .ok (.iconst 0, 1) := by decide +kernel
theorem dX8_isOnWay_31 : decode cX8_isOnWay 31 = .ok (.ireturn, 1) := by decide +kernel
theorem dX8_sum_0 : decode cX8_sum 0 = .ok (.aload_n 0, 1) := by decide +kernel
theorem dX8_sum_1 : decode cX8_sum 1 = .ok (.getfield 16, 3) := by decide +kernel
theorem dX8_sum_4 : decode cX8_sum 4 = .ok (.iload_n 3, 1) := by decide +kernel
theorem dX8_sum_5 : decode cX8_sum 5 = .ok (.iadd, 1) := by decide +kernel
theorem dX8_sum_6 : decode cX8_sum 6 = .ok (.i2l, 1) := by decide +kernel
theorem dX8_sum_7 : decode cX8_sum 7 = .ok (.lstore 4, 2) := by decide +kernel
theorem dX8_sum_9 : decode cX8_sum 9 = .ok (.aload_n 0, 1) := by decide +kernel
theorem dX8_sum_10 : decode cX8_sum 10 = .ok (.getfield 26, 3) := by decide +kernel
theorem dX8_sum_13 : decode cX8_sum 13 = .ok (.iload_n 1, 1) := by decide +kernel
theorem dX8_sum_14 : decode cX8_sum 14 = .ok (.iaload, 1) := by decide +kernel
theorem dX8_sum_15 : decode cX8_sum 15 = .ok (.istore 6, 2) := by decide +kernel
theorem dX8_sum_17 : decode cX8_sum 17 = .ok (.iload 6, 2) := by decide +kernel
theorem dX8_sum_19 : decode cX8_sum 19 = .ok (.ifCond .le 28, 3) := by decide +kernel
theorem dX8_sum_22 : decode cX8_sum 22 = .ok (.lload 4, 2) := by decide +kernel
theorem dX8_sum_24 : decode cX8_sum 24 = .ok (.aload_n 0, 1) := by decide +kernel
theorem dX8_sum_25 : decode cX8_sum 25 = .ok (.getfield 30, 3) := by decide +kernel
theorem dX8_sum_28 : decode cX8_sum 28 = .ok (.iload 6, 2) := by decide +kernel
theorem dX8_sum_30 : decode cX8_sum 30 = .ok (.iaload, 1) := by decide +kernel
theorem dX8_sum_31 : decode cX8_sum 31 = .ok (.i2l, 1) := by decide +kernel
theorem dX8_sum_32 : decode cX8_sum 32 = .ok (.ladd, 1) := by decide +kernel
theorem dX8_sum_33 : decode cX8_sum 33 = .ok (.lstore 4, 2) := by decide +kernel
theorem dX8_sum_35 : decode cX8_sum 35 = .ok (.aload_n 0, 1) := by decide +kernel
theorem dX8_sum_36 : decode cX8_sum 36 = .ok (.getfield 26, 3) := by decide +kernel
theorem dX8_sum_39 : decode cX8_sum 39 = .ok (.iload 6, 2) := by decide +kernel
theorem dX8_sum_41 : decode cX8_sum 41 = .ok (.iaload, 1) := by decide +kernel
theorem dX8_sum_42 : decode cX8_sum 42 = .ok (.istore 6, 2) := by decide +kernel
theorem dX8_sum_44 : decode cX8_sum 44 = .ok (.goto (-27), 3) := by decide +kernel
theorem dX8_sum_47 : decode cX8_sum 47 = .ok (.ldc2_w 101, 3) := by decide +kernel
theorem dX8_sum_50 : decode cX8_sum 50 = .ok (.lload 4, 2) := by decide +kernel
theorem dX8_sum_52 : decode cX8_sum 52 = .ok (.lmul, 1) := by decide +kernel
theorem dX8_sum_53 : decode cX8_sum 53 = .ok (.iload_n 2, 1) := by decide +kernel
theorem dX8_sum_54 : decode cX8_sum 54 = .ok (.i2l, 1) := by decide +kernel
theorem dX8_sum_55 : decode cX8_sum 55 = .ok (.aload_n 0, 1) := by decide +kernel
theorem dX8_sum_56 : decode cX8_sum 56 = .ok (.getfield 30, 3) := by decide +kernel
theorem dX8_sum_59 : decode cX8_sum 59 = .ok (.iload_n 1, 1) := by decide +kernel
theorem dX8_sum_60 : decode cX8_sum 60 = .ok (.iaload, 1) := by decide +kernel
theorem dX8_sum_61 : decode cX8_sum 61 = .ok (.i2l, 1) := by decide +kernel
theorem dX8_sum_62 : decode cX8_sum 62 = .ok (.lmul, 1) := by decide +kernel
theorem dX8_sum_63 : decode cX8_sum 63 = .ok (.ladd, 1) := by decide +kernel
theorem dX8_sum_64 : decode cX8_sum 64 = .ok (.lreturn, 1) := by decide +kernel
theorem dX8_waitBy_0 : decode cX8_waitBy 0 = .ok (.aload_n 0, 1) := by decide +kernel
theorem dX8_waitBy_1 : decode cX8_waitBy 1 = .ok (.getfield 49, 3) := by decide +kernel
theorem dX8_waitBy_4 : decode cX8_waitBy 4 = .ok (.iload_n 1, 1) := by decide +kernel
theorem dX8_waitBy_5 : decode cX8_waitBy 5 = .ok (.iaload, 1) := by decide +kernel
theorem dX8_waitBy_6 : decode cX8_waitBy 6 = .ok (.istore 6, 2) := by decide +kernel
theorem dX8_waitBy_8 : decode cX8_waitBy 8 = .ok (.iconst (-1), 1) := by decide +kernel
theorem dX8_waitBy_9 : decode cX8_waitBy 9 = .ok (.istore 7, 2) := by decide +kernel
theorem dX8_waitBy_11 : decode cX8_waitBy 11 = .ok (.iconst 0, 1) := by decide +kernel
theorem dX8_waitBy_12 : decode cX8_waitBy 12 = .ok (.istore 8, 2) := by decide +kernel
theorem dX8_waitBy_14 : decode cX8_waitBy 14 = .ok (.iload 8, 2) := by decide +kernel
theorem dX8_waitBy_16 : decode cX8_waitBy 16 = .ok (.aload_n 0, 1) := by decide +kernel
theorem dX8_waitBy_17 : decode cX8_waitBy 17 = .ok (.getfield 36, 3) := by decide +kernel
theorem dX8_waitBy_20 : decode cX8_waitBy 20 = .ok (.iload 6, 2) := by decide +kernel
theorem dX8_waitBy_22 : decode cX8_waitBy 22 = .ok (.iaload, 1) := by decide +kernel
theorem dX8_waitBy_23 : decode cX8_waitBy 23 = .ok (.if_icmp .ge 65, 3) := by decide +kernel
theorem dX8_waitBy_26 : decode cX8_waitBy 26 = .ok (.ldc2_w 103, 3) := by decide +kernel
theorem dX8_waitBy_29 : decode cX8_waitBy 29 = .ok (.lload_n 2, 1) := by decide +kernel
theorem dX8_waitBy_30 : decode cX8_waitBy 30 = .ok (.lmul, 1) := by decide +kernel
theorem dX8_waitBy_31 : decode cX8_waitBy 31 = .ok (.aload_n 0, 1) := by decide +kernel
theorem dX8_waitBy_32 : decode cX8_waitBy 32 = .ok (.getfield 55, 3) := by decide +kernel
theorem dX8_waitBy_35 : decode cX8_waitBy 35 = .ok (.iload_n 1, 1) := by decide +kernel
theorem dX8_waitBy_36 : decode cX8_waitBy 36 = .ok (.iaload, 1) := by decide +kernel
theorem dX8_waitBy_37 : decode cX8_waitBy 37 = .ok (.i2l, 1) := by decide +kernel
theorem dX8_waitBy_38 : decode cX8_waitBy 38 = .ok (.aload_n 0, 1) := by decide +kernel
theorem dX8_waitBy_39 : decode cX8_waitBy 39 = .ok (.getfield 39, 3) := by decide +kernel
theorem dX8_waitBy_42 : decode cX8_waitBy 42 = .ok (.bipush 8, 2) := by decide +kernel
theorem dX8_waitBy_44 : decode cX8_waitBy 44 = .ok (.iload 6, 2) := by decide +kernel
theorem dX8_waitBy_46 : decode cX8_waitBy 46 = .ok (.imul, 1) := by decide +kernel
theorem dX8_waitBy_47 : decode cX8_waitBy 47 = .ok (.iload 8, 2) := by decide +kernel
theorem dX8_waitBy_49 : decode cX8_waitBy 49 = .ok (.iadd, 1) := by decide +kernel
theorem dX8_waitBy_50 : decode cX8_waitBy 50 = .ok (.iaload, 1) := by decide +kernel
theorem dX8_waitBy_51 : decode cX8_waitBy 51 = .ok (.i2l, 1) := by decide +kernel
theorem dX8_waitBy_52 : decode cX8_waitBy 52 = .ok (.lmul, 1) := by decide +kernel
theorem dX8_waitBy_53 : decode cX8_waitBy 53 = .ok (.lload 4, 2) := by decide +kernel
theorem dX8_waitBy_55 : decode cX8_waitBy 55 = .ok (.lmul, 1) := by decide +kernel
theorem dX8_waitBy_56 : decode cX8_waitBy 56 = .ok (.lcmp, 1) := by decide +kernel
theorem dX8_waitBy_57 : decode cX8_waitBy 57 = .ok (.ifCond .lt 25, 3) := by decide +kernel
theorem dX8_waitBy_60 : decode cX8_waitBy 60 = .ok (.aload_n 0, 1) := by decide +kernel
theorem dX8_waitBy_61 : decode cX8_waitBy 61 = .ok (.getfield 52, 3) := by decide +kernel
theorem dX8_waitBy_64 : decode cX8_waitBy 64 = .ok (.iload_n 1, 1) := by decide +kernel
theorem dX8_waitBy_65 : decode cX8_waitBy 65 = .ok (.iaload, 1) := by decide +kernel
theorem dX8_waitBy_66 : decode cX8_waitBy 66 = .ok (.aload_n 0, 1) := by decide +kernel
theorem dX8_waitBy_67 : decode cX8_waitBy 67 = .ok (.getfield 42, 3) := by decide +kernel
theorem dX8_waitBy_70 : decode cX8_waitBy 70 = .ok (.bipush 8, 2) := by decide +kernel
theorem dX8_waitBy_72 : decode cX8_waitBy 72 = .ok (.iload 6, 2) := by decide +kernel
theorem dX8_waitBy_74 : decode cX8_waitBy 74 = .ok (.imul, 1) := by decide +kernel
theorem dX8_waitBy_75 : decode cX8_waitBy 75 = .ok (.iload 8, 2) := by decide +kernel
theorem dX8_waitBy_77 : decode cX8_waitBy 77 = .ok (.iadd, 1) := by decide +kernel
theorem dX8_waitBy_78 : decode cX8_waitBy 78 = .ok (.iaload, 1) := by decide +kernel
theorem dX8_waitBy_79 : decode cX8_waitBy 79 = .ok (.imul, 1) := by decide +kernel
theorem dX8_waitBy_80 : decode cX8_waitBy 80 = .ok (.istore 7, 2) := by decide +kernel
theorem dX8_waitBy_82 : decode cX8_waitBy 82 = .ok (.iinc 8 1, 3) := by decide +kernel
theorem dX8_waitBy_85 : decode cX8_waitBy 85 = .ok (.goto (-71), 3) := by decide +kernel
theorem dX8_waitBy_88 : decode cX8_waitBy 88 = .ok (.iload 7, 2) := by decide +kernel
theorem dX8_waitBy_90 : decode cX8_waitBy 90 = .ok (.ireturn, 1) := by decide +kernel
theorem dX8_waitAt_0 : decode cX8_waitAt 0 = .ok (.aload_n 0, 1) := by decide +kernel
theorem dX8_waitAt_1 : decode cX8_waitAt 1 = .ok (.getfield 45, 3) := by decide +kernel
theorem dX8_waitAt_4 : decode cX8_waitAt 4 = .ok (.iload_n 1, 1) := by decide +kernel
theorem dX8_waitAt_5 : decode cX8_waitAt 5 = .ok (.baload, 1) := by decide +kernel
theorem dX8_waitAt_6 : decode cX8_waitAt 6 = .ok (.ifCond .eq 37, 3) := by decide +kernel
theorem dX8_waitAt_9 : decode cX8_waitAt 9 = .ok (.aload_n 0, 1) := by decide +kernel
theorem dX8_waitAt_10 : decode cX8_waitAt 10 = .ok (.iload_n 1, 1) := by decide +kernel
theorem dX8_waitAt_11 : decode cX8_waitAt 11 = .ok (.iload_n 2, 1) := by decide +kernel
theorem dX8_waitAt_12 : decode cX8_waitAt 12 = .ok (.invokevirtual 105, 3) := by decide +kernel
theorem dX8_waitAt_15 : decode cX8_waitAt 15 = .ok (.ifCond .eq 28, 3) := by decide +kernel
theorem dX8_waitAt_18 : decode cX8_waitAt 18 = .ok (.aload_n 0, 1) := by decide +kernel
theorem dX8_waitAt_19 : decode cX8_waitAt 19 = .ok (.iload_n 1, 1) := by decide +kernel
theorem dX8_waitAt_20 : decode cX8_waitAt 20 = .ok (.ldc2_w 101, 3) := by decide +kernel
theorem dX8_waitAt_23 : decode cX8_waitAt 23 = .ok (.aload_n 0, 1) := by decide +kernel
theorem dX8_waitAt_24 : decode cX8_waitAt 24 = .ok (.getfield 13, 3) := by decide +kernel
theorem dX8_waitAt_27 : decode cX8_waitAt 27 = .ok (.i2l, 1) := by decide +kernel
theorem dX8_waitAt_28 : decode cX8_waitAt 28 = .ok (.lmul, 1) := by decide +kernel
theorem dX8_waitAt_29 : decode cX8_waitAt 29 = .ok (.aload_n 0, 1) := by decide +kernel
theorem dX8_waitAt_30 : decode cX8_waitAt 30 = .ok (.iload_n 2, 1) := by decide +kernel
theorem dX8_waitAt_31 : decode cX8_waitAt 31 = .ok (.iload_n 3, 1) := by decide +kernel
theorem dX8_waitAt_32 : decode cX8_waitAt 32 = .ok (.iload 4, 2) := by decide +kernel
theorem dX8_waitAt_34 : decode cX8_waitAt 34 = .ok (.invokevirtual 109, 3) := by decide +kernel
theorem dX8_waitAt_37 : decode cX8_waitAt 37 = .ok (.invokevirtual 113, 3) := by decide +kernel
theorem dX8_waitAt_40 : decode cX8_waitAt 40 = .ok (.goto 4, 3) := by decide +kernel
theorem dX8_waitAt_43 : decode cX8_waitAt 43 = .ok (.iconst (-1), 1) := by decide +kernel
theorem dX8_waitAt_44 : decode cX8_waitAt 44 = .ok (.ireturn, 1) := by decide +kernel
theorem dX8_fault_0 : decode cX8_fault 0 = .ok (.aload_n 0, 1) := by decide +kernel
theorem dX8_fault_1 : decode cX8_fault 1 = .ok (.iload_n 1, 1) := by decide +kernel
theorem dX8_fault_2 : decode cX8_fault 2 = .ok (.iload_n 2, 1) := by decide +kernel
theorem dX8_fault_3 : decode cX8_fault 3 = .ok (.iload_n 3, 1) := by decide +kernel
theorem dX8_fault_4 : decode cX8_fault 4 = .ok (.invokevirtual 117, 3) := by decide +kernel
theorem dX8_fault_7 : decode cX8_fault 7 = .ok (.ifCond .ne 7, 3) := by decide +kernel
theorem dX8_fault_10 : decode cX8_fault 10 = .ok (.ldc2_w 120, 3) := by decide +kernel
theorem dX8_fault_13 : decode cX8_fault 13 = .ok (.lreturn, 1) := by decide +kernel
theorem dX8_fault_14 : decode cX8_fault 14 = .ok (.iload 4, 2) := by decide +kernel
theorem dX8_fault_16 : decode cX8_fault 16 = .ok (.ifCond .ne 13, 3) := by decide +kernel
theorem dX8_fault_19 : decode cX8_fault 19 = .ok (.aload_n 0, 1) := by decide +kernel
theorem dX8_fault_20 : decode cX8_fault 20 = .ok (.iload_n 1, 1) := by decide +kernel
theorem dX8_fault_21 : decode cX8_fault 21 = .ok (.iload_n 2, 1) := by decide +kernel
theorem dX8_fault_22 : decode cX8_fault 22 = .ok (.iload_n 3, 1) := by decide +kernel
theorem dX8_fault_23 : decode cX8_fault 23 = .ok (.invokevirtual 109, 3) := by decide +kernel
theorem dX8_fault_26 : decode cX8_fault 26 = .ok (.goto 32, 3) := by decide +kernel
theorem dX8_fault_29 : decode cX8_fault 29 = .ok (.iload 4, 2) := by decide +kernel
theorem dX8_fault_31 : decode cX8_fault 31 = .ok (.iconst 1, 1) := by decide +kernel
theorem dX8_fault_32 : decode cX8_fault 32 = .ok (.if_icmp .ne 23, 3) := by decide +kernel
theorem dX8_fault_35 : decode cX8_fault 35 = .ok (.ldc2_w 122, 3) := by decide +kernel
theorem dX8_fault_38 : decode cX8_fault 38 = .ok (.aload_n 0, 1) := by decide +kernel
theorem dX8_fault_39 : decode cX8_fault 39 = .ok (.getfield 13, 3) := by decide +kernel
theorem dX8_fault_42 : decode cX8_fault 42 = .ok (.i2l, 1) := by decide +kernel
theorem dX8_fault_43 : decode cX8_fault 43 = .ok (.lmul, 1) := by decide +kernel
theorem dX8_fault_44 : decode cX8_fault 44 = .ok (.aload_n 0, 1) := by decide +kernel
theorem dX8_fault_45 : decode cX8_fault 45 = .ok (.iload_n 1, 1) := by decide +kernel
theorem dX8_fault_46 : decode cX8_fault 46 = .ok (.iload_n 2, 1) := by decide +kernel
theorem dX8_fault_47 : decode cX8_fault 47 = .ok (.iload_n 3, 1) := by decide +kernel
theorem dX8_fault_48 : decode cX8_fault 48 = .ok (.invokevirtual 109, 3) := by decide +kernel
theorem dX8_fault_51 : decode cX8_fault 51 = .ok (.ldiv, 1) := by decide +kernel
theorem dX8_fault_52 : decode cX8_fault 52 = .ok (.goto 6, 3) := by decide +kernel
theorem dX8_fault_55 : decode cX8_fault 55 = .ok (.ldc2_w 120, 3) := by decide +kernel
theorem dX8_fault_58 : decode cX8_fault 58 = .ok (.lreturn, 1) := by decide +kernel
theorem dX8_waits_0 : decode cX8_waits 0 = .ok (.aload_n 0, 1) := by decide +kernel
theorem dX8_waits_1 : decode cX8_waits 1 = .ok (.iload_n 2, 1) := by decide +kernel
theorem dX8_waits_2 : decode cX8_waits 2 = .ok (.iload_n 3, 1) := by decide +kernel
theorem dX8_waits_3 : decode cX8_waits 3 = .ok (.iload 4, 2) := by decide +kernel
theorem dX8_waits_5 : decode cX8_waits 5 = .ok (.invokevirtual 117, 3) := by decide +kernel
theorem dX8_waits_8 : decode cX8_waits 8 = .ok (.ifCond .eq 23, 3) := by decide +kernel
theorem dX8_waits_11 : decode cX8_waits 11 = .ok (.aload_n 0, 1) := by decide +kernel
theorem dX8_waits_12 : decode cX8_waits 12 = .ok (.iload_n 1, 1) := by decide +kernel
theorem dX8_waits_13 : decode cX8_waits 13 = .ok (.invokevirtual 87, 3) := by decide +kernel
theorem dX8_waits_16 : decode cX8_waits 16 = .ok (.ifCond .eq 15, 3) := by decide +kernel
theorem dX8_waits_19 : decode cX8_waits 19 = .ok (.aload_n 0, 1) := by decide +kernel
theorem dX8_waits_20 : decode cX8_waits 20 = .ok (.iload_n 1, 1) := by decide +kernel
theorem dX8_waits_21 : decode cX8_waits 21 = .ok (.iload_n 2, 1) := by decide +kernel
theorem dX8_waits_22 : decode cX8_waits 22 = .ok (.iload_n 3, 1) := by decide +kernel
theorem dX8_waits_23 : decode cX8_waits 23 = .ok (.iload 4, 2) := by decide +kernel
theorem dX8_waits_25 : decode cX8_waits 25 = .ok (.invokevirtual 124, 3) := by decide +kernel
theorem dX8_waits_28 : decode cX8_waits 28 = .ok (.goto 4, 3) := by decide +kernel
theorem dX8_waits_31 : decode cX8_waits 31 = .ok (.iconst (-1), 1) := by decide +kernel
theorem dX8_waits_32 : decode cX8_waits 32 = .ok (.ireturn, 1) := by decide +kernel
theorem dX8_cleared_0 : decode cX8_cleared 0 = .ok (.iconst (-1), 1) := by decide +kernel
theorem dX8_cleared_1 : decode cX8_cleared 1 = .ok (.istore 4, 2) := by decide +kernel
theorem dX8_cleared_3 : decode cX8_cleared 3 = .ok (.iconst 1, 1) := by decide +kernel
theorem dX8_cleared_4 : decode cX8_cleared 4 = .ok (.istore 5, 2) := by decide +kernel
theorem dX8_cleared_6 : decode cX8_cleared 6 = .ok (.iload 5, 2) := by decide +kernel
theorem dX8_cleared_8 : decode cX8_cleared 8 = .ok (.aload_n 0, 1) := by decide +kernel
theorem dX8_cleared_9 : decode cX8_cleared 9 = .ok (.getfield 7, 3) := by decide +kernel
theorem dX8_cleared_12 : decode cX8_cleared 12 = .ok (.if_icmp .ge 55, 3) := by decide +kernel
theorem dX8_cleared_15 : decode cX8_cleared 15 = .ok (.aload_n 0, 1) := by decide +kernel
theorem dX8_cleared_16 : decode cX8_cleared 16 = .ok (.getfield 58, 3) := by decide +kernel
theorem dX8_cleared_19 : decode cX8_cleared 19 = .ok (.iload 5, 2) := by decide +kernel
theorem dX8_cleared_21 : decode cX8_cleared 21 = .ok (.baload, 1) := by decide +kernel
theorem dX8_cleared_22 : decode cX8_cleared 22 = .ok (.ifCond .eq 7, 3) := by decide +kernel
theorem dX8_cleared_25 : decode cX8_cleared 25 = .ok (.iconst (-1), 1) := by decide +kernel
theorem dX8_cleared_26 : decode cX8_cleared 26 = .ok (.goto 12, 3) := by decide +kernel
theorem dX8_cleared_29 : decode cX8_cleared 29 = .ok (.aload_n 0, 1) := by decide +kernel
theorem dX8_cleared_30 : decode cX8_cleared 30 = .ok (.iload 5, 2) := by decide +kernel
theorem dX8_cleared_32 : decode cX8_cleared 32 = .ok (.iload_n 1, 1) := by decide +kernel
theorem dX8_cleared_33 : decode cX8_cleared 33 = .ok (.iload_n 2, 1) := by decide +kernel
theorem dX8_cleared_34 : decode cX8_cleared 34 = .ok (.iload_n 3, 1) := by decide +kernel
theorem dX8_cleared_35 : decode cX8_cleared 35 = .ok (.invokevirtual 124, 3) := by decide +kernel
theorem dX8_cleared_38 : decode cX8_cleared 38 = .ok (.istore 6, 2) := by decide +kernel
theorem dX8_cleared_40 : decode cX8_cleared 40 = .ok (.iload 6, 2) := by decide +kernel
theorem dX8_cleared_42 : decode cX8_cleared 42 = .ok (.ifCond .lt 19, 3) := by decide +kernel
theorem dX8_cleared_45 : decode cX8_cleared 45 = .ok (.iload 4, 2) := by decide +kernel
theorem dX8_cleared_47 : decode cX8_cleared 47 = .ok (.ifCond .lt 10, 3) := by decide +kernel
theorem dX8_cleared_50 : decode cX8_cleared 50 = .ok (.iload 6, 2) := by decide +kernel
theorem dX8_cleared_52 : decode cX8_cleared 52 = .ok (.iload 4, 2) := by decide +kernel
theorem dX8_cleared_54 : decode cX8_cleared 54 = .ok (.if_icmp .ge 7, 3) := by decide +kernel
theorem dX8_cleared_57 : decode cX8_cleared 57 = .ok (.iload 6, 2) := by decide +kernel
theorem dX8_cleared_59 : decode cX8_cleared 59 = .ok (.istore 4, 2) := by decide +kernel
theorem dX8_cleared_61 : decode cX8_cleared 61 = .ok (.iinc 5 1, 3) := by decide +kernel
theorem dX8_cleared_64 : decode cX8_cleared 64 = .ok (.goto (-58), 3) := by decide +kernel
theorem dX8_cleared_67 : decode cX8_cleared 67 = .ok (.iload 4, 2) := by decide +kernel
theorem dX8_cleared_69 : decode cX8_cleared 69 = .ok (.ireturn, 1) := by decide +kernel
theorem dX8_run_0 : decode cX8_run 0 = .ok (.aload_n 0, 1) := by decide +kernel
theorem dX8_run_1 : decode cX8_run 1 = .ok (.iload_n 1, 1) := by decide +kernel
theorem dX8_run_2 : decode cX8_run 2 = .ok (.iload_n 2, 1) := by decide +kernel
theorem dX8_run_3 : decode cX8_run 3 = .ok (.iload_n 3, 1) := by decide +kernel
theorem dX8_run_4 : decode cX8_run 4 = .ok (.invokevirtual 117, 3) := by decide +kernel
theorem dX8_run_7 : decode cX8_run 7 = .ok (.ifCond .ne 5, 3) := by decide +kernel
theorem dX8_run_10 : decode cX8_run 10 = .ok (.iconst (-1), 1) := by decide +kernel
theorem dX8_run_11 : decode cX8_run 11 = .ok (.ireturn, 1) := by decide +kernel
theorem dX8_run_12 : decode cX8_run 12 = .ok (.aload_n 0, 1) := by decide +kernel
theorem dX8_run_13 : decode cX8_run 13 = .ok (.iload_n 1, 1) := by decide +kernel
theorem dX8_run_14 : decode cX8_run 14 = .ok (.iload_n 2, 1) := by decide +kernel
theorem dX8_run_15 : decode cX8_run 15 = .ok (.iload_n 3, 1) := by decide +kernel
theorem dX8_run_16 : decode cX8_run 16 = .ok (.invokevirtual 128, 3) := by decide +kernel
theorem dX8_run_19 : decode cX8_run 19 = .ok (.istore 4, 2) := by decide +kernel
theorem dX8_run_21 : decode cX8_run 21 = .ok (.aload_n 0, 1) := by decide +kernel
theorem dX8_run_22 : decode cX8_run 22 = .ok (.iconst 1, 1) := by decide +kernel
theorem dX8_run_23 : decode cX8_run 23 = .ok (.putfield 91, 3) := by decide +kernel
theorem dX8_run_26 : decode cX8_run 26 = .ok (.iconst 0, 1) := by decide +kernel
theorem dX8_run_27 : decode cX8_run 27 = .ok (.istore 5, 2) := by decide +kernel
theorem dX8_run_29 : decode cX8_run 29 = .ok (.iload 5, 2) := by decide +kernel
theorem dX8_run_31 : decode cX8_run 31 = .ok (.aload_n 0, 1) := by decide +kernel
theorem dX8_run_32 : decode cX8_run 32 = .ok (.getfield 7, 3) := by decide +kernel
theorem dX8_run_35 : decode cX8_run 35 = .ok (.if_icmp .ge 97, 3) := by decide +kernel
theorem dX8_run_38 : decode cX8_run 38 = .ok (.aload_n 0, 1) := by decide +kernel
theorem dX8_run_39 : decode cX8_run 39 = .ok (.getfield 64, 3) := by decide +kernel
theorem dX8_run_42 : decode cX8_run 42 = .ok (.iload 5, 2) := by decide +kernel
theorem dX8_run_44 : decode cX8_run 44 = .ok (.iload 5, 2) := by decide +kernel
theorem dX8_run_46 : decode cX8_run 46 = .ok (.ifCond .le 36, 3) := by decide +kernel
theorem dX8_run_49 : decode cX8_run 49 = .ok (.iload 4, 2) := by decide +kernel
theorem dX8_run_51 : decode cX8_run 51 = .ok (.ifCond .lt 31, 3) := by decide +kernel
theorem dX8_run_54 : decode cX8_run 54 = .ok (.aload_n 0, 1) := by decide +kernel
theorem dX8_run_55 : decode cX8_run 55 = .ok (.getfield 58, 3) := by decide +kernel
theorem dX8_run_58 : decode cX8_run 58 = .ok (.iload 5, 2) := by decide +kernel
theorem dX8_run_60 : decode cX8_run 60 = .ok (.baload, 1) := by decide +kernel
theorem dX8_run_61 : decode cX8_run 61 = .ok (.ifCond .ne 21, 3) := by decide +kernel
theorem dX8_run_64 : decode cX8_run 64 = .ok (.aload_n 0, 1) := by decide +kernel
theorem dX8_run_65 : decode cX8_run 65 = .ok (.iload 5, 2) := by decide +kernel
theorem dX8_run_67 : decode cX8_run 67 = .ok (.iload_n 1, 1) := by decide +kernel
theorem dX8_run_68 : decode cX8_run 68 = .ok (.iload_n 2, 1) := by decide +kernel
theorem dX8_run_69 : decode cX8_run 69 = .ok (.iload_n 3, 1) := by decide +kernel
theorem dX8_run_70 : decode cX8_run 70 = .ok (.invokevirtual 124, 3) := by decide +kernel
theorem dX8_run_73 : decode cX8_run 73 = .ok (.iload 4, 2) := by decide +kernel
theorem dX8_run_75 : decode cX8_run 75 = .ok (.if_icmp .ne 7, 3) := by decide +kernel
theorem dX8_run_78 : decode cX8_run 78 = .ok (.iconst 1, 1) := by decide +kernel
theorem dX8_run_79 : decode cX8_run 79 = .ok (.goto 4, 3) := by decide +kernel
theorem dX8_run_82 : decode cX8_run 82 = .ok (.iconst 0, 1) := by decide +kernel
theorem dX8_run_83 : decode cX8_run 83 = .ok (.bastore, 1) := by decide +kernel
theorem dX8_run_84 : decode cX8_run 84 = .ok (.aload_n 0, 1) := by decide +kernel
theorem dX8_run_85 : decode cX8_run 85 = .ok (.getfield 67, 3) := by decide +kernel
theorem dX8_run_88 : decode cX8_run 88 = .ok (.iload 5, 2) := by decide +kernel
theorem dX8_run_90 : decode cX8_run 90 = .ok (.iload 5, 2) := by decide +kernel
theorem dX8_run_92 : decode cX8_run 92 = .ok (.ifCond .le 32, 3) := by decide +kernel
theorem dX8_run_95 : decode cX8_run 95 = .ok (.aload_n 0, 1) := by decide +kernel
theorem dX8_run_96 : decode cX8_run 96 = .ok (.getfield 64, 3) := by decide +kernel
theorem dX8_run_99 : decode cX8_run 99 = .ok (.iload 5, 2) := by decide +kernel
theorem dX8_run_101 : decode cX8_run 101 = .ok (.baload, 1) := by decide +kernel
theorem dX8_run_102 : decode cX8_run 102 = .ok (.ifCond .ne 18, 3) := by decide +kernel
theorem dX8_run_105 : decode cX8_run 105 = .ok (.aload_n 0, 1) := by decide +kernel
theorem dX8_run_106 : decode cX8_run 106 = .ok (.getfield 67, 3) := by decide +kernel
theorem dX8_run_109 : decode cX8_run 109 = .ok (.aload_n 0, 1) := by decide +kernel
theorem dX8_run_110 : decode cX8_run 110 = .ok (.getfield 26, 3) := by decide +kernel
theorem dX8_run_113 : decode cX8_run 113 = .ok (.iload 5, 2) := by decide +kernel
theorem dX8_run_115 : decode cX8_run 115 = .ok (.iaload, 1) := by decide +kernel
theorem dX8_run_116 : decode cX8_run 116 = .ok (.baload, 1) := by decide +kernel
theorem dX8_run_117 : decode cX8_run 117 = .ok (.ifCond .eq 7, 3) := by decide +kernel
theorem dX8_run_120 : decode cX8_run 120 = .ok (.iconst 1, 1) := by decide +kernel
theorem dX8_run_121 : decode cX8_run 121 = .ok (.goto 4, 3) := by decide +kernel
theorem dX8_run_124 : decode cX8_run 124 = .ok (.iconst 0, 1) := by decide +kernel
theorem dX8_run_125 : decode cX8_run 125 = .ok (.bastore, 1) := by decide +kernel
theorem dX8_run_126 : decode cX8_run 126 = .ok (.iinc 5 1, 3) := by decide +kernel
theorem dX8_run_129 : decode cX8_run 129 = .ok (.goto (-100), 3) := by decide +kernel
theorem dX8_run_132 : decode cX8_run 132 = .ok (.iload 4, 2) := by decide +kernel
theorem dX8_run_134 : decode cX8_run 134 = .ok (.ireturn, 1) := by decide +kernel
theorem dX8_ran_0 : decode cX8_ran 0 = .ok (.aload_n 0, 1) := by decide +kernel
theorem dX8_ran_1 : decode cX8_ran 1 = .ok (.getfield 91, 3) := by decide +kernel
theorem dX8_ran_4 : decode cX8_ran 4 = .ok (.ifCond .eq 43, 3) := by decide +kernel
theorem dX8_ran_7 : decode cX8_ran 7 = .ok (.iload_n 1, 1) := by decide +kernel
theorem dX8_ran_8 : decode cX8_ran 8 = .ok (.iconst 0, 1) := by decide +kernel
theorem dX8_ran_9 : decode cX8_ran 9 = .ok (.aload_n 0, 1) := by decide +kernel
theorem dX8_ran_10 : decode cX8_ran 10 = .ok (.getfield 7, 3) := by decide +kernel
theorem dX8_ran_13 : decode cX8_ran 13 = .ok (.iconst 1, 1) := by decide +kernel
theorem dX8_ran_14 : decode cX8_ran 14 = .ok (.isub, 1) := by decide +kernel
theorem dX8_ran_15 : decode cX8_ran 15 = .ok (.invokestatic 83, 3) := by decide +kernel
theorem dX8_ran_18 : decode cX8_ran 18 = .ok (.ifCond .eq 29, 3) := by decide +kernel
theorem dX8_ran_21 : decode cX8_ran 21 = .ok (.iload_n 2, 1) := by decide +kernel
theorem dX8_ran_22 : decode cX8_ran 22 = .ok (.iconst 0, 1) := by decide +kernel
theorem dX8_ran_23 : decode cX8_ran 23 = .ok (.iconst 1, 1) := by decide +kernel
theorem dX8_ran_24 : decode cX8_ran 24 = .ok (.invokestatic 83, 3) := by decide +kernel
theorem dX8_ran_27 : decode cX8_ran 27 = .ok (.ifCond .eq 20, 3) := by decide +kernel
theorem dX8_ran_30 : decode cX8_ran 30 = .ok (.iload_n 2, 1) := by decide +kernel
theorem dX8_ran_31 : decode cX8_ran 31 = .ok (.ifCond .ne 18, 3) := by decide +kernel
theorem dX8_ran_34 : decode cX8_ran 34 = .ok (.iload_n 1, 1) := by decide +kernel
theorem dX8_ran_35 : decode cX8_ran 35 = .ok (.ifCond .eq 12, 3) := by decide +kernel
theorem dX8_ran_38 : decode cX8_ran 38 = .ok (.aload_n 0, 1) := by decide +kernel
theorem dX8_ran_39 : decode cX8_ran 39 = .ok (.getfield 45, 3) := by decide +kernel
theorem dX8_ran_42 : decode cX8_ran 42 = .ok (.iload_n 1, 1) := by decide +kernel
theorem dX8_ran_43 : decode cX8_ran 43 = .ok (.baload, 1) := by decide +kernel
theorem dX8_ran_44 : decode cX8_ran 44 = .ok (.ifCond .ne 5, 3) := by decide +kernel
theorem dX8_ran_47 : decode cX8_ran 47 = .ok (.iconst (-1), 1) := by decide +kernel
theorem dX8_ran_48 : decode cX8_ran 48 = .ok (.ireturn, 1) := by decide +kernel
theorem dX8_ran_49 : decode cX8_ran 49 = .ok (.iload_n 2, 1) := by decide +kernel
theorem dX8_ran_50 : decode cX8_ran 50 = .ok (.ifCond .ne 15, 3) := by decide +kernel
theorem dX8_ran_53 : decode cX8_ran 53 = .ok (.aload_n 0, 1) := by decide +kernel
theorem dX8_ran_54 : decode cX8_ran 54 = .ok (.getfield 64, 3) := by decide +kernel
theorem dX8_ran_57 : decode cX8_ran 57 = .ok (.iload_n 1, 1) := by decide +kernel
theorem dX8_ran_58 : decode cX8_ran 58 = .ok (.baload, 1) := by decide +kernel
theorem dX8_ran_59 : decode cX8_ran 59 = .ok (.ifCond .eq 19, 3) := by decide +kernel
theorem dX8_ran_62 : decode cX8_ran 62 = .ok (.goto 12, 3) := by decide +kernel
theorem dX8_ran_65 : decode cX8_ran 65 = .ok (.aload_n 0, 1) := by decide +kernel
theorem dX8_ran_66 : decode cX8_ran 66 = .ok (.getfield 67, 3) := by decide +kernel
theorem dX8_ran_69 : decode cX8_ran 69 = .ok (.iload_n 1, 1) := by decide +kernel
theorem dX8_ran_70 : decode cX8_ran 70 = .ok (.baload, 1) := by decide +kernel
theorem dX8_ran_71 : decode cX8_ran 71 = .ok (.ifCond .eq 7, 3) := by decide +kernel
theorem dX8_ran_74 : decode cX8_ran 74 = .ok (.iconst 1, 1) := by decide +kernel
theorem dX8_ran_75 : decode cX8_ran 75 = .ok (.goto 4, 3) := by decide +kernel
theorem dX8_ran_78 : decode cX8_ran 78 = .ok (.iconst 0, 1) := by decide +kernel
theorem dX8_ran_79 : decode cX8_ran 79 = .ok (.ireturn, 1) := by decide +kernel
theorem dX8_arc_0 : decode cX8_arc 0 = .ok (.aload_n 0, 1) := by decide +kernel
theorem dX8_arc_1 : decode cX8_arc 1 = .ok (.iload_n 1, 1) := by decide +kernel
theorem dX8_arc_2 : decode cX8_arc 2 = .ok (.iload_n 2, 1) := by decide +kernel
theorem dX8_arc_3 : decode cX8_arc 3 = .ok (.iload_n 3, 1) := by decide +kernel
theorem dX8_arc_4 : decode cX8_arc 4 = .ok (.invokevirtual 117, 3) := by decide +kernel
theorem dX8_arc_7 : decode cX8_arc 7 = .ok (.ifCond .eq 13, 3) := by decide +kernel
theorem dX8_arc_10 : decode cX8_arc 10 = .ok (.aload_n 0, 1) := by decide +kernel
theorem dX8_arc_11 : decode cX8_arc 11 = .ok (.iload_n 1, 1) := by decide +kernel
theorem dX8_arc_12 : decode cX8_arc 12 = .ok (.iload_n 2, 1) := by decide +kernel
theorem dX8_arc_13 : decode cX8_arc 13 = .ok (.iload_n 3, 1) := by decide +kernel
theorem dX8_arc_14 : decode cX8_arc 14 = .ok (.invokevirtual 128, 3) := by decide +kernel
theorem dX8_arc_17 : decode cX8_arc 17 = .ok (.goto 4, 3) := by decide +kernel
theorem dX8_arc_20 : decode cX8_arc 20 = .ok (.iconst (-1), 1) := by decide +kernel
theorem dX8_arc_21 : decode cX8_arc 21 = .ok (.istore 4, 2) := by decide +kernel
theorem dX8_arc_23 : decode cX8_arc 23 = .ok (.iload 4, 2) := by decide +kernel
theorem dX8_arc_25 : decode cX8_arc 25 = .ok (.ifCond .ge 9, 3) := by decide +kernel
theorem dX8_arc_28 : decode cX8_arc 28 = .ok (.ldc2_w 120, 3) := by decide +kernel
theorem dX8_arc_31 : decode cX8_arc 31 = .ok (.goto 38, 3) := by decide +kernel
theorem dX8_arc_34 : decode cX8_arc 34 = .ok (.ldc2_w 132, 3) := by decide +kernel
theorem dX8_arc_37 : decode cX8_arc 37 = .ok (.aload_n 0, 1) := by decide +kernel
theorem dX8_arc_38 : decode cX8_arc 38 = .ok (.getfield 13, 3) := by decide +kernel
theorem dX8_arc_41 : decode cX8_arc 41 = .ok (.i2l, 1) := by decide +kernel
theorem dX8_arc_42 : decode cX8_arc 42 = .ok (.lmul, 1) := by decide +kernel
theorem dX8_arc_43 : decode cX8_arc 43 = .ok (.aload_n 0, 1) := by decide +kernel
theorem dX8_arc_44 : decode cX8_arc 44 = .ok (.getfield 13, 3) := by decide +kernel
theorem dX8_arc_47 : decode cX8_arc 47 = .ok (.i2l, 1) := by decide +kernel
theorem dX8_arc_48 : decode cX8_arc 48 = .ok (.lmul, 1) := by decide +kernel
theorem dX8_arc_49 : decode cX8_arc 49 = .ok (.iload 4, 2) := by decide +kernel
theorem dX8_arc_51 : decode cX8_arc 51 = .ok (.i2l, 1) := by decide +kernel
theorem dX8_arc_52 : decode cX8_arc 52 = .ok (.lmul, 1) := by decide +kernel
theorem dX8_arc_53 : decode cX8_arc 53 = .ok (.aload_n 0, 1) := by decide +kernel
theorem dX8_arc_54 : decode cX8_arc 54 = .ok (.iload_n 1, 1) := by decide +kernel
theorem dX8_arc_55 : decode cX8_arc 55 = .ok (.iload_n 2, 1) := by decide +kernel
theorem dX8_arc_56 : decode cX8_arc 56 = .ok (.iload_n 3, 1) := by decide +kernel
theorem dX8_arc_57 : decode cX8_arc 57 = .ok (.invokevirtual 109, 3) := by decide +kernel
theorem dX8_arc_60 : decode cX8_arc 60 = .ok (.aload_n 0, 1) := by decide +kernel
theorem dX8_arc_61 : decode cX8_arc 61 = .ok (.iload_n 1, 1) := by decide +kernel
theorem dX8_arc_62 : decode cX8_arc 62 = .ok (.iload_n 2, 1) := by decide +kernel
theorem dX8_arc_63 : decode cX8_arc 63 = .ok (.iload_n 3, 1) := by decide +kernel
theorem dX8_arc_64 : decode cX8_arc 64 = .ok (.invokevirtual 109, 3) := by decide +kernel
theorem dX8_arc_67 : decode cX8_arc 67 = .ok (.lmul, 1) := by decide +kernel
theorem dX8_arc_68 : decode cX8_arc 68 = .ok (.ldiv, 1) := by decide +kernel
theorem dX8_arc_69 : decode cX8_arc 69 = .ok (.lreturn, 1) := by decide +kernel
theorem dX8_worst_0 : decode cX8_worst 0 = .ok (.lconst 0, 1) := by decide +kernel
theorem dX8_worst_1 : decode cX8_worst 1 = .ok (.lstore_n 1, 1) := by decide +kernel
theorem dX8_worst_2 : decode cX8_worst 2 = .ok (.iconst 1, 1) := by decide +kernel
theorem dX8_worst_3 : decode cX8_worst 3 = .ok (.istore_n 3, 1) := by decide +kernel
theorem dX8_worst_4 : decode cX8_worst 4 = .ok (.iload_n 3, 1) := by decide +kernel
theorem dX8_worst_5 : decode cX8_worst 5 = .ok (.aload_n 0, 1) := by decide +kernel
theorem dX8_worst_6 : decode cX8_worst 6 = .ok (.getfield 7, 3) := by decide +kernel
theorem dX8_worst_9 : decode cX8_worst 9 = .ok (.if_icmp .ge 66, 3) := by decide +kernel
theorem dX8_worst_12 : decode cX8_worst 12 = .ok (.iconst 0, 1) := by decide +kernel
theorem dX8_worst_13 : decode cX8_worst 13 = .ok (.istore 4, 2) := by decide +kernel
theorem dX8_worst_15 : decode cX8_worst 15 = .ok (.iload 4, 2) := by decide +kernel
theorem dX8_worst_17 : decode cX8_worst 17 = .ok (.bipush 34, 2) := by decide +kernel
theorem dX8_worst_19 : decode cX8_worst 19 = .ok (.if_icmp .ge 50, 3) := by decide +kernel
theorem dX8_worst_22 : decode cX8_worst 22 = .ok (.aload_n 0, 1) := by decide +kernel
theorem dX8_worst_23 : decode cX8_worst 23 = .ok (.iload_n 3, 1) := by decide +kernel
theorem dX8_worst_24 : decode cX8_worst 24 = .ok (.iload 4, 2) := by decide +kernel
theorem dX8_worst_26 : decode cX8_worst 26 = .ok (.iconst 2, 1) := by decide +kernel
theorem dX8_worst_27 : decode cX8_worst 27 = .ok (.idiv, 1) := by decide +kernel
theorem dX8_worst_28 : decode cX8_worst 28 = .ok (.iload 4, 2) := by decide +kernel
theorem dX8_worst_30 : decode cX8_worst 30 = .ok (.iconst 2, 1) := by decide +kernel
theorem dX8_worst_31 : decode cX8_worst 31 = .ok (.irem, 1) := by decide +kernel
theorem dX8_worst_32 : decode cX8_worst 32 = .ok (.aload_n 0, 1) := by decide +kernel
theorem dX8_worst_33 : decode cX8_worst 33 = .ok (.getfield 98, 3) := by decide +kernel
theorem dX8_worst_36 : decode cX8_worst 36 = .ok (.imul, 1) := by decide +kernel
theorem dX8_worst_37 : decode cX8_worst 37 = .ok (.invokevirtual 134, 3) := by decide +kernel
theorem dX8_worst_40 : decode cX8_worst 40 = .ok (.lstore 5, 2) := by decide +kernel
theorem dX8_worst_42 : decode cX8_worst 42 = .ok (.lload 5, 2) := by decide +kernel
theorem dX8_worst_44 : decode cX8_worst 44 = .ok (.lconst 0, 1) := by decide +kernel
theorem dX8_worst_45 : decode cX8_worst 45 = .ok (.lcmp, 1) := by decide +kernel
theorem dX8_worst_46 : decode cX8_worst 46 = .ok (.ifCond .ge 7, 3) := by decide +kernel
theorem dX8_worst_49 : decode cX8_worst 49 = .ok (.ldc2_w 120, 3) := by decide +kernel
theorem dX8_worst_52 : decode cX8_worst 52 = .ok (.lreturn, 1) := by decide +kernel
theorem dX8_worst_53 : decode cX8_worst 53 = .ok (.lload 5, 2) := by decide +kernel
theorem dX8_worst_55 : decode cX8_worst 55 = .ok (.lload_n 1, 1) := by decide +kernel
theorem dX8_worst_56 : decode cX8_worst 56 = .ok (.lcmp, 1) := by decide +kernel
theorem dX8_worst_57 : decode cX8_worst 57 = .ok (.ifCond .le 6, 3) := by decide +kernel
theorem dX8_worst_60 : decode cX8_worst 60 = .ok (.lload 5, 2) := by decide +kernel
theorem dX8_worst_62 : decode cX8_worst 62 = .ok (.lstore_n 1, 1) := by decide +kernel
theorem dX8_worst_63 : decode cX8_worst 63 = .ok (.iinc 4 1, 3) := by decide +kernel
theorem dX8_worst_66 : decode cX8_worst 66 = .ok (.goto (-51), 3) := by decide +kernel
theorem dX8_worst_69 : decode cX8_worst 69 = .ok (.iinc 3 1, 3) := by decide +kernel
theorem dX8_worst_72 : decode cX8_worst 72 = .ok (.goto (-68), 3) := by decide +kernel
theorem dX8_worst_75 : decode cX8_worst 75 = .ok (.lload_n 1, 1) := by decide +kernel
theorem dX8_worst_76 : decode cX8_worst 76 = .ok (.lreturn, 1) := by decide +kernel
theorem dX8_keeper_0 : decode cX8_keeper 0 = .ok (.iload_n 1, 1) := by decide +kernel
theorem dX8_keeper_1 : decode cX8_keeper 1 = .ok (.istore_n 2, 1) := by decide +kernel
theorem dX8_keeper_2 : decode cX8_keeper 2 = .ok (.iload_n 2, 1) := by decide +kernel
theorem dX8_keeper_3 : decode cX8_keeper 3 = .ok (.ifCond .le 22, 3) := by decide +kernel
theorem dX8_keeper_6 : decode cX8_keeper 6 = .ok (.aload_n 0, 1) := by decide +kernel
theorem dX8_keeper_7 : decode cX8_keeper 7 = .ok (.getfield 45, 3) := by decide +kernel
theorem dX8_keeper_10 : decode cX8_keeper 10 = .ok (.iload_n 2, 1) := by decide +kernel
theorem dX8_keeper_11 : decode cX8_keeper 11 = .ok (.baload, 1) := by decide +kernel
theorem dX8_keeper_12 : decode cX8_keeper 12 = .ok (.ifCond .ne 13, 3) := by decide +kernel
theorem dX8_keeper_15 : decode cX8_keeper 15 = .ok (.aload_n 0, 1) := by decide +kernel
theorem dX8_keeper_16 : decode cX8_keeper 16 = .ok (.getfield 26, 3) := by decide +kernel
theorem dX8_keeper_19 : decode cX8_keeper 19 = .ok (.iload_n 2, 1) := by decide +kernel
theorem dX8_keeper_20 : decode cX8_keeper 20 = .ok (.iaload, 1) := by decide +kernel
theorem dX8_keeper_21 : decode cX8_keeper 21 = .ok (.istore_n 2, 1) := by decide +kernel
theorem dX8_keeper_22 : decode cX8_keeper 22 = .ok (.goto (-20), 3) := by decide +kernel
theorem dX8_keeper_25 : decode cX8_keeper 25 = .ok (.iload_n 2, 1) := by decide +kernel
theorem dX8_keeper_26 : decode cX8_keeper 26 = .ok (.ifCond .le 7, 3) := by decide +kernel
theorem dX8_keeper_29 : decode cX8_keeper 29 = .ok (.iload_n 2, 1) := by decide +kernel
theorem dX8_keeper_30 : decode cX8_keeper 30 = .ok (.goto 4, 3) := by decide +kernel
theorem dX8_keeper_33 : decode cX8_keeper 33 = .ok (.iconst (-1), 1) := by decide +kernel
theorem dX8_keeper_34 : decode cX8_keeper 34 = .ok (.ireturn, 1) := by decide +kernel
theorem dX8_next_0 : decode cX8_next 0 = .ok (.aload_n 0, 1) := by decide +kernel
theorem dX8_next_1 : decode cX8_next 1 = .ok (.iload_n 1, 1) := by decide +kernel
theorem dX8_next_2 : decode cX8_next 2 = .ok (.invokevirtual 137, 3) := by decide +kernel
theorem dX8_next_5 : decode cX8_next 5 = .ok (.istore_n 2, 1) := by decide +kernel
theorem dX8_next_6 : decode cX8_next 6 = .ok (.iload_n 2, 1) := by decide +kernel
theorem dX8_next_7 : decode cX8_next 7 = .ok (.ifCond .ge 7, 3) := by decide +kernel
theorem dX8_next_10 : decode cX8_next 10 = .ok (.iconst (-1), 1) := by decide +kernel
theorem dX8_next_11 : decode cX8_next 11 = .ok (.goto 13, 3) := by decide +kernel
theorem dX8_next_14 : decode cX8_next 14 = .ok (.aload_n 0, 1) := by decide +kernel
theorem dX8_next_15 : decode cX8_next 15 = .ok (.aload_n 0, 1) := by decide +kernel
theorem dX8_next_16 : decode cX8_next 16 = .ok (.getfield 26, 3) := by decide +kernel
theorem dX8_next_19 : decode cX8_next 19 = .ok (.iload_n 2, 1) := by decide +kernel
theorem dX8_next_20 : decode cX8_next 20 = .ok (.iaload, 1) := by decide +kernel
theorem dX8_next_21 : decode cX8_next 21 = .ok (.invokevirtual 137, 3) := by decide +kernel
theorem dX8_next_24 : decode cX8_next 24 = .ok (.ireturn, 1) := by decide +kernel
theorem dX8_loadOf_0 : decode cX8_loadOf 0 = .ok (.iconst 0, 1) := by decide +kernel
theorem dX8_loadOf_1 : decode cX8_loadOf 1 = .ok (.istore_n 2, 1) := by decide +kernel
theorem dX8_loadOf_2 : decode cX8_loadOf 2 = .ok (.iconst 1, 1) := by decide +kernel
theorem dX8_loadOf_3 : decode cX8_loadOf 3 = .ok (.istore_n 3, 1) := by decide +kernel
theorem dX8_loadOf_4 : decode cX8_loadOf 4 = .ok (.iload_n 3, 1) := by decide +kernel
theorem dX8_loadOf_5 : decode cX8_loadOf 5 = .ok (.aload_n 0, 1) := by decide +kernel
theorem dX8_loadOf_6 : decode cX8_loadOf 6 = .ok (.getfield 7, 3) := by decide +kernel
theorem dX8_loadOf_9 : decode cX8_loadOf 9 = .ok (.if_icmp .ge 31, 3) := by decide +kernel
theorem dX8_loadOf_12 : decode cX8_loadOf 12 = .ok (.iload_n 2, 1) := by decide +kernel
theorem dX8_loadOf_13 : decode cX8_loadOf 13 = .ok (.aload_n 0, 1) := by decide +kernel
theorem dX8_loadOf_14 : decode cX8_loadOf 14 = .ok (.iload_n 1, 1) := by decide +kernel
theorem dX8_loadOf_15 : decode cX8_loadOf 15 = .ok (.iload_n 3, 1) := by decide +kernel
theorem dX8_loadOf_16 : decode cX8_loadOf 16 = .ok (.invokevirtual 105, 3) := by decide +kernel
theorem dX8_loadOf_19 : decode cX8_loadOf 19 = .ok (.ifCond .eq 12, 3) := by decide +kernel
theorem dX8_loadOf_22 : decode cX8_loadOf 22 = .ok (.aload_n 0, 1) := by decide +kernel
theorem dX8_loadOf_23 : decode cX8_loadOf 23 = .ok (.getfield 33, 3) := by decide +kernel
theorem dX8_loadOf_26 : decode cX8_loadOf 26 = .ok (.iload_n 3, 1) := by decide +kernel
theorem dX8_loadOf_27 : decode cX8_loadOf 27 = .ok (.iaload, 1) := by decide +kernel
theorem dX8_loadOf_28 : decode cX8_loadOf 28 = .ok (.goto 4, 3) := by decide +kernel
theorem dX8_loadOf_31 : decode cX8_loadOf 31 = .ok (.iconst 0, 1) := by decide +kernel
theorem dX8_loadOf_32 : decode cX8_loadOf 32 = .ok (.iadd, 1) := by decide +kernel
theorem dX8_loadOf_33 : decode cX8_loadOf 33 = .ok (.istore_n 2, 1) := by decide +kernel
theorem dX8_loadOf_34 : decode cX8_loadOf 34 = .ok (.iinc 3 1, 3) := by decide +kernel
theorem dX8_loadOf_37 : decode cX8_loadOf 37 = .ok (.goto (-33), 3) := by decide +kernel
theorem dX8_loadOf_40 : decode cX8_loadOf 40 = .ok (.iload_n 2, 1) := by decide +kernel
theorem dX8_loadOf_41 : decode cX8_loadOf 41 = .ok (.ireturn, 1) := by decide +kernel
theorem dX8_lineOf_0 : decode cX8_lineOf 0 = .ok (.aload_n 0, 1) := by decide +kernel
theorem dX8_lineOf_1 : decode cX8_lineOf 1 = .ok (.iload_n 1, 1) := by decide +kernel
theorem dX8_lineOf_2 : decode cX8_lineOf 2 = .ok (.invokevirtual 87, 3) := by decide +kernel
theorem dX8_lineOf_5 : decode cX8_lineOf 5 = .ok (.ifCond .ne 5, 3) := by decide +kernel
theorem dX8_lineOf_8 : decode cX8_lineOf 8 = .ok (.iconst (-1), 1) := by decide +kernel
theorem dX8_lineOf_9 : decode cX8_lineOf 9 = .ok (.ireturn, 1) := by decide +kernel
theorem dX8_lineOf_10 : decode cX8_lineOf 10 = .ok (.iload_n 2, 1) := by decide +kernel
theorem dX8_lineOf_11 : decode cX8_lineOf 11 = .ok (.tableswitch 201 0 9 #[53, 60, 66, 72, 78, 93, 113, 133, 153, 181], 53) := by decide +kernel
theorem dX8_lineOf_64 : decode cX8_lineOf 64 = .ok (.aload_n 0, 1) := by decide +kernel
theorem dX8_lineOf_65 : decode cX8_lineOf 65 = .ok (.getfield 26, 3) := by decide +kernel
theorem dX8_lineOf_68 : decode cX8_lineOf 68 = .ok (.iload_n 1, 1) := by decide +kernel
theorem dX8_lineOf_69 : decode cX8_lineOf 69 = .ok (.iaload, 1) := by decide +kernel
theorem dX8_lineOf_70 : decode cX8_lineOf 70 = .ok (.ireturn, 1) := by decide +kernel
theorem dX8_lineOf_71 : decode cX8_lineOf 71 = .ok (.aload_n 0, 1) := by decide +kernel
theorem dX8_lineOf_72 : decode cX8_lineOf 72 = .ok (.iload_n 1, 1) := by decide +kernel
theorem dX8_lineOf_73 : decode cX8_lineOf 73 = .ok (.invokevirtual 137, 3) := by decide +kernel
theorem dX8_lineOf_76 : decode cX8_lineOf 76 = .ok (.ireturn, 1) := by decide +kernel
theorem dX8_lineOf_77 : decode cX8_lineOf 77 = .ok (.aload_n 0, 1) := by decide +kernel
theorem dX8_lineOf_78 : decode cX8_lineOf 78 = .ok (.iload_n 1, 1) := by decide +kernel
theorem dX8_lineOf_79 : decode cX8_lineOf 79 = .ok (.invokevirtual 141, 3) := by decide +kernel
theorem dX8_lineOf_82 : decode cX8_lineOf 82 = .ok (.ireturn, 1) := by decide +kernel
theorem dX8_lineOf_83 : decode cX8_lineOf 83 = .ok (.aload_n 0, 1) := by decide +kernel
theorem dX8_lineOf_84 : decode cX8_lineOf 84 = .ok (.iload_n 1, 1) := by decide +kernel
theorem dX8_lineOf_85 : decode cX8_lineOf 85 = .ok (.invokevirtual 144, 3) := by decide +kernel
theorem dX8_lineOf_88 : decode cX8_lineOf 88 = .ok (.ireturn, 1) := by decide +kernel
theorem dX8_lineOf_89 : decode cX8_lineOf 89 = .ok (.aload_n 0, 1) := by decide +kernel
theorem dX8_lineOf_90 : decode cX8_lineOf 90 = .ok (.getfield 45, 3) := by decide +kernel
theorem dX8_lineOf_93 : decode cX8_lineOf 93 = .ok (.iload_n 1, 1) := by decide +kernel
theorem dX8_lineOf_94 : decode cX8_lineOf 94 = .ok (.baload, 1) := by decide +kernel
theorem dX8_lineOf_95 : decode cX8_lineOf 95 = .ok (.ifCond .eq 7, 3) := by decide +kernel
theorem dX8_lineOf_98 : decode cX8_lineOf 98 = .ok (.iconst 1, 1) := by decide +kernel
theorem dX8_lineOf_99 : decode cX8_lineOf 99 = .ok (.goto 4, 3) := by decide +kernel
theorem dX8_lineOf_102 : decode cX8_lineOf 102 = .ok (.iconst 0, 1) := by decide +kernel
theorem dX8_lineOf_103 : decode cX8_lineOf 103 = .ok (.ireturn, 1) := by decide +kernel
theorem dX8_lineOf_104 : decode cX8_lineOf 104 = .ok (.aload_n 0, 1) := by decide +kernel
theorem dX8_lineOf_105 : decode cX8_lineOf 105 = .ok (.getfield 45, 3) := by decide +kernel
theorem dX8_lineOf_108 : decode cX8_lineOf 108 = .ok (.iload_n 1, 1) := by decide +kernel
theorem dX8_lineOf_109 : decode cX8_lineOf 109 = .ok (.baload, 1) := by decide +kernel
theorem dX8_lineOf_110 : decode cX8_lineOf 110 = .ok (.ifCond .eq 12, 3) := by decide +kernel
theorem dX8_lineOf_113 : decode cX8_lineOf 113 = .ok (.aload_n 0, 1) := by decide +kernel
theorem dX8_lineOf_114 : decode cX8_lineOf 114 = .ok (.getfield 49, 3) := by decide +kernel
theorem dX8_lineOf_117 : decode cX8_lineOf 117 = .ok (.iload_n 1, 1) := by decide +kernel
theorem dX8_lineOf_118 : decode cX8_lineOf 118 = .ok (.iaload, 1) := by decide +kernel
theorem dX8_lineOf_119 : decode cX8_lineOf 119 = .ok (.goto 4, 3) := by decide +kernel
theorem dX8_lineOf_122 : decode cX8_lineOf 122 = .ok (.iconst (-1), 1) := by decide +kernel
theorem dX8_lineOf_123 : decode cX8_lineOf 123 = .ok (.ireturn, 1) := by decide +kernel
theorem dX8_lineOf_124 : decode cX8_lineOf 124 = .ok (.aload_n 0, 1) := by decide +kernel
theorem dX8_lineOf_125 : decode cX8_lineOf 125 = .ok (.getfield 45, 3) := by decide +kernel
theorem dX8_lineOf_128 : decode cX8_lineOf 128 = .ok (.iload_n 1, 1) := by decide +kernel
theorem dX8_lineOf_129 : decode cX8_lineOf 129 = .ok (.baload, 1) := by decide +kernel
theorem dX8_lineOf_130 : decode cX8_lineOf 130 = .ok (.ifCond .eq 12, 3) := by decide +kernel
theorem dX8_lineOf_133 : decode cX8_lineOf 133 = .ok (.aload_n 0, 1) := by decide +kernel
theorem dX8_lineOf_134 : decode cX8_lineOf 134 = .ok (.getfield 52, 3) := by decide +kernel
theorem dX8_lineOf_137 : decode cX8_lineOf 137 = .ok (.iload_n 1, 1) := by decide +kernel
theorem dX8_lineOf_138 : decode cX8_lineOf 138 = .ok (.iaload, 1) := by decide +kernel
theorem dX8_lineOf_139 : decode cX8_lineOf 139 = .ok (.goto 4, 3) := by decide +kernel
theorem dX8_lineOf_142 : decode cX8_lineOf 142 = .ok (.iconst (-1), 1) := by decide +kernel
theorem dX8_lineOf_143 : decode cX8_lineOf 143 = .ok (.ireturn, 1) := by decide +kernel
theorem dX8_lineOf_144 : decode cX8_lineOf 144 = .ok (.aload_n 0, 1) := by decide +kernel
theorem dX8_lineOf_145 : decode cX8_lineOf 145 = .ok (.getfield 45, 3) := by decide +kernel
theorem dX8_lineOf_148 : decode cX8_lineOf 148 = .ok (.iload_n 1, 1) := by decide +kernel
theorem dX8_lineOf_149 : decode cX8_lineOf 149 = .ok (.baload, 1) := by decide +kernel
theorem dX8_lineOf_150 : decode cX8_lineOf 150 = .ok (.ifCond .eq 12, 3) := by decide +kernel
theorem dX8_lineOf_153 : decode cX8_lineOf 153 = .ok (.aload_n 0, 1) := by decide +kernel
theorem dX8_lineOf_154 : decode cX8_lineOf 154 = .ok (.getfield 55, 3) := by decide +kernel
theorem dX8_lineOf_157 : decode cX8_lineOf 157 = .ok (.iload_n 1, 1) := by decide +kernel
theorem dX8_lineOf_158 : decode cX8_lineOf 158 = .ok (.iaload, 1) := by decide +kernel
theorem dX8_lineOf_159 : decode cX8_lineOf 159 = .ok (.goto 4, 3) := by decide +kernel
theorem dX8_lineOf_162 : decode cX8_lineOf 162 = .ok (.iconst (-1), 1) := by decide +kernel
theorem dX8_lineOf_163 : decode cX8_lineOf 163 = .ok (.ireturn, 1) := by decide +kernel
theorem dX8_lineOf_164 : decode cX8_lineOf 164 = .ok (.aload_n 0, 1) := by decide +kernel
theorem dX8_lineOf_165 : decode cX8_lineOf 165 = .ok (.getfield 45, 3) := by decide +kernel
theorem dX8_lineOf_168 : decode cX8_lineOf 168 = .ok (.iload_n 1, 1) := by decide +kernel
theorem dX8_lineOf_169 : decode cX8_lineOf 169 = .ok (.baload, 1) := by decide +kernel
theorem dX8_lineOf_170 : decode cX8_lineOf 170 = .ok (.ifCond .eq 20, 3) := by decide +kernel
theorem dX8_lineOf_173 : decode cX8_lineOf 173 = .ok (.aload_n 0, 1) := by decide +kernel
theorem dX8_lineOf_174 : decode cX8_lineOf 174 = .ok (.getfield 58, 3) := by decide +kernel
theorem dX8_lineOf_177 : decode cX8_lineOf 177 = .ok (.iload_n 1, 1) := by decide +kernel
theorem dX8_lineOf_178 : decode cX8_lineOf 178 = .ok (.baload, 1) := by decide +kernel
theorem dX8_lineOf_179 : decode cX8_lineOf 179 = .ok (.ifCond .eq 7, 3) := by decide +kernel
theorem dX8_lineOf_182 : decode cX8_lineOf 182 = .ok (.iconst 1, 1) := by decide +kernel
theorem dX8_lineOf_183 : decode cX8_lineOf 183 = .ok (.goto 8, 3) := by decide +kernel
theorem dX8_lineOf_186 : decode cX8_lineOf 186 = .ok (.iconst 0, 1) := by decide +kernel
theorem dX8_lineOf_187 : decode cX8_lineOf 187 = .ok (.goto 4, 3) := by decide +kernel
theorem dX8_lineOf_190 : decode cX8_lineOf 190 = .ok (.iconst (-1), 1) := by decide +kernel
theorem dX8_lineOf_191 : decode cX8_lineOf 191 = .ok (.ireturn, 1) := by decide +kernel
theorem dX8_lineOf_192 : decode cX8_lineOf 192 = .ok (.aload_n 0, 1) := by decide +kernel
theorem dX8_lineOf_193 : decode cX8_lineOf 193 = .ok (.getfield 45, 3) := by decide +kernel
theorem dX8_lineOf_196 : decode cX8_lineOf 196 = .ok (.iload_n 1, 1) := by decide +kernel
theorem dX8_lineOf_197 : decode cX8_lineOf 197 = .ok (.baload, 1) := by decide +kernel
theorem dX8_lineOf_198 : decode cX8_lineOf 198 = .ok (.ifCond .eq 12, 3) := by decide +kernel
theorem dX8_lineOf_201 : decode cX8_lineOf 201 = .ok (.aload_n 0, 1) := by decide +kernel
theorem dX8_lineOf_202 : decode cX8_lineOf 202 = .ok (.getfield 61, 3) := by decide +kernel
theorem dX8_lineOf_205 : decode cX8_lineOf 205 = .ok (.iload_n 1, 1) := by decide +kernel
theorem dX8_lineOf_206 : decode cX8_lineOf 206 = .ok (.iaload, 1) := by decide +kernel
theorem dX8_lineOf_207 : decode cX8_lineOf 207 = .ok (.goto 4, 3) := by decide +kernel
theorem dX8_lineOf_210 : decode cX8_lineOf 210 = .ok (.iconst (-1), 1) := by decide +kernel
theorem dX8_lineOf_211 : decode cX8_lineOf 211 = .ok (.ireturn, 1) := by decide +kernel
theorem dX8_lineOf_212 : decode cX8_lineOf 212 = .ok (.iconst (-1), 1) := by decide +kernel
theorem dX8_lineOf_213 : decode cX8_lineOf 213 = .ok (.ireturn, 1) := by decide +kernel
theorem dX8_tells_0 : decode cX8_tells 0 = .ok (.aload_n 0, 1) := by decide +kernel
theorem dX8_tells_1 : decode cX8_tells 1 = .ok (.iload_n 1, 1) := by decide +kernel
theorem dX8_tells_2 : decode cX8_tells 2 = .ok (.putfield 147, 3) := by decide +kernel
theorem dX8_tells_5 : decode cX8_tells 5 = .ok (.aload_n 0, 1) := by decide +kernel
theorem dX8_tells_6 : decode cX8_tells 6 = .ok (.iload_n 2, 1) := by decide +kernel
theorem dX8_tells_7 : decode cX8_tells 7 = .ok (.putfield 150, 3) := by decide +kernel
theorem dX8_tells_10 : decode cX8_tells 10 = .ok (.aload_n 0, 1) := by decide +kernel
theorem dX8_tells_11 : decode cX8_tells 11 = .ok (.iload_n 3, 1) := by decide +kernel
theorem dX8_tells_12 : decode cX8_tells 12 = .ok (.putfield 153, 3) := by decide +kernel
theorem dX8_tells_15 : decode cX8_tells 15 = .ok (.aload_n 0, 1) := by decide +kernel
theorem dX8_tells_16 : decode cX8_tells 16 = .ok (.iload 4, 2) := by decide +kernel
theorem dX8_tells_18 : decode cX8_tells 18 = .ok (.putfield 156, 3) := by decide +kernel
theorem dX8_tells_21 : decode cX8_tells 21 = .ok (.iconst 0, 1) := by decide +kernel
theorem dX8_tells_22 : decode cX8_tells 22 = .ok (.ireturn, 1) := by decide +kernel
theorem dX8_tooShort_0 : decode cX8_tooShort 0 = .ok (.iconst (-1), 1) := by decide +kernel
theorem dX8_tooShort_1 : decode cX8_tooShort 1 = .ok (.istore 4, 2) := by decide +kernel
theorem dX8_tooShort_3 : decode cX8_tooShort 3 = .ok (.iload_n 1, 1) := by decide +kernel
theorem dX8_tooShort_4 : decode cX8_tooShort 4 = .ok (.istore 5, 2) := by decide +kernel
theorem dX8_tooShort_6 : decode cX8_tooShort 6 = .ok (.iload 5, 2) := by decide +kernel
theorem dX8_tooShort_8 : decode cX8_tooShort 8 = .ok (.ifCond .le 58, 3) := by decide +kernel
theorem dX8_tooShort_11 : decode cX8_tooShort 11 = .ok (.aload_n 0, 1) := by decide +kernel
theorem dX8_tooShort_12 : decode cX8_tooShort 12 = .ok (.iload 5, 2) := by decide +kernel
theorem dX8_tooShort_14 : decode cX8_tooShort 14 = .ok (.iload_n 1, 1) := by decide +kernel
theorem dX8_tooShort_15 : decode cX8_tooShort 15 = .ok (.iload_n 2, 1) := by decide +kernel
theorem dX8_tooShort_16 : decode cX8_tooShort 16 = .ok (.iload_n 3, 1) := by decide +kernel
theorem dX8_tooShort_17 : decode cX8_tooShort 17 = .ok (.invokevirtual 124, 3) := by decide +kernel
theorem dX8_tooShort_20 : decode cX8_tooShort 20 = .ok (.istore 6, 2) := by decide +kernel
theorem dX8_tooShort_22 : decode cX8_tooShort 22 = .ok (.iload 6, 2) := by decide +kernel
theorem dX8_tooShort_24 : decode cX8_tooShort 24 = .ok (.ifCond .ge 6, 3) := by decide +kernel
theorem dX8_tooShort_27 : decode cX8_tooShort 27 = .ok (.goto 27, 3) := by decide +kernel
theorem dX8_tooShort_30 : decode cX8_tooShort 30 = .ok (.iload 4, 2) := by decide +kernel
theorem dX8_tooShort_32 : decode cX8_tooShort 32 = .ok (.ifCond .lt 18, 3) := by decide +kernel
theorem dX8_tooShort_35 : decode cX8_tooShort 35 = .ok (.iload 6, 2) := by decide +kernel
theorem dX8_tooShort_37 : decode cX8_tooShort 37 = .ok (.iload 4, 2) := by decide +kernel
theorem dX8_tooShort_39 : decode cX8_tooShort 39 = .ok (.aload_n 0, 1) := by decide +kernel
theorem dX8_tooShort_40 : decode cX8_tooShort 40 = .ok (.getfield 19, 3) := by decide +kernel
theorem dX8_tooShort_43 : decode cX8_tooShort 43 = .ok (.iadd, 1) := by decide +kernel
theorem dX8_tooShort_44 : decode cX8_tooShort 44 = .ok (.if_icmp .ge 6, 3) := by decide +kernel
theorem dX8_tooShort_47 : decode cX8_tooShort 47 = .ok (.iload 5, 2) := by decide +kernel
theorem dX8_tooShort_49 : decode cX8_tooShort 49 = .ok (.ireturn, 1) := by decide +kernel
theorem dX8_tooShort_50 : decode cX8_tooShort 50 = .ok (.iload 6, 2) := by decide +kernel
theorem dX8_tooShort_52 : decode cX8_tooShort 52 = .ok (.istore 4, 2) := by decide +kernel
theorem dX8_tooShort_54 : decode cX8_tooShort 54 = .ok (.aload_n 0, 1) := by decide +kernel
theorem dX8_tooShort_55 : decode cX8_tooShort 55 = .ok (.getfield 26, 3) := by decide +kernel
theorem dX8_tooShort_58 : decode cX8_tooShort 58 = .ok (.iload 5, 2) := by decide +kernel
theorem dX8_tooShort_60 : decode cX8_tooShort 60 = .ok (.iaload, 1) := by decide +kernel
theorem dX8_tooShort_61 : decode cX8_tooShort 61 = .ok (.istore 5, 2) := by decide +kernel
theorem dX8_tooShort_63 : decode cX8_tooShort 63 = .ok (.goto (-57), 3) := by decide +kernel
theorem dX8_tooShort_66 : decode cX8_tooShort 66 = .ok (.iconst (-1), 1) := by decide +kernel
theorem dX8_tooShort_67 : decode cX8_tooShort 67 = .ok (.ireturn, 1) := by decide +kernel
theorem dX8_isLineRight_0 : decode cX8_isLineRight 0 = .ok (.aload_n 0, 1) := by decide +kernel
theorem dX8_isLineRight_1 : decode cX8_isLineRight 1 = .ok (.iload_n 1, 1) := by decide +kernel
theorem dX8_isLineRight_2 : decode cX8_isLineRight 2 = .ok (.invokevirtual 137, 3) := by decide +kernel
theorem dX8_isLineRight_5 : decode cX8_isLineRight 5 = .ok (.istore_n 2, 1) := by decide +kernel
theorem dX8_isLineRight_6 : decode cX8_isLineRight 6 = .ok (.iload_n 2, 1) := by decide +kernel
theorem dX8_isLineRight_7 : decode cX8_isLineRight 7 = .ok (.ifCond .ge 12, 3) := by decide +kernel
theorem dX8_isLineRight_10 : decode cX8_isLineRight 10 = .ok (.aload_n 0, 1) := by decide +kernel
theorem dX8_isLineRight_11 : decode cX8_isLineRight 11 = .ok (.iconst 1, 1) := by decide +kernel
theorem dX8_isLineRight_12 : decode cX8_isLineRight 12 = .ok (.iload_n 1, 1) := by decide +kernel
theorem dX8_isLineRight_13 : decode cX8_isLineRight 13 = .ok (.iconst (-1), 1) := by decide +kernel
theorem dX8_isLineRight_14 : decode cX8_isLineRight 14 = .ok (.iconst (-1), 1) := by decide +kernel
theorem dX8_isLineRight_15 : decode cX8_isLineRight 15 = .ok (.invokevirtual 159, 3) := by decide +kernel
theorem dX8_isLineRight_18 : decode cX8_isLineRight 18 = .ok (.ireturn, 1) := by decide +kernel
theorem dX8_isLineRight_19 : decode cX8_isLineRight 19 = .ok (.iconst 0, 1) := by decide +kernel
theorem dX8_isLineRight_20 : decode cX8_isLineRight 20 = .ok (.istore_n 3, 1) := by decide +kernel
theorem dX8_isLineRight_21 : decode cX8_isLineRight 21 = .ok (.iload_n 3, 1) := by decide +kernel
theorem dX8_isLineRight_22 : decode cX8_isLineRight 22 = .ok (.bipush 34, 2) := by decide +kernel
theorem dX8_isLineRight_24 : decode cX8_isLineRight 24 = .ok (.if_icmp .ge 47, 3) := by decide +kernel
theorem dX8_isLineRight_27 : decode cX8_isLineRight 27 = .ok (.aload_n 0, 1) := by decide +kernel
theorem dX8_isLineRight_28 : decode cX8_isLineRight 28 = .ok (.iload_n 2, 1) := by decide +kernel
theorem dX8_isLineRight_29 : decode cX8_isLineRight 29 = .ok (.iload_n 1, 1) := by decide +kernel
theorem dX8_isLineRight_30 : decode cX8_isLineRight 30 = .ok (.iload_n 3, 1) := by decide +kernel
theorem dX8_isLineRight_31 : decode cX8_isLineRight 31 = .ok (.iconst 2, 1) := by decide +kernel
theorem dX8_isLineRight_32 : decode cX8_isLineRight 32 = .ok (.idiv, 1) := by decide +kernel
theorem dX8_isLineRight_33 : decode cX8_isLineRight 33 = .ok (.iload_n 3, 1) := by decide +kernel
theorem dX8_isLineRight_34 : decode cX8_isLineRight 34 = .ok (.iconst 2, 1) := by decide +kernel
theorem dX8_isLineRight_35 : decode cX8_isLineRight 35 = .ok (.irem, 1) := by decide +kernel
theorem dX8_isLineRight_36 : decode cX8_isLineRight 36 = .ok (.aload_n 0, 1) := by decide +kernel
theorem dX8_isLineRight_37 : decode cX8_isLineRight 37 = .ok (.getfield 98, 3) := by decide +kernel
theorem dX8_isLineRight_40 : decode cX8_isLineRight 40 = .ok (.imul, 1) := by decide +kernel
theorem dX8_isLineRight_41 : decode cX8_isLineRight 41 = .ok (.invokevirtual 124, 3) := by decide +kernel
theorem dX8_isLineRight_44 : decode cX8_isLineRight 44 = .ok (.ifCond .ge 21, 3) := by decide +kernel
theorem dX8_isLineRight_47 : decode cX8_isLineRight 47 = .ok (.aload_n 0, 1) := by decide +kernel
theorem dX8_isLineRight_48 : decode cX8_isLineRight 48 = .ok (.iconst 2, 1) := by decide +kernel
theorem dX8_isLineRight_49 : decode cX8_isLineRight 49 = .ok (.iload_n 1, 1) := by decide +kernel
theorem dX8_isLineRight_50 : decode cX8_isLineRight 50 = .ok (.iload_n 3, 1) := by decide +kernel
theorem dX8_isLineRight_51 : decode cX8_isLineRight 51 = .ok (.iconst 2, 1) := by decide +kernel
theorem dX8_isLineRight_52 : decode cX8_isLineRight 52 = .ok (.idiv, 1) := by decide +kernel
theorem dX8_isLineRight_53 : decode cX8_isLineRight 53 = .ok (.iload_n 3, 1) := by decide +kernel
theorem dX8_isLineRight_54 : decode cX8_isLineRight 54 = .ok (.iconst 2, 1) := by decide +kernel
theorem dX8_isLineRight_55 : decode cX8_isLineRight 55 = .ok (.irem, 1) := by decide +kernel
theorem dX8_isLineRight_56 : decode cX8_isLineRight 56 = .ok (.aload_n 0, 1) := by decide +kernel
theorem dX8_isLineRight_57 : decode cX8_isLineRight 57 = .ok (.getfield 98, 3) := by decide +kernel
theorem dX8_isLineRight_60 : decode cX8_isLineRight 60 = .ok (.imul, 1) := by decide +kernel
theorem dX8_isLineRight_61 : decode cX8_isLineRight 61 = .ok (.invokevirtual 159, 3) := by decide +kernel
theorem dX8_isLineRight_64 : decode cX8_isLineRight 64 = .ok (.ireturn, 1) := by decide +kernel
theorem dX8_isLineRight_65 : decode cX8_isLineRight 65 = .ok (.iinc 3 1, 3) := by decide +kernel
theorem dX8_isLineRight_68 : decode cX8_isLineRight 68 = .ok (.goto (-47), 3) := by decide +kernel
theorem dX8_isLineRight_71 : decode cX8_isLineRight 71 = .ok (.iconst 0, 1) := by decide +kernel
theorem dX8_isLineRight_72 : decode cX8_isLineRight 72 = .ok (.istore_n 3, 1) := by decide +kernel
theorem dX8_isLineRight_73 : decode cX8_isLineRight 73 = .ok (.iload_n 3, 1) := by decide +kernel
theorem dX8_isLineRight_74 : decode cX8_isLineRight 74 = .ok (.bipush 34, 2) := by decide +kernel
theorem dX8_isLineRight_76 : decode cX8_isLineRight 76 = .ok (.if_icmp .ge 62, 3) := by decide +kernel
theorem dX8_isLineRight_79 : decode cX8_isLineRight 79 = .ok (.iload_n 3, 1) := by decide +kernel
theorem dX8_isLineRight_80 : decode cX8_isLineRight 80 = .ok (.iconst 2, 1) := by decide +kernel
theorem dX8_isLineRight_81 : decode cX8_isLineRight 81 = .ok (.irem, 1) := by decide +kernel
theorem dX8_isLineRight_82 : decode cX8_isLineRight 82 = .ok (.aload_n 0, 1) := by decide +kernel
theorem dX8_isLineRight_83 : decode cX8_isLineRight 83 = .ok (.getfield 98, 3) := by decide +kernel
theorem dX8_isLineRight_86 : decode cX8_isLineRight 86 = .ok (.imul, 1) := by decide +kernel
theorem dX8_isLineRight_87 : decode cX8_isLineRight 87 = .ok (.istore 4, 2) := by decide +kernel
theorem dX8_isLineRight_89 : decode cX8_isLineRight 89 = .ok (.aload_n 0, 1) := by decide +kernel
theorem dX8_isLineRight_90 : decode cX8_isLineRight 90 = .ok (.iload_n 1, 1) := by decide +kernel
theorem dX8_isLineRight_91 : decode cX8_isLineRight 91 = .ok (.iload_n 3, 1) := by decide +kernel
theorem dX8_isLineRight_92 : decode cX8_isLineRight 92 = .ok (.iconst 2, 1) := by decide +kernel
theorem dX8_isLineRight_93 : decode cX8_isLineRight 93 = .ok (.idiv, 1) := by decide +kernel
theorem dX8_isLineRight_94 : decode cX8_isLineRight 94 = .ok (.iload 4, 2) := by decide +kernel
theorem dX8_isLineRight_96 : decode cX8_isLineRight 96 = .ok (.invokevirtual 163, 3) := by decide +kernel
theorem dX8_isLineRight_99 : decode cX8_isLineRight 99 = .ok (.ifCond .ge 21, 3) := by decide +kernel
theorem dX8_isLineRight_102 : decode cX8_isLineRight 102 = .ok (.aload_n 0, 1) := by decide +kernel
theorem dX8_isLineRight_103 : decode cX8_isLineRight 103 = .ok (.iload_n 2, 1) := by decide +kernel
theorem dX8_isLineRight_104 : decode cX8_isLineRight 104 = .ok (.iload_n 1, 1) := by decide +kernel
theorem dX8_isLineRight_105 : decode cX8_isLineRight 105 = .ok (.iload_n 3, 1) := by decide +kernel
theorem dX8_isLineRight_106 : decode cX8_isLineRight 106 = .ok (.iconst 2, 1) := by decide +kernel
theorem dX8_isLineRight_107 : decode cX8_isLineRight 107 = .ok (.idiv, 1) := by decide +kernel
theorem dX8_isLineRight_108 : decode cX8_isLineRight 108 = .ok (.iload 4, 2) := by decide +kernel
theorem dX8_isLineRight_110 : decode cX8_isLineRight 110 = .ok (.invokevirtual 124, 3) := by decide +kernel
theorem dX8_isLineRight_113 : decode cX8_isLineRight 113 = .ok (.aload_n 0, 1) := by decide +kernel
theorem dX8_isLineRight_114 : decode cX8_isLineRight 114 = .ok (.getfield 23, 3) := by decide +kernel
theorem dX8_isLineRight_117 : decode cX8_isLineRight 117 = .ok (.if_icmp .le 15, 3) := by decide +kernel
theorem dX8_isLineRight_120 : decode cX8_isLineRight 120 = .ok (.aload_n 0, 1) := by decide +kernel
theorem dX8_isLineRight_121 : decode cX8_isLineRight 121 = .ok (.iconst 3, 1) := by decide +kernel
theorem dX8_isLineRight_122 : decode cX8_isLineRight 122 = .ok (.iload_n 1, 1) := by decide +kernel
theorem dX8_isLineRight_123 : decode cX8_isLineRight 123 = .ok (.iload_n 3, 1) := by decide +kernel
theorem dX8_isLineRight_124 : decode cX8_isLineRight 124 = .ok (.iconst 2, 1) := by decide +kernel
theorem dX8_isLineRight_125 : decode cX8_isLineRight 125 = .ok (.idiv, 1) := by decide +kernel
theorem dX8_isLineRight_126 : decode cX8_isLineRight 126 = .ok (.iload 4, 2) := by decide +kernel
theorem dX8_isLineRight_128 : decode cX8_isLineRight 128 = .ok (.invokevirtual 159, 3) := by decide +kernel
theorem dX8_isLineRight_131 : decode cX8_isLineRight 131 = .ok (.ireturn, 1) := by decide +kernel
theorem dX8_isLineRight_132 : decode cX8_isLineRight 132 = .ok (.iinc 3 1, 3) := by decide +kernel
theorem dX8_isLineRight_135 : decode cX8_isLineRight 135 = .ok (.goto (-62), 3) := by decide +kernel
theorem dX8_isLineRight_138 : decode cX8_isLineRight 138 = .ok (.iconst 1, 1) := by decide +kernel
theorem dX8_isLineRight_139 : decode cX8_isLineRight 139 = .ok (.ireturn, 1) := by decide +kernel
theorem dX8_isRight_0 : decode cX8_isRight 0 = .ok (.aload_n 0, 1) := by decide +kernel
theorem dX8_isRight_1 : decode cX8_isRight 1 = .ok (.iconst 0, 1) := by decide +kernel
theorem dX8_isRight_2 : decode cX8_isRight 2 = .ok (.putfield 147, 3) := by decide +kernel
theorem dX8_isRight_5 : decode cX8_isRight 5 = .ok (.aload_n 0, 1) := by decide +kernel
theorem dX8_isRight_6 : decode cX8_isRight 6 = .ok (.iconst (-1), 1) := by decide +kernel
theorem dX8_isRight_7 : decode cX8_isRight 7 = .ok (.putfield 150, 3) := by decide +kernel
theorem dX8_isRight_10 : decode cX8_isRight 10 = .ok (.aload_n 0, 1) := by decide +kernel
theorem dX8_isRight_11 : decode cX8_isRight 11 = .ok (.iconst (-1), 1) := by decide +kernel
theorem dX8_isRight_12 : decode cX8_isRight 12 = .ok (.putfield 153, 3) := by decide +kernel
theorem dX8_isRight_15 : decode cX8_isRight 15 = .ok (.aload_n 0, 1) := by decide +kernel
theorem dX8_isRight_16 : decode cX8_isRight 16 = .ok (.iconst (-1), 1) := by decide +kernel
theorem dX8_isRight_17 : decode cX8_isRight 17 = .ok (.putfield 156, 3) := by decide +kernel
theorem dX8_isRight_20 : decode cX8_isRight 20 = .ok (.iconst 1, 1) := by decide +kernel
theorem dX8_isRight_21 : decode cX8_isRight 21 = .ok (.istore_n 1, 1) := by decide +kernel
theorem dX8_isRight_22 : decode cX8_isRight 22 = .ok (.iload_n 1, 1) := by decide +kernel
theorem dX8_isRight_23 : decode cX8_isRight 23 = .ok (.aload_n 0, 1) := by decide +kernel
theorem dX8_isRight_24 : decode cX8_isRight 24 = .ok (.getfield 7, 3) := by decide +kernel
theorem dX8_isRight_27 : decode cX8_isRight 27 = .ok (.if_icmp .ge 19, 3) := by decide +kernel
theorem dX8_isRight_30 : decode cX8_isRight 30 = .ok (.aload_n 0, 1) := by decide +kernel
theorem dX8_isRight_31 : decode cX8_isRight 31 = .ok (.iload_n 1, 1) := by decide +kernel
theorem dX8_isRight_32 : decode cX8_isRight 32 = .ok (.invokevirtual 166, 3) := by decide +kernel
theorem dX8_isRight_35 : decode cX8_isRight 35 = .ok (.ifCond .ne 5, 3) := by decide +kernel
theorem dX8_isRight_38 : decode cX8_isRight 38 = .ok (.iconst 0, 1) := by decide +kernel
theorem dX8_isRight_39 : decode cX8_isRight 39 = .ok (.ireturn, 1) := by decide +kernel
theorem dX8_isRight_40 : decode cX8_isRight 40 = .ok (.iinc 1 1, 3) := by decide +kernel
theorem dX8_isRight_43 : decode cX8_isRight 43 = .ok (.goto (-21), 3) := by decide +kernel
theorem dX8_isRight_46 : decode cX8_isRight 46 = .ok (.iconst 1, 1) := by decide +kernel
theorem dX8_isRight_47 : decode cX8_isRight 47 = .ok (.istore_n 1, 1) := by decide +kernel
theorem dX8_isRight_48 : decode cX8_isRight 48 = .ok (.iload_n 1, 1) := by decide +kernel
theorem dX8_isRight_49 : decode cX8_isRight 49 = .ok (.aload_n 0, 1) := by decide +kernel
theorem dX8_isRight_50 : decode cX8_isRight 50 = .ok (.getfield 7, 3) := by decide +kernel
theorem dX8_isRight_53 : decode cX8_isRight 53 = .ok (.if_icmp .ge 42, 3) := by decide +kernel
theorem dX8_isRight_56 : decode cX8_isRight 56 = .ok (.aload_n 0, 1) := by decide +kernel
theorem dX8_isRight_57 : decode cX8_isRight 57 = .ok (.getfield 45, 3) := by decide +kernel
theorem dX8_isRight_60 : decode cX8_isRight 60 = .ok (.iload_n 1, 1) := by decide +kernel
theorem dX8_isRight_61 : decode cX8_isRight 61 = .ok (.baload, 1) := by decide +kernel
theorem dX8_isRight_62 : decode cX8_isRight 62 = .ok (.ifCond .eq 27, 3) := by decide +kernel
theorem dX8_isRight_65 : decode cX8_isRight 65 = .ok (.aload_n 0, 1) := by decide +kernel
theorem dX8_isRight_66 : decode cX8_isRight 66 = .ok (.iload_n 1, 1) := by decide +kernel
theorem dX8_isRight_67 : decode cX8_isRight 67 = .ok (.aload_n 0, 1) := by decide +kernel
theorem dX8_isRight_68 : decode cX8_isRight 68 = .ok (.iload_n 1, 1) := by decide +kernel
theorem dX8_isRight_69 : decode cX8_isRight 69 = .ok (.invokevirtual 144, 3) := by decide +kernel
theorem dX8_isRight_72 : decode cX8_isRight 72 = .ok (.i2l, 1) := by decide +kernel
theorem dX8_isRight_73 : decode cX8_isRight 73 = .ok (.lconst 1, 1) := by decide +kernel
theorem dX8_isRight_74 : decode cX8_isRight 74 = .ok (.invokevirtual 113, 3) := by decide +kernel
theorem dX8_isRight_77 : decode cX8_isRight 77 = .ok (.ifCond .lt 12, 3) := by decide +kernel
theorem dX8_isRight_80 : decode cX8_isRight 80 = .ok (.aload_n 0, 1) := by decide +kernel
theorem dX8_isRight_81 : decode cX8_isRight 81 = .ok (.iconst 4, 1) := by decide +kernel
theorem dX8_isRight_82 : decode cX8_isRight 82 = .ok (.iload_n 1, 1) := by decide +kernel
theorem dX8_isRight_83 : decode cX8_isRight 83 = .ok (.iconst (-1), 1) := by decide +kernel
theorem dX8_isRight_84 : decode cX8_isRight 84 = .ok (.iconst (-1), 1) := by decide +kernel
theorem dX8_isRight_85 : decode cX8_isRight 85 = .ok (.invokevirtual 159, 3) := by decide +kernel
theorem dX8_isRight_88 : decode cX8_isRight 88 = .ok (.ireturn, 1) := by decide +kernel
theorem dX8_isRight_89 : decode cX8_isRight 89 = .ok (.iinc 1 1, 3) := by decide +kernel
theorem dX8_isRight_92 : decode cX8_isRight 92 = .ok (.goto (-44), 3) := by decide +kernel
theorem dX8_isRight_95 : decode cX8_isRight 95 = .ok (.iconst 1, 1) := by decide +kernel
theorem dX8_isRight_96 : decode cX8_isRight 96 = .ok (.ireturn, 1) := by decide +kernel
theorem dX8_right_0 : decode cX8_right 0 = .ok (.aload_n 0, 1) := by decide +kernel
theorem dX8_right_1 : decode cX8_right 1 = .ok (.invokevirtual 169, 3) := by decide +kernel
theorem dX8_right_4 : decode cX8_right 4 = .ok (.pop, 1) := by decide +kernel
theorem dX8_right_5 : decode cX8_right 5 = .ok (.iload_n 1, 1) := by decide +kernel
theorem dX8_right_6 : decode cX8_right 6 = .ok (.ifCond .ne 10, 3) := by decide +kernel
theorem dX8_right_9 : decode cX8_right 9 = .ok (.aload_n 0, 1) := by decide +kernel
theorem dX8_right_10 : decode cX8_right 10 = .ok (.getfield 147, 3) := by decide +kernel
theorem dX8_right_13 : decode cX8_right 13 = .ok (.goto 40, 3) := by decide +kernel
theorem dX8_right_16 : decode cX8_right 16 = .ok (.iload_n 1, 1) := by decide +kernel
theorem dX8_right_17 : decode cX8_right 17 = .ok (.iconst 1, 1) := by decide +kernel
theorem dX8_right_18 : decode cX8_right 18 = .ok (.if_icmp .ne 10, 3) := by decide +kernel
theorem dX8_right_21 : decode cX8_right 21 = .ok (.aload_n 0, 1) := by decide +kernel
theorem dX8_right_22 : decode cX8_right 22 = .ok (.getfield 150, 3) := by decide +kernel
theorem dX8_right_25 : decode cX8_right 25 = .ok (.goto 28, 3) := by decide +kernel
theorem dX8_right_28 : decode cX8_right 28 = .ok (.iload_n 1, 1) := by decide +kernel
theorem dX8_right_29 : decode cX8_right 29 = .ok (.iconst 2, 1) := by decide +kernel
theorem dX8_right_30 : decode cX8_right 30 = .ok (.if_icmp .ne 10, 3) := by decide +kernel
theorem dX8_right_33 : decode cX8_right 33 = .ok (.aload_n 0, 1) := by decide +kernel
theorem dX8_right_34 : decode cX8_right 34 = .ok (.getfield 153, 3) := by decide +kernel
theorem dX8_right_37 : decode cX8_right 37 = .ok (.goto 16, 3) := by decide +kernel
theorem dX8_right_40 : decode cX8_right 40 = .ok (.iload_n 1, 1) := by decide +kernel
theorem dX8_right_41 : decode cX8_right 41 = .ok (.iconst 3, 1) := by decide +kernel
theorem dX8_right_42 : decode cX8_right 42 = .ok (.if_icmp .ne 10, 3) := by decide +kernel
theorem dX8_right_45 : decode cX8_right 45 = .ok (.aload_n 0, 1) := by decide +kernel
theorem dX8_right_46 : decode cX8_right 46 = .ok (.getfield 156, 3) := by decide +kernel
theorem dX8_right_49 : decode cX8_right 49 = .ok (.goto 4, 3) := by decide +kernel
theorem dX8_right_52 : decode cX8_right 52 = .ok (.iconst (-1), 1) := by decide +kernel
theorem dX8_right_53 : decode cX8_right 53 = .ok (.ireturn, 1) := by decide +kernel
theorem dX8_raises_0 : decode cX8_raises 0 = .ok (.iconst 1, 1) := by decide +kernel
theorem dX8_raises_1 : decode cX8_raises 1 = .ok (.istore_n 1, 1) := by decide +kernel
theorem dX8_raises_2 : decode cX8_raises 2 = .ok (.iload_n 1, 1) := by decide +kernel
theorem dX8_raises_3 : decode cX8_raises 3 = .ok (.aload_n 0, 1) := by decide +kernel
theorem dX8_raises_4 : decode cX8_raises 4 = .ok (.getfield 7, 3) := by decide +kernel
theorem dX8_raises_7 : decode cX8_raises 7 = .ok (.if_icmp .ge 72, 3) := by decide +kernel
theorem dX8_raises_10 : decode cX8_raises 10 = .ok (.iconst 0, 1) := by decide +kernel
theorem dX8_raises_11 : decode cX8_raises 11 = .ok (.istore_n 2, 1) := by decide +kernel
theorem dX8_raises_12 : decode cX8_raises 12 = .ok (.iload_n 2, 1) := by decide +kernel
theorem dX8_raises_13 : decode cX8_raises 13 = .ok (.bipush 34, 2) := by decide +kernel
theorem dX8_raises_15 : decode cX8_raises 15 = .ok (.if_icmp .ge 58, 3) := by decide +kernel
theorem dX8_raises_18 : decode cX8_raises 18 = .ok (.aload_n 0, 1) := by decide +kernel
theorem dX8_raises_19 : decode cX8_raises 19 = .ok (.iload_n 1, 1) := by decide +kernel
theorem dX8_raises_20 : decode cX8_raises 20 = .ok (.iload_n 2, 1) := by decide +kernel
theorem dX8_raises_21 : decode cX8_raises 21 = .ok (.iconst 2, 1) := by decide +kernel
theorem dX8_raises_22 : decode cX8_raises 22 = .ok (.idiv, 1) := by decide +kernel
theorem dX8_raises_23 : decode cX8_raises 23 = .ok (.iload_n 2, 1) := by decide +kernel
theorem dX8_raises_24 : decode cX8_raises 24 = .ok (.iconst 2, 1) := by decide +kernel
theorem dX8_raises_25 : decode cX8_raises 25 = .ok (.irem, 1) := by decide +kernel
theorem dX8_raises_26 : decode cX8_raises 26 = .ok (.aload_n 0, 1) := by decide +kernel
theorem dX8_raises_27 : decode cX8_raises 27 = .ok (.getfield 98, 3) := by decide +kernel
theorem dX8_raises_30 : decode cX8_raises 30 = .ok (.imul, 1) := by decide +kernel
theorem dX8_raises_31 : decode cX8_raises 31 = .ok (.invokevirtual 163, 3) := by decide +kernel
theorem dX8_raises_34 : decode cX8_raises 34 = .ok (.istore_n 3, 1) := by decide +kernel
theorem dX8_raises_35 : decode cX8_raises 35 = .ok (.iload_n 3, 1) := by decide +kernel
theorem dX8_raises_36 : decode cX8_raises 36 = .ok (.ifCond .ge 6, 3) := by decide +kernel
theorem dX8_raises_39 : decode cX8_raises 39 = .ok (.goto 28, 3) := by decide +kernel
theorem dX8_raises_42 : decode cX8_raises 42 = .ok (.aload_n 0, 1) := by decide +kernel
theorem dX8_raises_43 : decode cX8_raises 43 = .ok (.getfield 52, 3) := by decide +kernel
theorem dX8_raises_46 : decode cX8_raises 46 = .ok (.iload_n 3, 1) := by decide +kernel
theorem dX8_raises_47 : decode cX8_raises 47 = .ok (.iaload, 1) := by decide +kernel
theorem dX8_raises_48 : decode cX8_raises 48 = .ok (.bipush 40, 2) := by decide +kernel
theorem dX8_raises_50 : decode cX8_raises 50 = .ok (.if_icmp .ne 5, 3) := by decide +kernel
theorem dX8_raises_53 : decode cX8_raises 53 = .ok (.iconst (-1), 1) := by decide +kernel
theorem dX8_raises_54 : decode cX8_raises 54 = .ok (.ireturn, 1) := by decide +kernel
theorem dX8_raises_55 : decode cX8_raises 55 = .ok (.aload_n 0, 1) := by decide +kernel
theorem dX8_raises_56 : decode cX8_raises 56 = .ok (.getfield 52, 3) := by decide +kernel
theorem dX8_raises_59 : decode cX8_raises 59 = .ok (.iload_n 3, 1) := by decide +kernel
theorem dX8_raises_60 : decode cX8_raises 60 = .ok (.dup2, 1) := by decide +kernel
theorem dX8_raises_61 : decode cX8_raises 61 = .ok (.iaload, 1) := by decide +kernel
theorem dX8_raises_62 : decode cX8_raises 62 = .ok (.iconst 1, 1) := by decide +kernel
theorem dX8_raises_63 : decode cX8_raises 63 = .ok (.iadd, 1) := by decide +kernel
theorem dX8_raises_64 : decode cX8_raises 64 = .ok (.iastore, 1) := by decide +kernel
theorem dX8_raises_65 : decode cX8_raises 65 = .ok (.iconst 1, 1) := by decide +kernel
theorem dX8_raises_66 : decode cX8_raises 66 = .ok (.ireturn, 1) := by decide +kernel
theorem dX8_raises_67 : decode cX8_raises 67 = .ok (.iinc 2 1, 3) := by decide +kernel
theorem dX8_raises_70 : decode cX8_raises 70 = .ok (.goto (-58), 3) := by decide +kernel
theorem dX8_raises_73 : decode cX8_raises 73 = .ok (.iinc 1 1, 3) := by decide +kernel
theorem dX8_raises_76 : decode cX8_raises 76 = .ok (.goto (-74), 3) := by decide +kernel
theorem dX8_raises_79 : decode cX8_raises 79 = .ok (.iconst 0, 1) := by decide +kernel
theorem dX8_raises_80 : decode cX8_raises 80 = .ok (.ireturn, 1) := by decide +kernel
theorem dX8_fit_0 : decode cX8_fit 0 = .ok (.iconst 1, 1) := by decide +kernel
theorem dX8_fit_1 : decode cX8_fit 1 = .ok (.istore_n 1, 1) := by decide +kernel
theorem dX8_fit_2 : decode cX8_fit 2 = .ok (.iload_n 1, 1) := by decide +kernel
theorem dX8_fit_3 : decode cX8_fit 3 = .ok (.aload_n 0, 1) := by decide +kernel
theorem dX8_fit_4 : decode cX8_fit 4 = .ok (.getfield 7, 3) := by decide +kernel
theorem dX8_fit_7 : decode cX8_fit 7 = .ok (.if_icmp .ge 37, 3) := by decide +kernel
theorem dX8_fit_10 : decode cX8_fit 10 = .ok (.aload_n 0, 1) := by decide +kernel
theorem dX8_fit_11 : decode cX8_fit 11 = .ok (.getfield 73, 3) := by decide +kernel
theorem dX8_fit_14 : decode cX8_fit 14 = .ok (.iload_n 1, 1) := by decide +kernel
theorem dX8_fit_15 : decode cX8_fit 15 = .ok (.aload_n 0, 1) := by decide +kernel
theorem dX8_fit_16 : decode cX8_fit 16 = .ok (.getfield 52, 3) := by decide +kernel
theorem dX8_fit_19 : decode cX8_fit 19 = .ok (.iload_n 1, 1) := by decide +kernel
theorem dX8_fit_20 : decode cX8_fit 20 = .ok (.iaload, 1) := by decide +kernel
theorem dX8_fit_21 : decode cX8_fit 21 = .ok (.iastore, 1) := by decide +kernel
theorem dX8_fit_22 : decode cX8_fit 22 = .ok (.aload_n 0, 1) := by decide +kernel
theorem dX8_fit_23 : decode cX8_fit 23 = .ok (.getfield 45, 3) := by decide +kernel
theorem dX8_fit_26 : decode cX8_fit 26 = .ok (.iload_n 1, 1) := by decide +kernel
theorem dX8_fit_27 : decode cX8_fit 27 = .ok (.baload, 1) := by decide +kernel
theorem dX8_fit_28 : decode cX8_fit 28 = .ok (.ifCond .eq 10, 3) := by decide +kernel
theorem dX8_fit_31 : decode cX8_fit 31 = .ok (.aload_n 0, 1) := by decide +kernel
theorem dX8_fit_32 : decode cX8_fit 32 = .ok (.getfield 52, 3) := by decide +kernel
theorem dX8_fit_35 : decode cX8_fit 35 = .ok (.iload_n 1, 1) := by decide +kernel
theorem dX8_fit_36 : decode cX8_fit 36 = .ok (.iconst 1, 1) := by decide +kernel
theorem dX8_fit_37 : decode cX8_fit 37 = .ok (.iastore, 1) := by decide +kernel
theorem dX8_fit_38 : decode cX8_fit 38 = .ok (.iinc 1 1, 3) := by decide +kernel
theorem dX8_fit_41 : decode cX8_fit 41 = .ok (.goto (-39), 3) := by decide +kernel
theorem dX8_fit_44 : decode cX8_fit 44 = .ok (.iconst 1, 1) := by decide +kernel
theorem dX8_fit_45 : decode cX8_fit 45 = .ok (.istore_n 1, 1) := by decide +kernel
theorem dX8_fit_46 : decode cX8_fit 46 = .ok (.iload_n 1, 1) := by decide +kernel
theorem dX8_fit_47 : decode cX8_fit 47 = .ok (.iconst 1, 1) := by decide +kernel
theorem dX8_fit_48 : decode cX8_fit 48 = .ok (.if_icmp .ne 11, 3) := by decide +kernel
theorem dX8_fit_51 : decode cX8_fit 51 = .ok (.aload_n 0, 1) := by decide +kernel
theorem dX8_fit_52 : decode cX8_fit 52 = .ok (.invokevirtual 173, 3) := by decide +kernel
theorem dX8_fit_55 : decode cX8_fit 55 = .ok (.istore_n 1, 1) := by decide +kernel
theorem dX8_fit_56 : decode cX8_fit 56 = .ok (.goto (-10), 3) := by decide +kernel
theorem dX8_fit_59 : decode cX8_fit 59 = .ok (.iload_n 1, 1) := by decide +kernel
theorem dX8_fit_60 : decode cX8_fit 60 = .ok (.ifCond .lt 10, 3) := by decide +kernel
theorem dX8_fit_63 : decode cX8_fit 63 = .ok (.aload_n 0, 1) := by decide +kernel
theorem dX8_fit_64 : decode cX8_fit 64 = .ok (.invokevirtual 169, 3) := by decide +kernel
theorem dX8_fit_67 : decode cX8_fit 67 = .ok (.ifCond .ne 33, 3) := by decide +kernel
theorem dX8_fit_70 : decode cX8_fit 70 = .ok (.iconst 1, 1) := by decide +kernel
theorem dX8_fit_71 : decode cX8_fit 71 = .ok (.istore_n 2, 1) := by decide +kernel
theorem dX8_fit_72 : decode cX8_fit 72 = .ok (.iload_n 2, 1) := by decide +kernel
theorem dX8_fit_73 : decode cX8_fit 73 = .ok (.aload_n 0, 1) := by decide +kernel
theorem dX8_fit_74 : decode cX8_fit 74 = .ok (.getfield 7, 3) := by decide +kernel
theorem dX8_fit_77 : decode cX8_fit 77 = .ok (.if_icmp .ge 21, 3) := by decide +kernel
theorem dX8_fit_80 : decode cX8_fit 80 = .ok (.aload_n 0, 1) := by decide +kernel
theorem dX8_fit_81 : decode cX8_fit 81 = .ok (.getfield 52, 3) := by decide +kernel
theorem dX8_fit_84 : decode cX8_fit 84 = .ok (.iload_n 2, 1) := by decide +kernel
theorem dX8_fit_85 : decode cX8_fit 85 = .ok (.aload_n 0, 1) := by decide +kernel
theorem dX8_fit_86 : decode cX8_fit 86 = .ok (.getfield 73, 3) := by decide +kernel
theorem dX8_fit_89 : decode cX8_fit 89 = .ok (.iload_n 2, 1) := by decide +kernel
theorem dX8_fit_90 : decode cX8_fit 90 = .ok (.iaload, 1) := by decide +kernel
theorem dX8_fit_91 : decode cX8_fit 91 = .ok (.iastore, 1) := by decide +kernel
theorem dX8_fit_92 : decode cX8_fit 92 = .ok (.iinc 2 1, 3) := by decide +kernel
theorem dX8_fit_95 : decode cX8_fit 95 = .ok (.goto (-23), 3) := by decide +kernel
theorem dX8_fit_98 : decode cX8_fit 98 = .ok (.iconst (-1), 1) := by decide +kernel
theorem dX8_fit_99 : decode cX8_fit 99 = .ok (.ireturn, 1) := by decide +kernel
theorem dX8_fit_100 : decode cX8_fit 100 = .ok (.aload_n 0, 1) := by decide +kernel
theorem dX8_fit_101 : decode cX8_fit 101 = .ok (.iconst 0, 1) := by decide +kernel
theorem dX8_fit_102 : decode cX8_fit 102 = .ok (.putfield 91, 3) := by decide +kernel
theorem dX8_fit_105 : decode cX8_fit 105 = .ok (.iconst 0, 1) := by decide +kernel
theorem dX8_fit_106 : decode cX8_fit 106 = .ok (.istore_n 2, 1) := by decide +kernel
theorem dX8_fit_107 : decode cX8_fit 107 = .ok (.iconst 1, 1) := by decide +kernel
theorem dX8_fit_108 : decode cX8_fit 108 = .ok (.istore_n 3, 1) := by decide +kernel
theorem dX8_fit_109 : decode cX8_fit 109 = .ok (.iload_n 3, 1) := by decide +kernel
theorem dX8_fit_110 : decode cX8_fit 110 = .ok (.aload_n 0, 1) := by decide +kernel
theorem dX8_fit_111 : decode cX8_fit 111 = .ok (.getfield 7, 3) := by decide +kernel
theorem dX8_fit_114 : decode cX8_fit 114 = .ok (.if_icmp .ge 31, 3) := by decide +kernel
theorem dX8_fit_117 : decode cX8_fit 117 = .ok (.iload_n 2, 1) := by decide +kernel
theorem dX8_fit_118 : decode cX8_fit 118 = .ok (.aload_n 0, 1) := by decide +kernel
theorem dX8_fit_119 : decode cX8_fit 119 = .ok (.getfield 45, 3) := by decide +kernel
theorem dX8_fit_122 : decode cX8_fit 122 = .ok (.iload_n 3, 1) := by decide +kernel
theorem dX8_fit_123 : decode cX8_fit 123 = .ok (.baload, 1) := by decide +kernel
theorem dX8_fit_124 : decode cX8_fit 124 = .ok (.ifCond .eq 12, 3) := by decide +kernel
theorem dX8_fit_127 : decode cX8_fit 127 = .ok (.aload_n 0, 1) := by decide +kernel
theorem dX8_fit_128 : decode cX8_fit 128 = .ok (.getfield 52, 3) := by decide +kernel
theorem dX8_fit_131 : decode cX8_fit 131 = .ok (.iload_n 3, 1) := by decide +kernel
theorem dX8_fit_132 : decode cX8_fit 132 = .ok (.iaload, 1) := by decide +kernel
theorem dX8_fit_133 : decode cX8_fit 133 = .ok (.goto 4, 3) := by decide +kernel
theorem dX8_fit_136 : decode cX8_fit 136 = .ok (.iconst 0, 1) := by decide +kernel
theorem dX8_fit_137 : decode cX8_fit 137 = .ok (.iadd, 1) := by decide +kernel
theorem dX8_fit_138 : decode cX8_fit 138 = .ok (.istore_n 2, 1) := by decide +kernel
theorem dX8_fit_139 : decode cX8_fit 139 = .ok (.iinc 3 1, 3) := by decide +kernel
theorem dX8_fit_142 : decode cX8_fit 142 = .ok (.goto (-33), 3) := by decide +kernel
theorem dX8_fit_145 : decode cX8_fit 145 = .ok (.iload_n 2, 1) := by decide +kernel
theorem dX8_fit_146 : decode cX8_fit 146 = .ok (.ireturn, 1) := by decide +kernel
theorem dX8_growth_0 : decode cX8_growth 0 = .ok (.ldc 22, 2) := by decide +kernel
theorem dX8_growth_2 : decode cX8_growth 2 = .ok (.istore_n 1, 1) := by decide +kernel
theorem dX8_growth_3 : decode cX8_growth 3 = .ok (.iconst 1, 1) := by decide +kernel
theorem dX8_growth_4 : decode cX8_growth 4 = .ok (.istore_n 2, 1) := by decide +kernel
theorem dX8_growth_5 : decode cX8_growth 5 = .ok (.iload_n 2, 1) := by decide +kernel
theorem dX8_growth_6 : decode cX8_growth 6 = .ok (.aload_n 0, 1) := by decide +kernel
theorem dX8_growth_7 : decode cX8_growth 7 = .ok (.getfield 7, 3) := by decide +kernel
theorem dX8_growth_10 : decode cX8_growth 10 = .ok (.if_icmp .ge 111, 3) := by decide +kernel
theorem dX8_growth_13 : decode cX8_growth 13 = .ok (.aload_n 0, 1) := by decide +kernel
theorem dX8_growth_14 : decode cX8_growth 14 = .ok (.iload_n 2, 1) := by decide +kernel
theorem dX8_growth_15 : decode cX8_growth 15 = .ok (.invokevirtual 144, 3) := by decide +kernel
theorem dX8_growth_18 : decode cX8_growth 18 = .ok (.i2l, 1) := by decide +kernel
theorem dX8_growth_19 : decode cX8_growth 19 = .ok (.lstore_n 3, 1) := by decide +kernel
theorem dX8_growth_20 : decode cX8_growth 20 = .ok (.aload_n 0, 1) := by decide +kernel
theorem dX8_growth_21 : decode cX8_growth 21 = .ok (.getfield 45, 3) := by decide +kernel
theorem dX8_growth_24 : decode cX8_growth 24 = .ok (.iload_n 2, 1) := by decide +kernel
theorem dX8_growth_25 : decode cX8_growth 25 = .ok (.baload, 1) := by decide +kernel
theorem dX8_growth_26 : decode cX8_growth 26 = .ok (.ifCond .eq 89, 3) := by decide +kernel
theorem dX8_growth_29 : decode cX8_growth 29 = .ok (.aload_n 0, 1) := by decide +kernel
theorem dX8_growth_30 : decode cX8_growth 30 = .ok (.getfield 36, 3) := by decide +kernel
theorem dX8_growth_33 : decode cX8_growth 33 = .ok (.aload_n 0, 1) := by decide +kernel
theorem dX8_growth_34 : decode cX8_growth 34 = .ok (.getfield 49, 3) := by decide +kernel
theorem dX8_growth_37 : decode cX8_growth 37 = .ok (.iload_n 2, 1) := by decide +kernel
theorem dX8_growth_38 : decode cX8_growth 38 = .ok (.iaload, 1) := by decide +kernel
theorem dX8_growth_39 : decode cX8_growth 39 = .ok (.iaload, 1) := by decide +kernel
theorem dX8_growth_40 : decode cX8_growth 40 = .ok (.ifCond .eq 75, 3) := by decide +kernel
theorem dX8_growth_43 : decode cX8_growth 43 = .ok (.lload_n 3, 1) := by decide +kernel
theorem dX8_growth_44 : decode cX8_growth 44 = .ok (.lconst 0, 1) := by decide +kernel
theorem dX8_growth_45 : decode cX8_growth 45 = .ok (.lcmp, 1) := by decide +kernel
theorem dX8_growth_46 : decode cX8_growth 46 = .ok (.ifCond .ne 6, 3) := by decide +kernel
theorem dX8_growth_49 : decode cX8_growth 49 = .ok (.goto 66, 3) := by decide +kernel
theorem dX8_growth_52 : decode cX8_growth 52 = .ok (.ldc2_w 177, 3) := by decide +kernel
theorem dX8_growth_55 : decode cX8_growth 55 = .ok (.aload_n 0, 1) := by decide +kernel
theorem dX8_growth_56 : decode cX8_growth 56 = .ok (.getfield 55, 3) := by decide +kernel
theorem dX8_growth_59 : decode cX8_growth 59 = .ok (.iload_n 2, 1) := by decide +kernel
theorem dX8_growth_60 : decode cX8_growth 60 = .ok (.iaload, 1) := by decide +kernel
theorem dX8_growth_61 : decode cX8_growth 61 = .ok (.i2l, 1) := by decide +kernel
theorem dX8_growth_62 : decode cX8_growth 62 = .ok (.lmul, 1) := by decide +kernel
theorem dX8_growth_63 : decode cX8_growth 63 = .ok (.aload_n 0, 1) := by decide +kernel
theorem dX8_growth_64 : decode cX8_growth 64 = .ok (.getfield 39, 3) := by decide +kernel
theorem dX8_growth_67 : decode cX8_growth 67 = .ok (.bipush 8, 2) := by decide +kernel
theorem dX8_growth_69 : decode cX8_growth 69 = .ok (.aload_n 0, 1) := by decide +kernel
theorem dX8_growth_70 : decode cX8_growth 70 = .ok (.getfield 49, 3) := by decide +kernel
theorem dX8_growth_73 : decode cX8_growth 73 = .ok (.iload_n 2, 1) := by decide +kernel
theorem dX8_growth_74 : decode cX8_growth 74 = .ok (.iaload, 1) := by decide +kernel
theorem dX8_growth_75 : decode cX8_growth 75 = .ok (.imul, 1) := by decide +kernel
theorem dX8_growth_76 : decode cX8_growth 76 = .ok (.iaload, 1) := by decide +kernel
theorem dX8_growth_77 : decode cX8_growth 77 = .ok (.i2l, 1) := by decide +kernel
theorem dX8_growth_78 : decode cX8_growth 78 = .ok (.lmul, 1) := by decide +kernel
theorem dX8_growth_79 : decode cX8_growth 79 = .ok (.lstore 5, 2) := by decide +kernel
theorem dX8_growth_81 : decode cX8_growth 81 = .ok (.lload 5, 2) := by decide +kernel
theorem dX8_growth_83 : decode cX8_growth 83 = .ok (.ldc2_w 103, 3) := by decide +kernel
theorem dX8_growth_86 : decode cX8_growth 86 = .ok (.lload_n 3, 1) := by decide +kernel
theorem dX8_growth_87 : decode cX8_growth 87 = .ok (.lmul, 1) := by decide +kernel
theorem dX8_growth_88 : decode cX8_growth 88 = .ok (.ladd, 1) := by decide +kernel
theorem dX8_growth_89 : decode cX8_growth 89 = .ok (.lconst 1, 1) := by decide +kernel
theorem dX8_growth_90 : decode cX8_growth 90 = .ok (.lsub, 1) := by decide +kernel
theorem dX8_growth_91 : decode cX8_growth 91 = .ok (.ldc2_w 103, 3) := by decide +kernel
theorem dX8_growth_94 : decode cX8_growth 94 = .ok (.lload_n 3, 1) := by decide +kernel
theorem dX8_growth_95 : decode cX8_growth 95 = .ok (.lmul, 1) := by decide +kernel
theorem dX8_growth_96 : decode cX8_growth 96 = .ok (.ldiv, 1) := by decide +kernel
theorem dX8_growth_97 : decode cX8_growth 97 = .ok (.lstore 7, 2) := by decide +kernel
theorem dX8_growth_99 : decode cX8_growth 99 = .ok (.lload 7, 2) := by decide +kernel
theorem dX8_growth_101 : decode cX8_growth 101 = .ok (.lconst 1, 1) := by decide +kernel
theorem dX8_growth_102 : decode cX8_growth 102 = .ok (.lsub, 1) := by decide +kernel
theorem dX8_growth_103 : decode cX8_growth 103 = .ok (.iload_n 1, 1) := by decide +kernel
theorem dX8_growth_104 : decode cX8_growth 104 = .ok (.i2l, 1) := by decide +kernel
theorem dX8_growth_105 : decode cX8_growth 105 = .ok (.lcmp, 1) := by decide +kernel
theorem dX8_growth_106 : decode cX8_growth 106 = .ok (.ifCond .ge 9, 3) := by decide +kernel
theorem dX8_growth_109 : decode cX8_growth 109 = .ok (.lload 7, 2) := by decide +kernel
theorem dX8_growth_111 : decode cX8_growth 111 = .ok (.lconst 1, 1) := by decide +kernel
theorem dX8_growth_112 : decode cX8_growth 112 = .ok (.lsub, 1) := by decide +kernel
theorem dX8_growth_113 : decode cX8_growth 113 = .ok (.l2i, 1) := by decide +kernel
theorem dX8_growth_114 : decode cX8_growth 114 = .ok (.istore_n 1, 1) := by decide +kernel
theorem dX8_growth_115 : decode cX8_growth 115 = .ok (.iinc 2 1, 3) := by decide +kernel
theorem dX8_growth_118 : decode cX8_growth 118 = .ok (.goto (-113), 3) := by decide +kernel
theorem dX8_growth_121 : decode cX8_growth 121 = .ok (.iload_n 1, 1) := by decide +kernel
theorem dX8_growth_122 : decode cX8_growth 122 = .ok (.ireturn, 1) := by decide +kernel
theorem dX8_goal_0 : decode cX8_goal 0 = .ok (.aload_n 0, 1) := by decide +kernel
theorem dX8_goal_1 : decode cX8_goal 1 = .ok (.iconst 1, 1) := by decide +kernel
theorem dX8_goal_2 : decode cX8_goal 2 = .ok (.putfield 179, 3) := by decide +kernel
theorem dX8_goal_5 : decode cX8_goal 5 = .ok (.iconst 0, 1) := by decide +kernel
theorem dX8_goal_6 : decode cX8_goal 6 = .ok (.istore_n 1, 1) := by decide +kernel
theorem dX8_goal_7 : decode cX8_goal 7 = .ok (.iconst 0, 1) := by decide +kernel
theorem dX8_goal_8 : decode cX8_goal 8 = .ok (.istore_n 2, 1) := by decide +kernel
theorem dX8_goal_9 : decode cX8_goal 9 = .ok (.iload_n 2, 1) := by decide +kernel
theorem dX8_goal_10 : decode cX8_goal 10 = .ok (.bipush 30, 2) := by decide +kernel
theorem dX8_goal_12 : decode cX8_goal 12 = .ok (.if_icmp .ge 63, 3) := by decide +kernel
theorem dX8_goal_15 : decode cX8_goal 15 = .ok (.aload_n 0, 1) := by decide +kernel
theorem dX8_goal_16 : decode cX8_goal 16 = .ok (.getfield 61, 3) := by decide +kernel
theorem dX8_goal_19 : decode cX8_goal 19 = .ok (.iload_n 2, 1) := by decide +kernel
theorem dX8_goal_20 : decode cX8_goal 20 = .ok (.iload_n 2, 1) := by decide +kernel
theorem dX8_goal_21 : decode cX8_goal 21 = .ok (.ifCond .le 29, 3) := by decide +kernel
theorem dX8_goal_24 : decode cX8_goal 24 = .ok (.iload_n 2, 1) := by decide +kernel
theorem dX8_goal_25 : decode cX8_goal 25 = .ok (.aload_n 0, 1) := by decide +kernel
theorem dX8_goal_26 : decode cX8_goal 26 = .ok (.getfield 7, 3) := by decide +kernel
theorem dX8_goal_29 : decode cX8_goal 29 = .ok (.if_icmp .ge 21, 3) := by decide +kernel
theorem dX8_goal_32 : decode cX8_goal 32 = .ok (.aload_n 0, 1) := by decide +kernel
theorem dX8_goal_33 : decode cX8_goal 33 = .ok (.getfield 45, 3) := by decide +kernel
theorem dX8_goal_36 : decode cX8_goal 36 = .ok (.iload_n 2, 1) := by decide +kernel
theorem dX8_goal_37 : decode cX8_goal 37 = .ok (.baload, 1) := by decide +kernel
theorem dX8_goal_38 : decode cX8_goal 38 = .ok (.ifCond .eq 12, 3) := by decide +kernel
theorem dX8_goal_41 : decode cX8_goal 41 = .ok (.aload_n 0, 1) := by decide +kernel
theorem dX8_goal_42 : decode cX8_goal 42 = .ok (.getfield 52, 3) := by decide +kernel
theorem dX8_goal_45 : decode cX8_goal 45 = .ok (.iload_n 2, 1) := by decide +kernel
theorem dX8_goal_46 : decode cX8_goal 46 = .ok (.iaload, 1) := by decide +kernel
theorem dX8_goal_47 : decode cX8_goal 47 = .ok (.goto 4, 3) := by decide +kernel
theorem dX8_goal_50 : decode cX8_goal 50 = .ok (.iconst (-1), 1) := by decide +kernel
theorem dX8_goal_51 : decode cX8_goal 51 = .ok (.iastore, 1) := by decide +kernel
theorem dX8_goal_52 : decode cX8_goal 52 = .ok (.iload_n 1, 1) := by decide +kernel
theorem dX8_goal_53 : decode cX8_goal 53 = .ok (.aload_n 0, 1) := by decide +kernel
theorem dX8_goal_54 : decode cX8_goal 54 = .ok (.getfield 61, 3) := by decide +kernel
theorem dX8_goal_57 : decode cX8_goal 57 = .ok (.iload_n 2, 1) := by decide +kernel
theorem dX8_goal_58 : decode cX8_goal 58 = .ok (.iaload, 1) := by decide +kernel
theorem dX8_goal_59 : decode cX8_goal 59 = .ok (.ifCond .ge 7, 3) := by decide +kernel
theorem dX8_goal_62 : decode cX8_goal 62 = .ok (.iconst 0, 1) := by decide +kernel
theorem dX8_goal_63 : decode cX8_goal 63 = .ok (.goto 4, 3) := by decide +kernel
theorem dX8_goal_66 : decode cX8_goal 66 = .ok (.iconst 1, 1) := by decide +kernel
theorem dX8_goal_67 : decode cX8_goal 67 = .ok (.iadd, 1) := by decide +kernel
theorem dX8_goal_68 : decode cX8_goal 68 = .ok (.istore_n 1, 1) := by decide +kernel
theorem dX8_goal_69 : decode cX8_goal 69 = .ok (.iinc 2 1, 3) := by decide +kernel
theorem dX8_goal_72 : decode cX8_goal 72 = .ok (.goto (-63), 3) := by decide +kernel
theorem dX8_goal_75 : decode cX8_goal 75 = .ok (.iload_n 1, 1) := by decide +kernel
theorem dX8_goal_76 : decode cX8_goal 76 = .ok (.ireturn, 1) := by decide +kernel
theorem dX8_take_0 : decode cX8_take 0 = .ok (.iconst 0, 1) := by decide +kernel
theorem dX8_take_1 : decode cX8_take 1 = .ok (.istore_n 2, 1) := by decide +kernel
theorem dX8_take_2 : decode cX8_take 2 = .ok (.iload_n 2, 1) := by decide +kernel
theorem dX8_take_3 : decode cX8_take 3 = .ok (.aload_n 0, 1) := by decide +kernel
theorem dX8_take_4 : decode cX8_take 4 = .ok (.getfield 182, 3) := by decide +kernel
theorem dX8_take_7 : decode cX8_take 7 = .ok (.if_icmp .ge 54, 3) := by decide +kernel
theorem dX8_take_10 : decode cX8_take 10 = .ok (.aload_n 0, 1) := by decide +kernel
theorem dX8_take_11 : decode cX8_take 11 = .ok (.getfield 52, 3) := by decide +kernel
theorem dX8_take_14 : decode cX8_take 14 = .ok (.aload_n 0, 1) := by decide +kernel
theorem dX8_take_15 : decode cX8_take 15 = .ok (.getfield 76, 3) := by decide +kernel
theorem dX8_take_18 : decode cX8_take 18 = .ok (.iload_n 2, 1) := by decide +kernel
theorem dX8_take_19 : decode cX8_take 19 = .ok (.iaload, 1) := by decide +kernel
theorem dX8_take_20 : decode cX8_take 20 = .ok (.iload_n 1, 1) := by decide +kernel
theorem dX8_take_21 : decode cX8_take 21 = .ok (.iload_n 2, 1) := by decide +kernel
theorem dX8_take_22 : decode cX8_take 22 = .ok (.ishr, 1) := by decide +kernel
theorem dX8_take_23 : decode cX8_take 23 = .ok (.iconst 1, 1) := by decide +kernel
theorem dX8_take_24 : decode cX8_take 24 = .ok (.iand, 1) := by decide +kernel
theorem dX8_take_25 : decode cX8_take 25 = .ok (.iconst 1, 1) := by decide +kernel
theorem dX8_take_26 : decode cX8_take 26 = .ok (.if_icmp .ne 17, 3) := by decide +kernel
theorem dX8_take_29 : decode cX8_take 29 = .ok (.aload_n 0, 1) := by decide +kernel
theorem dX8_take_30 : decode cX8_take 30 = .ok (.getfield 61, 3) := by decide +kernel
theorem dX8_take_33 : decode cX8_take 33 = .ok (.aload_n 0, 1) := by decide +kernel
theorem dX8_take_34 : decode cX8_take 34 = .ok (.getfield 76, 3) := by decide +kernel
theorem dX8_take_37 : decode cX8_take 37 = .ok (.iload_n 2, 1) := by decide +kernel
theorem dX8_take_38 : decode cX8_take 38 = .ok (.iaload, 1) := by decide +kernel
theorem dX8_take_39 : decode cX8_take 39 = .ok (.iaload, 1) := by decide +kernel
theorem dX8_take_40 : decode cX8_take 40 = .ok (.goto 14, 3) := by decide +kernel
theorem dX8_take_43 : decode cX8_take 43 = .ok (.aload_n 0, 1) := by decide +kernel
theorem dX8_take_44 : decode cX8_take 44 = .ok (.getfield 73, 3) := by decide +kernel
theorem dX8_take_47 : decode cX8_take 47 = .ok (.aload_n 0, 1) := by decide +kernel
theorem dX8_take_48 : decode cX8_take 48 = .ok (.getfield 76, 3) := by decide +kernel
theorem dX8_take_51 : decode cX8_take 51 = .ok (.iload_n 2, 1) := by decide +kernel
theorem dX8_take_52 : decode cX8_take 52 = .ok (.iaload, 1) := by decide +kernel
theorem dX8_take_53 : decode cX8_take 53 = .ok (.iaload, 1) := by decide +kernel
theorem dX8_take_54 : decode cX8_take 54 = .ok (.iastore, 1) := by decide +kernel
theorem dX8_take_55 : decode cX8_take 55 = .ok (.iinc 2 1, 3) := by decide +kernel
theorem dX8_take_58 : decode cX8_take 58 = .ok (.goto (-56), 3) := by decide +kernel
theorem dX8_take_61 : decode cX8_take 61 = .ok (.return_, 1) := by decide +kernel
theorem dX8_change_0 : decode cX8_change 0 = .ok (.aload_n 0, 1) := by decide +kernel
theorem dX8_change_1 : decode cX8_change 1 = .ok (.getfield 179, 3) := by decide +kernel
theorem dX8_change_4 : decode cX8_change 4 = .ok (.ifCond .ne 5, 3) := by decide +kernel
theorem dX8_change_7 : decode cX8_change 7 = .ok (.iconst (-1), 1) := by decide +kernel
theorem dX8_change_8 : decode cX8_change 8 = .ok (.ireturn, 1) := by decide +kernel
theorem dX8_change_9 : decode cX8_change 9 = .ok (.aload_n 0, 1) := by decide +kernel
theorem dX8_change_10 : decode cX8_change 10 = .ok (.iconst 0, 1) := by decide +kernel
theorem dX8_change_11 : decode cX8_change 11 = .ok (.putfield 182, 3) := by decide +kernel
theorem dX8_change_14 : decode cX8_change 14 = .ok (.iconst 1, 1) := by decide +kernel
theorem dX8_change_15 : decode cX8_change 15 = .ok (.istore_n 1, 1) := by decide +kernel
theorem dX8_change_16 : decode cX8_change 16 = .ok (.iload_n 1, 1) := by decide +kernel
theorem dX8_change_17 : decode cX8_change 17 = .ok (.aload_n 0, 1) := by decide +kernel
theorem dX8_change_18 : decode cX8_change 18 = .ok (.getfield 7, 3) := by decide +kernel
theorem dX8_change_21 : decode cX8_change 21 = .ok (.if_icmp .ge 65, 3) := by decide +kernel
theorem dX8_change_24 : decode cX8_change 24 = .ok (.aload_n 0, 1) := by decide +kernel
theorem dX8_change_25 : decode cX8_change 25 = .ok (.getfield 45, 3) := by decide +kernel
theorem dX8_change_28 : decode cX8_change 28 = .ok (.iload_n 1, 1) := by decide +kernel
theorem dX8_change_29 : decode cX8_change 29 = .ok (.baload, 1) := by decide +kernel
theorem dX8_change_30 : decode cX8_change 30 = .ok (.ifCond .eq 50, 3) := by decide +kernel
theorem dX8_change_33 : decode cX8_change 33 = .ok (.aload_n 0, 1) := by decide +kernel
theorem dX8_change_34 : decode cX8_change 34 = .ok (.getfield 61, 3) := by decide +kernel
theorem dX8_change_37 : decode cX8_change 37 = .ok (.iload_n 1, 1) := by decide +kernel
theorem dX8_change_38 : decode cX8_change 38 = .ok (.iaload, 1) := by decide +kernel
theorem dX8_change_39 : decode cX8_change 39 = .ok (.ifCond .lt 41, 3) := by decide +kernel
theorem dX8_change_42 : decode cX8_change 42 = .ok (.aload_n 0, 1) := by decide +kernel
theorem dX8_change_43 : decode cX8_change 43 = .ok (.getfield 61, 3) := by decide +kernel
theorem dX8_change_46 : decode cX8_change 46 = .ok (.iload_n 1, 1) := by decide +kernel
theorem dX8_change_47 : decode cX8_change 47 = .ok (.iaload, 1) := by decide +kernel
theorem dX8_change_48 : decode cX8_change 48 = .ok (.aload_n 0, 1) := by decide +kernel
theorem dX8_change_49 : decode cX8_change 49 = .ok (.getfield 52, 3) := by decide +kernel
theorem dX8_change_52 : decode cX8_change 52 = .ok (.iload_n 1, 1) := by decide +kernel
theorem dX8_change_53 : decode cX8_change 53 = .ok (.iaload, 1) := by decide +kernel
theorem dX8_change_54 : decode cX8_change 54 = .ok (.if_icmp .ne 6, 3) := by decide +kernel
theorem dX8_change_57 : decode cX8_change 57 = .ok (.goto 23, 3) := by decide +kernel
theorem dX8_change_60 : decode cX8_change 60 = .ok (.aload_n 0, 1) := by decide +kernel
theorem dX8_change_61 : decode cX8_change 61 = .ok (.getfield 76, 3) := by decide +kernel
theorem dX8_change_64 : decode cX8_change 64 = .ok (.aload_n 0, 1) := by decide +kernel
theorem dX8_change_65 : decode cX8_change 65 = .ok (.getfield 182, 3) := by decide +kernel
theorem dX8_change_68 : decode cX8_change 68 = .ok (.iload_n 1, 1) := by decide +kernel
theorem dX8_change_69 : decode cX8_change 69 = .ok (.iastore, 1) := by decide +kernel
theorem dX8_change_70 : decode cX8_change 70 = .ok (.aload_n 0, 1) := by decide +kernel
theorem dX8_change_71 : decode cX8_change 71 = .ok (.dup, 1) := by decide +kernel
theorem dX8_change_72 : decode cX8_change 72 = .ok (.getfield 182, 3) := by decide +kernel
theorem dX8_change_75 : decode cX8_change 75 = .ok (.iconst 1, 1) := by decide +kernel
theorem dX8_change_76 : decode cX8_change 76 = .ok (.iadd, 1) := by decide +kernel
theorem dX8_change_77 : decode cX8_change 77 = .ok (.putfield 182, 3) := by decide +kernel
theorem dX8_change_80 : decode cX8_change 80 = .ok (.iinc 1 1, 3) := by decide +kernel
theorem dX8_change_83 : decode cX8_change 83 = .ok (.goto (-67), 3) := by decide +kernel
theorem dX8_change_86 : decode cX8_change 86 = .ok (.aload_n 0, 1) := by decide +kernel
theorem dX8_change_87 : decode cX8_change 87 = .ok (.getfield 182, 3) := by decide +kernel
theorem dX8_change_90 : decode cX8_change 90 = .ok (.bipush 10, 2) := by decide +kernel
theorem dX8_change_92 : decode cX8_change 92 = .ok (.if_icmp .le 5, 3) := by decide +kernel
theorem dX8_change_95 : decode cX8_change 95 = .ok (.iconst (-1), 1) := by decide +kernel
theorem dX8_change_96 : decode cX8_change 96 = .ok (.ireturn, 1) := by decide +kernel
theorem dX8_change_97 : decode cX8_change 97 = .ok (.iconst 0, 1) := by decide +kernel
theorem dX8_change_98 : decode cX8_change 98 = .ok (.istore_n 1, 1) := by decide +kernel
theorem dX8_change_99 : decode cX8_change 99 = .ok (.iload_n 1, 1) := by decide +kernel
theorem dX8_change_100 : decode cX8_change 100 = .ok (.aload_n 0, 1) := by decide +kernel
theorem dX8_change_101 : decode cX8_change 101 = .ok (.getfield 182, 3) := by decide +kernel
theorem dX8_change_104 : decode cX8_change 104 = .ok (.if_icmp .ge 31, 3) := by decide +kernel
theorem dX8_change_107 : decode cX8_change 107 = .ok (.aload_n 0, 1) := by decide +kernel
theorem dX8_change_108 : decode cX8_change 108 = .ok (.getfield 73, 3) := by decide +kernel
theorem dX8_change_111 : decode cX8_change 111 = .ok (.aload_n 0, 1) := by decide +kernel
theorem dX8_change_112 : decode cX8_change 112 = .ok (.getfield 76, 3) := by decide +kernel
theorem dX8_change_115 : decode cX8_change 115 = .ok (.iload_n 1, 1) := by decide +kernel
theorem dX8_change_116 : decode cX8_change 116 = .ok (.iaload, 1) := by decide +kernel
theorem dX8_change_117 : decode cX8_change 117 = .ok (.aload_n 0, 1) := by decide +kernel
theorem dX8_change_118 : decode cX8_change 118 = .ok (.getfield 52, 3) := by decide +kernel
theorem dX8_change_121 : decode cX8_change 121 = .ok (.aload_n 0, 1) := by decide +kernel
theorem dX8_change_122 : decode cX8_change 122 = .ok (.getfield 76, 3) := by decide +kernel
theorem dX8_change_125 : decode cX8_change 125 = .ok (.iload_n 1, 1) := by decide +kernel
theorem dX8_change_126 : decode cX8_change 126 = .ok (.iaload, 1) := by decide +kernel
theorem dX8_change_127 : decode cX8_change 127 = .ok (.iaload, 1) := by decide +kernel
theorem dX8_change_128 : decode cX8_change 128 = .ok (.iastore, 1) := by decide +kernel
theorem dX8_change_129 : decode cX8_change 129 = .ok (.iinc 1 1, 3) := by decide +kernel
theorem dX8_change_132 : decode cX8_change 132 = .ok (.goto (-33), 3) := by decide +kernel
theorem dX8_change_135 : decode cX8_change 135 = .ok (.iconst 1, 1) := by decide +kernel
theorem dX8_change_136 : decode cX8_change 136 = .ok (.aload_n 0, 1) := by decide +kernel
theorem dX8_change_137 : decode cX8_change 137 = .ok (.getfield 182, 3) := by decide +kernel
theorem dX8_change_140 : decode cX8_change 140 = .ok (.ishl, 1) := by decide +kernel
theorem dX8_change_141 : decode cX8_change 141 = .ok (.iconst 1, 1) := by decide +kernel
theorem dX8_change_142 : decode cX8_change 142 = .ok (.isub, 1) := by decide +kernel
theorem dX8_change_143 : decode cX8_change 143 = .ok (.istore_n 1, 1) := by decide +kernel
theorem dX8_change_144 : decode cX8_change 144 = .ok (.iload_n 1, 1) := by decide +kernel
theorem dX8_change_145 : decode cX8_change 145 = .ok (.istore_n 2, 1) := by decide +kernel
theorem dX8_change_146 : decode cX8_change 146 = .ok (.iload_n 2, 1) := by decide +kernel
theorem dX8_change_147 : decode cX8_change 147 = .ok (.ifCond .lt 100, 3) := by decide +kernel
theorem dX8_change_150 : decode cX8_change 150 = .ok (.iload_n 2, 1) := by decide +kernel
theorem dX8_change_151 : decode cX8_change 151 = .ok (.iload_n 1, 1) := by decide +kernel
theorem dX8_change_152 : decode cX8_change 152 = .ok (.if_icmp .ne 7, 3) := by decide +kernel
theorem dX8_change_155 : decode cX8_change 155 = .ok (.iconst 1, 1) := by decide +kernel
theorem dX8_change_156 : decode cX8_change 156 = .ok (.goto 4, 3) := by decide +kernel
theorem dX8_change_159 : decode cX8_change 159 = .ok (.iconst 0, 1) := by decide +kernel
theorem dX8_change_160 : decode cX8_change 160 = .ok (.istore_n 3, 1) := by decide +kernel
theorem dX8_change_161 : decode cX8_change 161 = .ok (.iconst 0, 1) := by decide +kernel
theorem dX8_change_162 : decode cX8_change 162 = .ok (.istore 4, 2) := by decide +kernel
theorem dX8_change_164 : decode cX8_change 164 = .ok (.iload 4, 2) := by decide +kernel
theorem dX8_change_166 : decode cX8_change 166 = .ok (.aload_n 0, 1) := by decide +kernel
theorem dX8_change_167 : decode cX8_change 167 = .ok (.getfield 182, 3) := by decide +kernel
theorem dX8_change_170 : decode cX8_change 170 = .ok (.if_icmp .ge 43, 3) := by decide +kernel
theorem dX8_change_173 : decode cX8_change 173 = .ok (.iload_n 3, 1) := by decide +kernel
theorem dX8_change_174 : decode cX8_change 174 = .ok (.ifCond .ne 27, 3) := by decide +kernel
theorem dX8_change_177 : decode cX8_change 177 = .ok (.iload_n 2, 1) := by decide +kernel
theorem dX8_change_178 : decode cX8_change 178 = .ok (.iload 4, 2) := by decide +kernel
theorem dX8_change_180 : decode cX8_change 180 = .ok (.ishr, 1) := by decide +kernel
theorem dX8_change_181 : decode cX8_change 181 = .ok (.iconst 1, 1) := by decide +kernel
theorem dX8_change_182 : decode cX8_change 182 = .ok (.iand, 1) := by decide +kernel
theorem dX8_change_183 : decode cX8_change 183 = .ok (.ifCond .ne 22, 3) := by decide +kernel
theorem dX8_change_186 : decode cX8_change 186 = .ok (.aload_n 0, 1) := by decide +kernel
theorem dX8_change_187 : decode cX8_change 187 = .ok (.getfield 79, 3) := by decide +kernel
theorem dX8_change_190 : decode cX8_change 190 = .ok (.iload_n 2, 1) := by decide +kernel
theorem dX8_change_191 : decode cX8_change 191 = .ok (.iconst 1, 1) := by decide +kernel
theorem dX8_change_192 : decode cX8_change 192 = .ok (.iload 4, 2) := by decide +kernel
theorem dX8_change_194 : decode cX8_change 194 = .ok (.ishl, 1) := by decide +kernel
theorem dX8_change_195 : decode cX8_change 195 = .ok (.ior, 1) := by decide +kernel
theorem dX8_change_196 : decode cX8_change 196 = .ok (.baload, 1) := by decide +kernel
theorem dX8_change_197 : decode cX8_change 197 = .ok (.iconst 1, 1) := by decide +kernel
theorem dX8_change_198 : decode cX8_change 198 = .ok (.if_icmp .ne 7, 3) := by decide +kernel
theorem dX8_change_201 : decode cX8_change 201 = .ok (.iconst 1, 1) := by decide +kernel
theorem dX8_change_202 : decode cX8_change 202 = .ok (.goto 4, 3) := by decide +kernel
theorem dX8_change_205 : decode cX8_change 205 = .ok (.iconst 0, 1) := by decide +kernel
theorem dX8_change_206 : decode cX8_change 206 = .ok (.istore_n 3, 1) := by decide +kernel
theorem dX8_change_207 : decode cX8_change 207 = .ok (.iinc 4 1, 3) := by decide +kernel
theorem dX8_change_210 : decode cX8_change 210 = .ok (.goto (-46), 3) := by decide +kernel
theorem dX8_change_213 : decode cX8_change 213 = .ok (.aload_n 0, 1) := by decide +kernel
theorem dX8_change_214 : decode cX8_change 214 = .ok (.iload_n 2, 1) := by decide +kernel
theorem dX8_change_215 : decode cX8_change 215 = .ok (.invokevirtual 185, 3) := by decide +kernel
theorem dX8_change_218 : decode cX8_change 218 = .ok (.aload_n 0, 1) := by decide +kernel
theorem dX8_change_219 : decode cX8_change 219 = .ok (.getfield 79, 3) := by decide +kernel
theorem dX8_change_222 : decode cX8_change 222 = .ok (.iload_n 2, 1) := by decide +kernel
theorem dX8_change_223 : decode cX8_change 223 = .ok (.iload_n 3, 1) := by decide +kernel
theorem dX8_change_224 : decode cX8_change 224 = .ok (.ifCond .eq 14, 3) := by decide +kernel
theorem dX8_change_227 : decode cX8_change 227 = .ok (.aload_n 0, 1) := by decide +kernel
theorem dX8_change_228 : decode cX8_change 228 = .ok (.invokevirtual 169, 3) := by decide +kernel
theorem dX8_change_231 : decode cX8_change 231 = .ok (.ifCond .eq 7, 3) := by decide +kernel
theorem dX8_change_234 : decode cX8_change 234 = .ok (.iconst 1, 1) := by decide +kernel
theorem dX8_change_235 : decode cX8_change 235 = .ok (.goto 4, 3) := by decide +kernel
theorem dX8_change_238 : decode cX8_change 238 = .ok (.iconst 2, 1) := by decide +kernel
theorem dX8_change_239 : decode cX8_change 239 = .ok (.i2b, 1) := by decide +kernel
theorem dX8_change_240 : decode cX8_change 240 = .ok (.bastore, 1) := by decide +kernel
theorem dX8_change_241 : decode cX8_change 241 = .ok (.iinc 2 (-1), 3) := by decide +kernel
theorem dX8_change_244 : decode cX8_change 244 = .ok (.goto (-98), 3) := by decide +kernel
theorem dX8_change_247 : decode cX8_change 247 = .ok (.aload_n 0, 1) := by decide +kernel
theorem dX8_change_248 : decode cX8_change 248 = .ok (.iconst 0, 1) := by decide +kernel
theorem dX8_change_249 : decode cX8_change 249 = .ok (.invokevirtual 185, 3) := by decide +kernel
theorem dX8_change_252 : decode cX8_change 252 = .ok (.aload_n 0, 1) := by decide +kernel
theorem dX8_change_253 : decode cX8_change 253 = .ok (.getfield 79, 3) := by decide +kernel
theorem dX8_change_256 : decode cX8_change 256 = .ok (.iconst 0, 1) := by decide +kernel
theorem dX8_change_257 : decode cX8_change 257 = .ok (.baload, 1) := by decide +kernel
theorem dX8_change_258 : decode cX8_change 258 = .ok (.iconst 1, 1) := by decide +kernel
theorem dX8_change_259 : decode cX8_change 259 = .ok (.if_icmp .eq 5, 3) := by decide +kernel
theorem dX8_change_262 : decode cX8_change 262 = .ok (.iconst (-1), 1) := by decide +kernel
theorem dX8_change_263 : decode cX8_change 263 = .ok (.ireturn, 1) := by decide +kernel
theorem dX8_change_264 : decode cX8_change 264 = .ok (.aload_n 0, 1) := by decide +kernel
theorem dX8_change_265 : decode cX8_change 265 = .ok (.iconst 0, 1) := by decide +kernel
theorem dX8_change_266 : decode cX8_change 266 = .ok (.putfield 189, 3) := by decide +kernel
theorem dX8_change_269 : decode cX8_change 269 = .ok (.iconst 0, 1) := by decide +kernel
theorem dX8_change_270 : decode cX8_change 270 = .ok (.istore_n 2, 1) := by decide +kernel
theorem dX8_change_271 : decode cX8_change 271 = .ok (.iload_n 2, 1) := by decide +kernel
theorem dX8_change_272 : decode cX8_change 272 = .ok (.iload_n 1, 1) := by decide +kernel
theorem dX8_change_273 : decode cX8_change 273 = .ok (.if_icmp .eq 68, 3) := by decide +kernel
theorem dX8_change_276 : decode cX8_change 276 = .ok (.iconst 0, 1) := by decide +kernel
theorem dX8_change_277 : decode cX8_change 277 = .ok (.istore_n 3, 1) := by decide +kernel
theorem dX8_change_278 : decode cX8_change 278 = .ok (.iload_n 2, 1) := by decide +kernel
theorem dX8_change_279 : decode cX8_change 279 = .ok (.iload_n 3, 1) := by decide +kernel
theorem dX8_change_280 : decode cX8_change 280 = .ok (.ishr, 1) := by decide +kernel
theorem dX8_change_281 : decode cX8_change 281 = .ok (.iconst 1, 1) := by decide +kernel
theorem dX8_change_282 : decode cX8_change 282 = .ok (.iand, 1) := by decide +kernel
theorem dX8_change_283 : decode cX8_change 283 = .ok (.iconst 1, 1) := by decide +kernel
theorem dX8_change_284 : decode cX8_change 284 = .ok (.if_icmp .eq 17, 3) := by decide +kernel
theorem dX8_change_287 : decode cX8_change 287 = .ok (.aload_n 0, 1) := by decide +kernel
theorem dX8_change_288 : decode cX8_change 288 = .ok (.getfield 79, 3) := by decide +kernel
theorem dX8_change_291 : decode cX8_change 291 = .ok (.iload_n 2, 1) := by decide +kernel
theorem dX8_change_292 : decode cX8_change 292 = .ok (.iconst 1, 1) := by decide +kernel
theorem dX8_change_293 : decode cX8_change 293 = .ok (.iload_n 3, 1) := by decide +kernel
theorem dX8_change_294 : decode cX8_change 294 = .ok (.ishl, 1) := by decide +kernel
theorem dX8_change_295 : decode cX8_change 295 = .ok (.ior, 1) := by decide +kernel
theorem dX8_change_296 : decode cX8_change 296 = .ok (.baload, 1) := by decide +kernel
theorem dX8_change_297 : decode cX8_change 297 = .ok (.iconst 1, 1) := by decide +kernel
theorem dX8_change_298 : decode cX8_change 298 = .ok (.if_icmp .eq 9, 3) := by decide +kernel
theorem dX8_change_301 : decode cX8_change 301 = .ok (.iinc 3 1, 3) := by decide +kernel
theorem dX8_change_304 : decode cX8_change 304 = .ok (.goto (-26), 3) := by decide +kernel
theorem dX8_change_307 : decode cX8_change 307 = .ok (.aload_n 0, 1) := by decide +kernel
theorem dX8_change_308 : decode cX8_change 308 = .ok (.getfield 70, 3) := by decide +kernel
theorem dX8_change_311 : decode cX8_change 311 = .ok (.aload_n 0, 1) := by decide +kernel
theorem dX8_change_312 : decode cX8_change 312 = .ok (.getfield 189, 3) := by decide +kernel
theorem dX8_change_315 : decode cX8_change 315 = .ok (.aload_n 0, 1) := by decide +kernel
theorem dX8_change_316 : decode cX8_change 316 = .ok (.getfield 76, 3) := by decide +kernel
theorem dX8_change_319 : decode cX8_change 319 = .ok (.iload_n 3, 1) := by decide +kernel
theorem dX8_change_320 : decode cX8_change 320 = .ok (.iaload, 1) := by decide +kernel
theorem dX8_change_321 : decode cX8_change 321 = .ok (.iastore, 1) := by decide +kernel
theorem dX8_change_322 : decode cX8_change 322 = .ok (.aload_n 0, 1) := by decide +kernel
theorem dX8_change_323 : decode cX8_change 323 = .ok (.dup, 1) := by decide +kernel
theorem dX8_change_324 : decode cX8_change 324 = .ok (.getfield 189, 3) := by decide +kernel
theorem dX8_change_327 : decode cX8_change 327 = .ok (.iconst 1, 1) := by decide +kernel
theorem dX8_change_328 : decode cX8_change 328 = .ok (.iadd, 1) := by decide +kernel
theorem dX8_change_329 : decode cX8_change 329 = .ok (.putfield 189, 3) := by decide +kernel
theorem dX8_change_332 : decode cX8_change 332 = .ok (.iload_n 2, 1) := by decide +kernel
theorem dX8_change_333 : decode cX8_change 333 = .ok (.iconst 1, 1) := by decide +kernel
theorem dX8_change_334 : decode cX8_change 334 = .ok (.iload_n 3, 1) := by decide +kernel
theorem dX8_change_335 : decode cX8_change 335 = .ok (.ishl, 1) := by decide +kernel
theorem dX8_change_336 : decode cX8_change 336 = .ok (.ior, 1) := by decide +kernel
theorem dX8_change_337 : decode cX8_change 337 = .ok (.istore_n 2, 1) := by decide +kernel
theorem dX8_change_338 : decode cX8_change 338 = .ok (.goto (-67), 3) := by decide +kernel
theorem dX8_change_341 : decode cX8_change 341 = .ok (.aload_n 0, 1) := by decide +kernel
theorem dX8_change_342 : decode cX8_change 342 = .ok (.getfield 189, 3) := by decide +kernel
theorem dX8_change_345 : decode cX8_change 345 = .ok (.ireturn, 1) := by decide +kernel
theorem dX8_step_0 : decode cX8_step 0 = .ok (.iload_n 1, 1) := by decide +kernel
theorem dX8_step_1 : decode cX8_step 1 = .ok (.iconst 0, 1) := by decide +kernel
theorem dX8_step_2 : decode cX8_step 2 = .ok (.aload_n 0, 1) := by decide +kernel
theorem dX8_step_3 : decode cX8_step 3 = .ok (.getfield 189, 3) := by decide +kernel
theorem dX8_step_6 : decode cX8_step 6 = .ok (.iconst 1, 1) := by decide +kernel
theorem dX8_step_7 : decode cX8_step 7 = .ok (.isub, 1) := by decide +kernel
theorem dX8_step_8 : decode cX8_step 8 = .ok (.invokestatic 83, 3) := by decide +kernel
theorem dX8_step_11 : decode cX8_step 11 = .ok (.ifCond .eq 12, 3) := by decide +kernel
theorem dX8_step_14 : decode cX8_step 14 = .ok (.aload_n 0, 1) := by decide +kernel
theorem dX8_step_15 : decode cX8_step 15 = .ok (.getfield 70, 3) := by decide +kernel
theorem dX8_step_18 : decode cX8_step 18 = .ok (.iload_n 1, 1) := by decide +kernel
theorem dX8_step_19 : decode cX8_step 19 = .ok (.iaload, 1) := by decide +kernel
theorem dX8_step_20 : decode cX8_step 20 = .ok (.goto 4, 3) := by decide +kernel
theorem dX8_step_23 : decode cX8_step 23 = .ok (.iconst (-1), 1) := by decide +kernel
theorem dX8_step_24 : decode cX8_step 24 = .ok (.ireturn, 1) := by decide +kernel
theorem dX8_about_0 : decode cX8_about 0 = .ok (.iconst 0, 1) := by decide +kernel
theorem dX8_about_1 : decode cX8_about 1 = .ok (.istore_n 2, 1) := by decide +kernel
theorem dX8_about_2 : decode cX8_about 2 = .ok (.iconst 1, 1) := by decide +kernel
theorem dX8_about_3 : decode cX8_about 3 = .ok (.istore_n 3, 1) := by decide +kernel
theorem dX8_about_4 : decode cX8_about 4 = .ok (.iload_n 3, 1) := by decide +kernel
theorem dX8_about_5 : decode cX8_about 5 = .ok (.aload_n 0, 1) := by decide +kernel
theorem dX8_about_6 : decode cX8_about 6 = .ok (.getfield 7, 3) := by decide +kernel
theorem dX8_about_9 : decode cX8_about 9 = .ok (.if_icmp .ge 26, 3) := by decide +kernel
theorem dX8_about_12 : decode cX8_about 12 = .ok (.iload_n 2, 1) := by decide +kernel
theorem dX8_about_13 : decode cX8_about 13 = .ok (.aload_n 0, 1) := by decide +kernel
theorem dX8_about_14 : decode cX8_about 14 = .ok (.getfield 45, 3) := by decide +kernel
theorem dX8_about_17 : decode cX8_about 17 = .ok (.iload_n 3, 1) := by decide +kernel
theorem dX8_about_18 : decode cX8_about 18 = .ok (.baload, 1) := by decide +kernel
theorem dX8_about_19 : decode cX8_about 19 = .ok (.ifCond .eq 7, 3) := by decide +kernel
theorem dX8_about_22 : decode cX8_about 22 = .ok (.iconst 1, 1) := by decide +kernel
theorem dX8_about_23 : decode cX8_about 23 = .ok (.goto 4, 3) := by decide +kernel
theorem dX8_about_26 : decode cX8_about 26 = .ok (.iconst 0, 1) := by decide +kernel
theorem dX8_about_27 : decode cX8_about 27 = .ok (.iadd, 1) := by decide +kernel
theorem dX8_about_28 : decode cX8_about 28 = .ok (.istore_n 2, 1) := by decide +kernel
theorem dX8_about_29 : decode cX8_about 29 = .ok (.iinc 3 1, 3) := by decide +kernel
theorem dX8_about_32 : decode cX8_about 32 = .ok (.goto (-28), 3) := by decide +kernel
theorem dX8_about_35 : decode cX8_about 35 = .ok (.iload_n 1, 1) := by decide +kernel
theorem dX8_about_36 : decode cX8_about 36 = .ok (.tableswitch 102 0 8 #[52, 57, 59, 64, 69, 74, 79, 84, 97], 52) := by decide +kernel
theorem dX8_about_88 : decode cX8_about 88 = .ok (.aload_n 0, 1) := by decide +kernel
theorem dX8_about_89 : decode cX8_about 89 = .ok (.getfield 7, 3) := by decide +kernel
theorem dX8_about_92 : decode cX8_about 92 = .ok (.ireturn, 1) := by decide +kernel
theorem dX8_about_93 : decode cX8_about 93 = .ok (.iload_n 2, 1) := by decide +kernel
theorem dX8_about_94 : decode cX8_about 94 = .ok (.ireturn, 1) := by decide +kernel
theorem dX8_about_95 : decode cX8_about 95 = .ok (.aload_n 0, 1) := by decide +kernel
theorem dX8_about_96 : decode cX8_about 96 = .ok (.getfield 13, 3) := by decide +kernel
theorem dX8_about_99 : decode cX8_about 99 = .ok (.ireturn, 1) := by decide +kernel
theorem dX8_about_100 : decode cX8_about 100 = .ok (.aload_n 0, 1) := by decide +kernel
theorem dX8_about_101 : decode cX8_about 101 = .ok (.getfield 16, 3) := by decide +kernel
theorem dX8_about_104 : decode cX8_about 104 = .ok (.ireturn, 1) := by decide +kernel
theorem dX8_about_105 : decode cX8_about 105 = .ok (.aload_n 0, 1) := by decide +kernel
theorem dX8_about_106 : decode cX8_about 106 = .ok (.getfield 19, 3) := by decide +kernel
theorem dX8_about_109 : decode cX8_about 109 = .ok (.ireturn, 1) := by decide +kernel
theorem dX8_about_110 : decode cX8_about 110 = .ok (.aload_n 0, 1) := by decide +kernel
theorem dX8_about_111 : decode cX8_about 111 = .ok (.getfield 23, 3) := by decide +kernel
theorem dX8_about_114 : decode cX8_about 114 = .ok (.ireturn, 1) := by decide +kernel
theorem dX8_about_115 : decode cX8_about 115 = .ok (.aload_n 0, 1) := by decide +kernel
theorem dX8_about_116 : decode cX8_about 116 = .ok (.getfield 98, 3) := by decide +kernel
theorem dX8_about_119 : decode cX8_about 119 = .ok (.ireturn, 1) := by decide +kernel
theorem dX8_about_120 : decode cX8_about 120 = .ok (.aload_n 0, 1) := by decide +kernel
theorem dX8_about_121 : decode cX8_about 121 = .ok (.getfield 179, 3) := by decide +kernel
theorem dX8_about_124 : decode cX8_about 124 = .ok (.ifCond .eq 7, 3) := by decide +kernel
theorem dX8_about_127 : decode cX8_about 127 = .ok (.iconst 1, 1) := by decide +kernel
theorem dX8_about_128 : decode cX8_about 128 = .ok (.goto 4, 3) := by decide +kernel
theorem dX8_about_131 : decode cX8_about 131 = .ok (.iconst 0, 1) := by decide +kernel
theorem dX8_about_132 : decode cX8_about 132 = .ok (.ireturn, 1) := by decide +kernel
theorem dX8_about_133 : decode cX8_about 133 = .ok (.aload_n 0, 1) := by decide +kernel
theorem dX8_about_134 : decode cX8_about 134 = .ok (.getfield 189, 3) := by decide +kernel
theorem dX8_about_137 : decode cX8_about 137 = .ok (.ireturn, 1) := by decide +kernel
theorem dX8_about_138 : decode cX8_about 138 = .ok (.iconst (-1), 1) := by decide +kernel
theorem dX8_about_139 : decode cX8_about 139 = .ok (.ireturn, 1) := by decide +kernel
