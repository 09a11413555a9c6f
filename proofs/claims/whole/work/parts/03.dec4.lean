theorem dX7_laySaid_11 : decode cX7_laySaid 11 = .ok (.iconst 3, 1) := by decide +kernel
theorem dX7_laySaid_12 : decode cX7_laySaid 12 = .ok (.iaload, 1) := by decide +kernel
theorem dX7_laySaid_13 : decode cX7_laySaid 13 = .ok (.if_icmp .ge 102, 3) := by decide +kernel
theorem dX7_laySaid_16 : decode cX7_laySaid 16 = .ok (.aload_n 0, 1) := by decide +kernel
theorem dX7_laySaid_17 : decode cX7_laySaid 17 = .ok (.getfield 19, 3) := by decide +kernel
theorem dX7_laySaid_20 : decode cX7_laySaid 20 = .ok (.iload 4, 2) := by decide +kernel
theorem dX7_laySaid_22 : decode cX7_laySaid 22 = .ok (.iload_n 1, 1) := by decide +kernel
theorem dX7_laySaid_23 : decode cX7_laySaid 23 = .ok (.invokestatic 166, 3) := by decide +kernel
theorem dX7_laySaid_26 : decode cX7_laySaid 26 = .ok (.istore 5, 2) := by decide +kernel
theorem dX7_laySaid_28 : decode cX7_laySaid 28 = .ok (.iload 5, 2) := by decide +kernel
theorem dX7_laySaid_30 : decode cX7_laySaid 30 = .ok (.ldc 93, 2) := by decide +kernel
theorem dX7_laySaid_32 : decode cX7_laySaid 32 = .ok (.if_icmp .eq 77, 3) := by decide +kernel
theorem dX7_laySaid_35 : decode cX7_laySaid 35 = .ok (.iload_n 2, 1) := by decide +kernel
theorem dX7_laySaid_36 : decode cX7_laySaid 36 = .ok (.iload 4, 2) := by decide +kernel
theorem dX7_laySaid_38 : decode cX7_laySaid 38 = .ok (.invokestatic 169, 3) := by decide +kernel
theorem dX7_laySaid_41 : decode cX7_laySaid 41 = .ok (.ifCond .eq 8, 3) := by decide +kernel
theorem dX7_laySaid_44 : decode cX7_laySaid 44 = .ok (.bipush 99, 2) := by decide +kernel
theorem dX7_laySaid_46 : decode cX7_laySaid 46 = .ok (.goto 5, 3) := by decide +kernel
theorem dX7_laySaid_49 : decode cX7_laySaid 49 = .ok (.iload 5, 2) := by decide +kernel
theorem dX7_laySaid_51 : decode cX7_laySaid 51 = .ok (.istore 5, 2) := by decide +kernel
theorem dX7_laySaid_53 : decode cX7_laySaid 53 = .ok (.iload_n 3, 1) := by decide +kernel
theorem dX7_laySaid_54 : decode cX7_laySaid 54 = .ok (.istore 6, 2) := by decide +kernel
theorem dX7_laySaid_56 : decode cX7_laySaid 56 = .ok (.iload 6, 2) := by decide +kernel
theorem dX7_laySaid_58 : decode cX7_laySaid 58 = .ok (.ifCond .le 39, 3) := by decide +kernel
theorem dX7_laySaid_61 : decode cX7_laySaid 61 = .ok (.aload_n 0, 1) := by decide +kernel
theorem dX7_laySaid_62 : decode cX7_laySaid 62 = .ok (.getfield 34, 3) := by decide +kernel
theorem dX7_laySaid_65 : decode cX7_laySaid 65 = .ok (.iload 6, 2) := by decide +kernel
theorem dX7_laySaid_67 : decode cX7_laySaid 67 = .ok (.iconst 1, 1) := by decide +kernel
theorem dX7_laySaid_68 : decode cX7_laySaid 68 = .ok (.isub, 1) := by decide +kernel
theorem dX7_laySaid_69 : decode cX7_laySaid 69 = .ok (.iaload, 1) := by decide +kernel
theorem dX7_laySaid_70 : decode cX7_laySaid 70 = .ok (.iload 5, 2) := by decide +kernel
theorem dX7_laySaid_72 : decode cX7_laySaid 72 = .ok (.if_icmp .le 25, 3) := by decide +kernel
theorem dX7_laySaid_75 : decode cX7_laySaid 75 = .ok (.aload_n 0, 1) := by decide +kernel
theorem dX7_laySaid_76 : decode cX7_laySaid 76 = .ok (.getfield 34, 3) := by decide +kernel
theorem dX7_laySaid_79 : decode cX7_laySaid 79 = .ok (.iload 6, 2) := by decide +kernel
theorem dX7_laySaid_81 : decode cX7_laySaid 81 = .ok (.aload_n 0, 1) := by decide +kernel
theorem dX7_laySaid_82 : decode cX7_laySaid 82 = .ok (.getfield 34, 3) := by decide +kernel
theorem dX7_laySaid_85 : decode cX7_laySaid 85 = .ok (.iload 6, 2) := by decide +kernel
theorem dX7_laySaid_87 : decode cX7_laySaid 87 = .ok (.iconst 1, 1) := by decide +kernel
theorem dX7_laySaid_88 : decode cX7_laySaid 88 = .ok (.isub, 1) := by decide +kernel
theorem dX7_laySaid_89 : decode cX7_laySaid 89 = .ok (.iaload, 1) := by decide +kernel
theorem dX7_laySaid_90 : decode cX7_laySaid 90 = .ok (.iastore, 1) := by decide +kernel
theorem dX7_laySaid_91 : decode cX7_laySaid 91 = .ok (.iinc 6 (-1), 3) := by decide +kernel
theorem dX7_laySaid_94 : decode cX7_laySaid 94 = .ok (.goto (-38), 3) := by decide +kernel
theorem dX7_laySaid_97 : decode cX7_laySaid 97 = .ok (.aload_n 0, 1) := by decide +kernel
theorem dX7_laySaid_98 : decode cX7_laySaid 98 = .ok (.getfield 34, 3) := by decide +kernel
theorem dX7_laySaid_101 : decode cX7_laySaid 101 = .ok (.iload 6, 2) := by decide +kernel
theorem dX7_laySaid_103 : decode cX7_laySaid 103 = .ok (.iload 5, 2) := by decide +kernel
theorem dX7_laySaid_105 : decode cX7_laySaid 105 = .ok (.iastore, 1) := by decide +kernel
theorem dX7_laySaid_106 : decode cX7_laySaid 106 = .ok (.iinc 3 1, 3) := by decide +kernel
theorem dX7_laySaid_109 : decode cX7_laySaid 109 = .ok (.iinc 4 1, 3) := by decide +kernel
theorem dX7_laySaid_112 : decode cX7_laySaid 112 = .ok (.goto (-107), 3) := by decide +kernel
theorem dX7_laySaid_115 : decode cX7_laySaid 115 = .ok (.iload_n 3, 1) := by decide +kernel
theorem dX7_laySaid_116 : decode cX7_laySaid 116 = .ok (.ireturn, 1) := by decide +kernel
theorem dX7_sworn_0 : decode cX7_sworn 0 = .ok (.aload_n 0, 1) := by decide +kernel
theorem dX7_sworn_1 : decode cX7_sworn 1 = .ok (.iconst 0, 1) := by decide +kernel
theorem dX7_sworn_2 : decode cX7_sworn 2 = .ok (.putfield 50, 3) := by decide +kernel
theorem dX7_sworn_5 : decode cX7_sworn 5 = .ok (.aload_n 0, 1) := by decide +kernel
theorem dX7_sworn_6 : decode cX7_sworn 6 = .ok (.iload_n 1, 1) := by decide +kernel
theorem dX7_sworn_7 : decode cX7_sworn 7 = .ok (.invokevirtual 176, 3) := by decide +kernel
theorem dX7_sworn_10 : decode cX7_sworn 10 = .ok (.ifCond .eq 15, 3) := by decide +kernel
theorem dX7_sworn_13 : decode cX7_sworn 13 = .ok (.iload_n 2, 1) := by decide +kernel
theorem dX7_sworn_14 : decode cX7_sworn 14 = .ok (.i2l, 1) := by decide +kernel
theorem dX7_sworn_15 : decode cX7_sworn 15 = .ok (.lconst 0, 1) := by decide +kernel
theorem dX7_sworn_16 : decode cX7_sworn 16 = .ok (.ldc2_w 222, 3) := by decide +kernel
theorem dX7_sworn_19 : decode cX7_sworn 19 = .ok (.invokestatic 60, 3) := by decide +kernel
theorem dX7_sworn_22 : decode cX7_sworn 22 = .ok (.ifCond .ne 6, 3) := by decide +kernel
theorem dX7_sworn_25 : decode cX7_sworn 25 = .ok (.ldc 70, 2) := by decide +kernel
theorem dX7_sworn_27 : decode cX7_sworn 27 = .ok (.ireturn, 1) := by decide +kernel
theorem dX7_sworn_28 : decode cX7_sworn 28 = .ok (.aload_n 0, 1) := by decide +kernel
theorem dX7_sworn_29 : decode cX7_sworn 29 = .ok (.getfield 19, 3) := by decide +kernel
theorem dX7_sworn_32 : decode cX7_sworn 32 = .ok (.iload_n 1, 1) := by decide +kernel
theorem dX7_sworn_33 : decode cX7_sworn 33 = .ok (.invokestatic 224, 3) := by decide +kernel
theorem dX7_sworn_36 : decode cX7_sworn 36 = .ok (.istore_n 3, 1) := by decide +kernel
theorem dX7_sworn_37 : decode cX7_sworn 37 = .ok (.iload_n 2, 1) := by decide +kernel
theorem dX7_sworn_38 : decode cX7_sworn 38 = .ok (.iconst 2, 1) := by decide +kernel
theorem dX7_sworn_39 : decode cX7_sworn 39 = .ok (.if_icmp .ge 16, 3) := by decide +kernel
theorem dX7_sworn_42 : decode cX7_sworn 42 = .ok (.iload_n 2, 1) := by decide +kernel
theorem dX7_sworn_43 : decode cX7_sworn 43 = .ok (.ifCond .ne 10, 3) := by decide +kernel
theorem dX7_sworn_46 : decode cX7_sworn 46 = .ok (.iload_n 3, 1) := by decide +kernel
theorem dX7_sworn_47 : decode cX7_sworn 47 = .ok (.invokestatic 214, 3) := by decide +kernel
theorem dX7_sworn_50 : decode cX7_sworn 50 = .ok (.goto 4, 3) := by decide +kernel
theorem dX7_sworn_53 : decode cX7_sworn 53 = .ok (.iload_n 3, 1) := by decide +kernel
theorem dX7_sworn_54 : decode cX7_sworn 54 = .ok (.ireturn, 1) := by decide +kernel
theorem dX7_sworn_55 : decode cX7_sworn 55 = .ok (.aload_n 0, 1) := by decide +kernel
theorem dX7_sworn_56 : decode cX7_sworn 56 = .ok (.iload_n 1, 1) := by decide +kernel
theorem dX7_sworn_57 : decode cX7_sworn 57 = .ok (.iconst 0, 1) := by decide +kernel
theorem dX7_sworn_58 : decode cX7_sworn 58 = .ok (.invokevirtual 228, 3) := by decide +kernel
theorem dX7_sworn_61 : decode cX7_sworn 61 = .ok (.istore 4, 2) := by decide +kernel
theorem dX7_sworn_63 : decode cX7_sworn 63 = .ok (.iload 4, 2) := by decide +kernel
theorem dX7_sworn_65 : decode cX7_sworn 65 = .ok (.ifCond .ne 6, 3) := by decide +kernel
theorem dX7_sworn_68 : decode cX7_sworn 68 = .ok (.ldc 93, 2) := by decide +kernel
theorem dX7_sworn_70 : decode cX7_sworn 70 = .ok (.ireturn, 1) := by decide +kernel
theorem dX7_sworn_71 : decode cX7_sworn 71 = .ok (.ldc 93, 2) := by decide +kernel
theorem dX7_sworn_73 : decode cX7_sworn 73 = .ok (.istore 5, 2) := by decide +kernel
theorem dX7_sworn_75 : decode cX7_sworn 75 = .ok (.iconst 0, 1) := by decide +kernel
theorem dX7_sworn_76 : decode cX7_sworn 76 = .ok (.istore 6, 2) := by decide +kernel
theorem dX7_sworn_78 : decode cX7_sworn 78 = .ok (.iload 6, 2) := by decide +kernel
theorem dX7_sworn_80 : decode cX7_sworn 80 = .ok (.aload_n 0, 1) := by decide +kernel
theorem dX7_sworn_81 : decode cX7_sworn 81 = .ok (.getfield 19, 3) := by decide +kernel
theorem dX7_sworn_84 : decode cX7_sworn 84 = .ok (.iconst 3, 1) := by decide +kernel
theorem dX7_sworn_85 : decode cX7_sworn 85 = .ok (.iaload, 1) := by decide +kernel
theorem dX7_sworn_86 : decode cX7_sworn 86 = .ok (.if_icmp .ge 57, 3) := by decide +kernel
theorem dX7_sworn_89 : decode cX7_sworn 89 = .ok (.iload_n 3, 1) := by decide +kernel
theorem dX7_sworn_90 : decode cX7_sworn 90 = .ok (.iload 6, 2) := by decide +kernel
theorem dX7_sworn_92 : decode cX7_sworn 92 = .ok (.invokestatic 169, 3) := by decide +kernel
theorem dX7_sworn_95 : decode cX7_sworn 95 = .ok (.ifCond .eq 38, 3) := by decide +kernel
theorem dX7_sworn_98 : decode cX7_sworn 98 = .ok (.iload 5, 2) := by decide +kernel
theorem dX7_sworn_100 : decode cX7_sworn 100 = .ok (.ldc 93, 2) := by decide +kernel
theorem dX7_sworn_102 : decode cX7_sworn 102 = .ok (.if_icmp .eq 26, 3) := by decide +kernel
theorem dX7_sworn_105 : decode cX7_sworn 105 = .ok (.aload_n 0, 1) := by decide +kernel
theorem dX7_sworn_106 : decode cX7_sworn 106 = .ok (.getfield 19, 3) := by decide +kernel
theorem dX7_sworn_109 : decode cX7_sworn 109 = .ok (.iload 6, 2) := by decide +kernel
theorem dX7_sworn_111 : decode cX7_sworn 111 = .ok (.iconst 1, 1) := by decide +kernel
theorem dX7_sworn_112 : decode cX7_sworn 112 = .ok (.invokestatic 155, 3) := by decide +kernel
theorem dX7_sworn_115 : decode cX7_sworn 115 = .ok (.aload_n 0, 1) := by decide +kernel
theorem dX7_sworn_116 : decode cX7_sworn 116 = .ok (.getfield 19, 3) := by decide +kernel
theorem dX7_sworn_119 : decode cX7_sworn 119 = .ok (.iload 5, 2) := by decide +kernel
theorem dX7_sworn_121 : decode cX7_sworn 121 = .ok (.iconst 1, 1) := by decide +kernel
theorem dX7_sworn_122 : decode cX7_sworn 122 = .ok (.invokestatic 155, 3) := by decide +kernel
theorem dX7_sworn_125 : decode cX7_sworn 125 = .ok (.if_icmp .le 8, 3) := by decide +kernel
theorem dX7_sworn_128 : decode cX7_sworn 128 = .ok (.iload 6, 2) := by decide +kernel
theorem dX7_sworn_130 : decode cX7_sworn 130 = .ok (.goto 5, 3) := by decide +kernel
theorem dX7_sworn_133 : decode cX7_sworn 133 = .ok (.iload 5, 2) := by decide +kernel
theorem dX7_sworn_135 : decode cX7_sworn 135 = .ok (.istore 5, 2) := by decide +kernel
theorem dX7_sworn_137 : decode cX7_sworn 137 = .ok (.iinc 6 1, 3) := by decide +kernel
theorem dX7_sworn_140 : decode cX7_sworn 140 = .ok (.goto (-62), 3) := by decide +kernel
theorem dX7_sworn_143 : decode cX7_sworn 143 = .ok (.iload_n 2, 1) := by decide +kernel
theorem dX7_sworn_144 : decode cX7_sworn 144 = .ok (.iconst 2, 1) := by decide +kernel
theorem dX7_sworn_145 : decode cX7_sworn 145 = .ok (.if_icmp .ne 12, 3) := by decide +kernel
theorem dX7_sworn_148 : decode cX7_sworn 148 = .ok (.aload_n 0, 1) := by decide +kernel
theorem dX7_sworn_149 : decode cX7_sworn 149 = .ok (.getfield 34, 3) := by decide +kernel
theorem dX7_sworn_152 : decode cX7_sworn 152 = .ok (.iconst 0, 1) := by decide +kernel
theorem dX7_sworn_153 : decode cX7_sworn 153 = .ok (.iaload, 1) := by decide +kernel
theorem dX7_sworn_154 : decode cX7_sworn 154 = .ok (.goto 47, 3) := by decide +kernel
theorem dX7_sworn_157 : decode cX7_sworn 157 = .ok (.iload_n 2, 1) := by decide +kernel
theorem dX7_sworn_158 : decode cX7_sworn 158 = .ok (.iconst 3, 1) := by decide +kernel
theorem dX7_sworn_159 : decode cX7_sworn 159 = .ok (.if_icmp .ne 15, 3) := by decide +kernel
theorem dX7_sworn_162 : decode cX7_sworn 162 = .ok (.aload_n 0, 1) := by decide +kernel
theorem dX7_sworn_163 : decode cX7_sworn 163 = .ok (.getfield 34, 3) := by decide +kernel
theorem dX7_sworn_166 : decode cX7_sworn 166 = .ok (.iload 4, 2) := by decide +kernel
theorem dX7_sworn_168 : decode cX7_sworn 168 = .ok (.iconst 1, 1) := by decide +kernel
theorem dX7_sworn_169 : decode cX7_sworn 169 = .ok (.isub, 1) := by decide +kernel
theorem dX7_sworn_170 : decode cX7_sworn 170 = .ok (.iaload, 1) := by decide +kernel
theorem dX7_sworn_171 : decode cX7_sworn 171 = .ok (.goto 30, 3) := by decide +kernel
theorem dX7_sworn_174 : decode cX7_sworn 174 = .ok (.iload_n 2, 1) := by decide +kernel
theorem dX7_sworn_175 : decode cX7_sworn 175 = .ok (.iconst 4, 1) := by decide +kernel
theorem dX7_sworn_176 : decode cX7_sworn 176 = .ok (.if_icmp .ne 15, 3) := by decide +kernel
theorem dX7_sworn_179 : decode cX7_sworn 179 = .ok (.aload_n 0, 1) := by decide +kernel
theorem dX7_sworn_180 : decode cX7_sworn 180 = .ok (.getfield 34, 3) := by decide +kernel
theorem dX7_sworn_183 : decode cX7_sworn 183 = .ok (.iload 4, 2) := by decide +kernel
theorem dX7_sworn_185 : decode cX7_sworn 185 = .ok (.iconst 2, 1) := by decide +kernel
theorem dX7_sworn_186 : decode cX7_sworn 186 = .ok (.idiv, 1) := by decide +kernel
theorem dX7_sworn_187 : decode cX7_sworn 187 = .ok (.iaload, 1) := by decide +kernel
theorem dX7_sworn_188 : decode cX7_sworn 188 = .ok (.goto 13, 3) := by decide +kernel
theorem dX7_sworn_191 : decode cX7_sworn 191 = .ok (.aload_n 0, 1) := by decide +kernel
theorem dX7_sworn_192 : decode cX7_sworn 192 = .ok (.getfield 19, 3) := by decide +kernel
theorem dX7_sworn_195 : decode cX7_sworn 195 = .ok (.iload 5, 2) := by decide +kernel
theorem dX7_sworn_197 : decode cX7_sworn 197 = .ok (.iload_n 1, 1) := by decide +kernel
theorem dX7_sworn_198 : decode cX7_sworn 198 = .ok (.invokestatic 166, 3) := by decide +kernel
theorem dX7_sworn_201 : decode cX7_sworn 201 = .ok (.ireturn, 1) := by decide +kernel
theorem dX7_sayYard_0 : decode cX7_sayYard 0 = .ok (.iconst 0, 1) := by decide +kernel
theorem dX7_sayYard_1 : decode cX7_sayYard 1 = .ok (.istore_n 3, 1) := by decide +kernel
theorem dX7_sayYard_2 : decode cX7_sayYard 2 = .ok (.iconst 0, 1) := by decide +kernel
theorem dX7_sayYard_3 : decode cX7_sayYard 3 = .ok (.istore 4, 2) := by decide +kernel
theorem dX7_sayYard_5 : decode cX7_sayYard 5 = .ok (.iload 4, 2) := by decide +kernel
theorem dX7_sayYard_7 : decode cX7_sayYard 7 = .ok (.aload_n 0, 1) := by decide +kernel
theorem dX7_sayYard_8 : decode cX7_sayYard 8 = .ok (.getfield 19, 3) := by decide +kernel
theorem dX7_sayYard_11 : decode cX7_sayYard 11 = .ok (.iconst 3, 1) := by decide +kernel
theorem dX7_sayYard_12 : decode cX7_sayYard 12 = .ok (.iaload, 1) := by decide +kernel
theorem dX7_sayYard_13 : decode cX7_sayYard 13 = .ok (.if_icmp .ge 31, 3) := by decide +kernel
theorem dX7_sayYard_16 : decode cX7_sayYard 16 = .ok (.iload_n 3, 1) := by decide +kernel
theorem dX7_sayYard_17 : decode cX7_sayYard 17 = .ok (.aload_n 0, 1) := by decide +kernel
theorem dX7_sayYard_18 : decode cX7_sayYard 18 = .ok (.getfield 19, 3) := by decide +kernel
theorem dX7_sayYard_21 : decode cX7_sayYard 21 = .ok (.iload 4, 2) := by decide +kernel
theorem dX7_sayYard_23 : decode cX7_sayYard 23 = .ok (.iload_n 1, 1) := by decide +kernel
theorem dX7_sayYard_24 : decode cX7_sayYard 24 = .ok (.invokestatic 166, 3) := by decide +kernel
theorem dX7_sayYard_27 : decode cX7_sayYard 27 = .ok (.iload_n 2, 1) := by decide +kernel
theorem dX7_sayYard_28 : decode cX7_sayYard 28 = .ok (.if_icmp .ne 7, 3) := by decide +kernel
theorem dX7_sayYard_31 : decode cX7_sayYard 31 = .ok (.iconst 1, 1) := by decide +kernel
theorem dX7_sayYard_32 : decode cX7_sayYard 32 = .ok (.goto 4, 3) := by decide +kernel
theorem dX7_sayYard_35 : decode cX7_sayYard 35 = .ok (.iconst 0, 1) := by decide +kernel
theorem dX7_sayYard_36 : decode cX7_sayYard 36 = .ok (.iadd, 1) := by decide +kernel
theorem dX7_sayYard_37 : decode cX7_sayYard 37 = .ok (.istore_n 3, 1) := by decide +kernel
theorem dX7_sayYard_38 : decode cX7_sayYard 38 = .ok (.iinc 4 1, 3) := by decide +kernel
theorem dX7_sayYard_41 : decode cX7_sayYard 41 = .ok (.goto (-36), 3) := by decide +kernel
theorem dX7_sayYard_44 : decode cX7_sayYard 44 = .ok (.iload_n 3, 1) := by decide +kernel
theorem dX7_sayYard_45 : decode cX7_sayYard 45 = .ok (.ireturn, 1) := by decide +kernel
theorem dX7_belief_0 : decode cX7_belief 0 = .ok (.aload_n 0, 1) := by decide +kernel
theorem dX7_belief_1 : decode cX7_belief 1 = .ok (.iconst 0, 1) := by decide +kernel
theorem dX7_belief_2 : decode cX7_belief 2 = .ok (.putfield 50, 3) := by decide +kernel
theorem dX7_belief_5 : decode cX7_belief 5 = .ok (.aload_n 0, 1) := by decide +kernel
theorem dX7_belief_6 : decode cX7_belief 6 = .ok (.iload_n 1, 1) := by decide +kernel
theorem dX7_belief_7 : decode cX7_belief 7 = .ok (.invokevirtual 176, 3) := by decide +kernel
theorem dX7_belief_10 : decode cX7_belief 10 = .ok (.ifCond .eq 25, 3) := by decide +kernel
theorem dX7_belief_13 : decode cX7_belief 13 = .ok (.iload_n 2, 1) := by decide +kernel
theorem dX7_belief_14 : decode cX7_belief 14 = .ok (.i2l, 1) := by decide +kernel
theorem dX7_belief_15 : decode cX7_belief 15 = .ok (.lconst 0, 1) := by decide +kernel
theorem dX7_belief_16 : decode cX7_belief 16 = .ok (.ldc2_w 192, 3) := by decide +kernel
theorem dX7_belief_19 : decode cX7_belief 19 = .ok (.invokestatic 60, 3) := by decide +kernel
theorem dX7_belief_22 : decode cX7_belief 22 = .ok (.ifCond .eq 13, 3) := by decide +kernel
theorem dX7_belief_25 : decode cX7_belief 25 = .ok (.iload_n 3, 1) := by decide +kernel
theorem dX7_belief_26 : decode cX7_belief 26 = .ok (.i2l, 1) := by decide +kernel
theorem dX7_belief_27 : decode cX7_belief 27 = .ok (.lconst 0, 1) := by decide +kernel
theorem dX7_belief_28 : decode cX7_belief 28 = .ok (.lconst 1, 1) := by decide +kernel
theorem dX7_belief_29 : decode cX7_belief 29 = .ok (.invokestatic 60, 3) := by decide +kernel
theorem dX7_belief_32 : decode cX7_belief 32 = .ok (.ifCond .ne 6, 3) := by decide +kernel
theorem dX7_belief_35 : decode cX7_belief 35 = .ok (.ldc 70, 2) := by decide +kernel
theorem dX7_belief_37 : decode cX7_belief 37 = .ok (.ireturn, 1) := by decide +kernel
theorem dX7_belief_38 : decode cX7_belief 38 = .ok (.aload_n 0, 1) := by decide +kernel
theorem dX7_belief_39 : decode cX7_belief 39 = .ok (.getfield 19, 3) := by decide +kernel
theorem dX7_belief_42 : decode cX7_belief 42 = .ok (.iload_n 1, 1) := by decide +kernel
theorem dX7_belief_43 : decode cX7_belief 43 = .ok (.invokestatic 224, 3) := by decide +kernel
theorem dX7_belief_46 : decode cX7_belief 46 = .ok (.invokestatic 214, 3) := by decide +kernel
theorem dX7_belief_49 : decode cX7_belief 49 = .ok (.istore 4, 2) := by decide +kernel
theorem dX7_belief_51 : decode cX7_belief 51 = .ok (.iload 4, 2) := by decide +kernel
theorem dX7_belief_53 : decode cX7_belief 53 = .ok (.ifCond .ne 6, 3) := by decide +kernel
theorem dX7_belief_56 : decode cX7_belief 56 = .ok (.ldc 201, 2) := by decide +kernel
theorem dX7_belief_58 : decode cX7_belief 58 = .ok (.ireturn, 1) := by decide +kernel
theorem dX7_belief_59 : decode cX7_belief 59 = .ok (.aload_n 0, 1) := by decide +kernel
theorem dX7_belief_60 : decode cX7_belief 60 = .ok (.iload_n 1, 1) := by decide +kernel
theorem dX7_belief_61 : decode cX7_belief 61 = .ok (.iload_n 2, 1) := by decide +kernel
theorem dX7_belief_62 : decode cX7_belief 62 = .ok (.invokevirtual 231, 3) := by decide +kernel
theorem dX7_belief_65 : decode cX7_belief 65 = .ok (.istore 5, 2) := by decide +kernel
theorem dX7_belief_67 : decode cX7_belief 67 = .ok (.iload 5, 2) := by decide +kernel
theorem dX7_belief_69 : decode cX7_belief 69 = .ok (.istore 6, 2) := by decide +kernel
theorem dX7_belief_71 : decode cX7_belief 71 = .ok (.iload 4, 2) := by decide +kernel
theorem dX7_belief_73 : decode cX7_belief 73 = .ok (.istore 7, 2) := by decide +kernel
theorem dX7_belief_75 : decode cX7_belief 75 = .ok (.iload 7, 2) := by decide +kernel
theorem dX7_belief_77 : decode cX7_belief 77 = .ok (.ifCond .eq 21, 3) := by decide +kernel
theorem dX7_belief_80 : decode cX7_belief 80 = .ok (.iload 6, 2) := by decide +kernel
theorem dX7_belief_82 : decode cX7_belief 82 = .ok (.iload 7, 2) := by decide +kernel
theorem dX7_belief_84 : decode cX7_belief 84 = .ok (.irem, 1) := by decide +kernel
theorem dX7_belief_85 : decode cX7_belief 85 = .ok (.istore 8, 2) := by decide +kernel
theorem dX7_belief_87 : decode cX7_belief 87 = .ok (.iload 7, 2) := by decide +kernel
theorem dX7_belief_89 : decode cX7_belief 89 = .ok (.istore 6, 2) := by decide +kernel
theorem dX7_belief_91 : decode cX7_belief 91 = .ok (.iload 8, 2) := by decide +kernel
theorem dX7_belief_93 : decode cX7_belief 93 = .ok (.istore 7, 2) := by decide +kernel
theorem dX7_belief_95 : decode cX7_belief 95 = .ok (.goto (-20), 3) := by decide +kernel
theorem dX7_belief_98 : decode cX7_belief 98 = .ok (.iload_n 3, 1) := by decide +kernel
theorem dX7_belief_99 : decode cX7_belief 99 = .ok (.ifCond .ne 8, 3) := by decide +kernel
theorem dX7_belief_102 : decode cX7_belief 102 = .ok (.iload 5, 2) := by decide +kernel
theorem dX7_belief_104 : decode cX7_belief 104 = .ok (.goto 5, 3) := by decide +kernel
theorem dX7_belief_107 : decode cX7_belief 107 = .ok (.iload 4, 2) := by decide +kernel
theorem dX7_belief_109 : decode cX7_belief 109 = .ok (.iload 6, 2) := by decide +kernel
theorem dX7_belief_111 : decode cX7_belief 111 = .ok (.idiv, 1) := by decide +kernel
theorem dX7_belief_112 : decode cX7_belief 112 = .ok (.ireturn, 1) := by decide +kernel
theorem dX7_likeliest_0 : decode cX7_likeliest 0 = .ok (.aload_n 0, 1) := by decide +kernel
theorem dX7_likeliest_1 : decode cX7_likeliest 1 = .ok (.iconst 0, 1) := by decide +kernel
theorem dX7_likeliest_2 : decode cX7_likeliest 2 = .ok (.putfield 50, 3) := by decide +kernel
theorem dX7_likeliest_5 : decode cX7_likeliest 5 = .ok (.aload_n 0, 1) := by decide +kernel
theorem dX7_likeliest_6 : decode cX7_likeliest 6 = .ok (.iload_n 1, 1) := by decide +kernel
theorem dX7_likeliest_7 : decode cX7_likeliest 7 = .ok (.invokevirtual 176, 3) := by decide +kernel
theorem dX7_likeliest_10 : decode cX7_likeliest 10 = .ok (.ifCond .ne 6, 3) := by decide +kernel
theorem dX7_likeliest_13 : decode cX7_likeliest 13 = .ok (.ldc 70, 2) := by decide +kernel
theorem dX7_likeliest_15 : decode cX7_likeliest 15 = .ok (.ireturn, 1) := by decide +kernel
theorem dX7_likeliest_16 : decode cX7_likeliest 16 = .ok (.ldc 93, 2) := by decide +kernel
theorem dX7_likeliest_18 : decode cX7_likeliest 18 = .ok (.istore_n 2, 1) := by decide +kernel
theorem dX7_likeliest_19 : decode cX7_likeliest 19 = .ok (.iconst 0, 1) := by decide +kernel
theorem dX7_likeliest_20 : decode cX7_likeliest 20 = .ok (.istore_n 3, 1) := by decide +kernel
theorem dX7_likeliest_21 : decode cX7_likeliest 21 = .ok (.iconst 0, 1) := by decide +kernel
theorem dX7_likeliest_22 : decode cX7_likeliest 22 = .ok (.istore 4, 2) := by decide +kernel
theorem dX7_likeliest_24 : decode cX7_likeliest 24 = .ok (.iload 4, 2) := by decide +kernel
theorem dX7_likeliest_26 : decode cX7_likeliest 26 = .ok (.bipush 100, 2) := by decide +kernel
theorem dX7_likeliest_28 : decode cX7_likeliest 28 = .ok (.if_icmp .ge 44, 3) := by decide +kernel
theorem dX7_likeliest_31 : decode cX7_likeliest 31 = .ok (.aload_n 0, 1) := by decide +kernel
theorem dX7_likeliest_32 : decode cX7_likeliest 32 = .ok (.iload_n 1, 1) := by decide +kernel
theorem dX7_likeliest_33 : decode cX7_likeliest 33 = .ok (.iload 4, 2) := by decide +kernel
theorem dX7_likeliest_35 : decode cX7_likeliest 35 = .ok (.invokevirtual 231, 3) := by decide +kernel
theorem dX7_likeliest_38 : decode cX7_likeliest 38 = .ok (.istore 5, 2) := by decide +kernel
theorem dX7_likeliest_40 : decode cX7_likeliest 40 = .ok (.iload 5, 2) := by decide +kernel
theorem dX7_likeliest_42 : decode cX7_likeliest 42 = .ok (.iload_n 3, 1) := by decide +kernel
theorem dX7_likeliest_43 : decode cX7_likeliest 43 = .ok (.if_icmp .le 8, 3) := by decide +kernel
theorem dX7_likeliest_46 : decode cX7_likeliest 46 = .ok (.iload 4, 2) := by decide +kernel
theorem dX7_likeliest_48 : decode cX7_likeliest 48 = .ok (.goto 4, 3) := by decide +kernel
theorem dX7_likeliest_51 : decode cX7_likeliest 51 = .ok (.iload_n 2, 1) := by decide +kernel
theorem dX7_likeliest_52 : decode cX7_likeliest 52 = .ok (.istore_n 2, 1) := by decide +kernel
theorem dX7_likeliest_53 : decode cX7_likeliest 53 = .ok (.iload 5, 2) := by decide +kernel
theorem dX7_likeliest_55 : decode cX7_likeliest 55 = .ok (.iload_n 3, 1) := by decide +kernel
theorem dX7_likeliest_56 : decode cX7_likeliest 56 = .ok (.if_icmp .le 8, 3) := by decide +kernel
theorem dX7_likeliest_59 : decode cX7_likeliest 59 = .ok (.iload 5, 2) := by decide +kernel
theorem dX7_likeliest_61 : decode cX7_likeliest 61 = .ok (.goto 4, 3) := by decide +kernel
theorem dX7_likeliest_64 : decode cX7_likeliest 64 = .ok (.iload_n 3, 1) := by decide +kernel
theorem dX7_likeliest_65 : decode cX7_likeliest 65 = .ok (.istore_n 3, 1) := by decide +kernel
theorem dX7_likeliest_66 : decode cX7_likeliest 66 = .ok (.iinc 4 1, 3) := by decide +kernel
theorem dX7_likeliest_69 : decode cX7_likeliest 69 = .ok (.goto (-45), 3) := by decide +kernel
theorem dX7_likeliest_72 : decode cX7_likeliest 72 = .ok (.iload_n 2, 1) := by decide +kernel
theorem dX7_likeliest_73 : decode cX7_likeliest 73 = .ok (.ireturn, 1) := by decide +kernel
theorem dX7_till_0 : decode cX7_till 0 = .ok (.aload_n 0, 1) := by decide +kernel
theorem dX7_till_1 : decode cX7_till 1 = .ok (.iconst 0, 1) := by decide +kernel
theorem dX7_till_2 : decode cX7_till 2 = .ok (.putfield 50, 3) := by decide +kernel
theorem dX7_till_5 : decode cX7_till 5 = .ok (.aload_n 0, 1) := by decide +kernel
theorem dX7_till_6 : decode cX7_till 6 = .ok (.iload_n 1, 1) := by decide +kernel
theorem dX7_till_7 : decode cX7_till 7 = .ok (.invokevirtual 176, 3) := by decide +kernel
theorem dX7_till_10 : decode cX7_till 10 = .ok (.ifCond .eq 15, 3) := by decide +kernel
theorem dX7_till_13 : decode cX7_till 13 = .ok (.iload_n 2, 1) := by decide +kernel
theorem dX7_till_14 : decode cX7_till 14 = .ok (.i2l, 1) := by decide +kernel
theorem dX7_till_15 : decode cX7_till 15 = .ok (.lconst 1, 1) := by decide +kernel
theorem dX7_till_16 : decode cX7_till 16 = .ok (.ldc2_w 234, 3) := by decide +kernel
theorem dX7_till_19 : decode cX7_till 19 = .ok (.invokestatic 60, 3) := by decide +kernel
theorem dX7_till_22 : decode cX7_till 22 = .ok (.ifCond .ne 6, 3) := by decide +kernel
theorem dX7_till_25 : decode cX7_till 25 = .ok (.ldc 70, 2) := by decide +kernel
theorem dX7_till_27 : decode cX7_till 27 = .ok (.ireturn, 1) := by decide +kernel
theorem dX7_till_28 : decode cX7_till 28 = .ok (.aload_n 0, 1) := by decide +kernel
theorem dX7_till_29 : decode cX7_till 29 = .ok (.invokevirtual 236, 3) := by decide +kernel
theorem dX7_till_32 : decode cX7_till 32 = .ok (.iconst 0, 1) := by decide +kernel
theorem dX7_till_33 : decode cX7_till 33 = .ok (.istore_n 3, 1) := by decide +kernel
theorem dX7_till_34 : decode cX7_till 34 = .ok (.iload_n 3, 1) := by decide +kernel
theorem dX7_till_35 : decode cX7_till 35 = .ok (.bipush 100, 2) := by decide +kernel
theorem dX7_till_37 : decode cX7_till 37 = .ok (.if_icmp .ge 34, 3) := by decide +kernel
theorem dX7_till_40 : decode cX7_till 40 = .ok (.aload_n 0, 1) := by decide +kernel
theorem dX7_till_41 : decode cX7_till 41 = .ok (.getfield 25, 3) := by decide +kernel
theorem dX7_till_44 : decode cX7_till 44 = .ok (.iload_n 1, 1) := by decide +kernel
theorem dX7_till_45 : decode cX7_till 45 = .ok (.invokestatic 224, 3) := by decide +kernel
theorem dX7_till_48 : decode cX7_till 48 = .ok (.invokestatic 214, 3) := by decide +kernel
theorem dX7_till_51 : decode cX7_till 51 = .ok (.iload_n 2, 1) := by decide +kernel
theorem dX7_till_52 : decode cX7_till 52 = .ok (.if_icmp .ge 5, 3) := by decide +kernel
theorem dX7_till_55 : decode cX7_till 55 = .ok (.iload_n 3, 1) := by decide +kernel
theorem dX7_till_56 : decode cX7_till 56 = .ok (.ireturn, 1) := by decide +kernel
theorem dX7_till_57 : decode cX7_till 57 = .ok (.aload_n 0, 1) := by decide +kernel
theorem dX7_till_58 : decode cX7_till 58 = .ok (.getfield 25, 3) := by decide +kernel
theorem dX7_till_61 : decode cX7_till 61 = .ok (.iconst 1, 1) := by decide +kernel
theorem dX7_till_62 : decode cX7_till 62 = .ok (.invokestatic 207, 3) := by decide +kernel
theorem dX7_till_65 : decode cX7_till 65 = .ok (.iinc 3 1, 3) := by decide +kernel
theorem dX7_till_68 : decode cX7_till 68 = .ok (.goto (-34), 3) := by decide +kernel
theorem dX7_till_71 : decode cX7_till 71 = .ok (.ldc 93, 2) := by decide +kernel
theorem dX7_till_73 : decode cX7_till 73 = .ok (.ireturn, 1) := by decide +kernel
theorem dX7_sworeLater_0 : decode cX7_sworeLater 0 = .ok (.aload_n 0, 1) := by decide +kernel
theorem dX7_sworeLater_1 : decode cX7_sworeLater 1 = .ok (.invokevirtual 236, 3) := by decide +kernel
theorem dX7_sworeLater_4 : decode cX7_sworeLater 4 = .ok (.aload_n 0, 1) := by decide +kernel
theorem dX7_sworeLater_5 : decode cX7_sworeLater 5 = .ok (.getfield 25, 3) := by decide +kernel
theorem dX7_sworeLater_8 : decode cX7_sworeLater 8 = .ok (.iload_n 1, 1) := by decide +kernel
theorem dX7_sworeLater_9 : decode cX7_sworeLater 9 = .ok (.iload_n 2, 1) := by decide +kernel
theorem dX7_sworeLater_10 : decode cX7_sworeLater 10 = .ok (.iload_n 3, 1) := by decide +kernel
theorem dX7_sworeLater_11 : decode cX7_sworeLater 11 = .ok (.invokestatic 188, 3) := by decide +kernel
theorem dX7_sworeLater_14 : decode cX7_sworeLater 14 = .ok (.istore 5, 2) := by decide +kernel
theorem dX7_sworeLater_16 : decode cX7_sworeLater 16 = .ok (.aload_n 0, 1) := by decide +kernel
theorem dX7_sworeLater_17 : decode cX7_sworeLater 17 = .ok (.getfield 25, 3) := by decide +kernel
theorem dX7_sworeLater_20 : decode cX7_sworeLater 20 = .ok (.iload 4, 2) := by decide +kernel
theorem dX7_sworeLater_22 : decode cX7_sworeLater 22 = .ok (.invokestatic 207, 3) := by decide +kernel
theorem dX7_sworeLater_25 : decode cX7_sworeLater 25 = .ok (.iload 5, 2) := by decide +kernel
theorem dX7_sworeLater_27 : decode cX7_sworeLater 27 = .ok (.ifCond .ge 8, 3) := by decide +kernel
theorem dX7_sworeLater_30 : decode cX7_sworeLater 30 = .ok (.iload 5, 2) := by decide +kernel
theorem dX7_sworeLater_32 : decode cX7_sworeLater 32 = .ok (.goto 14, 3) := by decide +kernel
theorem dX7_sworeLater_35 : decode cX7_sworeLater 35 = .ok (.aload_n 0, 1) := by decide +kernel
theorem dX7_sworeLater_36 : decode cX7_sworeLater 36 = .ok (.getfield 25, 3) := by decide +kernel
theorem dX7_sworeLater_39 : decode cX7_sworeLater 39 = .ok (.iload_n 1, 1) := by decide +kernel
theorem dX7_sworeLater_40 : decode cX7_sworeLater 40 = .ok (.invokestatic 224, 3) := by decide +kernel
theorem dX7_sworeLater_43 : decode cX7_sworeLater 43 = .ok (.invokestatic 214, 3) := by decide +kernel
theorem dX7_sworeLater_46 : decode cX7_sworeLater 46 = .ok (.ireturn, 1) := by decide +kernel
theorem dX7_takeable_0 : decode cX7_takeable 0 = .ok (.iconst 0, 1) := by decide +kernel
theorem dX7_takeable_1 : decode cX7_takeable 1 = .ok (.istore_n 1, 1) := by decide +kernel
theorem dX7_takeable_2 : decode cX7_takeable 2 = .ok (.iconst 0, 1) := by decide +kernel
theorem dX7_takeable_3 : decode cX7_takeable 3 = .ok (.istore_n 2, 1) := by decide +kernel
theorem dX7_takeable_4 : decode cX7_takeable 4 = .ok (.iload_n 2, 1) := by decide +kernel
theorem dX7_takeable_5 : decode cX7_takeable 5 = .ok (.aload_n 0, 1) := by decide +kernel
theorem dX7_takeable_6 : decode cX7_takeable 6 = .ok (.getfield 19, 3) := by decide +kernel
theorem dX7_takeable_9 : decode cX7_takeable 9 = .ok (.iconst 3, 1) := by decide +kernel
theorem dX7_takeable_10 : decode cX7_takeable 10 = .ok (.iaload, 1) := by decide +kernel
theorem dX7_takeable_11 : decode cX7_takeable 11 = .ok (.if_icmp .ge 30, 3) := by decide +kernel
theorem dX7_takeable_14 : decode cX7_takeable 14 = .ok (.iload_n 1, 1) := by decide +kernel
theorem dX7_takeable_15 : decode cX7_takeable 15 = .ok (.aload_n 0, 1) := by decide +kernel
theorem dX7_takeable_16 : decode cX7_takeable 16 = .ok (.getfield 19, 3) := by decide +kernel
theorem dX7_takeable_19 : decode cX7_takeable 19 = .ok (.iload_n 2, 1) := by decide +kernel
theorem dX7_takeable_20 : decode cX7_takeable 20 = .ok (.invokestatic 173, 3) := by decide +kernel
theorem dX7_takeable_23 : decode cX7_takeable 23 = .ok (.ifCond .eq 9, 3) := by decide +kernel
theorem dX7_takeable_26 : decode cX7_takeable 26 = .ok (.iconst 1, 1) := by decide +kernel
theorem dX7_takeable_27 : decode cX7_takeable 27 = .ok (.iload_n 2, 1) := by decide +kernel
theorem dX7_takeable_28 : decode cX7_takeable 28 = .ok (.ishl, 1) := by decide +kernel
theorem dX7_takeable_29 : decode cX7_takeable 29 = .ok (.goto 4, 3) := by decide +kernel
theorem dX7_takeable_32 : decode cX7_takeable 32 = .ok (.iconst 0, 1) := by decide +kernel
theorem dX7_takeable_33 : decode cX7_takeable 33 = .ok (.ior, 1) := by decide +kernel
theorem dX7_takeable_34 : decode cX7_takeable 34 = .ok (.istore_n 1, 1) := by decide +kernel
theorem dX7_takeable_35 : decode cX7_takeable 35 = .ok (.iinc 2 1, 3) := by decide +kernel
theorem dX7_takeable_38 : decode cX7_takeable 38 = .ok (.goto (-34), 3) := by decide +kernel
theorem dX7_takeable_41 : decode cX7_takeable 41 = .ok (.iload_n 1, 1) := by decide +kernel
theorem dX7_takeable_42 : decode cX7_takeable 42 = .ok (.ireturn, 1) := by decide +kernel
theorem dX7_take_0 : decode cX7_take 0 = .ok (.aload_n 0, 1) := by decide +kernel
theorem dX7_take_1 : decode cX7_take 1 = .ok (.iconst 0, 1) := by decide +kernel
theorem dX7_take_2 : decode cX7_take 2 = .ok (.putfield 50, 3) := by decide +kernel
theorem dX7_take_5 : decode cX7_take 5 = .ok (.aload_n 0, 1) := by decide +kernel
theorem dX7_take_6 : decode cX7_take 6 = .ok (.iload_n 1, 1) := by decide +kernel
theorem dX7_take_7 : decode cX7_take 7 = .ok (.invokevirtual 176, 3) := by decide +kernel
theorem dX7_take_10 : decode cX7_take 10 = .ok (.ifCond .eq 51, 3) := by decide +kernel
theorem dX7_take_13 : decode cX7_take 13 = .ok (.iload_n 2, 1) := by decide +kernel
theorem dX7_take_14 : decode cX7_take 14 = .ok (.i2l, 1) := by decide +kernel
theorem dX7_take_15 : decode cX7_take 15 = .ok (.lconst 1, 1) := by decide +kernel
theorem dX7_take_16 : decode cX7_take 16 = .ok (.ldc2_w 183, 3) := by decide +kernel
theorem dX7_take_19 : decode cX7_take 19 = .ok (.invokestatic 60, 3) := by decide +kernel
theorem dX7_take_22 : decode cX7_take 22 = .ok (.ifCond .eq 39, 3) := by decide +kernel
theorem dX7_take_25 : decode cX7_take 25 = .ok (.iload_n 3, 1) := by decide +kernel
theorem dX7_take_26 : decode cX7_take 26 = .ok (.i2l, 1) := by decide +kernel
theorem dX7_take_27 : decode cX7_take 27 = .ok (.lconst 1, 1) := by decide +kernel
theorem dX7_take_28 : decode cX7_take 28 = .ok (.ldc2_w 239, 3) := by decide +kernel
theorem dX7_take_31 : decode cX7_take 31 = .ok (.invokestatic 60, 3) := by decide +kernel
theorem dX7_take_34 : decode cX7_take 34 = .ok (.ifCond .eq 27, 3) := by decide +kernel
theorem dX7_take_37 : decode cX7_take 37 = .ok (.iload 4, 2) := by decide +kernel
theorem dX7_take_39 : decode cX7_take 39 = .ok (.i2l, 1) := by decide +kernel
theorem dX7_take_40 : decode cX7_take 40 = .ok (.lconst 1, 1) := by decide +kernel
theorem dX7_take_41 : decode cX7_take 41 = .ok (.ldc2_w 234, 3) := by decide +kernel
theorem dX7_take_44 : decode cX7_take 44 = .ok (.invokestatic 60, 3) := by decide +kernel
theorem dX7_take_47 : decode cX7_take 47 = .ok (.ifCond .eq 14, 3) := by decide +kernel
theorem dX7_take_50 : decode cX7_take 50 = .ok (.iload 5, 2) := by decide +kernel
theorem dX7_take_52 : decode cX7_take 52 = .ok (.i2l, 1) := by decide +kernel
theorem dX7_take_53 : decode cX7_take 53 = .ok (.lconst 0, 1) := by decide +kernel
theorem dX7_take_54 : decode cX7_take 54 = .ok (.lconst 1, 1) := by decide +kernel
theorem dX7_take_55 : decode cX7_take 55 = .ok (.invokestatic 60, 3) := by decide +kernel
theorem dX7_take_58 : decode cX7_take 58 = .ok (.ifCond .ne 6, 3) := by decide +kernel
theorem dX7_take_61 : decode cX7_take 61 = .ok (.ldc 70, 2) := by decide +kernel
theorem dX7_take_63 : decode cX7_take 63 = .ok (.ireturn, 1) := by decide +kernel
theorem dX7_take_64 : decode cX7_take 64 = .ok (.ldc 93, 2) := by decide +kernel
theorem dX7_take_66 : decode cX7_take 66 = .ok (.istore 6, 2) := by decide +kernel
theorem dX7_take_68 : decode cX7_take 68 = .ok (.iconst 0, 1) := by decide +kernel
theorem dX7_take_69 : decode cX7_take 69 = .ok (.istore 7, 2) := by decide +kernel
theorem dX7_take_71 : decode cX7_take 71 = .ok (.iload 7, 2) := by decide +kernel
theorem dX7_take_73 : decode cX7_take 73 = .ok (.aload_n 0, 1) := by decide +kernel
theorem dX7_take_74 : decode cX7_take 74 = .ok (.invokevirtual 179, 3) := by decide +kernel
theorem dX7_take_77 : decode cX7_take 77 = .ok (.if_icmp .gt 76, 3) := by decide +kernel
theorem dX7_take_80 : decode cX7_take 80 = .ok (.iload 7, 2) := by decide +kernel
theorem dX7_take_82 : decode cX7_take 82 = .ok (.aload_n 0, 1) := by decide +kernel
theorem dX7_take_83 : decode cX7_take 83 = .ok (.invokevirtual 241, 3) := by decide +kernel
theorem dX7_take_86 : decode cX7_take 86 = .ok (.iconst (-1), 1) := by decide +kernel
theorem dX7_take_87 : decode cX7_take 87 = .ok (.ixor, 1) := by decide +kernel
theorem dX7_take_88 : decode cX7_take 88 = .ok (.iand, 1) := by decide +kernel
theorem dX7_take_89 : decode cX7_take 89 = .ok (.ifCond .ne 27, 3) := by decide +kernel
theorem dX7_take_92 : decode cX7_take 92 = .ok (.iload 6, 2) := by decide +kernel
theorem dX7_take_94 : decode cX7_take 94 = .ok (.ldc 93, 2) := by decide +kernel
theorem dX7_take_96 : decode cX7_take 96 = .ok (.if_icmp .eq 16, 3) := by decide +kernel
theorem dX7_take_99 : decode cX7_take 99 = .ok (.iload 7, 2) := by decide +kernel
theorem dX7_take_101 : decode cX7_take 101 = .ok (.invokestatic 214, 3) := by decide +kernel
theorem dX7_take_104 : decode cX7_take 104 = .ok (.iload 6, 2) := by decide +kernel
theorem dX7_take_106 : decode cX7_take 106 = .ok (.invokestatic 214, 3) := by decide +kernel
theorem dX7_take_109 : decode cX7_take 109 = .ok (.if_icmp .ge 7, 3) := by decide +kernel
theorem dX7_take_112 : decode cX7_take 112 = .ok (.iconst 1, 1) := by decide +kernel
theorem dX7_take_113 : decode cX7_take 113 = .ok (.goto 4, 3) := by decide +kernel
theorem dX7_take_116 : decode cX7_take 116 = .ok (.iconst 0, 1) := by decide +kernel
theorem dX7_take_117 : decode cX7_take 117 = .ok (.istore 8, 2) := by decide +kernel
theorem dX7_take_119 : decode cX7_take 119 = .ok (.iload 8, 2) := by decide +kernel
theorem dX7_take_121 : decode cX7_take 121 = .ok (.ifCond .eq 22, 3) := by decide +kernel
theorem dX7_take_124 : decode cX7_take 124 = .ok (.aload_n 0, 1) := by decide +kernel
theorem dX7_take_125 : decode cX7_take 125 = .ok (.iload_n 1, 1) := by decide +kernel
theorem dX7_take_126 : decode cX7_take 126 = .ok (.iload 7, 2) := by decide +kernel
theorem dX7_take_128 : decode cX7_take 128 = .ok (.iload_n 2, 1) := by decide +kernel
theorem dX7_take_129 : decode cX7_take 129 = .ok (.iload_n 3, 1) := by decide +kernel
theorem dX7_take_130 : decode cX7_take 130 = .ok (.invokevirtual 244, 3) := by decide +kernel
theorem dX7_take_133 : decode cX7_take 133 = .ok (.iload 4, 2) := by decide +kernel
theorem dX7_take_135 : decode cX7_take 135 = .ok (.if_icmp .lt 8, 3) := by decide +kernel
theorem dX7_take_138 : decode cX7_take 138 = .ok (.iload 7, 2) := by decide +kernel
theorem dX7_take_140 : decode cX7_take 140 = .ok (.goto 5, 3) := by decide +kernel
theorem dX7_take_143 : decode cX7_take 143 = .ok (.iload 6, 2) := by decide +kernel
theorem dX7_take_145 : decode cX7_take 145 = .ok (.istore 6, 2) := by decide +kernel
theorem dX7_take_147 : decode cX7_take 147 = .ok (.iinc 7 1, 3) := by decide +kernel
theorem dX7_take_150 : decode cX7_take 150 = .ok (.goto (-79), 3) := by decide +kernel
theorem dX7_take_153 : decode cX7_take 153 = .ok (.iload 6, 2) := by decide +kernel
theorem dX7_take_155 : decode cX7_take 155 = .ok (.ldc 93, 2) := by decide +kernel
theorem dX7_take_157 : decode cX7_take 157 = .ok (.if_icmp .eq 9, 3) := by decide +kernel
theorem dX7_take_160 : decode cX7_take 160 = .ok (.iload 5, 2) := by decide +kernel
theorem dX7_take_162 : decode cX7_take 162 = .ok (.iconst 1, 1) := by decide +kernel
theorem dX7_take_163 : decode cX7_take 163 = .ok (.if_icmp .ne 8, 3) := by decide +kernel
theorem dX7_take_166 : decode cX7_take 166 = .ok (.iload 6, 2) := by decide +kernel
theorem dX7_take_168 : decode cX7_take 168 = .ok (.goto 8, 3) := by decide +kernel
theorem dX7_take_171 : decode cX7_take 171 = .ok (.iload 6, 2) := by decide +kernel
theorem dX7_take_173 : decode cX7_take 173 = .ok (.invokestatic 214, 3) := by decide +kernel
theorem dX7_take_176 : decode cX7_take 176 = .ok (.ireturn, 1) := by decide +kernel
theorem dX7_pain_0 : decode cX7_pain 0 = .ok (.aload_n 0, 1) := by decide +kernel
theorem dX7_pain_1 : decode cX7_pain 1 = .ok (.iconst 0, 1) := by decide +kernel
theorem dX7_pain_2 : decode cX7_pain 2 = .ok (.putfield 50, 3) := by decide +kernel
theorem dX7_pain_5 : decode cX7_pain 5 = .ok (.aload_n 0, 1) := by decide +kernel
theorem dX7_pain_6 : decode cX7_pain 6 = .ok (.iload_n 1, 1) := by decide +kernel
theorem dX7_pain_7 : decode cX7_pain 7 = .ok (.invokevirtual 176, 3) := by decide +kernel
theorem dX7_pain_10 : decode cX7_pain 10 = .ok (.ifCond .eq 27, 3) := by decide +kernel
theorem dX7_pain_13 : decode cX7_pain 13 = .ok (.iload_n 2, 1) := by decide +kernel
theorem dX7_pain_14 : decode cX7_pain 14 = .ok (.i2l, 1) := by decide +kernel
theorem dX7_pain_15 : decode cX7_pain 15 = .ok (.lconst 1, 1) := by decide +kernel
theorem dX7_pain_16 : decode cX7_pain 16 = .ok (.ldc2_w 239, 3) := by decide +kernel
theorem dX7_pain_19 : decode cX7_pain 19 = .ok (.invokestatic 60, 3) := by decide +kernel
theorem dX7_pain_22 : decode cX7_pain 22 = .ok (.ifCond .eq 15, 3) := by decide +kernel
theorem dX7_pain_25 : decode cX7_pain 25 = .ok (.iload_n 3, 1) := by decide +kernel
theorem dX7_pain_26 : decode cX7_pain 26 = .ok (.i2l, 1) := by decide +kernel
theorem dX7_pain_27 : decode cX7_pain 27 = .ok (.lconst 1, 1) := by decide +kernel
theorem dX7_pain_28 : decode cX7_pain 28 = .ok (.ldc2_w 234, 3) := by decide +kernel
theorem dX7_pain_31 : decode cX7_pain 31 = .ok (.invokestatic 60, 3) := by decide +kernel
theorem dX7_pain_34 : decode cX7_pain 34 = .ok (.ifCond .ne 6, 3) := by decide +kernel
theorem dX7_pain_37 : decode cX7_pain 37 = .ok (.ldc 70, 2) := by decide +kernel
theorem dX7_pain_39 : decode cX7_pain 39 = .ok (.ireturn, 1) := by decide +kernel
theorem dX7_pain_40 : decode cX7_pain 40 = .ok (.iconst 1, 1) := by decide +kernel
theorem dX7_pain_41 : decode cX7_pain 41 = .ok (.istore 4, 2) := by decide +kernel
theorem dX7_pain_43 : decode cX7_pain 43 = .ok (.iload 4, 2) := by decide +kernel
theorem dX7_pain_45 : decode cX7_pain 45 = .ok (.bipush 10, 2) := by decide +kernel
theorem dX7_pain_47 : decode cX7_pain 47 = .ok (.if_icmp .ge 28, 3) := by decide +kernel
theorem dX7_pain_50 : decode cX7_pain 50 = .ok (.aload_n 0, 1) := by decide +kernel
theorem dX7_pain_51 : decode cX7_pain 51 = .ok (.iload_n 1, 1) := by decide +kernel
theorem dX7_pain_52 : decode cX7_pain 52 = .ok (.aload_n 0, 1) := by decide +kernel
theorem dX7_pain_53 : decode cX7_pain 53 = .ok (.invokevirtual 241, 3) := by decide +kernel
theorem dX7_pain_56 : decode cX7_pain 56 = .ok (.iload 4, 2) := by decide +kernel
theorem dX7_pain_58 : decode cX7_pain 58 = .ok (.iload_n 2, 1) := by decide +kernel
theorem dX7_pain_59 : decode cX7_pain 59 = .ok (.invokevirtual 244, 3) := by decide +kernel
theorem dX7_pain_62 : decode cX7_pain 62 = .ok (.iload_n 3, 1) := by decide +kernel
theorem dX7_pain_63 : decode cX7_pain 63 = .ok (.if_icmp .lt 6, 3) := by decide +kernel
theorem dX7_pain_66 : decode cX7_pain 66 = .ok (.iload 4, 2) := by decide +kernel
theorem dX7_pain_68 : decode cX7_pain 68 = .ok (.ireturn, 1) := by decide +kernel
theorem dX7_pain_69 : decode cX7_pain 69 = .ok (.iinc 4 1, 3) := by decide +kernel
theorem dX7_pain_72 : decode cX7_pain 72 = .ok (.goto (-29), 3) := by decide +kernel
theorem dX7_pain_75 : decode cX7_pain 75 = .ok (.ldc 93, 2) := by decide +kernel
theorem dX7_pain_77 : decode cX7_pain 77 = .ok (.ireturn, 1) := by decide +kernel
theorem dX7_isNear_0 : decode cX7_isNear 0 = .ok (.aload_n 0, 1) := by decide +kernel
theorem dX7_isNear_1 : decode cX7_isNear 1 = .ok (.getfield 19, 3) := by decide +kernel
theorem dX7_isNear_4 : decode cX7_isNear 4 = .ok (.iload_n 2, 1) := by decide +kernel
theorem dX7_isNear_5 : decode cX7_isNear 5 = .ok (.iload_n 1, 1) := by decide +kernel
theorem dX7_isNear_6 : decode cX7_isNear 6 = .ok (.invokestatic 166, 3) := by decide +kernel
theorem dX7_isNear_9 : decode cX7_isNear 9 = .ok (.aload_n 0, 1) := by decide +kernel
theorem dX7_isNear_10 : decode cX7_isNear 10 = .ok (.getfield 19, 3) := by decide +kernel
theorem dX7_isNear_13 : decode cX7_isNear 13 = .ok (.iload_n 3, 1) := by decide +kernel
theorem dX7_isNear_14 : decode cX7_isNear 14 = .ok (.iload_n 1, 1) := by decide +kernel
theorem dX7_isNear_15 : decode cX7_isNear 15 = .ok (.invokestatic 166, 3) := by decide +kernel
theorem dX7_isNear_18 : decode cX7_isNear 18 = .ok (.isub, 1) := by decide +kernel
theorem dX7_isNear_19 : decode cX7_isNear 19 = .ok (.istore 4, 2) := by decide +kernel
theorem dX7_isNear_21 : decode cX7_isNear 21 = .ok (.iload 4, 2) := by decide +kernel
theorem dX7_isNear_23 : decode cX7_isNear 23 = .ok (.bipush (-2), 2) := by decide +kernel
theorem dX7_isNear_25 : decode cX7_isNear 25 = .ok (.if_icmp .lt 13, 3) := by decide +kernel
theorem dX7_isNear_28 : decode cX7_isNear 28 = .ok (.iload 4, 2) := by decide +kernel
theorem dX7_isNear_30 : decode cX7_isNear 30 = .ok (.iconst 2, 1) := by decide +kernel
theorem dX7_isNear_31 : decode cX7_isNear 31 = .ok (.if_icmp .gt 7, 3) := by decide +kernel
theorem dX7_isNear_34 : decode cX7_isNear 34 = .ok (.iconst 1, 1) := by decide +kernel
theorem dX7_isNear_35 : decode cX7_isNear 35 = .ok (.goto 4, 3) := by decide +kernel
theorem dX7_isNear_38 : decode cX7_isNear 38 = .ok (.iconst 0, 1) := by decide +kernel
theorem dX7_isNear_39 : decode cX7_isNear 39 = .ok (.ireturn, 1) := by decide +kernel
theorem dX7_follow_0 : decode cX7_follow 0 = .ok (.iload_n 3, 1) := by decide +kernel
theorem dX7_follow_1 : decode cX7_follow 1 = .ok (.iload_n 2, 1) := by decide +kernel
theorem dX7_follow_2 : decode cX7_follow 2 = .ok (.if_icmp .ne 7, 3) := by decide +kernel
theorem dX7_follow_5 : decode cX7_follow 5 = .ok (.iconst 1, 1) := by decide +kernel
theorem dX7_follow_6 : decode cX7_follow 6 = .ok (.goto 4, 3) := by decide +kernel
theorem dX7_follow_9 : decode cX7_follow 9 = .ok (.iconst 0, 1) := by decide +kernel
theorem dX7_follow_10 : decode cX7_follow 10 = .ok (.istore 5, 2) := by decide +kernel
theorem dX7_follow_12 : decode cX7_follow 12 = .ok (.iconst 0, 1) := by decide +kernel
theorem dX7_follow_13 : decode cX7_follow 13 = .ok (.istore 6, 2) := by decide +kernel
theorem dX7_follow_15 : decode cX7_follow 15 = .ok (.iload 6, 2) := by decide +kernel
theorem dX7_follow_17 : decode cX7_follow 17 = .ok (.aload_n 0, 1) := by decide +kernel
theorem dX7_follow_18 : decode cX7_follow 18 = .ok (.getfield 19, 3) := by decide +kernel
theorem dX7_follow_21 : decode cX7_follow 21 = .ok (.iconst 3, 1) := by decide +kernel
theorem dX7_follow_22 : decode cX7_follow 22 = .ok (.iaload, 1) := by decide +kernel
theorem dX7_follow_23 : decode cX7_follow 23 = .ok (.if_icmp .ge 60, 3) := by decide +kernel
theorem dX7_follow_26 : decode cX7_follow 26 = .ok (.iload 5, 2) := by decide +kernel
theorem dX7_follow_28 : decode cX7_follow 28 = .ok (.iload_n 2, 1) := by decide +kernel
theorem dX7_follow_29 : decode cX7_follow 29 = .ok (.iload_n 3, 1) := by decide +kernel
theorem dX7_follow_30 : decode cX7_follow 30 = .ok (.iconst (-1), 1) := by decide +kernel
theorem dX7_follow_31 : decode cX7_follow 31 = .ok (.ixor, 1) := by decide +kernel
theorem dX7_follow_32 : decode cX7_follow 32 = .ok (.iand, 1) := by decide +kernel
theorem dX7_follow_33 : decode cX7_follow 33 = .ok (.iload 6, 2) := by decide +kernel
theorem dX7_follow_35 : decode cX7_follow 35 = .ok (.invokestatic 169, 3) := by decide +kernel
theorem dX7_follow_38 : decode cX7_follow 38 = .ok (.ifCond .eq 35, 3) := by decide +kernel
theorem dX7_follow_41 : decode cX7_follow 41 = .ok (.aload_n 0, 1) := by decide +kernel
theorem dX7_follow_42 : decode cX7_follow 42 = .ok (.iload_n 1, 1) := by decide +kernel
theorem dX7_follow_43 : decode cX7_follow 43 = .ok (.iload 6, 2) := by decide +kernel
theorem dX7_follow_45 : decode cX7_follow 45 = .ok (.iload 4, 2) := by decide +kernel
theorem dX7_follow_47 : decode cX7_follow 47 = .ok (.invokevirtual 248, 3) := by decide +kernel
theorem dX7_follow_50 : decode cX7_follow 50 = .ok (.ifCond .eq 23, 3) := by decide +kernel
theorem dX7_follow_53 : decode cX7_follow 53 = .ok (.aload_n 0, 1) := by decide +kernel
theorem dX7_follow_54 : decode cX7_follow 54 = .ok (.getfield 37, 3) := by decide +kernel
theorem dX7_follow_57 : decode cX7_follow 57 = .ok (.bipush 6, 2) := by decide +kernel
theorem dX7_follow_59 : decode cX7_follow 59 = .ok (.iload_n 3, 1) := by decide +kernel
theorem dX7_follow_60 : decode cX7_follow 60 = .ok (.iconst 1, 1) := by decide +kernel
theorem dX7_follow_61 : decode cX7_follow 61 = .ok (.iload 6, 2) := by decide +kernel
theorem dX7_follow_63 : decode cX7_follow 63 = .ok (.ishl, 1) := by decide +kernel
theorem dX7_follow_64 : decode cX7_follow 64 = .ok (.ior, 1) := by decide +kernel
theorem dX7_follow_65 : decode cX7_follow 65 = .ok (.imul, 1) := by decide +kernel
theorem dX7_follow_66 : decode cX7_follow 66 = .ok (.iload 6, 2) := by decide +kernel
theorem dX7_follow_68 : decode cX7_follow 68 = .ok (.iadd, 1) := by decide +kernel
theorem dX7_follow_69 : decode cX7_follow 69 = .ok (.iaload, 1) := by decide +kernel
theorem dX7_follow_70 : decode cX7_follow 70 = .ok (.goto 4, 3) := by decide +kernel
theorem dX7_follow_73 : decode cX7_follow 73 = .ok (.iconst 0, 1) := by decide +kernel
theorem dX7_follow_74 : decode cX7_follow 74 = .ok (.iadd, 1) := by decide +kernel
theorem dX7_follow_75 : decode cX7_follow 75 = .ok (.istore 5, 2) := by decide +kernel
theorem dX7_follow_77 : decode cX7_follow 77 = .ok (.iinc 6 1, 3) := by decide +kernel
theorem dX7_follow_80 : decode cX7_follow 80 = .ok (.goto (-65), 3) := by decide +kernel
theorem dX7_follow_83 : decode cX7_follow 83 = .ok (.iload 5, 2) := by decide +kernel
theorem dX7_follow_85 : decode cX7_follow 85 = .ok (.ireturn, 1) := by decide +kernel
theorem dX7_order_0 : decode cX7_order 0 = .ok (.aload_n 0, 1) := by decide +kernel
theorem dX7_order_1 : decode cX7_order 1 = .ok (.iconst 0, 1) := by decide +kernel
theorem dX7_order_2 : decode cX7_order 2 = .ok (.putfield 50, 3) := by decide +kernel
theorem dX7_order_5 : decode cX7_order 5 = .ok (.aload_n 0, 1) := by decide +kernel
theorem dX7_order_6 : decode cX7_order 6 = .ok (.iload_n 1, 1) := by decide +kernel
theorem dX7_order_7 : decode cX7_order 7 = .ok (.invokevirtual 176, 3) := by decide +kernel
theorem dX7_order_10 : decode cX7_order 10 = .ok (.ifCond .eq 17, 3) := by decide +kernel
theorem dX7_order_13 : decode cX7_order 13 = .ok (.iload_n 2, 1) := by decide +kernel
theorem dX7_order_14 : decode cX7_order 14 = .ok (.i2l, 1) := by decide +kernel
theorem dX7_order_15 : decode cX7_order 15 = .ok (.ldc2_w 252, 3) := by decide +kernel
theorem dX7_order_18 : decode cX7_order 18 = .ok (.ldc2_w 222, 3) := by decide +kernel
theorem dX7_order_21 : decode cX7_order 21 = .ok (.invokestatic 60, 3) := by decide +kernel
theorem dX7_order_24 : decode cX7_order 24 = .ok (.ifCond .ne 6, 3) := by decide +kernel
theorem dX7_order_27 : decode cX7_order 27 = .ok (.ldc 70, 2) := by decide +kernel
theorem dX7_order_29 : decode cX7_order 29 = .ok (.ireturn, 1) := by decide +kernel
theorem dX7_order_30 : decode cX7_order 30 = .ok (.aload_n 0, 1) := by decide +kernel
theorem dX7_order_31 : decode cX7_order 31 = .ok (.getfield 19, 3) := by decide +kernel
theorem dX7_order_34 : decode cX7_order 34 = .ok (.iload_n 1, 1) := by decide +kernel
theorem dX7_order_35 : decode cX7_order 35 = .ok (.invokestatic 224, 3) := by decide +kernel
theorem dX7_order_38 : decode cX7_order 38 = .ok (.istore_n 3, 1) := by decide +kernel
theorem dX7_order_39 : decode cX7_order 39 = .ok (.iload_n 3, 1) := by decide +kernel
theorem dX7_order_40 : decode cX7_order 40 = .ok (.ifCond .ne 7, 3) := by decide +kernel
theorem dX7_order_43 : decode cX7_order 43 = .ok (.iconst 1, 1) := by decide +kernel
theorem dX7_order_44 : decode cX7_order 44 = .ok (.goto 4, 3) := by decide +kernel
theorem dX7_order_47 : decode cX7_order 47 = .ok (.iconst 0, 1) := by decide +kernel
theorem dX7_order_48 : decode cX7_order 48 = .ok (.istore 4, 2) := by decide +kernel
theorem dX7_order_50 : decode cX7_order 50 = .ok (.bipush 63, 2) := by decide +kernel
theorem dX7_order_52 : decode cX7_order 52 = .ok (.istore 5, 2) := by decide +kernel
theorem dX7_order_54 : decode cX7_order 54 = .ok (.iload 5, 2) := by decide +kernel
theorem dX7_order_56 : decode cX7_order 56 = .ok (.ifCond .le 83, 3) := by decide +kernel
theorem dX7_order_59 : decode cX7_order 59 = .ok (.iconst 0, 1) := by decide +kernel
theorem dX7_order_60 : decode cX7_order 60 = .ok (.istore 6, 2) := by decide +kernel
theorem dX7_order_62 : decode cX7_order 62 = .ok (.iload 6, 2) := by decide +kernel
theorem dX7_order_64 : decode cX7_order 64 = .ok (.bipush 6, 2) := by decide +kernel
theorem dX7_order_66 : decode cX7_order 66 = .ok (.if_icmp .ge 67, 3) := by decide +kernel
theorem dX7_order_69 : decode cX7_order 69 = .ok (.iload 5, 2) := by decide +kernel
theorem dX7_order_71 : decode cX7_order 71 = .ok (.iload_n 3, 1) := by decide +kernel
theorem dX7_order_72 : decode cX7_order 72 = .ok (.iconst (-1), 1) := by decide +kernel
theorem dX7_order_73 : decode cX7_order 73 = .ok (.ixor, 1) := by decide +kernel
theorem dX7_order_74 : decode cX7_order 74 = .ok (.iand, 1) := by decide +kernel
theorem dX7_order_75 : decode cX7_order 75 = .ok (.ifCond .ne 17, 3) := by decide +kernel
theorem dX7_order_78 : decode cX7_order 78 = .ok (.iload 5, 2) := by decide +kernel
theorem dX7_order_80 : decode cX7_order 80 = .ok (.iload 6, 2) := by decide +kernel
theorem dX7_order_82 : decode cX7_order 82 = .ok (.invokestatic 169, 3) := by decide +kernel
theorem dX7_order_85 : decode cX7_order 85 = .ok (.ifCond .eq 7, 3) := by decide +kernel
theorem dX7_order_88 : decode cX7_order 88 = .ok (.iconst 1, 1) := by decide +kernel
theorem dX7_order_89 : decode cX7_order 89 = .ok (.goto 4, 3) := by decide +kernel
theorem dX7_order_92 : decode cX7_order 92 = .ok (.iconst 0, 1) := by decide +kernel
theorem dX7_order_93 : decode cX7_order 93 = .ok (.istore 7, 2) := by decide +kernel
theorem dX7_order_95 : decode cX7_order 95 = .ok (.aload_n 0, 1) := by decide +kernel
theorem dX7_order_96 : decode cX7_order 96 = .ok (.getfield 37, 3) := by decide +kernel
theorem dX7_order_99 : decode cX7_order 99 = .ok (.bipush 6, 2) := by decide +kernel
theorem dX7_order_101 : decode cX7_order 101 = .ok (.iload 5, 2) := by decide +kernel
theorem dX7_order_103 : decode cX7_order 103 = .ok (.imul, 1) := by decide +kernel
theorem dX7_order_104 : decode cX7_order 104 = .ok (.iload 6, 2) := by decide +kernel
theorem dX7_order_106 : decode cX7_order 106 = .ok (.iadd, 1) := by decide +kernel
theorem dX7_order_107 : decode cX7_order 107 = .ok (.iload 7, 2) := by decide +kernel
theorem dX7_order_109 : decode cX7_order 109 = .ok (.ifCond .eq 16, 3) := by decide +kernel
theorem dX7_order_112 : decode cX7_order 112 = .ok (.aload_n 0, 1) := by decide +kernel
theorem dX7_order_113 : decode cX7_order 113 = .ok (.iload_n 1, 1) := by decide +kernel
theorem dX7_order_114 : decode cX7_order 114 = .ok (.iload_n 3, 1) := by decide +kernel
theorem dX7_order_115 : decode cX7_order 115 = .ok (.iload 5, 2) := by decide +kernel
theorem dX7_order_117 : decode cX7_order 117 = .ok (.iload 6, 2) := by decide +kernel
theorem dX7_order_119 : decode cX7_order 119 = .ok (.invokevirtual 254, 3) := by decide +kernel
theorem dX7_order_122 : decode cX7_order 122 = .ok (.goto 4, 3) := by decide +kernel
theorem dX7_order_125 : decode cX7_order 125 = .ok (.iconst 0, 1) := by decide +kernel
theorem dX7_order_126 : decode cX7_order 126 = .ok (.iastore, 1) := by decide +kernel
theorem dX7_order_127 : decode cX7_order 127 = .ok (.iinc 6 1, 3) := by decide +kernel
theorem dX7_order_130 : decode cX7_order 130 = .ok (.goto (-68), 3) := by decide +kernel
theorem dX7_order_133 : decode cX7_order 133 = .ok (.iinc 5 (-1), 3) := by decide +kernel
theorem dX7_order_136 : decode cX7_order 136 = .ok (.goto (-82), 3) := by decide +kernel
theorem dX7_order_139 : decode cX7_order 139 = .ok (.iconst 0, 1) := by decide +kernel
theorem dX7_order_140 : decode cX7_order 140 = .ok (.istore 5, 2) := by decide +kernel
theorem dX7_order_142 : decode cX7_order 142 = .ok (.iload 5, 2) := by decide +kernel
theorem dX7_order_144 : decode cX7_order 144 = .ok (.bipush 6, 2) := by decide +kernel
theorem dX7_order_146 : decode cX7_order 146 = .ok (.if_icmp .ge 29, 3) := by decide +kernel
theorem dX7_order_149 : decode cX7_order 149 = .ok (.iload 4, 2) := by decide +kernel
theorem dX7_order_151 : decode cX7_order 151 = .ok (.aload_n 0, 1) := by decide +kernel
theorem dX7_order_152 : decode cX7_order 152 = .ok (.getfield 37, 3) := by decide +kernel
theorem dX7_order_155 : decode cX7_order 155 = .ok (.bipush 6, 2) := by decide +kernel
theorem dX7_order_157 : decode cX7_order 157 = .ok (.iconst 1, 1) := by decide +kernel
theorem dX7_order_158 : decode cX7_order 158 = .ok (.iload 5, 2) := by decide +kernel
theorem dX7_order_160 : decode cX7_order 160 = .ok (.ishl, 1) := by decide +kernel
theorem dX7_order_161 : decode cX7_order 161 = .ok (.imul, 1) := by decide +kernel
theorem dX7_order_162 : decode cX7_order 162 = .ok (.iload 5, 2) := by decide +kernel
theorem dX7_order_164 : decode cX7_order 164 = .ok (.iadd, 1) := by decide +kernel
theorem dX7_order_165 : decode cX7_order 165 = .ok (.iaload, 1) := by decide +kernel
theorem dX7_order_166 : decode cX7_order 166 = .ok (.iadd, 1) := by decide +kernel
theorem dX7_order_167 : decode cX7_order 167 = .ok (.istore 4, 2) := by decide +kernel
theorem dX7_order_169 : decode cX7_order 169 = .ok (.iinc 5 1, 3) := by decide +kernel
theorem dX7_order_172 : decode cX7_order 172 = .ok (.goto (-30), 3) := by decide +kernel
theorem dX7_order_175 : decode cX7_order 175 = .ok (.iload_n 2, 1) := by decide +kernel
theorem dX7_order_176 : decode cX7_order 176 = .ok (.ifCond .lt 16, 3) := by decide +kernel
theorem dX7_order_179 : decode cX7_order 179 = .ok (.iload 4, 2) := by decide +kernel
theorem dX7_order_181 : decode cX7_order 181 = .ok (.ifCond .eq 11, 3) := by decide +kernel
theorem dX7_order_184 : decode cX7_order 184 = .ok (.iload_n 2, 1) := by decide +kernel
theorem dX7_order_185 : decode cX7_order 185 = .ok (.iload_n 3, 1) := by decide +kernel
theorem dX7_order_186 : decode cX7_order 186 = .ok (.invokestatic 214, 3) := by decide +kernel
theorem dX7_order_189 : decode cX7_order 189 = .ok (.if_icmp .lt 15, 3) := by decide +kernel
theorem dX7_order_192 : decode cX7_order 192 = .ok (.iload_n 2, 1) := by decide +kernel
theorem dX7_order_193 : decode cX7_order 193 = .ok (.ifCond .ge 8, 3) := by decide +kernel
theorem dX7_order_196 : decode cX7_order 196 = .ok (.iload 4, 2) := by decide +kernel
theorem dX7_order_198 : decode cX7_order 198 = .ok (.goto 5, 3) := by decide +kernel
theorem dX7_order_201 : decode cX7_order 201 = .ok (.ldc 93, 2) := by decide +kernel
theorem dX7_order_203 : decode cX7_order 203 = .ok (.ireturn, 1) := by decide +kernel
theorem dX7_order_204 : decode cX7_order 204 = .ok (.iconst 0, 1) := by decide +kernel
theorem dX7_order_205 : decode cX7_order 205 = .ok (.istore 5, 2) := by decide +kernel
theorem dX7_order_207 : decode cX7_order 207 = .ok (.ldc 93, 2) := by decide +kernel
theorem dX7_order_209 : decode cX7_order 209 = .ok (.istore 6, 2) := by decide +kernel
theorem dX7_order_211 : decode cX7_order 211 = .ok (.iconst 0, 1) := by decide +kernel
theorem dX7_order_212 : decode cX7_order 212 = .ok (.istore 7, 2) := by decide +kernel
theorem dX7_order_214 : decode cX7_order 214 = .ok (.iload 7, 2) := by decide +kernel
theorem dX7_order_216 : decode cX7_order 216 = .ok (.iload_n 2, 1) := by decide +kernel
theorem dX7_order_217 : decode cX7_order 217 = .ok (.if_icmp .gt 85, 3) := by decide +kernel
theorem dX7_order_220 : decode cX7_order 220 = .ok (.iconst 0, 1) := by decide +kernel
theorem dX7_order_221 : decode cX7_order 221 = .ok (.istore 8, 2) := by decide +kernel
theorem dX7_order_223 : decode cX7_order 223 = .ok (.iload_n 3, 1) := by decide +kernel
theorem dX7_order_224 : decode cX7_order 224 = .ok (.iload 5, 2) := by decide +kernel
theorem dX7_order_226 : decode cX7_order 226 = .ok (.iconst (-1), 1) := by decide +kernel
theorem dX7_order_227 : decode cX7_order 227 = .ok (.ixor, 1) := by decide +kernel
theorem dX7_order_228 : decode cX7_order 228 = .ok (.iand, 1) := by decide +kernel
theorem dX7_order_229 : decode cX7_order 229 = .ok (.iload 8, 2) := by decide +kernel
theorem dX7_order_231 : decode cX7_order 231 = .ok (.invokestatic 169, 3) := by decide +kernel
theorem dX7_order_234 : decode cX7_order 234 = .ok (.ifCond .eq 43, 3) := by decide +kernel
theorem dX7_order_237 : decode cX7_order 237 = .ok (.iload 6, 2) := by decide +kernel
theorem dX7_order_239 : decode cX7_order 239 = .ok (.ldc 93, 2) := by decide +kernel
theorem dX7_order_241 : decode cX7_order 241 = .ok (.if_icmp .eq 15, 3) := by decide +kernel
theorem dX7_order_244 : decode cX7_order 244 = .ok (.aload_n 0, 1) := by decide +kernel
theorem dX7_order_245 : decode cX7_order 245 = .ok (.iload_n 1, 1) := by decide +kernel
theorem dX7_order_246 : decode cX7_order 246 = .ok (.iload 8, 2) := by decide +kernel
theorem dX7_order_248 : decode cX7_order 248 = .ok (.iload 6, 2) := by decide +kernel
theorem dX7_order_250 : decode cX7_order 250 = .ok (.invokevirtual 248, 3) := by decide +kernel
theorem dX7_order_253 : decode cX7_order 253 = .ok (.ifCond .eq 24, 3) := by decide +kernel
theorem dX7_order_256 : decode cX7_order 256 = .ok (.aload_n 0, 1) := by decide +kernel
theorem dX7_order_257 : decode cX7_order 257 = .ok (.getfield 37, 3) := by decide +kernel
theorem dX7_order_260 : decode cX7_order 260 = .ok (.bipush 6, 2) := by decide +kernel
theorem dX7_order_262 : decode cX7_order 262 = .ok (.iload 5, 2) := by decide +kernel
theorem dX7_order_264 : decode cX7_order 264 = .ok (.iconst 1, 1) := by decide +kernel
theorem dX7_order_265 : decode cX7_order 265 = .ok (.iload 8, 2) := by decide +kernel
theorem dX7_order_267 : decode cX7_order 267 = .ok (.ishl, 1) := by decide +kernel
theorem dX7_order_268 : decode cX7_order 268 = .ok (.ior, 1) := by decide +kernel
theorem dX7_order_269 : decode cX7_order 269 = .ok (.imul, 1) := by decide +kernel
theorem dX7_order_270 : decode cX7_order 270 = .ok (.iload 8, 2) := by decide +kernel
theorem dX7_order_272 : decode cX7_order 272 = .ok (.iadd, 1) := by decide +kernel
theorem dX7_order_273 : decode cX7_order 273 = .ok (.iaload, 1) := by decide +kernel
theorem dX7_order_274 : decode cX7_order 274 = .ok (.ifCond .ne 9, 3) := by decide +kernel
theorem dX7_order_277 : decode cX7_order 277 = .ok (.iinc 8 1, 3) := by decide +kernel
theorem dX7_order_280 : decode cX7_order 280 = .ok (.goto (-57), 3) := by decide +kernel
theorem dX7_order_283 : decode cX7_order 283 = .ok (.iload 5, 2) := by decide +kernel
theorem dX7_order_285 : decode cX7_order 285 = .ok (.iconst 1, 1) := by decide +kernel
theorem dX7_order_286 : decode cX7_order 286 = .ok (.iload 8, 2) := by decide +kernel
theorem dX7_order_288 : decode cX7_order 288 = .ok (.ishl, 1) := by decide +kernel
theorem dX7_order_289 : decode cX7_order 289 = .ok (.ior, 1) := by decide +kernel
theorem dX7_order_290 : decode cX7_order 290 = .ok (.istore 5, 2) := by decide +kernel
theorem dX7_order_292 : decode cX7_order 292 = .ok (.iload 8, 2) := by decide +kernel
theorem dX7_order_294 : decode cX7_order 294 = .ok (.istore 6, 2) := by decide +kernel
theorem dX7_order_296 : decode cX7_order 296 = .ok (.iinc 7 1, 3) := by decide +kernel
theorem dX7_order_299 : decode cX7_order 299 = .ok (.goto (-85), 3) := by decide +kernel
theorem dX7_order_302 : decode cX7_order 302 = .ok (.iload 6, 2) := by decide +kernel
theorem dX7_order_304 : decode cX7_order 304 = .ok (.ireturn, 1) := by decide +kernel
theorem dX7_stood_0 : decode cX7_stood 0 = .ok (.aload_n 0, 1) := by decide +kernel
theorem dX7_stood_1 : decode cX7_stood 1 = .ok (.iconst 0, 1) := by decide +kernel
theorem dX7_stood_2 : decode cX7_stood 2 = .ok (.putfield 50, 3) := by decide +kernel
theorem dX7_stood_5 : decode cX7_stood 5 = .ok (.aload_n 0, 1) := by decide +kernel
theorem dX7_stood_6 : decode cX7_stood 6 = .ok (.invokevirtual 202, 3) := by decide +kernel
theorem dX7_stood_9 : decode cX7_stood 9 = .ok (.ifCond .ne 6, 3) := by decide +kernel
theorem dX7_stood_12 : decode cX7_stood 12 = .ok (.ldc 201, 2) := by decide +kernel
theorem dX7_stood_14 : decode cX7_stood 14 = .ok (.ireturn, 1) := by decide +kernel
theorem dX7_stood_15 : decode cX7_stood 15 = .ok (.iload_n 1, 1) := by decide +kernel
theorem dX7_stood_16 : decode cX7_stood 16 = .ok (.invokestatic 64, 3) := by decide +kernel
theorem dX7_stood_19 : decode cX7_stood 19 = .ok (.ifCond .eq 13, 3) := by decide +kernel
theorem dX7_stood_22 : decode cX7_stood 22 = .ok (.iload_n 3, 1) := by decide +kernel
theorem dX7_stood_23 : decode cX7_stood 23 = .ok (.i2l, 1) := by decide +kernel
theorem dX7_stood_24 : decode cX7_stood 24 = .ok (.lconst 0, 1) := by decide +kernel
theorem dX7_stood_25 : decode cX7_stood 25 = .ok (.lconst 1, 1) := by decide +kernel
theorem dX7_stood_26 : decode cX7_stood 26 = .ok (.invokestatic 60, 3) := by decide +kernel
theorem dX7_stood_29 : decode cX7_stood 29 = .ok (.ifCond .ne 6, 3) := by decide +kernel
theorem dX7_stood_32 : decode cX7_stood 32 = .ok (.ldc 70, 2) := by decide +kernel
theorem dX7_stood_34 : decode cX7_stood 34 = .ok (.ireturn, 1) := by decide +kernel
theorem dX7_stood_35 : decode cX7_stood 35 = .ok (.aload_n 0, 1) := by decide +kernel
theorem dX7_stood_36 : decode cX7_stood 36 = .ok (.getfield 7, 3) := by decide +kernel
theorem dX7_stood_39 : decode cX7_stood 39 = .ok (.iload_n 1, 1) := by decide +kernel
theorem dX7_stood_40 : decode cX7_stood 40 = .ok (.iaload, 1) := by decide +kernel
theorem dX7_stood_41 : decode cX7_stood 41 = .ok (.ifCond .ge 9, 3) := by decide +kernel
theorem dX7_stood_44 : decode cX7_stood 44 = .ok (.aload_n 0, 1) := by decide +kernel
theorem dX7_stood_45 : decode cX7_stood 45 = .ok (.iconst 1, 1) := by decide +kernel
theorem dX7_stood_46 : decode cX7_stood 46 = .ok (.invokevirtual 71, 3) := by decide +kernel
theorem dX7_stood_49 : decode cX7_stood 49 = .ok (.ireturn, 1) := by decide +kernel
theorem dX7_stood_50 : decode cX7_stood 50 = .ok (.iload_n 2, 1) := by decide +kernel
theorem dX7_stood_51 : decode cX7_stood 51 = .ok (.ifCond .lt 24, 3) := by decide +kernel
theorem dX7_stood_54 : decode cX7_stood 54 = .ok (.iload_n 2, 1) := by decide +kernel
theorem dX7_stood_55 : decode cX7_stood 55 = .ok (.i2l, 1) := by decide +kernel
theorem dX7_stood_56 : decode cX7_stood 56 = .ok (.aload_n 0, 1) := by decide +kernel
theorem dX7_stood_57 : decode cX7_stood 57 = .ok (.getfield 19, 3) := by decide +kernel
theorem dX7_stood_60 : decode cX7_stood 60 = .ok (.iconst 3, 1) := by decide +kernel
theorem dX7_stood_61 : decode cX7_stood 61 = .ok (.iaload, 1) := by decide +kernel
theorem dX7_stood_62 : decode cX7_stood 62 = .ok (.i2l, 1) := by decide +kernel
theorem dX7_stood_63 : decode cX7_stood 63 = .ok (.ladd, 1) := by decide +kernel
theorem dX7_stood_64 : decode cX7_stood 64 = .ok (.aload_n 0, 1) := by decide +kernel
theorem dX7_stood_65 : decode cX7_stood 65 = .ok (.getfield 13, 3) := by decide +kernel
theorem dX7_stood_68 : decode cX7_stood 68 = .ok (.iload_n 1, 1) := by decide +kernel
theorem dX7_stood_69 : decode cX7_stood 69 = .ok (.iaload, 1) := by decide +kernel
theorem dX7_stood_70 : decode cX7_stood 70 = .ok (.i2l, 1) := by decide +kernel
theorem dX7_stood_71 : decode cX7_stood 71 = .ok (.lcmp, 1) := by decide +kernel
theorem dX7_stood_72 : decode cX7_stood 72 = .ok (.ifCond .le 9, 3) := by decide +kernel
theorem dX7_stood_75 : decode cX7_stood 75 = .ok (.aload_n 0, 1) := by decide +kernel
theorem dX7_stood_76 : decode cX7_stood 76 = .ok (.iconst 2, 1) := by decide +kernel
theorem dX7_stood_77 : decode cX7_stood 77 = .ok (.invokevirtual 71, 3) := by decide +kernel
theorem dX7_stood_80 : decode cX7_stood 80 = .ok (.ireturn, 1) := by decide +kernel
theorem dX7_stood_81 : decode cX7_stood 81 = .ok (.aload_n 0, 1) := by decide +kernel
theorem dX7_stood_82 : decode cX7_stood 82 = .ok (.iconst 0, 1) := by decide +kernel
theorem dX7_stood_83 : decode cX7_stood 83 = .ok (.putfield 54, 3) := by decide +kernel
theorem dX7_stood_86 : decode cX7_stood 86 = .ok (.iconst 0, 1) := by decide +kernel
theorem dX7_stood_87 : decode cX7_stood 87 = .ok (.istore 4, 2) := by decide +kernel
theorem dX7_stood_89 : decode cX7_stood 89 = .ok (.ldc 93, 2) := by decide +kernel
theorem dX7_stood_91 : decode cX7_stood 91 = .ok (.istore 5, 2) := by decide +kernel
theorem dX7_stood_93 : decode cX7_stood 93 = .ok (.bipush 99, 2) := by decide +kernel
theorem dX7_stood_95 : decode cX7_stood 95 = .ok (.istore 6, 2) := by decide +kernel
theorem dX7_stood_97 : decode cX7_stood 97 = .ok (.iload 6, 2) := by decide +kernel
theorem dX7_stood_99 : decode cX7_stood 99 = .ok (.ifCond .lt 134, 3) := by decide +kernel
theorem dX7_stood_102 : decode cX7_stood 102 = .ok (.iconst 1, 1) := by decide +kernel
theorem dX7_stood_103 : decode cX7_stood 103 = .ok (.istore 7, 2) := by decide +kernel
theorem dX7_stood_105 : decode cX7_stood 105 = .ok (.iconst 0, 1) := by decide +kernel
theorem dX7_stood_106 : decode cX7_stood 106 = .ok (.istore 8, 2) := by decide +kernel
theorem dX7_stood_108 : decode cX7_stood 108 = .ok (.iload 8, 2) := by decide +kernel
theorem dX7_stood_110 : decode cX7_stood 110 = .ok (.aload_n 0, 1) := by decide +kernel
theorem dX7_stood_111 : decode cX7_stood 111 = .ok (.getfield 19, 3) := by decide +kernel
theorem dX7_stood_114 : decode cX7_stood 114 = .ok (.iconst 3, 1) := by decide +kernel
theorem dX7_stood_115 : decode cX7_stood 115 = .ok (.iaload, 1) := by decide +kernel
theorem dX7_stood_116 : decode cX7_stood 116 = .ok (.if_icmp .ge 82, 3) := by decide +kernel
theorem dX7_stood_119 : decode cX7_stood 119 = .ok (.aload_n 0, 1) := by decide +kernel
theorem dX7_stood_120 : decode cX7_stood 120 = .ok (.getfield 16, 3) := by decide +kernel
theorem dX7_stood_123 : decode cX7_stood 123 = .ok (.bipush 40, 2) := by decide +kernel
theorem dX7_stood_125 : decode cX7_stood 125 = .ok (.iload_n 1, 1) := by decide +kernel
theorem dX7_stood_126 : decode cX7_stood 126 = .ok (.imul, 1) := by decide +kernel
theorem dX7_stood_127 : decode cX7_stood 127 = .ok (.iload_n 2, 1) := by decide +kernel
theorem dX7_stood_128 : decode cX7_stood 128 = .ok (.iadd, 1) := by decide +kernel
theorem dX7_stood_129 : decode cX7_stood 129 = .ok (.iload 8, 2) := by decide +kernel
theorem dX7_stood_131 : decode cX7_stood 131 = .ok (.iadd, 1) := by decide +kernel
theorem dX7_stood_132 : decode cX7_stood 132 = .ok (.iaload, 1) := by decide +kernel
theorem dX7_stood_133 : decode cX7_stood 133 = .ok (.istore 9, 2) := by decide +kernel
theorem dX7_stood_135 : decode cX7_stood 135 = .ok (.iload 7, 2) := by decide +kernel
theorem dX7_stood_137 : decode cX7_stood 137 = .ok (.ifCond .eq 52, 3) := by decide +kernel
theorem dX7_stood_140 : decode cX7_stood 140 = .ok (.iload 9, 2) := by decide +kernel
theorem dX7_stood_142 : decode cX7_stood 142 = .ok (.iconst (-1), 1) := by decide +kernel
theorem dX7_stood_143 : decode cX7_stood 143 = .ok (.if_icmp .eq 42, 3) := by decide +kernel
theorem dX7_stood_146 : decode cX7_stood 146 = .ok (.iload 9, 2) := by decide +kernel
theorem dX7_stood_148 : decode cX7_stood 148 = .ok (.i2l, 1) := by decide +kernel
theorem dX7_stood_149 : decode cX7_stood 149 = .ok (.iload 6, 2) := by decide +kernel
theorem dX7_stood_151 : decode cX7_stood 151 = .ok (.i2l, 1) := by decide +kernel
theorem dX7_stood_152 : decode cX7_stood 152 = .ok (.lsub, 1) := by decide +kernel
theorem dX7_stood_153 : decode cX7_stood 153 = .ok (.ldc2_w 257, 3) := by decide +kernel
theorem dX7_stood_156 : decode cX7_stood 156 = .ok (.aload_n 0, 1) := by decide +kernel
theorem dX7_stood_157 : decode cX7_stood 157 = .ok (.getfield 19, 3) := by decide +kernel
theorem dX7_stood_160 : decode cX7_stood 160 = .ok (.iload 8, 2) := by decide +kernel
theorem dX7_stood_162 : decode cX7_stood 162 = .ok (.iconst 0, 1) := by decide +kernel
theorem dX7_stood_163 : decode cX7_stood 163 = .ok (.invokestatic 155, 3) := by decide +kernel
theorem dX7_stood_166 : decode cX7_stood 166 = .ok (.iconst 3, 1) := by decide +kernel
theorem dX7_stood_167 : decode cX7_stood 167 = .ok (.if_icmp .ne 9, 3) := by decide +kernel
theorem dX7_stood_170 : decode cX7_stood 170 = .ok (.ldc2_w 259, 3) := by decide +kernel
theorem dX7_stood_173 : decode cX7_stood 173 = .ok (.goto 6, 3) := by decide +kernel
theorem dX7_stood_176 : decode cX7_stood 176 = .ok (.ldc2_w 220, 3) := by decide +kernel
theorem dX7_stood_179 : decode cX7_stood 179 = .ok (.invokestatic 60, 3) := by decide +kernel
theorem dX7_stood_182 : decode cX7_stood 182 = .ok (.ifCond .eq 7, 3) := by decide +kernel
theorem dX7_stood_185 : decode cX7_stood 185 = .ok (.iconst 1, 1) := by decide +kernel
theorem dX7_stood_186 : decode cX7_stood 186 = .ok (.goto 4, 3) := by decide +kernel
theorem dX7_stood_189 : decode cX7_stood 189 = .ok (.iconst 0, 1) := by decide +kernel
theorem dX7_stood_190 : decode cX7_stood 190 = .ok (.istore 7, 2) := by decide +kernel
theorem dX7_stood_192 : decode cX7_stood 192 = .ok (.iinc 8 1, 3) := by decide +kernel
theorem dX7_stood_195 : decode cX7_stood 195 = .ok (.goto (-87), 3) := by decide +kernel
theorem dX7_stood_198 : decode cX7_stood 198 = .ok (.iload 4, 2) := by decide +kernel
theorem dX7_stood_200 : decode cX7_stood 200 = .ok (.iload 7, 2) := by decide +kernel
theorem dX7_stood_202 : decode cX7_stood 202 = .ok (.ifCond .eq 7, 3) := by decide +kernel
theorem dX7_stood_205 : decode cX7_stood 205 = .ok (.iconst 1, 1) := by decide +kernel
theorem dX7_stood_206 : decode cX7_stood 206 = .ok (.goto 4, 3) := by decide +kernel
theorem dX7_stood_209 : decode cX7_stood 209 = .ok (.iconst 0, 1) := by decide +kernel
theorem dX7_stood_210 : decode cX7_stood 210 = .ok (.iadd, 1) := by decide +kernel
theorem dX7_stood_211 : decode cX7_stood 211 = .ok (.istore 4, 2) := by decide +kernel
theorem dX7_stood_213 : decode cX7_stood 213 = .ok (.iload 7, 2) := by decide +kernel
theorem dX7_stood_215 : decode cX7_stood 215 = .ok (.ifCond .eq 8, 3) := by decide +kernel
theorem dX7_stood_218 : decode cX7_stood 218 = .ok (.iload 6, 2) := by decide +kernel
theorem dX7_stood_220 : decode cX7_stood 220 = .ok (.goto 5, 3) := by decide +kernel
theorem dX7_stood_223 : decode cX7_stood 223 = .ok (.iload 5, 2) := by decide +kernel
theorem dX7_stood_225 : decode cX7_stood 225 = .ok (.istore 5, 2) := by decide +kernel
theorem dX7_stood_227 : decode cX7_stood 227 = .ok (.iinc 6 (-1), 3) := by decide +kernel
theorem dX7_stood_230 : decode cX7_stood 230 = .ok (.goto (-133), 3) := by decide +kernel
theorem dX7_stood_233 : decode cX7_stood 233 = .ok (.iload_n 3, 1) := by decide +kernel
theorem dX7_stood_234 : decode cX7_stood 234 = .ok (.ifCond .ne 8, 3) := by decide +kernel
theorem dX7_stood_237 : decode cX7_stood 237 = .ok (.iload 4, 2) := by decide +kernel
theorem dX7_stood_239 : decode cX7_stood 239 = .ok (.goto 5, 3) := by decide +kernel
theorem dX7_stood_242 : decode cX7_stood 242 = .ok (.iload 5, 2) := by decide +kernel
theorem dX7_stood_244 : decode cX7_stood 244 = .ok (.ireturn, 1) := by decide +kernel
theorem dX7_shift_0 : decode cX7_shift 0 = .ok (.aload_n 0, 1) := by decide +kernel
theorem dX7_shift_1 : decode cX7_shift 1 = .ok (.iconst 0, 1) := by decide +kernel
theorem dX7_shift_2 : decode cX7_shift 2 = .ok (.putfield 50, 3) := by decide +kernel
theorem dX7_shift_5 : decode cX7_shift 5 = .ok (.aload_n 0, 1) := by decide +kernel
theorem dX7_shift_6 : decode cX7_shift 6 = .ok (.iload_n 1, 1) := by decide +kernel
theorem dX7_shift_7 : decode cX7_shift 7 = .ok (.invokevirtual 176, 3) := by decide +kernel
theorem dX7_shift_10 : decode cX7_shift 10 = .ok (.ifCond .eq 15, 3) := by decide +kernel
theorem dX7_shift_13 : decode cX7_shift 13 = .ok (.iload_n 2, 1) := by decide +kernel
theorem dX7_shift_14 : decode cX7_shift 14 = .ok (.i2l, 1) := by decide +kernel
theorem dX7_shift_15 : decode cX7_shift 15 = .ok (.lconst 0, 1) := by decide +kernel
theorem dX7_shift_16 : decode cX7_shift 16 = .ok (.ldc2_w 234, 3) := by decide +kernel
theorem dX7_shift_19 : decode cX7_shift 19 = .ok (.invokestatic 60, 3) := by decide +kernel
theorem dX7_shift_22 : decode cX7_shift 22 = .ok (.ifCond .ne 6, 3) := by decide +kernel
theorem dX7_shift_25 : decode cX7_shift 25 = .ok (.ldc 70, 2) := by decide +kernel
theorem dX7_shift_27 : decode cX7_shift 27 = .ok (.ireturn, 1) := by decide +kernel
theorem dX7_shift_28 : decode cX7_shift 28 = .ok (.aload_n 0, 1) := by decide +kernel
theorem dX7_shift_29 : decode cX7_shift 29 = .ok (.getfield 19, 3) := by decide +kernel
theorem dX7_shift_32 : decode cX7_shift 32 = .ok (.iload_n 1, 1) := by decide +kernel
theorem dX7_shift_33 : decode cX7_shift 33 = .ok (.invokestatic 224, 3) := by decide +kernel
theorem dX7_shift_36 : decode cX7_shift 36 = .ok (.istore_n 3, 1) := by decide +kernel
theorem dX7_shift_37 : decode cX7_shift 37 = .ok (.iload_n 3, 1) := by decide +kernel
theorem dX7_shift_38 : decode cX7_shift 38 = .ok (.ifCond .ne 6, 3) := by decide +kernel
theorem dX7_shift_41 : decode cX7_shift 41 = .ok (.ldc 93, 2) := by decide +kernel
theorem dX7_shift_43 : decode cX7_shift 43 = .ok (.ireturn, 1) := by decide +kernel
theorem dX7_shift_44 : decode cX7_shift 44 = .ok (.aload_n 0, 1) := by decide +kernel
theorem dX7_shift_45 : decode cX7_shift 45 = .ok (.iload_n 1, 1) := by decide +kernel
theorem dX7_shift_46 : decode cX7_shift 46 = .ok (.iconst 0, 1) := by decide +kernel
theorem dX7_shift_47 : decode cX7_shift 47 = .ok (.invokevirtual 228, 3) := by decide +kernel
theorem dX7_shift_50 : decode cX7_shift 50 = .ok (.istore 4, 2) := by decide +kernel
theorem dX7_shift_52 : decode cX7_shift 52 = .ok (.aload_n 0, 1) := by decide +kernel
theorem dX7_shift_53 : decode cX7_shift 53 = .ok (.getfield 34, 3) := by decide +kernel
theorem dX7_shift_56 : decode cX7_shift 56 = .ok (.iload 4, 2) := by decide +kernel
theorem dX7_shift_58 : decode cX7_shift 58 = .ok (.iconst 2, 1) := by decide +kernel
theorem dX7_shift_59 : decode cX7_shift 59 = .ok (.idiv, 1) := by decide +kernel
theorem dX7_shift_60 : decode cX7_shift 60 = .ok (.iaload, 1) := by decide +kernel
theorem dX7_shift_61 : decode cX7_shift 61 = .ok (.istore 5, 2) := by decide +kernel
theorem dX7_shift_63 : decode cX7_shift 63 = .ok (.iconst 0, 1) := by decide +kernel
theorem dX7_shift_64 : decode cX7_shift 64 = .ok (.istore 6, 2) := by decide +kernel
theorem dX7_shift_66 : decode cX7_shift 66 = .ok (.iconst 0, 1) := by decide +kernel
theorem dX7_shift_67 : decode cX7_shift 67 = .ok (.istore 7, 2) := by decide +kernel
theorem dX7_shift_69 : decode cX7_shift 69 = .ok (.iload 7, 2) := by decide +kernel
theorem dX7_shift_71 : decode cX7_shift 71 = .ok (.iload_n 3, 1) := by decide +kernel
theorem dX7_shift_72 : decode cX7_shift 72 = .ok (.if_icmp .gt 140, 3) := by decide +kernel
theorem dX7_shift_75 : decode cX7_shift 75 = .ok (.iload 7, 2) := by decide +kernel
theorem dX7_shift_77 : decode cX7_shift 77 = .ok (.iload_n 3, 1) := by decide +kernel
theorem dX7_shift_78 : decode cX7_shift 78 = .ok (.iconst (-1), 1) := by decide +kernel
theorem dX7_shift_79 : decode cX7_shift 79 = .ok (.ixor, 1) := by decide +kernel
theorem dX7_shift_80 : decode cX7_shift 80 = .ok (.iand, 1) := by decide +kernel
theorem dX7_shift_81 : decode cX7_shift 81 = .ok (.ifCond .ne 16, 3) := by decide +kernel
theorem dX7_shift_84 : decode cX7_shift 84 = .ok (.iload 7, 2) := by decide +kernel
theorem dX7_shift_86 : decode cX7_shift 86 = .ok (.invokestatic 214, 3) := by decide +kernel
theorem dX7_shift_89 : decode cX7_shift 89 = .ok (.iload_n 2, 1) := by decide +kernel
theorem dX7_shift_90 : decode cX7_shift 90 = .ok (.if_icmp .gt 7, 3) := by decide +kernel
theorem dX7_shift_93 : decode cX7_shift 93 = .ok (.iconst 1, 1) := by decide +kernel
theorem dX7_shift_94 : decode cX7_shift 94 = .ok (.goto 4, 3) := by decide +kernel
theorem dX7_shift_97 : decode cX7_shift 97 = .ok (.iconst 0, 1) := by decide +kernel
theorem dX7_shift_98 : decode cX7_shift 98 = .ok (.istore 8, 2) := by decide +kernel
theorem dX7_shift_100 : decode cX7_shift 100 = .ok (.iconst 0, 1) := by decide +kernel
theorem dX7_shift_101 : decode cX7_shift 101 = .ok (.istore 9, 2) := by decide +kernel
theorem dX7_shift_103 : decode cX7_shift 103 = .ok (.iload 9, 2) := by decide +kernel
theorem dX7_shift_105 : decode cX7_shift 105 = .ok (.aload_n 0, 1) := by decide +kernel
theorem dX7_shift_106 : decode cX7_shift 106 = .ok (.getfield 19, 3) := by decide +kernel
theorem dX7_shift_109 : decode cX7_shift 109 = .ok (.iconst 3, 1) := by decide +kernel
theorem dX7_shift_110 : decode cX7_shift 110 = .ok (.iaload, 1) := by decide +kernel
theorem dX7_shift_111 : decode cX7_shift 111 = .ok (.if_icmp .ge 45, 3) := by decide +kernel
theorem dX7_shift_114 : decode cX7_shift 114 = .ok (.iload 8, 2) := by decide +kernel
theorem dX7_shift_116 : decode cX7_shift 116 = .ok (.ifCond .eq 31, 3) := by decide +kernel
theorem dX7_shift_119 : decode cX7_shift 119 = .ok (.iload 7, 2) := by decide +kernel
theorem dX7_shift_121 : decode cX7_shift 121 = .ok (.iload 9, 2) := by decide +kernel
theorem dX7_shift_123 : decode cX7_shift 123 = .ok (.invokestatic 169, 3) := by decide +kernel
theorem dX7_shift_126 : decode cX7_shift 126 = .ok (.ifCond .eq 17, 3) := by decide +kernel
theorem dX7_shift_129 : decode cX7_shift 129 = .ok (.aload_n 0, 1) := by decide +kernel
theorem dX7_shift_130 : decode cX7_shift 130 = .ok (.getfield 19, 3) := by decide +kernel
theorem dX7_shift_133 : decode cX7_shift 133 = .ok (.iload 9, 2) := by decide +kernel
theorem dX7_shift_135 : decode cX7_shift 135 = .ok (.iconst 0, 1) := by decide +kernel
theorem dX7_shift_136 : decode cX7_shift 136 = .ok (.invokestatic 155, 3) := by decide +kernel
theorem dX7_shift_139 : decode cX7_shift 139 = .ok (.iconst 2, 1) := by decide +kernel
theorem dX7_shift_140 : decode cX7_shift 140 = .ok (.if_icmp .ne 7, 3) := by decide +kernel
theorem dX7_shift_143 : decode cX7_shift 143 = .ok (.iconst 1, 1) := by decide +kernel
theorem dX7_shift_144 : decode cX7_shift 144 = .ok (.goto 4, 3) := by decide +kernel
theorem dX7_shift_147 : decode cX7_shift 147 = .ok (.iconst 0, 1) := by decide +kernel
theorem dX7_shift_148 : decode cX7_shift 148 = .ok (.istore 8, 2) := by decide +kernel
theorem dX7_shift_150 : decode cX7_shift 150 = .ok (.iinc 9 1, 3) := by decide +kernel
theorem dX7_shift_153 : decode cX7_shift 153 = .ok (.goto (-50), 3) := by decide +kernel
theorem dX7_shift_156 : decode cX7_shift 156 = .ok (.iload 8, 2) := by decide +kernel
theorem dX7_shift_158 : decode cX7_shift 158 = .ok (.ifCond .eq 48, 3) := by decide +kernel
theorem dX7_shift_161 : decode cX7_shift 161 = .ok (.aload_n 0, 1) := by decide +kernel
theorem dX7_shift_162 : decode cX7_shift 162 = .ok (.iload_n 1, 1) := by decide +kernel
theorem dX7_shift_163 : decode cX7_shift 163 = .ok (.iload 7, 2) := by decide +kernel
theorem dX7_shift_165 : decode cX7_shift 165 = .ok (.invokevirtual 228, 3) := by decide +kernel
theorem dX7_shift_168 : decode cX7_shift 168 = .ok (.istore 4, 2) := by decide +kernel
theorem dX7_shift_170 : decode cX7_shift 170 = .ok (.aload_n 0, 1) := by decide +kernel
theorem dX7_shift_171 : decode cX7_shift 171 = .ok (.getfield 34, 3) := by decide +kernel
theorem dX7_shift_174 : decode cX7_shift 174 = .ok (.iload 4, 2) := by decide +kernel
theorem dX7_shift_176 : decode cX7_shift 176 = .ok (.iconst 2, 1) := by decide +kernel
theorem dX7_shift_177 : decode cX7_shift 177 = .ok (.idiv, 1) := by decide +kernel
theorem dX7_shift_178 : decode cX7_shift 178 = .ok (.iaload, 1) := by decide +kernel
theorem dX7_shift_179 : decode cX7_shift 179 = .ok (.iload 5, 2) := by decide +kernel
theorem dX7_shift_181 : decode cX7_shift 181 = .ok (.isub, 1) := by decide +kernel
theorem dX7_shift_182 : decode cX7_shift 182 = .ok (.iload 6, 2) := by decide +kernel
theorem dX7_shift_184 : decode cX7_shift 184 = .ok (.if_icmp .le 18, 3) := by decide +kernel
theorem dX7_shift_187 : decode cX7_shift 187 = .ok (.aload_n 0, 1) := by decide +kernel
theorem dX7_shift_188 : decode cX7_shift 188 = .ok (.getfield 34, 3) := by decide +kernel
theorem dX7_shift_191 : decode cX7_shift 191 = .ok (.iload 4, 2) := by decide +kernel
theorem dX7_shift_193 : decode cX7_shift 193 = .ok (.iconst 2, 1) := by decide +kernel
theorem dX7_shift_194 : decode cX7_shift 194 = .ok (.idiv, 1) := by decide +kernel
theorem dX7_shift_195 : decode cX7_shift 195 = .ok (.iaload, 1) := by decide +kernel
theorem dX7_shift_196 : decode cX7_shift 196 = .ok (.iload 5, 2) := by decide +kernel
theorem dX7_shift_198 : decode cX7_shift 198 = .ok (.isub, 1) := by decide +kernel
theorem dX7_shift_199 : decode cX7_shift 199 = .ok (.goto 5, 3) := by decide +kernel
theorem dX7_shift_202 : decode cX7_shift 202 = .ok (.iload 6, 2) := by decide +kernel
theorem dX7_shift_204 : decode cX7_shift 204 = .ok (.istore 6, 2) := by decide +kernel
theorem dX7_shift_206 : decode cX7_shift 206 = .ok (.iinc 7 1, 3) := by decide +kernel
theorem dX7_shift_209 : decode cX7_shift 209 = .ok (.goto (-140), 3) := by decide +kernel
theorem dX7_shift_212 : decode cX7_shift 212 = .ok (.iload 6, 2) := by decide +kernel
theorem dX7_shift_214 : decode cX7_shift 214 = .ok (.ireturn, 1) := by decide +kernel
theorem dX7_map_0 : decode cX7_map 0 = .ok (.aload_n 0, 1) := by decide +kernel
theorem dX7_map_1 : decode cX7_map 1 = .ok (.iconst 0, 1) := by decide +kernel
theorem dX7_map_2 : decode cX7_map 2 = .ok (.putfield 50, 3) := by decide +kernel
theorem dX7_map_5 : decode cX7_map 5 = .ok (.aload_n 0, 1) := by decide +kernel
theorem dX7_map_6 : decode cX7_map 6 = .ok (.iload_n 1, 1) := by decide +kernel
theorem dX7_map_7 : decode cX7_map 7 = .ok (.invokevirtual 176, 3) := by decide +kernel
theorem dX7_map_10 : decode cX7_map 10 = .ok (.ifCond .eq 15, 3) := by decide +kernel
theorem dX7_map_13 : decode cX7_map 13 = .ok (.iload_n 2, 1) := by decide +kernel
theorem dX7_map_14 : decode cX7_map 14 = .ok (.i2l, 1) := by decide +kernel
theorem dX7_map_15 : decode cX7_map 15 = .ok (.lconst 0, 1) := by decide +kernel
theorem dX7_map_16 : decode cX7_map 16 = .ok (.ldc2_w 192, 3) := by decide +kernel
theorem dX7_map_19 : decode cX7_map 19 = .ok (.invokestatic 60, 3) := by decide +kernel
theorem dX7_map_22 : decode cX7_map 22 = .ok (.ifCond .ne 6, 3) := by decide +kernel
theorem dX7_map_25 : decode cX7_map 25 = .ok (.ldc 70, 2) := by decide +kernel
theorem dX7_map_27 : decode cX7_map 27 = .ok (.ireturn, 1) := by decide +kernel
theorem dX7_map_28 : decode cX7_map 28 = .ok (.aload_n 0, 1) := by decide +kernel
theorem dX7_map_29 : decode cX7_map 29 = .ok (.getfield 19, 3) := by decide +kernel
theorem dX7_map_32 : decode cX7_map 32 = .ok (.iload_n 1, 1) := by decide +kernel
theorem dX7_map_33 : decode cX7_map 33 = .ok (.invokestatic 224, 3) := by decide +kernel
theorem dX7_map_36 : decode cX7_map 36 = .ok (.invokestatic 214, 3) := by decide +kernel
theorem dX7_map_39 : decode cX7_map 39 = .ok (.aload_n 0, 1) := by decide +kernel
theorem dX7_map_40 : decode cX7_map 40 = .ok (.iload_n 1, 1) := by decide +kernel
theorem dX7_map_41 : decode cX7_map 41 = .ok (.iload_n 2, 1) := by decide +kernel
theorem dX7_map_42 : decode cX7_map 42 = .ok (.invokevirtual 231, 3) := by decide +kernel
theorem dX7_map_45 : decode cX7_map 45 = .ok (.isub, 1) := by decide +kernel
theorem dX7_map_46 : decode cX7_map 46 = .ok (.ireturn, 1) := by decide +kernel
theorem dX7_agree_0 : decode cX7_agree 0 = .ok (.aload_n 0, 1) := by decide +kernel
theorem dX7_agree_1 : decode cX7_agree 1 = .ok (.iconst 0, 1) := by decide +kernel
theorem dX7_agree_2 : decode cX7_agree 2 = .ok (.putfield 50, 3) := by decide +kernel
theorem dX7_agree_5 : decode cX7_agree 5 = .ok (.aload_n 0, 1) := by decide +kernel
theorem dX7_agree_6 : decode cX7_agree 6 = .ok (.invokevirtual 202, 3) := by decide +kernel
theorem dX7_agree_9 : decode cX7_agree 9 = .ok (.ifCond .ne 6, 3) := by decide +kernel
theorem dX7_agree_12 : decode cX7_agree 12 = .ok (.ldc 201, 2) := by decide +kernel
theorem dX7_agree_14 : decode cX7_agree 14 = .ok (.ireturn, 1) := by decide +kernel
theorem dX7_agree_15 : decode cX7_agree 15 = .ok (.iload_n 1, 1) := by decide +kernel
theorem dX7_agree_16 : decode cX7_agree 16 = .ok (.i2l, 1) := by decide +kernel
theorem dX7_agree_17 : decode cX7_agree 17 = .ok (.lconst 1, 1) := by decide +kernel
theorem dX7_agree_18 : decode cX7_agree 18 = .ok (.ldc2_w 234, 3) := by decide +kernel
theorem dX7_agree_21 : decode cX7_agree 21 = .ok (.invokestatic 60, 3) := by decide +kernel
theorem dX7_agree_24 : decode cX7_agree 24 = .ok (.ifCond .ne 6, 3) := by decide +kernel
theorem dX7_agree_27 : decode cX7_agree 27 = .ok (.ldc 70, 2) := by decide +kernel
theorem dX7_agree_29 : decode cX7_agree 29 = .ok (.ireturn, 1) := by decide +kernel
theorem dX7_agree_30 : decode cX7_agree 30 = .ok (.iconst 0, 1) := by decide +kernel
theorem dX7_agree_31 : decode cX7_agree 31 = .ok (.istore_n 2, 1) := by decide +kernel
theorem dX7_agree_32 : decode cX7_agree 32 = .ok (.iconst 0, 1) := by decide +kernel
theorem dX7_agree_33 : decode cX7_agree 33 = .ok (.istore_n 3, 1) := by decide +kernel
theorem dX7_agree_34 : decode cX7_agree 34 = .ok (.iload_n 3, 1) := by decide +kernel
theorem dX7_agree_35 : decode cX7_agree 35 = .ok (.aload_n 0, 1) := by decide +kernel
theorem dX7_agree_36 : decode cX7_agree 36 = .ok (.getfield 19, 3) := by decide +kernel
theorem dX7_agree_39 : decode cX7_agree 39 = .ok (.iconst 2, 1) := by decide +kernel
theorem dX7_agree_40 : decode cX7_agree 40 = .ok (.iaload, 1) := by decide +kernel
theorem dX7_agree_41 : decode cX7_agree 41 = .ok (.if_icmp .ge 46, 3) := by decide +kernel
theorem dX7_agree_44 : decode cX7_agree 44 = .ok (.iconst 0, 1) := by decide +kernel
theorem dX7_agree_45 : decode cX7_agree 45 = .ok (.istore 4, 2) := by decide +kernel
theorem dX7_agree_47 : decode cX7_agree 47 = .ok (.iload 4, 2) := by decide +kernel
theorem dX7_agree_49 : decode cX7_agree 49 = .ok (.bipush 100, 2) := by decide +kernel
theorem dX7_agree_51 : decode cX7_agree 51 = .ok (.if_icmp .ge 30, 3) := by decide +kernel
theorem dX7_agree_54 : decode cX7_agree 54 = .ok (.iload_n 2, 1) := by decide +kernel
theorem dX7_agree_55 : decode cX7_agree 55 = .ok (.aload_n 0, 1) := by decide +kernel
theorem dX7_agree_56 : decode cX7_agree 56 = .ok (.iload_n 3, 1) := by decide +kernel
theorem dX7_agree_57 : decode cX7_agree 57 = .ok (.iload 4, 2) := by decide +kernel
theorem dX7_agree_59 : decode cX7_agree 59 = .ok (.invokevirtual 231, 3) := by decide +kernel
theorem dX7_agree_62 : decode cX7_agree 62 = .ok (.iload_n 1, 1) := by decide +kernel
theorem dX7_agree_63 : decode cX7_agree 63 = .ok (.if_icmp .lt 9, 3) := by decide +kernel
theorem dX7_agree_66 : decode cX7_agree 66 = .ok (.iconst 1, 1) := by decide +kernel
theorem dX7_agree_67 : decode cX7_agree 67 = .ok (.iload_n 3, 1) := by decide +kernel
theorem dX7_agree_68 : decode cX7_agree 68 = .ok (.ishl, 1) := by decide +kernel
theorem dX7_agree_69 : decode cX7_agree 69 = .ok (.goto 4, 3) := by decide +kernel
theorem dX7_agree_72 : decode cX7_agree 72 = .ok (.iconst 0, 1) := by decide +kernel
theorem dX7_agree_73 : decode cX7_agree 73 = .ok (.ior, 1) := by decide +kernel
theorem dX7_agree_74 : decode cX7_agree 74 = .ok (.istore_n 2, 1) := by decide +kernel
theorem dX7_agree_75 : decode cX7_agree 75 = .ok (.iinc 4 1, 3) := by decide +kernel
theorem dX7_agree_78 : decode cX7_agree 78 = .ok (.goto (-31), 3) := by decide +kernel
theorem dX7_agree_81 : decode cX7_agree 81 = .ok (.iinc 3 1, 3) := by decide +kernel
theorem dX7_agree_84 : decode cX7_agree 84 = .ok (.goto (-50), 3) := by decide +kernel
theorem dX7_agree_87 : decode cX7_agree 87 = .ok (.iload_n 2, 1) := by decide +kernel
theorem dX7_agree_88 : decode cX7_agree 88 = .ok (.ireturn, 1) := by decide +kernel
theorem dX7_drawn_0 : decode cX7_drawn 0 = .ok (.aload_n 0, 1) := by decide +kernel
theorem dX7_drawn_1 : decode cX7_drawn 1 = .ok (.iconst 0, 1) := by decide +kernel
theorem dX7_drawn_2 : decode cX7_drawn 2 = .ok (.putfield 50, 3) := by decide +kernel
theorem dX7_drawn_5 : decode cX7_drawn 5 = .ok (.aload_n 0, 1) := by decide +kernel
theorem dX7_drawn_6 : decode cX7_drawn 6 = .ok (.invokevirtual 202, 3) := by decide +kernel
theorem dX7_drawn_9 : decode cX7_drawn 9 = .ok (.ifCond .ne 6, 3) := by decide +kernel
theorem dX7_drawn_12 : decode cX7_drawn 12 = .ok (.ldc 201, 2) := by decide +kernel
theorem dX7_drawn_14 : decode cX7_drawn 14 = .ok (.ireturn, 1) := by decide +kernel
theorem dX7_drawn_15 : decode cX7_drawn 15 = .ok (.iload_n 1, 1) := by decide +kernel
theorem dX7_drawn_16 : decode cX7_drawn 16 = .ok (.i2l, 1) := by decide +kernel
theorem dX7_drawn_17 : decode cX7_drawn 17 = .ok (.lconst 0, 1) := by decide +kernel
theorem dX7_drawn_18 : decode cX7_drawn 18 = .ok (.ldc2_w 239, 3) := by decide +kernel
theorem dX7_drawn_21 : decode cX7_drawn 21 = .ok (.invokestatic 60, 3) := by decide +kernel
theorem dX7_drawn_24 : decode cX7_drawn 24 = .ok (.ifCond .eq 25, 3) := by decide +kernel
theorem dX7_drawn_27 : decode cX7_drawn 27 = .ok (.iload_n 2, 1) := by decide +kernel
theorem dX7_drawn_28 : decode cX7_drawn 28 = .ok (.i2l, 1) := by decide +kernel
theorem dX7_drawn_29 : decode cX7_drawn 29 = .ok (.lconst 1, 1) := by decide +kernel
theorem dX7_drawn_30 : decode cX7_drawn 30 = .ok (.ldc2_w 261, 3) := by decide +kernel
theorem dX7_drawn_33 : decode cX7_drawn 33 = .ok (.invokestatic 60, 3) := by decide +kernel
theorem dX7_drawn_36 : decode cX7_drawn 36 = .ok (.ifCond .eq 13, 3) := by decide +kernel
theorem dX7_drawn_39 : decode cX7_drawn 39 = .ok (.iload_n 3, 1) := by decide +kernel
theorem dX7_drawn_40 : decode cX7_drawn 40 = .ok (.i2l, 1) := by decide +kernel
theorem dX7_drawn_41 : decode cX7_drawn 41 = .ok (.lconst 0, 1) := by decide +kernel
theorem dX7_drawn_42 : decode cX7_drawn 42 = .ok (.lconst 1, 1) := by decide +kernel
theorem dX7_drawn_43 : decode cX7_drawn 43 = .ok (.invokestatic 60, 3) := by decide +kernel
theorem dX7_drawn_46 : decode cX7_drawn 46 = .ok (.ifCond .ne 6, 3) := by decide +kernel
theorem dX7_drawn_49 : decode cX7_drawn 49 = .ok (.ldc 70, 2) := by decide +kernel
theorem dX7_drawn_51 : decode cX7_drawn 51 = .ok (.ireturn, 1) := by decide +kernel
theorem dX7_drawn_52 : decode cX7_drawn 52 = .ok (.aload_n 0, 1) := by decide +kernel
theorem dX7_drawn_53 : decode cX7_drawn 53 = .ok (.invokevirtual 236, 3) := by decide +kernel
theorem dX7_drawn_56 : decode cX7_drawn 56 = .ok (.iload_n 2, 1) := by decide +kernel
theorem dX7_drawn_57 : decode cX7_drawn 57 = .ok (.i2l, 1) := by decide +kernel
theorem dX7_drawn_58 : decode cX7_drawn 58 = .ok (.lstore 4, 2) := by decide +kernel
theorem dX7_drawn_60 : decode cX7_drawn 60 = .ok (.iconst 0, 1) := by decide +kernel
theorem dX7_drawn_61 : decode cX7_drawn 61 = .ok (.istore 6, 2) := by decide +kernel
theorem dX7_drawn_63 : decode cX7_drawn 63 = .ok (.iload 6, 2) := by decide +kernel
theorem dX7_drawn_65 : decode cX7_drawn 65 = .ok (.iload_n 1, 1) := by decide +kernel
theorem dX7_drawn_66 : decode cX7_drawn 66 = .ok (.if_icmp .ge 140, 3) := by decide +kernel
theorem dX7_drawn_69 : decode cX7_drawn 69 = .ok (.lload 4, 2) := by decide +kernel
theorem dX7_drawn_71 : decode cX7_drawn 71 = .ok (.ldc2_w 263, 3) := by decide +kernel
theorem dX7_drawn_74 : decode cX7_drawn 74 = .ok (.lmul, 1) := by decide +kernel
theorem dX7_drawn_75 : decode cX7_drawn 75 = .ok (.ldc2_w 265, 3) := by decide +kernel
theorem dX7_drawn_78 : decode cX7_drawn 78 = .ok (.lrem, 1) := by decide +kernel
theorem dX7_drawn_79 : decode cX7_drawn 79 = .ok (.lstore 4, 2) := by decide +kernel
theorem dX7_drawn_81 : decode cX7_drawn 81 = .ok (.lload 4, 2) := by decide +kernel
theorem dX7_drawn_83 : decode cX7_drawn 83 = .ok (.aload_n 0, 1) := by decide +kernel
theorem dX7_drawn_84 : decode cX7_drawn 84 = .ok (.getfield 25, 3) := by decide +kernel
theorem dX7_drawn_87 : decode cX7_drawn 87 = .ok (.iconst 2, 1) := by decide +kernel
theorem dX7_drawn_88 : decode cX7_drawn 88 = .ok (.iaload, 1) := by decide +kernel
theorem dX7_drawn_89 : decode cX7_drawn 89 = .ok (.i2l, 1) := by decide +kernel
theorem dX7_drawn_90 : decode cX7_drawn 90 = .ok (.lrem, 1) := by decide +kernel
theorem dX7_drawn_91 : decode cX7_drawn 91 = .ok (.l2i, 1) := by decide +kernel
theorem dX7_drawn_92 : decode cX7_drawn 92 = .ok (.istore 7, 2) := by decide +kernel
theorem dX7_drawn_94 : decode cX7_drawn 94 = .ok (.lload 4, 2) := by decide +kernel
theorem dX7_drawn_96 : decode cX7_drawn 96 = .ok (.ldc2_w 58, 3) := by decide +kernel
theorem dX7_drawn_99 : decode cX7_drawn 99 = .ok (.lrem, 1) := by decide +kernel
theorem dX7_drawn_100 : decode cX7_drawn 100 = .ok (.lconst 0, 1) := by decide +kernel
theorem dX7_drawn_101 : decode cX7_drawn 101 = .ok (.lcmp, 1) := by decide +kernel
theorem dX7_drawn_102 : decode cX7_drawn 102 = .ok (.ifCond .ne 28, 3) := by decide +kernel
theorem dX7_drawn_105 : decode cX7_drawn 105 = .ok (.aload_n 0, 1) := by decide +kernel
theorem dX7_drawn_106 : decode cX7_drawn 106 = .ok (.getfield 25, 3) := by decide +kernel
theorem dX7_drawn_109 : decode cX7_drawn 109 = .ok (.iload 7, 2) := by decide +kernel
theorem dX7_drawn_111 : decode cX7_drawn 111 = .ok (.aload_n 0, 1) := by decide +kernel
theorem dX7_drawn_112 : decode cX7_drawn 112 = .ok (.invokevirtual 179, 3) := by decide +kernel
theorem dX7_drawn_115 : decode cX7_drawn 115 = .ok (.iconst 1, 1) := by decide +kernel
theorem dX7_drawn_116 : decode cX7_drawn 116 = .ok (.lload 4, 2) := by decide +kernel
theorem dX7_drawn_118 : decode cX7_drawn 118 = .ok (.ldc2_w 183, 3) := by decide +kernel
theorem dX7_drawn_121 : decode cX7_drawn 121 = .ok (.lrem, 1) := by decide +kernel
theorem dX7_drawn_122 : decode cX7_drawn 122 = .ok (.l2i, 1) := by decide +kernel
theorem dX7_drawn_123 : decode cX7_drawn 123 = .ok (.iadd, 1) := by decide +kernel
theorem dX7_drawn_124 : decode cX7_drawn 124 = .ok (.invokestatic 188, 3) := by decide +kernel
theorem dX7_drawn_127 : decode cX7_drawn 127 = .ok (.goto 4, 3) := by decide +kernel
theorem dX7_drawn_130 : decode cX7_drawn 130 = .ok (.iconst 0, 1) := by decide +kernel
theorem dX7_drawn_131 : decode cX7_drawn 131 = .ok (.istore 8, 2) := by decide +kernel
theorem dX7_drawn_133 : decode cX7_drawn 133 = .ok (.iload 8, 2) := by decide +kernel
theorem dX7_drawn_135 : decode cX7_drawn 135 = .ok (.ifCond .lt 32, 3) := by decide +kernel
theorem dX7_drawn_138 : decode cX7_drawn 138 = .ok (.lload 4, 2) := by decide +kernel
theorem dX7_drawn_140 : decode cX7_drawn 140 = .ok (.ldc2_w 222, 3) := by decide +kernel
theorem dX7_drawn_143 : decode cX7_drawn 143 = .ok (.lrem, 1) := by decide +kernel
theorem dX7_drawn_144 : decode cX7_drawn 144 = .ok (.lconst 0, 1) := by decide +kernel
theorem dX7_drawn_145 : decode cX7_drawn 145 = .ok (.lcmp, 1) := by decide +kernel
theorem dX7_drawn_146 : decode cX7_drawn 146 = .ok (.ifCond .ne 21, 3) := by decide +kernel
theorem dX7_drawn_149 : decode cX7_drawn 149 = .ok (.aload_n 0, 1) := by decide +kernel
theorem dX7_drawn_150 : decode cX7_drawn 150 = .ok (.getfield 25, 3) := by decide +kernel
theorem dX7_drawn_153 : decode cX7_drawn 153 = .ok (.iconst 5, 1) := by decide +kernel
theorem dX7_drawn_154 : decode cX7_drawn 154 = .ok (.iload 7, 2) := by decide +kernel
theorem dX7_drawn_156 : decode cX7_drawn 156 = .ok (.iadd, 1) := by decide +kernel
theorem dX7_drawn_157 : decode cX7_drawn 157 = .ok (.iaload, 1) := by decide +kernel
theorem dX7_drawn_158 : decode cX7_drawn 158 = .ok (.bipush 99, 2) := by decide +kernel
theorem dX7_drawn_160 : decode cX7_drawn 160 = .ok (.if_icmp .ge 7, 3) := by decide +kernel
theorem dX7_drawn_163 : decode cX7_drawn 163 = .ok (.iconst 1, 1) := by decide +kernel
theorem dX7_drawn_164 : decode cX7_drawn 164 = .ok (.goto 4, 3) := by decide +kernel
theorem dX7_drawn_167 : decode cX7_drawn 167 = .ok (.iconst 0, 1) := by decide +kernel
theorem dX7_drawn_168 : decode cX7_drawn 168 = .ok (.istore 9, 2) := by decide +kernel
theorem dX7_drawn_170 : decode cX7_drawn 170 = .ok (.aload_n 0, 1) := by decide +kernel
theorem dX7_drawn_171 : decode cX7_drawn 171 = .ok (.getfield 25, 3) := by decide +kernel
theorem dX7_drawn_174 : decode cX7_drawn 174 = .ok (.iconst 5, 1) := by decide +kernel
theorem dX7_drawn_175 : decode cX7_drawn 175 = .ok (.iload 7, 2) := by decide +kernel
theorem dX7_drawn_177 : decode cX7_drawn 177 = .ok (.iadd, 1) := by decide +kernel
theorem dX7_drawn_178 : decode cX7_drawn 178 = .ok (.dup2, 1) := by decide +kernel
theorem dX7_drawn_179 : decode cX7_drawn 179 = .ok (.iaload, 1) := by decide +kernel
theorem dX7_drawn_180 : decode cX7_drawn 180 = .ok (.iload 9, 2) := by decide +kernel
theorem dX7_drawn_182 : decode cX7_drawn 182 = .ok (.ifCond .eq 7, 3) := by decide +kernel
theorem dX7_drawn_185 : decode cX7_drawn 185 = .ok (.iconst 1, 1) := by decide +kernel
theorem dX7_drawn_186 : decode cX7_drawn 186 = .ok (.goto 4, 3) := by decide +kernel
theorem dX7_drawn_189 : decode cX7_drawn 189 = .ok (.iconst 0, 1) := by decide +kernel
theorem dX7_drawn_190 : decode cX7_drawn 190 = .ok (.iadd, 1) := by decide +kernel
theorem dX7_drawn_191 : decode cX7_drawn 191 = .ok (.iastore, 1) := by decide +kernel
theorem dX7_drawn_192 : decode cX7_drawn 192 = .ok (.aload_n 0, 1) := by decide +kernel
theorem dX7_drawn_193 : decode cX7_drawn 193 = .ok (.getfield 25, 3) := by decide +kernel
theorem dX7_drawn_196 : decode cX7_drawn 196 = .ok (.iconst 1, 1) := by decide +kernel
theorem dX7_drawn_197 : decode cX7_drawn 197 = .ok (.invokestatic 207, 3) := by decide +kernel
theorem dX7_drawn_200 : decode cX7_drawn 200 = .ok (.iinc 6 1, 3) := by decide +kernel
theorem dX7_drawn_203 : decode cX7_drawn 203 = .ok (.goto (-140), 3) := by decide +kernel
theorem dX7_drawn_206 : decode cX7_drawn 206 = .ok (.iconst 0, 1) := by decide +kernel
theorem dX7_drawn_207 : decode cX7_drawn 207 = .ok (.istore 6, 2) := by decide +kernel
theorem dX7_drawn_209 : decode cX7_drawn 209 = .ok (.iconst 0, 1) := by decide +kernel
theorem dX7_drawn_210 : decode cX7_drawn 210 = .ok (.istore 7, 2) := by decide +kernel
theorem dX7_drawn_212 : decode cX7_drawn 212 = .ok (.iconst 0, 1) := by decide +kernel
theorem dX7_drawn_213 : decode cX7_drawn 213 = .ok (.istore 8, 2) := by decide +kernel
theorem dX7_drawn_215 : decode cX7_drawn 215 = .ok (.iload 8, 2) := by decide +kernel
theorem dX7_drawn_217 : decode cX7_drawn 217 = .ok (.aload_n 0, 1) := by decide +kernel
theorem dX7_drawn_218 : decode cX7_drawn 218 = .ok (.getfield 25, 3) := by decide +kernel
theorem dX7_drawn_221 : decode cX7_drawn 221 = .ok (.iconst 2, 1) := by decide +kernel
theorem dX7_drawn_222 : decode cX7_drawn 222 = .ok (.iaload, 1) := by decide +kernel
theorem dX7_drawn_223 : decode cX7_drawn 223 = .ok (.if_icmp .ge 80, 3) := by decide +kernel
theorem dX7_drawn_226 : decode cX7_drawn 226 = .ok (.iconst 0, 1) := by decide +kernel
theorem dX7_drawn_227 : decode cX7_drawn 227 = .ok (.istore 9, 2) := by decide +kernel
theorem dX7_drawn_229 : decode cX7_drawn 229 = .ok (.iload 9, 2) := by decide +kernel
theorem dX7_drawn_231 : decode cX7_drawn 231 = .ok (.aload_n 0, 1) := by decide +kernel
theorem dX7_drawn_232 : decode cX7_drawn 232 = .ok (.getfield 25, 3) := by decide +kernel
theorem dX7_drawn_235 : decode cX7_drawn 235 = .ok (.iconst 3, 1) := by decide +kernel
theorem dX7_drawn_236 : decode cX7_drawn 236 = .ok (.iaload, 1) := by decide +kernel
theorem dX7_drawn_237 : decode cX7_drawn 237 = .ok (.if_icmp .ge 60, 3) := by decide +kernel
theorem dX7_drawn_240 : decode cX7_drawn 240 = .ok (.aload_n 0, 1) := by decide +kernel
theorem dX7_drawn_241 : decode cX7_drawn 241 = .ok (.getfield 25, 3) := by decide +kernel
theorem dX7_drawn_244 : decode cX7_drawn 244 = .ok (.iload 9, 2) := by decide +kernel
theorem dX7_drawn_246 : decode cX7_drawn 246 = .ok (.iload 8, 2) := by decide +kernel
theorem dX7_drawn_248 : decode cX7_drawn 248 = .ok (.invokestatic 166, 3) := by decide +kernel
theorem dX7_drawn_251 : decode cX7_drawn 251 = .ok (.istore 10, 2) := by decide +kernel
theorem dX7_drawn_253 : decode cX7_drawn 253 = .ok (.iload 6, 2) := by decide +kernel
theorem dX7_drawn_255 : decode cX7_drawn 255 = .ok (.iload 10, 2) := by decide +kernel
theorem dX7_drawn_257 : decode cX7_drawn 257 = .ok (.ldc 93, 2) := by decide +kernel
theorem dX7_drawn_259 : decode cX7_drawn 259 = .ok (.if_icmp .ne 7, 3) := by decide +kernel
theorem dX7_drawn_262 : decode cX7_drawn 262 = .ok (.iconst 0, 1) := by decide +kernel
theorem dX7_drawn_263 : decode cX7_drawn 263 = .ok (.goto 7, 3) := by decide +kernel
theorem dX7_drawn_266 : decode cX7_drawn 266 = .ok (.iconst 1, 1) := by decide +kernel
theorem dX7_drawn_267 : decode cX7_drawn 267 = .ok (.iload 8, 2) := by decide +kernel
theorem dX7_drawn_269 : decode cX7_drawn 269 = .ok (.ishl, 1) := by decide +kernel
theorem dX7_drawn_270 : decode cX7_drawn 270 = .ok (.ior, 1) := by decide +kernel
theorem dX7_drawn_271 : decode cX7_drawn 271 = .ok (.istore 6, 2) := by decide +kernel
theorem dX7_drawn_273 : decode cX7_drawn 273 = .ok (.iload 7, 2) := by decide +kernel
theorem dX7_drawn_275 : decode cX7_drawn 275 = .ok (.iload 10, 2) := by decide +kernel
theorem dX7_drawn_277 : decode cX7_drawn 277 = .ok (.ldc 93, 2) := by decide +kernel
theorem dX7_drawn_279 : decode cX7_drawn 279 = .ok (.if_icmp .ne 7, 3) := by decide +kernel
theorem dX7_drawn_282 : decode cX7_drawn 282 = .ok (.iconst 0, 1) := by decide +kernel
theorem dX7_drawn_283 : decode cX7_drawn 283 = .ok (.goto 5, 3) := by decide +kernel
theorem dX7_drawn_286 : decode cX7_drawn 286 = .ok (.iload 10, 2) := by decide +kernel
theorem dX7_drawn_288 : decode cX7_drawn 288 = .ok (.iadd, 1) := by decide +kernel
theorem dX7_drawn_289 : decode cX7_drawn 289 = .ok (.istore 7, 2) := by decide +kernel
theorem dX7_drawn_291 : decode cX7_drawn 291 = .ok (.iinc 9 1, 3) := by decide +kernel
theorem dX7_drawn_294 : decode cX7_drawn 294 = .ok (.goto (-65), 3) := by decide +kernel
theorem dX7_drawn_297 : decode cX7_drawn 297 = .ok (.iinc 8 1, 3) := by decide +kernel
theorem dX7_drawn_300 : decode cX7_drawn 300 = .ok (.goto (-85), 3) := by decide +kernel
theorem dX7_drawn_303 : decode cX7_drawn 303 = .ok (.iload_n 3, 1) := by decide +kernel
theorem dX7_drawn_304 : decode cX7_drawn 304 = .ok (.ifCond .ne 8, 3) := by decide +kernel
theorem dX7_drawn_307 : decode cX7_drawn 307 = .ok (.iload 6, 2) := by decide +kernel
theorem dX7_drawn_309 : decode cX7_drawn 309 = .ok (.goto 5, 3) := by decide +kernel
theorem dX7_drawn_312 : decode cX7_drawn 312 = .ok (.iload 7, 2) := by decide +kernel
theorem dX7_drawn_314 : decode cX7_drawn 314 = .ok (.ireturn, 1) := by decide +kernel
theorem dX7_image_0 : decode cX7_image 0 = .ok (.aload_n 0, 1) := by decide +kernel
theorem dX7_image_1 : decode cX7_image 1 = .ok (.iconst 0, 1) := by decide +kernel
theorem dX7_image_2 : decode cX7_image 2 = .ok (.putfield 50, 3) := by decide +kernel
theorem dX7_image_5 : decode cX7_image 5 = .ok (.iload_n 1, 1) := by decide +kernel
theorem dX7_image_6 : decode cX7_image 6 = .ok (.i2l, 1) := by decide +kernel
theorem dX7_image_7 : decode cX7_image 7 = .ok (.lconst 0, 1) := by decide +kernel
theorem dX7_image_8 : decode cX7_image 8 = .ok (.lconst 1, 1) := by decide +kernel
theorem dX7_image_9 : decode cX7_image 9 = .ok (.invokestatic 60, 3) := by decide +kernel
theorem dX7_image_12 : decode cX7_image 12 = .ok (.ifCond .ne 6, 3) := by decide +kernel
theorem dX7_image_15 : decode cX7_image 15 = .ok (.ldc 70, 2) := by decide +kernel
theorem dX7_image_17 : decode cX7_image 17 = .ok (.ireturn, 1) := by decide +kernel
theorem dX7_image_18 : decode cX7_image 18 = .ok (.aload_n 0, 1) := by decide +kernel
theorem dX7_image_19 : decode cX7_image 19 = .ok (.invokevirtual 202, 3) := by decide +kernel
theorem dX7_image_22 : decode cX7_image 22 = .ok (.ifCond .ne 6, 3) := by decide +kernel
theorem dX7_image_25 : decode cX7_image 25 = .ok (.ldc 201, 2) := by decide +kernel
theorem dX7_image_27 : decode cX7_image 27 = .ok (.ireturn, 1) := by decide +kernel
theorem dX7_image_28 : decode cX7_image 28 = .ok (.iconst 0, 1) := by decide +kernel
theorem dX7_image_29 : decode cX7_image 29 = .ok (.istore_n 2, 1) := by decide +kernel
theorem dX7_image_30 : decode cX7_image 30 = .ok (.iload_n 2, 1) := by decide +kernel
theorem dX7_image_31 : decode cX7_image 31 = .ok (.sipush 143, 3) := by decide +kernel
theorem dX7_image_34 : decode cX7_image 34 = .ok (.if_icmp .ge 27, 3) := by decide +kernel
theorem dX7_image_37 : decode cX7_image 37 = .ok (.aload_n 0, 1) := by decide +kernel
theorem dX7_image_38 : decode cX7_image 38 = .ok (.getfield 44, 3) := by decide +kernel
theorem dX7_image_41 : decode cX7_image 41 = .ok (.sipush 143, 3) := by decide +kernel
theorem dX7_image_44 : decode cX7_image 44 = .ok (.iload_n 1, 1) := by decide +kernel
theorem dX7_image_45 : decode cX7_image 45 = .ok (.imul, 1) := by decide +kernel
theorem dX7_image_46 : decode cX7_image 46 = .ok (.iload_n 2, 1) := by decide +kernel
theorem dX7_image_47 : decode cX7_image 47 = .ok (.iadd, 1) := by decide +kernel
theorem dX7_image_48 : decode cX7_image 48 = .ok (.aload_n 0, 1) := by decide +kernel
theorem dX7_image_49 : decode cX7_image 49 = .ok (.getfield 19, 3) := by decide +kernel
theorem dX7_image_52 : decode cX7_image 52 = .ok (.iload_n 2, 1) := by decide +kernel
theorem dX7_image_53 : decode cX7_image 53 = .ok (.iaload, 1) := by decide +kernel
theorem dX7_image_54 : decode cX7_image 54 = .ok (.iastore, 1) := by decide +kernel
theorem dX7_image_55 : decode cX7_image 55 = .ok (.iinc 2 1, 3) := by decide +kernel
theorem dX7_image_58 : decode cX7_image 58 = .ok (.goto (-28), 3) := by decide +kernel
theorem dX7_image_61 : decode cX7_image 61 = .ok (.aload_n 0, 1) := by decide +kernel
theorem dX7_image_62 : decode cX7_image 62 = .ok (.getfield 40, 3) := by decide +kernel
theorem dX7_image_65 : decode cX7_image 65 = .ok (.iload_n 1, 1) := by decide +kernel
theorem dX7_image_66 : decode cX7_image 66 = .ok (.iconst 1, 1) := by decide +kernel
theorem dX7_image_67 : decode cX7_image 67 = .ok (.bastore, 1) := by decide +kernel
theorem dX7_image_68 : decode cX7_image 68 = .ok (.iconst 1, 1) := by decide +kernel
theorem dX7_image_69 : decode cX7_image 69 = .ok (.ireturn, 1) := by decide +kernel
theorem dX7_restore_0 : decode cX7_restore 0 = .ok (.aload_n 0, 1) := by decide +kernel
theorem dX7_restore_1 : decode cX7_restore 1 = .ok (.iconst 0, 1) := by decide +kernel
theorem dX7_restore_2 : decode cX7_restore 2 = .ok (.putfield 50, 3) := by decide +kernel
theorem dX7_restore_5 : decode cX7_restore 5 = .ok (.iload_n 1, 1) := by decide +kernel
theorem dX7_restore_6 : decode cX7_restore 6 = .ok (.i2l, 1) := by decide +kernel
theorem dX7_restore_7 : decode cX7_restore 7 = .ok (.lconst 0, 1) := by decide +kernel
theorem dX7_restore_8 : decode cX7_restore 8 = .ok (.lconst 1, 1) := by decide +kernel
theorem dX7_restore_9 : decode cX7_restore 9 = .ok (.invokestatic 60, 3) := by decide +kernel
theorem dX7_restore_12 : decode cX7_restore 12 = .ok (.ifCond .ne 6, 3) := by decide +kernel
theorem dX7_restore_15 : decode cX7_restore 15 = .ok (.ldc 70, 2) := by decide +kernel
theorem dX7_restore_17 : decode cX7_restore 17 = .ok (.ireturn, 1) := by decide +kernel
theorem dX7_restore_18 : decode cX7_restore 18 = .ok (.aload_n 0, 1) := by decide +kernel
theorem dX7_restore_19 : decode cX7_restore 19 = .ok (.getfield 40, 3) := by decide +kernel
theorem dX7_restore_22 : decode cX7_restore 22 = .ok (.iload_n 1, 1) := by decide +kernel
theorem dX7_restore_23 : decode cX7_restore 23 = .ok (.baload, 1) := by decide +kernel
theorem dX7_restore_24 : decode cX7_restore 24 = .ok (.ifCond .ne 6, 3) := by decide +kernel
theorem dX7_restore_27 : decode cX7_restore 27 = .ok (.ldc 201, 2) := by decide +kernel
theorem dX7_restore_29 : decode cX7_restore 29 = .ok (.ireturn, 1) := by decide +kernel
theorem dX7_restore_30 : decode cX7_restore 30 = .ok (.iconst 0, 1) := by decide +kernel
theorem dX7_restore_31 : decode cX7_restore 31 = .ok (.istore_n 2, 1) := by decide +kernel
theorem dX7_restore_32 : decode cX7_restore 32 = .ok (.iload_n 2, 1) := by decide +kernel
theorem dX7_restore_33 : decode cX7_restore 33 = .ok (.sipush 143, 3) := by decide +kernel
theorem dX7_restore_36 : decode cX7_restore 36 = .ok (.if_icmp .ge 27, 3) := by decide +kernel
theorem dX7_restore_39 : decode cX7_restore 39 = .ok (.aload_n 0, 1) := by decide +kernel
theorem dX7_restore_40 : decode cX7_restore 40 = .ok (.getfield 19, 3) := by decide +kernel
theorem dX7_restore_43 : decode cX7_restore 43 = .ok (.iload_n 2, 1) := by decide +kernel
