theorem dX3_bump_64 : decode cX3_bump 64 = .ok (.aload_n 0, 1) := by decide +kernel
theorem dX3_bump_65 : decode cX3_bump 65 = .ok (.getfield 53, 3) := by decide +kernel
theorem dX3_bump_68 : decode cX3_bump 68 = .ok (.iload 6, 2) := by decide +kernel
theorem dX3_bump_70 : decode cX3_bump 70 = .ok (.aload_n 0, 1) := by decide +kernel
theorem dX3_bump_71 : decode cX3_bump 71 = .ok (.getfield 22, 3) := by decide +kernel
theorem dX3_bump_74 : decode cX3_bump 74 = .ok (.iastore, 1) := by decide +kernel
theorem dX3_bump_75 : decode cX3_bump 75 = .ok (.iinc 4 1, 3) := by decide +kernel
theorem dX3_bump_78 : decode cX3_bump 78 = .ok (.iinc 5 1, 3) := by decide +kernel
theorem dX3_bump_81 : decode cX3_bump 81 = .ok (.goto (-75), 3) := by decide +kernel
theorem dX3_bump_84 : decode cX3_bump 84 = .ok (.iload 4, 2) := by decide +kernel
theorem dX3_bump_86 : decode cX3_bump 86 = .ok (.ireturn, 1) := by decide +kernel
theorem dX3_oath_0 : decode cX3_oath 0 = .ok (.aload_n 0, 1) := by decide +kernel
theorem dX3_oath_1 : decode cX3_oath 1 = .ok (.iload_n 1, 1) := by decide +kernel
theorem dX3_oath_2 : decode cX3_oath 2 = .ok (.iload_n 2, 1) := by decide +kernel
theorem dX3_oath_3 : decode cX3_oath 3 = .ok (.invokevirtual 73, 3) := by decide +kernel
theorem dX3_oath_6 : decode cX3_oath 6 = .ok (.istore_n 3, 1) := by decide +kernel
theorem dX3_oath_7 : decode cX3_oath 7 = .ok (.aload_n 0, 1) := by decide +kernel
theorem dX3_oath_8 : decode cX3_oath 8 = .ok (.getfield 50, 3) := by decide +kernel
theorem dX3_oath_11 : decode cX3_oath 11 = .ok (.iload_n 3, 1) := by decide +kernel
theorem dX3_oath_12 : decode cX3_oath 12 = .ok (.iaload, 1) := by decide +kernel
theorem dX3_oath_13 : decode cX3_oath 13 = .ok (.istore 4, 2) := by decide +kernel
theorem dX3_oath_15 : decode cX3_oath 15 = .ok (.aload_n 0, 1) := by decide +kernel
theorem dX3_oath_16 : decode cX3_oath 16 = .ok (.getfield 22, 3) := by decide +kernel
theorem dX3_oath_19 : decode cX3_oath 19 = .ok (.aload_n 0, 1) := by decide +kernel
theorem dX3_oath_20 : decode cX3_oath 20 = .ok (.getfield 53, 3) := by decide +kernel
theorem dX3_oath_23 : decode cX3_oath 23 = .ok (.iload_n 3, 1) := by decide +kernel
theorem dX3_oath_24 : decode cX3_oath 24 = .ok (.iaload, 1) := by decide +kernel
theorem dX3_oath_25 : decode cX3_oath 25 = .ok (.isub, 1) := by decide +kernel
theorem dX3_oath_26 : decode cX3_oath 26 = .ok (.istore 5, 2) := by decide +kernel
theorem dX3_oath_28 : decode cX3_oath 28 = .ok (.aload_n 0, 1) := by decide +kernel
theorem dX3_oath_29 : decode cX3_oath 29 = .ok (.getfield 35, 3) := by decide +kernel
theorem dX3_oath_32 : decode cX3_oath 32 = .ok (.iload_n 1, 1) := by decide +kernel
theorem dX3_oath_33 : decode cX3_oath 33 = .ok (.iaload, 1) := by decide +kernel
theorem dX3_oath_34 : decode cX3_oath 34 = .ok (.istore 6, 2) := by decide +kernel
theorem dX3_oath_36 : decode cX3_oath 36 = .ok (.iload 4, 2) := by decide +kernel
theorem dX3_oath_38 : decode cX3_oath 38 = .ok (.ifCond .eq 29, 3) := by decide +kernel
theorem dX3_oath_41 : decode cX3_oath 41 = .ok (.iload 5, 2) := by decide +kernel
theorem dX3_oath_43 : decode cX3_oath 43 = .ok (.aload_n 0, 1) := by decide +kernel
theorem dX3_oath_44 : decode cX3_oath 44 = .ok (.getfield 15, 3) := by decide +kernel
theorem dX3_oath_47 : decode cX3_oath 47 = .ok (.iload 4, 2) := by decide +kernel
theorem dX3_oath_49 : decode cX3_oath 49 = .ok (.imul, 1) := by decide +kernel
theorem dX3_oath_50 : decode cX3_oath 50 = .ok (.if_icmp .ge 17, 3) := by decide +kernel
theorem dX3_oath_53 : decode cX3_oath 53 = .ok (.iload 6, 2) := by decide +kernel
theorem dX3_oath_55 : decode cX3_oath 55 = .ok (.iconst 5, 1) := by decide +kernel
theorem dX3_oath_56 : decode cX3_oath 56 = .ok (.if_icmp .eq 14, 3) := by decide +kernel
theorem dX3_oath_59 : decode cX3_oath 59 = .ok (.aload_n 0, 1) := by decide +kernel
theorem dX3_oath_60 : decode cX3_oath 60 = .ok (.iload_n 1, 1) := by decide +kernel
theorem dX3_oath_61 : decode cX3_oath 61 = .ok (.invokevirtual 66, 3) := by decide +kernel
theorem dX3_oath_64 : decode cX3_oath 64 = .ok (.ifCond .ne 6, 3) := by decide +kernel
theorem dX3_oath_67 : decode cX3_oath 67 = .ok (.ldc 77, 2) := by decide +kernel
theorem dX3_oath_69 : decode cX3_oath 69 = .ok (.ireturn, 1) := by decide +kernel
theorem dX3_oath_70 : decode cX3_oath 70 = .ok (.aload_n 0, 1) := by decide +kernel
theorem dX3_oath_71 : decode cX3_oath 71 = .ok (.getfield 47, 3) := by decide +kernel
theorem dX3_oath_74 : decode cX3_oath 74 = .ok (.iload_n 3, 1) := by decide +kernel
theorem dX3_oath_75 : decode cX3_oath 75 = .ok (.iaload, 1) := by decide +kernel
theorem dX3_oath_76 : decode cX3_oath 76 = .ok (.istore 7, 2) := by decide +kernel
theorem dX3_oath_78 : decode cX3_oath 78 = .ok (.iload 6, 2) := by decide +kernel
theorem dX3_oath_80 : decode cX3_oath 80 = .ok (.tableswitch 90 2 4 #[28, 47, 76], 28) := by decide +kernel
theorem dX3_oath_108 : decode cX3_oath 108 = .ok (.iconst 0, 1) := by decide +kernel
theorem dX3_oath_109 : decode cX3_oath 109 = .ok (.bipush 99, 2) := by decide +kernel
theorem dX3_oath_111 : decode cX3_oath 111 = .ok (.iload 7, 2) := by decide +kernel
theorem dX3_oath_113 : decode cX3_oath 113 = .ok (.aload_n 0, 1) := by decide +kernel
theorem dX3_oath_114 : decode cX3_oath 114 = .ok (.getfield 44, 3) := by decide +kernel
theorem dX3_oath_117 : decode cX3_oath 117 = .ok (.iload_n 1, 1) := by decide +kernel
theorem dX3_oath_118 : decode cX3_oath 118 = .ok (.iaload, 1) := by decide +kernel
theorem dX3_oath_119 : decode cX3_oath 119 = .ok (.iadd, 1) := by decide +kernel
theorem dX3_oath_120 : decode cX3_oath 120 = .ok (.invokestatic 78, 3) := by decide +kernel
theorem dX3_oath_123 : decode cX3_oath 123 = .ok (.invokestatic 83, 3) := by decide +kernel
theorem dX3_oath_126 : decode cX3_oath 126 = .ok (.ireturn, 1) := by decide +kernel
theorem dX3_oath_127 : decode cX3_oath 127 = .ok (.aload_n 0, 1) := by decide +kernel
theorem dX3_oath_128 : decode cX3_oath 128 = .ok (.getfield 19, 3) := by decide +kernel
theorem dX3_oath_131 : decode cX3_oath 131 = .ok (.iconst 1, 1) := by decide +kernel
theorem dX3_oath_132 : decode cX3_oath 132 = .ok (.if_icmp .ge 8, 3) := by decide +kernel
theorem dX3_oath_135 : decode cX3_oath 135 = .ok (.iload 7, 2) := by decide +kernel
theorem dX3_oath_137 : decode cX3_oath 137 = .ok (.goto 18, 3) := by decide +kernel
theorem dX3_oath_140 : decode cX3_oath 140 = .ok (.bipush 99, 2) := by decide +kernel
theorem dX3_oath_142 : decode cX3_oath 142 = .ok (.iload 7, 2) := by decide +kernel
theorem dX3_oath_144 : decode cX3_oath 144 = .ok (.iload 5, 2) := by decide +kernel
theorem dX3_oath_146 : decode cX3_oath 146 = .ok (.aload_n 0, 1) := by decide +kernel
theorem dX3_oath_147 : decode cX3_oath 147 = .ok (.getfield 19, 3) := by decide +kernel
theorem dX3_oath_150 : decode cX3_oath 150 = .ok (.idiv, 1) := by decide +kernel
theorem dX3_oath_151 : decode cX3_oath 151 = .ok (.iadd, 1) := by decide +kernel
theorem dX3_oath_152 : decode cX3_oath 152 = .ok (.invokestatic 78, 3) := by decide +kernel
theorem dX3_oath_155 : decode cX3_oath 155 = .ok (.ireturn, 1) := by decide +kernel
theorem dX3_oath_156 : decode cX3_oath 156 = .ok (.iload 4, 2) := by decide +kernel
theorem dX3_oath_158 : decode cX3_oath 158 = .ok (.iconst 5, 1) := by decide +kernel
theorem dX3_oath_159 : decode cX3_oath 159 = .ok (.if_icmp .lt 8, 3) := by decide +kernel
theorem dX3_oath_162 : decode cX3_oath 162 = .ok (.iload 7, 2) := by decide +kernel
theorem dX3_oath_164 : decode cX3_oath 164 = .ok (.goto 5, 3) := by decide +kernel
theorem dX3_oath_167 : decode cX3_oath 167 = .ok (.ldc 77, 2) := by decide +kernel
theorem dX3_oath_169 : decode cX3_oath 169 = .ok (.ireturn, 1) := by decide +kernel
theorem dX3_oath_170 : decode cX3_oath 170 = .ok (.iload 7, 2) := by decide +kernel
theorem dX3_oath_172 : decode cX3_oath 172 = .ok (.ireturn, 1) := by decide +kernel
theorem dX3_stonesSwornBy_0 : decode cX3_stonesSwornBy 0 = .ok (.iconst 0, 1) := by decide +kernel
theorem dX3_stonesSwornBy_1 : decode cX3_stonesSwornBy 1 = .ok (.istore_n 2, 1) := by decide +kernel
theorem dX3_stonesSwornBy_2 : decode cX3_stonesSwornBy 2 = .ok (.iconst 0, 1) := by decide +kernel
theorem dX3_stonesSwornBy_3 : decode cX3_stonesSwornBy 3 = .ok (.istore_n 3, 1) := by decide +kernel
theorem dX3_stonesSwornBy_4 : decode cX3_stonesSwornBy 4 = .ok (.iload_n 3, 1) := by decide +kernel
theorem dX3_stonesSwornBy_5 : decode cX3_stonesSwornBy 5 = .ok (.aload_n 0, 1) := by decide +kernel
theorem dX3_stonesSwornBy_6 : decode cX3_stonesSwornBy 6 = .ok (.getfield 25, 3) := by decide +kernel
theorem dX3_stonesSwornBy_9 : decode cX3_stonesSwornBy 9 = .ok (.if_icmp .ge 26, 3) := by decide +kernel
theorem dX3_stonesSwornBy_12 : decode cX3_stonesSwornBy 12 = .ok (.aload_n 0, 1) := by decide +kernel
theorem dX3_stonesSwornBy_13 : decode cX3_stonesSwornBy 13 = .ok (.iload_n 1, 1) := by decide +kernel
theorem dX3_stonesSwornBy_14 : decode cX3_stonesSwornBy 14 = .ok (.iload_n 3, 1) := by decide +kernel
theorem dX3_stonesSwornBy_15 : decode cX3_stonesSwornBy 15 = .ok (.invokevirtual 86, 3) := by decide +kernel
theorem dX3_stonesSwornBy_18 : decode cX3_stonesSwornBy 18 = .ok (.ldc 77, 2) := by decide +kernel
theorem dX3_stonesSwornBy_20 : decode cX3_stonesSwornBy 20 = .ok (.if_icmp .eq 9, 3) := by decide +kernel
theorem dX3_stonesSwornBy_23 : decode cX3_stonesSwornBy 23 = .ok (.iload_n 2, 1) := by decide +kernel
theorem dX3_stonesSwornBy_24 : decode cX3_stonesSwornBy 24 = .ok (.iconst 1, 1) := by decide +kernel
theorem dX3_stonesSwornBy_25 : decode cX3_stonesSwornBy 25 = .ok (.iload_n 3, 1) := by decide +kernel
theorem dX3_stonesSwornBy_26 : decode cX3_stonesSwornBy 26 = .ok (.ishl, 1) := by decide +kernel
theorem dX3_stonesSwornBy_27 : decode cX3_stonesSwornBy 27 = .ok (.ior, 1) := by decide +kernel
theorem dX3_stonesSwornBy_28 : decode cX3_stonesSwornBy 28 = .ok (.istore_n 2, 1) := by decide +kernel
theorem dX3_stonesSwornBy_29 : decode cX3_stonesSwornBy 29 = .ok (.iinc 3 1, 3) := by decide +kernel
theorem dX3_stonesSwornBy_32 : decode cX3_stonesSwornBy 32 = .ok (.goto (-28), 3) := by decide +kernel
theorem dX3_stonesSwornBy_35 : decode cX3_stonesSwornBy 35 = .ok (.iload_n 2, 1) := by decide +kernel
theorem dX3_stonesSwornBy_36 : decode cX3_stonesSwornBy 36 = .ok (.ireturn, 1) := by decide +kernel
theorem dX3_swearersTo_0 : decode cX3_swearersTo 0 = .ok (.iconst 0, 1) := by decide +kernel
theorem dX3_swearersTo_1 : decode cX3_swearersTo 1 = .ok (.istore_n 2, 1) := by decide +kernel
theorem dX3_swearersTo_2 : decode cX3_swearersTo 2 = .ok (.iconst 0, 1) := by decide +kernel
theorem dX3_swearersTo_3 : decode cX3_swearersTo 3 = .ok (.istore_n 3, 1) := by decide +kernel
theorem dX3_swearersTo_4 : decode cX3_swearersTo 4 = .ok (.iload_n 3, 1) := by decide +kernel
theorem dX3_swearersTo_5 : decode cX3_swearersTo 5 = .ok (.aload_n 0, 1) := by decide +kernel
theorem dX3_swearersTo_6 : decode cX3_swearersTo 6 = .ok (.getfield 28, 3) := by decide +kernel
theorem dX3_swearersTo_9 : decode cX3_swearersTo 9 = .ok (.if_icmp .ge 26, 3) := by decide +kernel
theorem dX3_swearersTo_12 : decode cX3_swearersTo 12 = .ok (.aload_n 0, 1) := by decide +kernel
theorem dX3_swearersTo_13 : decode cX3_swearersTo 13 = .ok (.iload_n 3, 1) := by decide +kernel
theorem dX3_swearersTo_14 : decode cX3_swearersTo 14 = .ok (.iload_n 1, 1) := by decide +kernel
theorem dX3_swearersTo_15 : decode cX3_swearersTo 15 = .ok (.invokevirtual 86, 3) := by decide +kernel
theorem dX3_swearersTo_18 : decode cX3_swearersTo 18 = .ok (.ldc 77, 2) := by decide +kernel
theorem dX3_swearersTo_20 : decode cX3_swearersTo 20 = .ok (.if_icmp .eq 9, 3) := by decide +kernel
theorem dX3_swearersTo_23 : decode cX3_swearersTo 23 = .ok (.iload_n 2, 1) := by decide +kernel
theorem dX3_swearersTo_24 : decode cX3_swearersTo 24 = .ok (.iconst 1, 1) := by decide +kernel
theorem dX3_swearersTo_25 : decode cX3_swearersTo 25 = .ok (.iload_n 3, 1) := by decide +kernel
theorem dX3_swearersTo_26 : decode cX3_swearersTo 26 = .ok (.ishl, 1) := by decide +kernel
theorem dX3_swearersTo_27 : decode cX3_swearersTo 27 = .ok (.ior, 1) := by decide +kernel
theorem dX3_swearersTo_28 : decode cX3_swearersTo 28 = .ok (.istore_n 2, 1) := by decide +kernel
theorem dX3_swearersTo_29 : decode cX3_swearersTo 29 = .ok (.iinc 3 1, 3) := by decide +kernel
theorem dX3_swearersTo_32 : decode cX3_swearersTo 32 = .ok (.goto (-28), 3) := by decide +kernel
theorem dX3_swearersTo_35 : decode cX3_swearersTo 35 = .ok (.iload_n 2, 1) := by decide +kernel
theorem dX3_swearersTo_36 : decode cX3_swearersTo 36 = .ok (.ireturn, 1) := by decide +kernel
theorem dX3_stonesSworn_0 : decode cX3_stonesSworn 0 = .ok (.iconst 0, 1) := by decide +kernel
theorem dX3_stonesSworn_1 : decode cX3_stonesSworn 1 = .ok (.istore_n 1, 1) := by decide +kernel
theorem dX3_stonesSworn_2 : decode cX3_stonesSworn 2 = .ok (.iconst 0, 1) := by decide +kernel
theorem dX3_stonesSworn_3 : decode cX3_stonesSworn 3 = .ok (.istore_n 2, 1) := by decide +kernel
theorem dX3_stonesSworn_4 : decode cX3_stonesSworn 4 = .ok (.iload_n 2, 1) := by decide +kernel
theorem dX3_stonesSworn_5 : decode cX3_stonesSworn 5 = .ok (.aload_n 0, 1) := by decide +kernel
theorem dX3_stonesSworn_6 : decode cX3_stonesSworn 6 = .ok (.getfield 28, 3) := by decide +kernel
theorem dX3_stonesSworn_9 : decode cX3_stonesSworn 9 = .ok (.if_icmp .ge 17, 3) := by decide +kernel
theorem dX3_stonesSworn_12 : decode cX3_stonesSworn 12 = .ok (.iload_n 1, 1) := by decide +kernel
theorem dX3_stonesSworn_13 : decode cX3_stonesSworn 13 = .ok (.aload_n 0, 1) := by decide +kernel
theorem dX3_stonesSworn_14 : decode cX3_stonesSworn 14 = .ok (.iload_n 2, 1) := by decide +kernel
theorem dX3_stonesSworn_15 : decode cX3_stonesSworn 15 = .ok (.invokevirtual 89, 3) := by decide +kernel
theorem dX3_stonesSworn_18 : decode cX3_stonesSworn 18 = .ok (.ior, 1) := by decide +kernel
theorem dX3_stonesSworn_19 : decode cX3_stonesSworn 19 = .ok (.istore_n 1, 1) := by decide +kernel
theorem dX3_stonesSworn_20 : decode cX3_stonesSworn 20 = .ok (.iinc 2 1, 3) := by decide +kernel
theorem dX3_stonesSworn_23 : decode cX3_stonesSworn 23 = .ok (.goto (-19), 3) := by decide +kernel
theorem dX3_stonesSworn_26 : decode cX3_stonesSworn 26 = .ok (.iload_n 1, 1) := by decide +kernel
theorem dX3_stonesSworn_27 : decode cX3_stonesSworn 27 = .ok (.ireturn, 1) := by decide +kernel
theorem dX3_yardsSworn_0 : decode cX3_yardsSworn 0 = .ok (.iconst 0, 1) := by decide +kernel
theorem dX3_yardsSworn_1 : decode cX3_yardsSworn 1 = .ok (.istore_n 1, 1) := by decide +kernel
theorem dX3_yardsSworn_2 : decode cX3_yardsSworn 2 = .ok (.iconst 0, 1) := by decide +kernel
theorem dX3_yardsSworn_3 : decode cX3_yardsSworn 3 = .ok (.istore_n 2, 1) := by decide +kernel
theorem dX3_yardsSworn_4 : decode cX3_yardsSworn 4 = .ok (.iload_n 2, 1) := by decide +kernel
theorem dX3_yardsSworn_5 : decode cX3_yardsSworn 5 = .ok (.aload_n 0, 1) := by decide +kernel
theorem dX3_yardsSworn_6 : decode cX3_yardsSworn 6 = .ok (.getfield 28, 3) := by decide +kernel
theorem dX3_yardsSworn_9 : decode cX3_yardsSworn 9 = .ok (.if_icmp .ge 49, 3) := by decide +kernel
theorem dX3_yardsSworn_12 : decode cX3_yardsSworn 12 = .ok (.iconst 0, 1) := by decide +kernel
theorem dX3_yardsSworn_13 : decode cX3_yardsSworn 13 = .ok (.istore_n 3, 1) := by decide +kernel
theorem dX3_yardsSworn_14 : decode cX3_yardsSworn 14 = .ok (.iload_n 3, 1) := by decide +kernel
theorem dX3_yardsSworn_15 : decode cX3_yardsSworn 15 = .ok (.aload_n 0, 1) := by decide +kernel
theorem dX3_yardsSworn_16 : decode cX3_yardsSworn 16 = .ok (.getfield 25, 3) := by decide +kernel
theorem dX3_yardsSworn_19 : decode cX3_yardsSworn 19 = .ok (.if_icmp .ge 33, 3) := by decide +kernel
theorem dX3_yardsSworn_22 : decode cX3_yardsSworn 22 = .ok (.aload_n 0, 1) := by decide +kernel
theorem dX3_yardsSworn_23 : decode cX3_yardsSworn 23 = .ok (.iload_n 2, 1) := by decide +kernel
theorem dX3_yardsSworn_24 : decode cX3_yardsSworn 24 = .ok (.iload_n 3, 1) := by decide +kernel
theorem dX3_yardsSworn_25 : decode cX3_yardsSworn 25 = .ok (.invokevirtual 86, 3) := by decide +kernel
theorem dX3_yardsSworn_28 : decode cX3_yardsSworn 28 = .ok (.istore 4, 2) := by decide +kernel
theorem dX3_yardsSworn_30 : decode cX3_yardsSworn 30 = .ok (.iload_n 1, 1) := by decide +kernel
theorem dX3_yardsSworn_31 : decode cX3_yardsSworn 31 = .ok (.iload 4, 2) := by decide +kernel
theorem dX3_yardsSworn_33 : decode cX3_yardsSworn 33 = .ok (.ldc 77, 2) := by decide +kernel
theorem dX3_yardsSworn_35 : decode cX3_yardsSworn 35 = .ok (.if_icmp .ne 7, 3) := by decide +kernel
theorem dX3_yardsSworn_38 : decode cX3_yardsSworn 38 = .ok (.iconst 0, 1) := by decide +kernel
theorem dX3_yardsSworn_39 : decode cX3_yardsSworn 39 = .ok (.goto 5, 3) := by decide +kernel
theorem dX3_yardsSworn_42 : decode cX3_yardsSworn 42 = .ok (.iload 4, 2) := by decide +kernel
theorem dX3_yardsSworn_44 : decode cX3_yardsSworn 44 = .ok (.iadd, 1) := by decide +kernel
theorem dX3_yardsSworn_45 : decode cX3_yardsSworn 45 = .ok (.istore_n 1, 1) := by decide +kernel
theorem dX3_yardsSworn_46 : decode cX3_yardsSworn 46 = .ok (.iinc 3 1, 3) := by decide +kernel
theorem dX3_yardsSworn_49 : decode cX3_yardsSworn 49 = .ok (.goto (-35), 3) := by decide +kernel
theorem dX3_yardsSworn_52 : decode cX3_yardsSworn 52 = .ok (.iinc 2 1, 3) := by decide +kernel
theorem dX3_yardsSworn_55 : decode cX3_yardsSworn 55 = .ok (.goto (-51), 3) := by decide +kernel
theorem dX3_yardsSworn_58 : decode cX3_yardsSworn 58 = .ok (.iload_n 1, 1) := by decide +kernel
theorem dX3_yardsSworn_59 : decode cX3_yardsSworn 59 = .ok (.ireturn, 1) := by decide +kernel
theorem dX3_passYearBy_0 : decode cX3_passYearBy 0 = .ok (.aload_n 0, 1) := by decide +kernel
theorem dX3_passYearBy_1 : decode cX3_passYearBy 1 = .ok (.getfield 25, 3) := by decide +kernel
theorem dX3_passYearBy_4 : decode cX3_passYearBy 4 = .ok (.ifCond .le 69, 3) := by decide +kernel
theorem dX3_passYearBy_7 : decode cX3_passYearBy 7 = .ok (.lload_n 1, 1) := by decide +kernel
theorem dX3_passYearBy_8 : decode cX3_passYearBy 8 = .ok (.aload_n 0, 1) := by decide +kernel
theorem dX3_passYearBy_9 : decode cX3_passYearBy 9 = .ok (.getfield 25, 3) := by decide +kernel
theorem dX3_passYearBy_12 : decode cX3_passYearBy 12 = .ok (.i2l, 1) := by decide +kernel
theorem dX3_passYearBy_13 : decode cX3_passYearBy 13 = .ok (.lrem, 1) := by decide +kernel
theorem dX3_passYearBy_14 : decode cX3_passYearBy 14 = .ok (.l2i, 1) := by decide +kernel
theorem dX3_passYearBy_15 : decode cX3_passYearBy 15 = .ok (.istore_n 3, 1) := by decide +kernel
theorem dX3_passYearBy_16 : decode cX3_passYearBy 16 = .ok (.lload_n 1, 1) := by decide +kernel
theorem dX3_passYearBy_17 : decode cX3_passYearBy 17 = .ok (.ldc2_w 92, 3) := by decide +kernel
theorem dX3_passYearBy_20 : decode cX3_passYearBy 20 = .ok (.lrem, 1) := by decide +kernel
theorem dX3_passYearBy_21 : decode cX3_passYearBy 21 = .ok (.lconst 0, 1) := by decide +kernel
theorem dX3_passYearBy_22 : decode cX3_passYearBy 22 = .ok (.lcmp, 1) := by decide +kernel
theorem dX3_passYearBy_23 : decode cX3_passYearBy 23 = .ok (.ifCond .ne 21, 3) := by decide +kernel
theorem dX3_passYearBy_26 : decode cX3_passYearBy 26 = .ok (.aload_n 0, 1) := by decide +kernel
theorem dX3_passYearBy_27 : decode cX3_passYearBy 27 = .ok (.iload_n 3, 1) := by decide +kernel
theorem dX3_passYearBy_28 : decode cX3_passYearBy 28 = .ok (.aload_n 0, 1) := by decide +kernel
theorem dX3_passYearBy_29 : decode cX3_passYearBy 29 = .ok (.invokevirtual 94, 3) := by decide +kernel
theorem dX3_passYearBy_32 : decode cX3_passYearBy 32 = .ok (.iconst 1, 1) := by decide +kernel
theorem dX3_passYearBy_33 : decode cX3_passYearBy 33 = .ok (.lload_n 1, 1) := by decide +kernel
theorem dX3_passYearBy_34 : decode cX3_passYearBy 34 = .ok (.ldc2_w 98, 3) := by decide +kernel
theorem dX3_passYearBy_37 : decode cX3_passYearBy 37 = .ok (.lrem, 1) := by decide +kernel
theorem dX3_passYearBy_38 : decode cX3_passYearBy 38 = .ok (.l2i, 1) := by decide +kernel
theorem dX3_passYearBy_39 : decode cX3_passYearBy 39 = .ok (.iadd, 1) := by decide +kernel
theorem dX3_passYearBy_40 : decode cX3_passYearBy 40 = .ok (.invokevirtual 100, 3) := by decide +kernel
theorem dX3_passYearBy_43 : decode cX3_passYearBy 43 = .ok (.pop, 1) := by decide +kernel
theorem dX3_passYearBy_44 : decode cX3_passYearBy 44 = .ok (.lload_n 1, 1) := by decide +kernel
theorem dX3_passYearBy_45 : decode cX3_passYearBy 45 = .ok (.ldc2_w 104, 3) := by decide +kernel
theorem dX3_passYearBy_48 : decode cX3_passYearBy 48 = .ok (.lrem, 1) := by decide +kernel
theorem dX3_passYearBy_49 : decode cX3_passYearBy 49 = .ok (.lconst 0, 1) := by decide +kernel
theorem dX3_passYearBy_50 : decode cX3_passYearBy 50 = .ok (.lcmp, 1) := by decide +kernel
theorem dX3_passYearBy_51 : decode cX3_passYearBy 51 = .ok (.ifCond .ne 22, 3) := by decide +kernel
theorem dX3_passYearBy_54 : decode cX3_passYearBy 54 = .ok (.aload_n 0, 1) := by decide +kernel
theorem dX3_passYearBy_55 : decode cX3_passYearBy 55 = .ok (.getfield 31, 3) := by decide +kernel
theorem dX3_passYearBy_58 : decode cX3_passYearBy 58 = .ok (.iload_n 3, 1) := by decide +kernel
theorem dX3_passYearBy_59 : decode cX3_passYearBy 59 = .ok (.bipush 99, 2) := by decide +kernel
theorem dX3_passYearBy_61 : decode cX3_passYearBy 61 = .ok (.aload_n 0, 1) := by decide +kernel
theorem dX3_passYearBy_62 : decode cX3_passYearBy 62 = .ok (.getfield 31, 3) := by decide +kernel
theorem dX3_passYearBy_65 : decode cX3_passYearBy 65 = .ok (.iload_n 3, 1) := by decide +kernel
theorem dX3_passYearBy_66 : decode cX3_passYearBy 66 = .ok (.iaload, 1) := by decide +kernel
theorem dX3_passYearBy_67 : decode cX3_passYearBy 67 = .ok (.iconst 1, 1) := by decide +kernel
theorem dX3_passYearBy_68 : decode cX3_passYearBy 68 = .ok (.iadd, 1) := by decide +kernel
theorem dX3_passYearBy_69 : decode cX3_passYearBy 69 = .ok (.invokestatic 78, 3) := by decide +kernel
theorem dX3_passYearBy_72 : decode cX3_passYearBy 72 = .ok (.iastore, 1) := by decide +kernel
theorem dX3_passYearBy_73 : decode cX3_passYearBy 73 = .ok (.aload_n 0, 1) := by decide +kernel
theorem dX3_passYearBy_74 : decode cX3_passYearBy 74 = .ok (.dup, 1) := by decide +kernel
theorem dX3_passYearBy_75 : decode cX3_passYearBy 75 = .ok (.getfield 22, 3) := by decide +kernel
theorem dX3_passYearBy_78 : decode cX3_passYearBy 78 = .ok (.iconst 1, 1) := by decide +kernel
theorem dX3_passYearBy_79 : decode cX3_passYearBy 79 = .ok (.iadd, 1) := by decide +kernel
theorem dX3_passYearBy_80 : decode cX3_passYearBy 80 = .ok (.putfield 22, 3) := by decide +kernel
theorem dX3_passYearBy_83 : decode cX3_passYearBy 83 = .ok (.return_, 1) := by decide +kernel
theorem dX4_init_0 : decode cX4_init 0 = .ok (.aload_n 0, 1) := by decide +kernel
theorem dX4_init_1 : decode cX4_init 1 = .ok (.invokespecial 3, 3) := by decide +kernel
theorem dX4_init_4 : decode cX4_init 4 = .ok (.aload_n 0, 1) := by decide +kernel
theorem dX4_init_5 : decode cX4_init 5 = .ok (.bipush 40, 2) := by decide +kernel
theorem dX4_init_7 : decode cX4_init 7 = .ok (.newarray .int, 2) := by decide +kernel
theorem dX4_init_9 : decode cX4_init 9 = .ok (.putfield 9, 3) := by decide +kernel
theorem dX4_init_12 : decode cX4_init 12 = .ok (.aload_n 0, 1) := by decide +kernel
theorem dX4_init_13 : decode cX4_init 13 = .ok (.iconst 0, 1) := by decide +kernel
theorem dX4_init_14 : decode cX4_init 14 = .ok (.putfield 15, 3) := by decide +kernel
theorem dX4_init_17 : decode cX4_init 17 = .ok (.aload_n 0, 1) := by decide +kernel
theorem dX4_init_18 : decode cX4_init 18 = .ok (.iconst 0, 1) := by decide +kernel
theorem dX4_init_19 : decode cX4_init 19 = .ok (.putfield 19, 3) := by decide +kernel
theorem dX4_init_22 : decode cX4_init 22 = .ok (.aload_n 0, 1) := by decide +kernel
theorem dX4_init_23 : decode cX4_init 23 = .ok (.iconst 0, 1) := by decide +kernel
theorem dX4_init_24 : decode cX4_init 24 = .ok (.putfield 23, 3) := by decide +kernel
theorem dX4_init_27 : decode cX4_init 27 = .ok (.return_, 1) := by decide +kernel
theorem dX4_begin_0 : decode cX4_begin 0 = .ok (.aload_n 0, 1) := by decide +kernel
theorem dX4_begin_1 : decode cX4_begin 1 = .ok (.iconst 1, 1) := by decide +kernel
theorem dX4_begin_2 : decode cX4_begin 2 = .ok (.putfield 15, 3) := by decide +kernel
theorem dX4_begin_5 : decode cX4_begin 5 = .ok (.aload_n 0, 1) := by decide +kernel
theorem dX4_begin_6 : decode cX4_begin 6 = .ok (.iload_n 1, 1) := by decide +kernel
theorem dX4_begin_7 : decode cX4_begin 7 = .ok (.putfield 19, 3) := by decide +kernel
theorem dX4_begin_10 : decode cX4_begin 10 = .ok (.aload_n 0, 1) := by decide +kernel
theorem dX4_begin_11 : decode cX4_begin 11 = .ok (.iload_n 2, 1) := by decide +kernel
theorem dX4_begin_12 : decode cX4_begin 12 = .ok (.putfield 23, 3) := by decide +kernel
theorem dX4_begin_15 : decode cX4_begin 15 = .ok (.iconst 0, 1) := by decide +kernel
theorem dX4_begin_16 : decode cX4_begin 16 = .ok (.istore_n 3, 1) := by decide +kernel
theorem dX4_begin_17 : decode cX4_begin 17 = .ok (.iload_n 3, 1) := by decide +kernel
theorem dX4_begin_18 : decode cX4_begin 18 = .ok (.bipush 40, 2) := by decide +kernel
theorem dX4_begin_20 : decode cX4_begin 20 = .ok (.if_icmp .ge 16, 3) := by decide +kernel
theorem dX4_begin_23 : decode cX4_begin 23 = .ok (.aload_n 0, 1) := by decide +kernel
theorem dX4_begin_24 : decode cX4_begin 24 = .ok (.getfield 9, 3) := by decide +kernel
theorem dX4_begin_27 : decode cX4_begin 27 = .ok (.iload_n 3, 1) := by decide +kernel
theorem dX4_begin_28 : decode cX4_begin 28 = .ok (.iconst 0, 1) := by decide +kernel
theorem dX4_begin_29 : decode cX4_begin 29 = .ok (.iastore, 1) := by decide +kernel
theorem dX4_begin_30 : decode cX4_begin 30 = .ok (.iinc 3 1, 3) := by decide +kernel
theorem dX4_begin_33 : decode cX4_begin 33 = .ok (.goto (-16), 3) := by decide +kernel
theorem dX4_begin_36 : decode cX4_begin 36 = .ok (.return_, 1) := by decide +kernel
theorem dX4_holds_0 : decode cX4_holds 0 = .ok (.iload_n 1, 1) := by decide +kernel
theorem dX4_holds_1 : decode cX4_holds 1 = .ok (.ifCond .lt 29, 3) := by decide +kernel
theorem dX4_holds_4 : decode cX4_holds 4 = .ok (.iload_n 2, 1) := by decide +kernel
theorem dX4_holds_5 : decode cX4_holds 5 = .ok (.ifCond .lt 25, 3) := by decide +kernel
theorem dX4_holds_8 : decode cX4_holds 8 = .ok (.iload_n 2, 1) := by decide +kernel
theorem dX4_holds_9 : decode cX4_holds 9 = .ok (.aload_n 0, 1) := by decide +kernel
theorem dX4_holds_10 : decode cX4_holds 10 = .ok (.getfield 23, 3) := by decide +kernel
theorem dX4_holds_13 : decode cX4_holds 13 = .ok (.if_icmp .gt 17, 3) := by decide +kernel
theorem dX4_holds_16 : decode cX4_holds 16 = .ok (.iload_n 1, 1) := by decide +kernel
theorem dX4_holds_17 : decode cX4_holds 17 = .ok (.aload_n 0, 1) := by decide +kernel
theorem dX4_holds_18 : decode cX4_holds 18 = .ok (.getfield 23, 3) := by decide +kernel
theorem dX4_holds_21 : decode cX4_holds 21 = .ok (.iload_n 2, 1) := by decide +kernel
theorem dX4_holds_22 : decode cX4_holds 22 = .ok (.isub, 1) := by decide +kernel
theorem dX4_holds_23 : decode cX4_holds 23 = .ok (.if_icmp .gt 7, 3) := by decide +kernel
theorem dX4_holds_26 : decode cX4_holds 26 = .ok (.iconst 1, 1) := by decide +kernel
theorem dX4_holds_27 : decode cX4_holds 27 = .ok (.goto 4, 3) := by decide +kernel
theorem dX4_holds_30 : decode cX4_holds 30 = .ok (.iconst 0, 1) := by decide +kernel
theorem dX4_holds_31 : decode cX4_holds 31 = .ok (.ireturn, 1) := by decide +kernel
theorem dX4_cut_0 : decode cX4_cut 0 = .ok (.aload_n 0, 1) := by decide +kernel
theorem dX4_cut_1 : decode cX4_cut 1 = .ok (.getfield 19, 3) := by decide +kernel
theorem dX4_cut_4 : decode cX4_cut 4 = .ok (.ifCond .ne 6, 3) := by decide +kernel
theorem dX4_cut_7 : decode cX4_cut 7 = .ok (.iload_n 1, 1) := by decide +kernel
theorem dX4_cut_8 : decode cX4_cut 8 = .ok (.i2b, 1) := by decide +kernel
theorem dX4_cut_9 : decode cX4_cut 9 = .ok (.ireturn, 1) := by decide +kernel
theorem dX4_cut_10 : decode cX4_cut 10 = .ok (.aload_n 0, 1) := by decide +kernel
theorem dX4_cut_11 : decode cX4_cut 11 = .ok (.getfield 19, 3) := by decide +kernel
theorem dX4_cut_14 : decode cX4_cut 14 = .ok (.iconst 1, 1) := by decide +kernel
theorem dX4_cut_15 : decode cX4_cut 15 = .ok (.if_icmp .ne 8, 3) := by decide +kernel
theorem dX4_cut_18 : decode cX4_cut 18 = .ok (.iload_n 1, 1) := by decide +kernel
theorem dX4_cut_19 : decode cX4_cut 19 = .ok (.i2s, 1) := by decide +kernel
theorem dX4_cut_20 : decode cX4_cut 20 = .ok (.goto 4, 3) := by decide +kernel
theorem dX4_cut_23 : decode cX4_cut 23 = .ok (.iload_n 1, 1) := by decide +kernel
theorem dX4_cut_24 : decode cX4_cut 24 = .ok (.ireturn, 1) := by decide +kernel
theorem dX5_init_0 : decode cX5_init 0 = .ok (.aload_n 0, 1) := by decide +kernel
theorem dX5_init_1 : decode cX5_init 1 = .ok (.invokespecial 3, 3) := by decide +kernel
theorem dX5_init_4 : decode cX5_init 4 = .ok (.aload_n 0, 1) := by decide +kernel
theorem dX5_init_5 : decode cX5_init 5 = .ok (.bipush 120, 2) := by decide +kernel
theorem dX5_init_7 : decode cX5_init 7 = .ok (.newarray .int, 2) := by decide +kernel
theorem dX5_init_9 : decode cX5_init 9 = .ok (.putfield 9, 3) := by decide +kernel
theorem dX5_init_12 : decode cX5_init 12 = .ok (.aload_n 0, 1) := by decide +kernel
theorem dX5_init_13 : decode cX5_init 13 = .ok (.iconst 0, 1) := by decide +kernel
theorem dX5_init_14 : decode cX5_init 14 = .ok (.putfield 15, 3) := by decide +kernel
theorem dX5_init_17 : decode cX5_init 17 = .ok (.aload_n 0, 1) := by decide +kernel
theorem dX5_init_18 : decode cX5_init 18 = .ok (.iconst 0, 1) := by decide +kernel
theorem dX5_init_19 : decode cX5_init 19 = .ok (.putfield 19, 3) := by decide +kernel
theorem dX5_init_22 : decode cX5_init 22 = .ok (.aload_n 0, 1) := by decide +kernel
theorem dX5_init_23 : decode cX5_init 23 = .ok (.iconst 0, 1) := by decide +kernel
theorem dX5_init_24 : decode cX5_init 24 = .ok (.putfield 22, 3) := by decide +kernel
theorem dX5_init_27 : decode cX5_init 27 = .ok (.aload_n 0, 1) := by decide +kernel
theorem dX5_init_28 : decode cX5_init 28 = .ok (.iconst 0, 1) := by decide +kernel
theorem dX5_init_29 : decode cX5_init 29 = .ok (.putfield 25, 3) := by decide +kernel
theorem dX5_init_32 : decode cX5_init 32 = .ok (.return_, 1) := by decide +kernel
theorem dX5_hasRoom_0 : decode cX5_hasRoom 0 = .ok (.aload_n 0, 1) := by decide +kernel
theorem dX5_hasRoom_1 : decode cX5_hasRoom 1 = .ok (.getfield 15, 3) := by decide +kernel
theorem dX5_hasRoom_4 : decode cX5_hasRoom 4 = .ok (.bipush 120, 2) := by decide +kernel
theorem dX5_hasRoom_6 : decode cX5_hasRoom 6 = .ok (.if_icmp .ge 7, 3) := by decide +kernel
theorem dX5_hasRoom_9 : decode cX5_hasRoom 9 = .ok (.iconst 1, 1) := by decide +kernel
theorem dX5_hasRoom_10 : decode cX5_hasRoom 10 = .ok (.goto 4, 3) := by decide +kernel
theorem dX5_hasRoom_13 : decode cX5_hasRoom 13 = .ok (.iconst 0, 1) := by decide +kernel
theorem dX5_hasRoom_14 : decode cX5_hasRoom 14 = .ok (.ireturn, 1) := by decide +kernel
theorem dX5_append_0 : decode cX5_append 0 = .ok (.aload_n 0, 1) := by decide +kernel
theorem dX5_append_1 : decode cX5_append 1 = .ok (.invokevirtual 28, 3) := by decide +kernel
theorem dX5_append_4 : decode cX5_append 4 = .ok (.ifCond .eq 23, 3) := by decide +kernel
theorem dX5_append_7 : decode cX5_append 7 = .ok (.aload_n 0, 1) := by decide +kernel
theorem dX5_append_8 : decode cX5_append 8 = .ok (.getfield 9, 3) := by decide +kernel
theorem dX5_append_11 : decode cX5_append 11 = .ok (.aload_n 0, 1) := by decide +kernel
theorem dX5_append_12 : decode cX5_append 12 = .ok (.getfield 15, 3) := by decide +kernel
theorem dX5_append_15 : decode cX5_append 15 = .ok (.iload_n 1, 1) := by decide +kernel
theorem dX5_append_16 : decode cX5_append 16 = .ok (.iastore, 1) := by decide +kernel
theorem dX5_append_17 : decode cX5_append 17 = .ok (.aload_n 0, 1) := by decide +kernel
theorem dX5_append_18 : decode cX5_append 18 = .ok (.dup, 1) := by decide +kernel
theorem dX5_append_19 : decode cX5_append 19 = .ok (.getfield 15, 3) := by decide +kernel
theorem dX5_append_22 : decode cX5_append 22 = .ok (.iconst 1, 1) := by decide +kernel
theorem dX5_append_23 : decode cX5_append 23 = .ok (.iadd, 1) := by decide +kernel
theorem dX5_append_24 : decode cX5_append 24 = .ok (.putfield 15, 3) := by decide +kernel
theorem dX5_append_27 : decode cX5_append 27 = .ok (.aload_n 0, 1) := by decide +kernel
theorem dX5_append_28 : decode cX5_append 28 = .ok (.getfield 15, 3) := by decide +kernel
theorem dX5_append_31 : decode cX5_append 31 = .ok (.ireturn, 1) := by decide +kernel
theorem dX5_readInto_0 : decode cX5_readInto 0 = .ok (.aload_n 0, 1) := by decide +kernel
theorem dX5_readInto_1 : decode cX5_readInto 1 = .ok (.iconst 0, 1) := by decide +kernel
theorem dX5_readInto_2 : decode cX5_readInto 2 = .ok (.putfield 19, 3) := by decide +kernel
theorem dX5_readInto_5 : decode cX5_readInto 5 = .ok (.aload_n 0, 1) := by decide +kernel
theorem dX5_readInto_6 : decode cX5_readInto 6 = .ok (.aload_n 1, 1) := by decide +kernel
theorem dX5_readInto_7 : decode cX5_readInto 7 = .ok (.invokevirtual 32, 3) := by decide +kernel
theorem dX5_readInto_10 : decode cX5_readInto 10 = .ok (.ifCond .eq 23, 3) := by decide +kernel
theorem dX5_readInto_13 : decode cX5_readInto 13 = .ok (.aload_n 0, 1) := by decide +kernel
theorem dX5_readInto_14 : decode cX5_readInto 14 = .ok (.aload_n 1, 1) := by decide +kernel
theorem dX5_readInto_15 : decode cX5_readInto 15 = .ok (.invokevirtual 36, 3) := by decide +kernel
theorem dX5_readInto_18 : decode cX5_readInto 18 = .ok (.ifCond .eq 15, 3) := by decide +kernel
theorem dX5_readInto_21 : decode cX5_readInto 21 = .ok (.aload_n 0, 1) := by decide +kernel
theorem dX5_readInto_22 : decode cX5_readInto 22 = .ok (.aload_n 1, 1) := by decide +kernel
theorem dX5_readInto_23 : decode cX5_readInto 23 = .ok (.invokevirtual 39, 3) := by decide +kernel
theorem dX5_readInto_26 : decode cX5_readInto 26 = .ok (.ifCond .eq 7, 3) := by decide +kernel
theorem dX5_readInto_29 : decode cX5_readInto 29 = .ok (.iconst 1, 1) := by decide +kernel
theorem dX5_readInto_30 : decode cX5_readInto 30 = .ok (.goto 4, 3) := by decide +kernel
theorem dX5_readInto_33 : decode cX5_readInto 33 = .ok (.iconst 0, 1) := by decide +kernel
theorem dX5_readInto_34 : decode cX5_readInto 34 = .ok (.istore_n 2, 1) := by decide +kernel
theorem dX5_readInto_35 : decode cX5_readInto 35 = .ok (.aload_n 1, 1) := by decide +kernel
theorem dX5_readInto_36 : decode cX5_readInto 36 = .ok (.iload_n 2, 1) := by decide +kernel
theorem dX5_readInto_37 : decode cX5_readInto 37 = .ok (.putfield 42, 3) := by decide +kernel
theorem dX5_readInto_40 : decode cX5_readInto 40 = .ok (.aload_n 0, 1) := by decide +kernel
theorem dX5_readInto_41 : decode cX5_readInto 41 = .ok (.iconst 0, 1) := by decide +kernel
theorem dX5_readInto_42 : decode cX5_readInto 42 = .ok (.putfield 15, 3) := by decide +kernel
theorem dX5_readInto_45 : decode cX5_readInto 45 = .ok (.iload_n 2, 1) := by decide +kernel
theorem dX5_readInto_46 : decode cX5_readInto 46 = .ok (.ireturn, 1) := by decide +kernel
theorem dX5_readLaw_0 : decode cX5_readLaw 0 = .ok (.aload_n 0, 1) := by decide +kernel
theorem dX5_readLaw_1 : decode cX5_readLaw 1 = .ok (.bipush 119, 2) := by decide +kernel
theorem dX5_readLaw_3 : decode cX5_readLaw 3 = .ok (.invokevirtual 48, 3) := by decide +kernel
theorem dX5_readLaw_6 : decode cX5_readLaw 6 = .ok (.ifCond .ne 5, 3) := by decide +kernel
theorem dX5_readLaw_9 : decode cX5_readLaw 9 = .ok (.iconst 0, 1) := by decide +kernel
theorem dX5_readLaw_10 : decode cX5_readLaw 10 = .ok (.ireturn, 1) := by decide +kernel
theorem dX5_readLaw_11 : decode cX5_readLaw 11 = .ok (.aload_n 1, 1) := by decide +kernel
theorem dX5_readLaw_12 : decode cX5_readLaw 12 = .ok (.aload_n 0, 1) := by decide +kernel
theorem dX5_readLaw_13 : decode cX5_readLaw 13 = .ok (.iconst 1, 1) := by decide +kernel
theorem dX5_readLaw_14 : decode cX5_readLaw 14 = .ok (.bipush 30, 2) := by decide +kernel
theorem dX5_readLaw_16 : decode cX5_readLaw 16 = .ok (.invokevirtual 52, 3) := by decide +kernel
theorem dX5_readLaw_19 : decode cX5_readLaw 19 = .ok (.putfield 56, 3) := by decide +kernel
theorem dX5_readLaw_22 : decode cX5_readLaw 22 = .ok (.aload_n 1, 1) := by decide +kernel
theorem dX5_readLaw_23 : decode cX5_readLaw 23 = .ok (.getfield 56, 3) := by decide +kernel
theorem dX5_readLaw_26 : decode cX5_readLaw 26 = .ok (.ifCond .lt 12, 3) := by decide +kernel
theorem dX5_readLaw_29 : decode cX5_readLaw 29 = .ok (.aload_n 0, 1) := by decide +kernel
theorem dX5_readLaw_30 : decode cX5_readLaw 30 = .ok (.bipush 44, 2) := by decide +kernel
theorem dX5_readLaw_32 : decode cX5_readLaw 32 = .ok (.invokevirtual 48, 3) := by decide +kernel
theorem dX5_readLaw_35 : decode cX5_readLaw 35 = .ok (.ifCond .ne 5, 3) := by decide +kernel
theorem dX5_readLaw_38 : decode cX5_readLaw 38 = .ok (.iconst 0, 1) := by decide +kernel
theorem dX5_readLaw_39 : decode cX5_readLaw 39 = .ok (.ireturn, 1) := by decide +kernel
theorem dX5_readLaw_40 : decode cX5_readLaw 40 = .ok (.aload_n 1, 1) := by decide +kernel
theorem dX5_readLaw_41 : decode cX5_readLaw 41 = .ok (.aload_n 0, 1) := by decide +kernel
theorem dX5_readLaw_42 : decode cX5_readLaw 42 = .ok (.iconst 1, 1) := by decide +kernel
theorem dX5_readLaw_43 : decode cX5_readLaw 43 = .ok (.bipush 30, 2) := by decide +kernel
theorem dX5_readLaw_45 : decode cX5_readLaw 45 = .ok (.invokevirtual 52, 3) := by decide +kernel
theorem dX5_readLaw_48 : decode cX5_readLaw 48 = .ok (.putfield 59, 3) := by decide +kernel
theorem dX5_readLaw_51 : decode cX5_readLaw 51 = .ok (.aload_n 1, 1) := by decide +kernel
theorem dX5_readLaw_52 : decode cX5_readLaw 52 = .ok (.getfield 59, 3) := by decide +kernel
theorem dX5_readLaw_55 : decode cX5_readLaw 55 = .ok (.ifCond .lt 16, 3) := by decide +kernel
theorem dX5_readLaw_58 : decode cX5_readLaw 58 = .ok (.aload_n 0, 1) := by decide +kernel
theorem dX5_readLaw_59 : decode cX5_readLaw 59 = .ok (.bipush 59, 2) := by decide +kernel
theorem dX5_readLaw_61 : decode cX5_readLaw 61 = .ok (.invokevirtual 48, 3) := by decide +kernel
theorem dX5_readLaw_64 : decode cX5_readLaw 64 = .ok (.ifCond .eq 7, 3) := by decide +kernel
theorem dX5_readLaw_67 : decode cX5_readLaw 67 = .ok (.iconst 1, 1) := by decide +kernel
theorem dX5_readLaw_68 : decode cX5_readLaw 68 = .ok (.goto 4, 3) := by decide +kernel
theorem dX5_readLaw_71 : decode cX5_readLaw 71 = .ok (.iconst 0, 1) := by decide +kernel
theorem dX5_readLaw_72 : decode cX5_readLaw 72 = .ok (.ireturn, 1) := by decide +kernel
theorem dX5_readStones_0 : decode cX5_readStones 0 = .ok (.iconst 0, 1) := by decide +kernel
theorem dX5_readStones_1 : decode cX5_readStones 1 = .ok (.istore_n 2, 1) := by decide +kernel
theorem dX5_readStones_2 : decode cX5_readStones 2 = .ok (.iload_n 2, 1) := by decide +kernel
theorem dX5_readStones_3 : decode cX5_readStones 3 = .ok (.bipush 6, 2) := by decide +kernel
theorem dX5_readStones_5 : decode cX5_readStones 5 = .ok (.if_icmp .gt 88, 3) := by decide +kernel
theorem dX5_readStones_8 : decode cX5_readStones 8 = .ok (.iload_n 2, 1) := by decide +kernel
theorem dX5_readStones_9 : decode cX5_readStones 9 = .ok (.ifCond .le 18, 3) := by decide +kernel
theorem dX5_readStones_12 : decode cX5_readStones 12 = .ok (.aload_n 0, 1) := by decide +kernel
theorem dX5_readStones_13 : decode cX5_readStones 13 = .ok (.aload_n 0, 1) := by decide +kernel
theorem dX5_readStones_14 : decode cX5_readStones 14 = .ok (.getfield 19, 3) := by decide +kernel
theorem dX5_readStones_17 : decode cX5_readStones 17 = .ok (.invokevirtual 62, 3) := by decide +kernel
theorem dX5_readStones_20 : decode cX5_readStones 20 = .ok (.bipush 115, 2) := by decide +kernel
theorem dX5_readStones_22 : decode cX5_readStones 22 = .ok (.if_icmp .eq 5, 3) := by decide +kernel
theorem dX5_readStones_25 : decode cX5_readStones 25 = .ok (.iconst 1, 1) := by decide +kernel
theorem dX5_readStones_26 : decode cX5_readStones 26 = .ok (.ireturn, 1) := by decide +kernel
theorem dX5_readStones_27 : decode cX5_readStones 27 = .ok (.iload_n 2, 1) := by decide +kernel
theorem dX5_readStones_28 : decode cX5_readStones 28 = .ok (.bipush 6, 2) := by decide +kernel
theorem dX5_readStones_30 : decode cX5_readStones 30 = .ok (.if_icmp .ne 9, 3) := by decide +kernel
theorem dX5_readStones_33 : decode cX5_readStones 33 = .ok (.aload_n 0, 1) := by decide +kernel
theorem dX5_readStones_34 : decode cX5_readStones 34 = .ok (.iconst 3, 1) := by decide +kernel
theorem dX5_readStones_35 : decode cX5_readStones 35 = .ok (.invokevirtual 66, 3) := by decide +kernel
theorem dX5_readStones_38 : decode cX5_readStones 38 = .ok (.ireturn, 1) := by decide +kernel
theorem dX5_readStones_39 : decode cX5_readStones 39 = .ok (.aload_n 0, 1) := by decide +kernel
theorem dX5_readStones_40 : decode cX5_readStones 40 = .ok (.bipush 115, 2) := by decide +kernel
theorem dX5_readStones_42 : decode cX5_readStones 42 = .ok (.invokevirtual 48, 3) := by decide +kernel
theorem dX5_readStones_45 : decode cX5_readStones 45 = .ok (.ifCond .ne 5, 3) := by decide +kernel
theorem dX5_readStones_48 : decode cX5_readStones 48 = .ok (.iconst 0, 1) := by decide +kernel
theorem dX5_readStones_49 : decode cX5_readStones 49 = .ok (.ireturn, 1) := by decide +kernel
theorem dX5_readStones_50 : decode cX5_readStones 50 = .ok (.aload_n 0, 1) := by decide +kernel
theorem dX5_readStones_51 : decode cX5_readStones 51 = .ok (.iconst 0, 1) := by decide +kernel
theorem dX5_readStones_52 : decode cX5_readStones 52 = .ok (.bipush 99, 2) := by decide +kernel
theorem dX5_readStones_54 : decode cX5_readStones 54 = .ok (.invokevirtual 52, 3) := by decide +kernel
theorem dX5_readStones_57 : decode cX5_readStones 57 = .ok (.istore_n 3, 1) := by decide +kernel
theorem dX5_readStones_58 : decode cX5_readStones 58 = .ok (.iload_n 3, 1) := by decide +kernel
theorem dX5_readStones_59 : decode cX5_readStones 59 = .ok (.ifCond .lt 12, 3) := by decide +kernel
theorem dX5_readStones_62 : decode cX5_readStones 62 = .ok (.aload_n 0, 1) := by decide +kernel
theorem dX5_readStones_63 : decode cX5_readStones 63 = .ok (.bipush 59, 2) := by decide +kernel
theorem dX5_readStones_65 : decode cX5_readStones 65 = .ok (.invokevirtual 48, 3) := by decide +kernel
theorem dX5_readStones_68 : decode cX5_readStones 68 = .ok (.ifCond .ne 5, 3) := by decide +kernel
theorem dX5_readStones_71 : decode cX5_readStones 71 = .ok (.iconst 0, 1) := by decide +kernel
theorem dX5_readStones_72 : decode cX5_readStones 72 = .ok (.ireturn, 1) := by decide +kernel
theorem dX5_readStones_73 : decode cX5_readStones 73 = .ok (.aload_n 1, 1) := by decide +kernel
theorem dX5_readStones_74 : decode cX5_readStones 74 = .ok (.getfield 69, 3) := by decide +kernel
theorem dX5_readStones_77 : decode cX5_readStones 77 = .ok (.iload_n 2, 1) := by decide +kernel
theorem dX5_readStones_78 : decode cX5_readStones 78 = .ok (.iload_n 3, 1) := by decide +kernel
theorem dX5_readStones_79 : decode cX5_readStones 79 = .ok (.iastore, 1) := by decide +kernel
theorem dX5_readStones_80 : decode cX5_readStones 80 = .ok (.aload_n 1, 1) := by decide +kernel
theorem dX5_readStones_81 : decode cX5_readStones 81 = .ok (.iload_n 2, 1) := by decide +kernel
theorem dX5_readStones_82 : decode cX5_readStones 82 = .ok (.iconst 1, 1) := by decide +kernel
theorem dX5_readStones_83 : decode cX5_readStones 83 = .ok (.iadd, 1) := by decide +kernel
theorem dX5_readStones_84 : decode cX5_readStones 84 = .ok (.putfield 72, 3) := by decide +kernel
theorem dX5_readStones_87 : decode cX5_readStones 87 = .ok (.iinc 2 1, 3) := by decide +kernel
theorem dX5_readStones_90 : decode cX5_readStones 90 = .ok (.goto (-88), 3) := by decide +kernel
theorem dX5_readStones_93 : decode cX5_readStones 93 = .ok (.iconst 0, 1) := by decide +kernel
theorem dX5_readStones_94 : decode cX5_readStones 94 = .ok (.ireturn, 1) := by decide +kernel
theorem dX5_readWitnesses_0 : decode cX5_readWitnesses 0 = .ok (.iconst 0, 1) := by decide +kernel
theorem dX5_readWitnesses_1 : decode cX5_readWitnesses 1 = .ok (.istore_n 2, 1) := by decide +kernel
theorem dX5_readWitnesses_2 : decode cX5_readWitnesses 2 = .ok (.iload_n 2, 1) := by decide +kernel
theorem dX5_readWitnesses_3 : decode cX5_readWitnesses 3 = .ok (.bipush 6, 2) := by decide +kernel
theorem dX5_readWitnesses_5 : decode cX5_readWitnesses 5 = .ok (.if_icmp .gt 95, 3) := by decide +kernel
theorem dX5_readWitnesses_8 : decode cX5_readWitnesses 8 = .ok (.iload_n 2, 1) := by decide +kernel
theorem dX5_readWitnesses_9 : decode cX5_readWitnesses 9 = .ok (.ifCond .le 16, 3) := by decide +kernel
theorem dX5_readWitnesses_12 : decode cX5_readWitnesses 12 = .ok (.aload_n 0, 1) := by decide +kernel
theorem dX5_readWitnesses_13 : decode cX5_readWitnesses 13 = .ok (.getfield 19, 3) := by decide +kernel
theorem dX5_readWitnesses_16 : decode cX5_readWitnesses 16 = .ok (.aload_n 0, 1) := by decide +kernel
theorem dX5_readWitnesses_17 : decode cX5_readWitnesses 17 = .ok (.getfield 15, 3) := by decide +kernel
theorem dX5_readWitnesses_20 : decode cX5_readWitnesses 20 = .ok (.if_icmp .lt 5, 3) := by decide +kernel
theorem dX5_readWitnesses_23 : decode cX5_readWitnesses 23 = .ok (.iconst 1, 1) := by decide +kernel
theorem dX5_readWitnesses_24 : decode cX5_readWitnesses 24 = .ok (.ireturn, 1) := by decide +kernel
theorem dX5_readWitnesses_25 : decode cX5_readWitnesses 25 = .ok (.aload_n 0, 1) := by decide +kernel
theorem dX5_readWitnesses_26 : decode cX5_readWitnesses 26 = .ok (.aload_n 0, 1) := by decide +kernel
theorem dX5_readWitnesses_27 : decode cX5_readWitnesses 27 = .ok (.getfield 19, 3) := by decide +kernel
theorem dX5_readWitnesses_30 : decode cX5_readWitnesses 30 = .ok (.invokevirtual 62, 3) := by decide +kernel
theorem dX5_readWitnesses_33 : decode cX5_readWitnesses 33 = .ok (.invokestatic 75, 3) := by decide +kernel
theorem dX5_readWitnesses_36 : decode cX5_readWitnesses 36 = .ok (.istore_n 3, 1) := by decide +kernel
theorem dX5_readWitnesses_37 : decode cX5_readWitnesses 37 = .ok (.iload_n 3, 1) := by decide +kernel
theorem dX5_readWitnesses_38 : decode cX5_readWitnesses 38 = .ok (.ifCond .ne 9, 3) := by decide +kernel
theorem dX5_readWitnesses_41 : decode cX5_readWitnesses 41 = .ok (.aload_n 0, 1) := by decide +kernel
theorem dX5_readWitnesses_42 : decode cX5_readWitnesses 42 = .ok (.iconst 1, 1) := by decide +kernel
theorem dX5_readWitnesses_43 : decode cX5_readWitnesses 43 = .ok (.invokevirtual 66, 3) := by decide +kernel
theorem dX5_readWitnesses_46 : decode cX5_readWitnesses 46 = .ok (.ireturn, 1) := by decide +kernel
theorem dX5_readWitnesses_47 : decode cX5_readWitnesses 47 = .ok (.iload_n 2, 1) := by decide +kernel
theorem dX5_readWitnesses_48 : decode cX5_readWitnesses 48 = .ok (.bipush 6, 2) := by decide +kernel
theorem dX5_readWitnesses_50 : decode cX5_readWitnesses 50 = .ok (.if_icmp .ne 9, 3) := by decide +kernel
theorem dX5_readWitnesses_53 : decode cX5_readWitnesses 53 = .ok (.aload_n 0, 1) := by decide +kernel
theorem dX5_readWitnesses_54 : decode cX5_readWitnesses 54 = .ok (.iconst 3, 1) := by decide +kernel
theorem dX5_readWitnesses_55 : decode cX5_readWitnesses 55 = .ok (.invokevirtual 66, 3) := by decide +kernel
theorem dX5_readWitnesses_58 : decode cX5_readWitnesses 58 = .ok (.ireturn, 1) := by decide +kernel
theorem dX5_readWitnesses_59 : decode cX5_readWitnesses 59 = .ok (.aload_n 0, 1) := by decide +kernel
theorem dX5_readWitnesses_60 : decode cX5_readWitnesses 60 = .ok (.dup, 1) := by decide +kernel
theorem dX5_readWitnesses_61 : decode cX5_readWitnesses 61 = .ok (.getfield 19, 3) := by decide +kernel
theorem dX5_readWitnesses_64 : decode cX5_readWitnesses 64 = .ok (.iconst 1, 1) := by decide +kernel
theorem dX5_readWitnesses_65 : decode cX5_readWitnesses 65 = .ok (.iadd, 1) := by decide +kernel
theorem dX5_readWitnesses_66 : decode cX5_readWitnesses 66 = .ok (.putfield 19, 3) := by decide +kernel
theorem dX5_readWitnesses_69 : decode cX5_readWitnesses 69 = .ok (.aload_n 1, 1) := by decide +kernel
theorem dX5_readWitnesses_70 : decode cX5_readWitnesses 70 = .ok (.getfield 78, 3) := by decide +kernel
theorem dX5_readWitnesses_73 : decode cX5_readWitnesses 73 = .ok (.iload_n 2, 1) := by decide +kernel
theorem dX5_readWitnesses_74 : decode cX5_readWitnesses 74 = .ok (.iload_n 3, 1) := by decide +kernel
theorem dX5_readWitnesses_75 : decode cX5_readWitnesses 75 = .ok (.iastore, 1) := by decide +kernel
theorem dX5_readWitnesses_76 : decode cX5_readWitnesses 76 = .ok (.aload_n 0, 1) := by decide +kernel
theorem dX5_readWitnesses_77 : decode cX5_readWitnesses 77 = .ok (.aload_n 1, 1) := by decide +kernel
theorem dX5_readWitnesses_78 : decode cX5_readWitnesses 78 = .ok (.iload_n 2, 1) := by decide +kernel
theorem dX5_readWitnesses_79 : decode cX5_readWitnesses 79 = .ok (.invokevirtual 81, 3) := by decide +kernel
theorem dX5_readWitnesses_82 : decode cX5_readWitnesses 82 = .ok (.ifCond .ne 5, 3) := by decide +kernel
theorem dX5_readWitnesses_85 : decode cX5_readWitnesses 85 = .ok (.iconst 0, 1) := by decide +kernel
theorem dX5_readWitnesses_86 : decode cX5_readWitnesses 86 = .ok (.ireturn, 1) := by decide +kernel
theorem dX5_readWitnesses_87 : decode cX5_readWitnesses 87 = .ok (.aload_n 1, 1) := by decide +kernel
theorem dX5_readWitnesses_88 : decode cX5_readWitnesses 88 = .ok (.iload_n 2, 1) := by decide +kernel
theorem dX5_readWitnesses_89 : decode cX5_readWitnesses 89 = .ok (.iconst 1, 1) := by decide +kernel
theorem dX5_readWitnesses_90 : decode cX5_readWitnesses 90 = .ok (.iadd, 1) := by decide +kernel
theorem dX5_readWitnesses_91 : decode cX5_readWitnesses 91 = .ok (.putfield 85, 3) := by decide +kernel
theorem dX5_readWitnesses_94 : decode cX5_readWitnesses 94 = .ok (.iinc 2 1, 3) := by decide +kernel
theorem dX5_readWitnesses_97 : decode cX5_readWitnesses 97 = .ok (.goto (-95), 3) := by decide +kernel
theorem dX5_readWitnesses_100 : decode cX5_readWitnesses 100 = .ok (.iconst 0, 1) := by decide +kernel
theorem dX5_readWitnesses_101 : decode cX5_readWitnesses 101 = .ok (.ireturn, 1) := by decide +kernel
theorem dX5_readLife_0 : decode cX5_readLife 0 = .ok (.aload_n 0, 1) := by decide +kernel
theorem dX5_readLife_1 : decode cX5_readLife 1 = .ok (.iconst 0, 1) := by decide +kernel
theorem dX5_readLife_2 : decode cX5_readLife 2 = .ok (.bipush 60, 2) := by decide +kernel
theorem dX5_readLife_4 : decode cX5_readLife 4 = .ok (.invokevirtual 52, 3) := by decide +kernel
theorem dX5_readLife_7 : decode cX5_readLife 7 = .ok (.istore_n 3, 1) := by decide +kernel
theorem dX5_readLife_8 : decode cX5_readLife 8 = .ok (.iload_n 3, 1) := by decide +kernel
theorem dX5_readLife_9 : decode cX5_readLife 9 = .ok (.ifCond .lt 12, 3) := by decide +kernel
theorem dX5_readLife_12 : decode cX5_readLife 12 = .ok (.aload_n 0, 1) := by decide +kernel
theorem dX5_readLife_13 : decode cX5_readLife 13 = .ok (.bipush 44, 2) := by decide +kernel
theorem dX5_readLife_15 : decode cX5_readLife 15 = .ok (.invokevirtual 48, 3) := by decide +kernel
theorem dX5_readLife_18 : decode cX5_readLife 18 = .ok (.ifCond .ne 5, 3) := by decide +kernel
theorem dX5_readLife_21 : decode cX5_readLife 21 = .ok (.iconst 0, 1) := by decide +kernel
theorem dX5_readLife_22 : decode cX5_readLife 22 = .ok (.ireturn, 1) := by decide +kernel
theorem dX5_readLife_23 : decode cX5_readLife 23 = .ok (.aload_n 0, 1) := by decide +kernel
theorem dX5_readLife_24 : decode cX5_readLife 24 = .ok (.iload_n 3, 1) := by decide +kernel
theorem dX5_readLife_25 : decode cX5_readLife 25 = .ok (.iconst 1, 1) := by decide +kernel
theorem dX5_readLife_26 : decode cX5_readLife 26 = .ok (.iadd, 1) := by decide +kernel
theorem dX5_readLife_27 : decode cX5_readLife 27 = .ok (.bipush 99, 2) := by decide +kernel
theorem dX5_readLife_29 : decode cX5_readLife 29 = .ok (.invokevirtual 52, 3) := by decide +kernel
theorem dX5_readLife_32 : decode cX5_readLife 32 = .ok (.istore 4, 2) := by decide +kernel
theorem dX5_readLife_34 : decode cX5_readLife 34 = .ok (.iload 4, 2) := by decide +kernel
theorem dX5_readLife_36 : decode cX5_readLife 36 = .ok (.ifCond .lt 12, 3) := by decide +kernel
theorem dX5_readLife_39 : decode cX5_readLife 39 = .ok (.aload_n 0, 1) := by decide +kernel
theorem dX5_readLife_40 : decode cX5_readLife 40 = .ok (.bipush 59, 2) := by decide +kernel
theorem dX5_readLife_42 : decode cX5_readLife 42 = .ok (.invokevirtual 48, 3) := by decide +kernel
theorem dX5_readLife_45 : decode cX5_readLife 45 = .ok (.ifCond .ne 5, 3) := by decide +kernel
theorem dX5_readLife_48 : decode cX5_readLife 48 = .ok (.iconst 0, 1) := by decide +kernel
theorem dX5_readLife_49 : decode cX5_readLife 49 = .ok (.ireturn, 1) := by decide +kernel
theorem dX5_readLife_50 : decode cX5_readLife 50 = .ok (.aload_n 1, 1) := by decide +kernel
theorem dX5_readLife_51 : decode cX5_readLife 51 = .ok (.getfield 88, 3) := by decide +kernel
theorem dX5_readLife_54 : decode cX5_readLife 54 = .ok (.iload_n 2, 1) := by decide +kernel
theorem dX5_readLife_55 : decode cX5_readLife 55 = .ok (.iload_n 3, 1) := by decide +kernel
theorem dX5_readLife_56 : decode cX5_readLife 56 = .ok (.iastore, 1) := by decide +kernel
theorem dX5_readLife_57 : decode cX5_readLife 57 = .ok (.aload_n 1, 1) := by decide +kernel
theorem dX5_readLife_58 : decode cX5_readLife 58 = .ok (.getfield 91, 3) := by decide +kernel
theorem dX5_readLife_61 : decode cX5_readLife 61 = .ok (.iload_n 2, 1) := by decide +kernel
theorem dX5_readLife_62 : decode cX5_readLife 62 = .ok (.iload 4, 2) := by decide +kernel
theorem dX5_readLife_64 : decode cX5_readLife 64 = .ok (.iastore, 1) := by decide +kernel
theorem dX5_readLife_65 : decode cX5_readLife 65 = .ok (.iconst 1, 1) := by decide +kernel
theorem dX5_readLife_66 : decode cX5_readLife 66 = .ok (.ireturn, 1) := by decide +kernel
theorem dX5_fails_0 : decode cX5_fails 0 = .ok (.aload_n 0, 1) := by decide +kernel
theorem dX5_fails_1 : decode cX5_fails 1 = .ok (.iload_n 1, 1) := by decide +kernel
theorem dX5_fails_2 : decode cX5_fails 2 = .ok (.putfield 22, 3) := by decide +kernel
theorem dX5_fails_5 : decode cX5_fails 5 = .ok (.aload_n 0, 1) := by decide +kernel
theorem dX5_fails_6 : decode cX5_fails 6 = .ok (.aload_n 0, 1) := by decide +kernel
theorem dX5_fails_7 : decode cX5_fails 7 = .ok (.getfield 19, 3) := by decide +kernel
theorem dX5_fails_10 : decode cX5_fails 10 = .ok (.putfield 25, 3) := by decide +kernel
theorem dX5_fails_13 : decode cX5_fails 13 = .ok (.iconst 0, 1) := by decide +kernel
theorem dX5_fails_14 : decode cX5_fails 14 = .ok (.ireturn, 1) := by decide +kernel
theorem dX5_letterAt_0 : decode cX5_letterAt 0 = .ok (.iload_n 1, 1) := by decide +kernel
theorem dX5_letterAt_1 : decode cX5_letterAt 1 = .ok (.ifCond .lt 26, 3) := by decide +kernel
theorem dX5_letterAt_4 : decode cX5_letterAt 4 = .ok (.iload_n 1, 1) := by decide +kernel
theorem dX5_letterAt_5 : decode cX5_letterAt 5 = .ok (.aload_n 0, 1) := by decide +kernel
theorem dX5_letterAt_6 : decode cX5_letterAt 6 = .ok (.getfield 15, 3) := by decide +kernel
theorem dX5_letterAt_9 : decode cX5_letterAt 9 = .ok (.if_icmp .ge 18, 3) := by decide +kernel
theorem dX5_letterAt_12 : decode cX5_letterAt 12 = .ok (.iload_n 1, 1) := by decide +kernel
theorem dX5_letterAt_13 : decode cX5_letterAt 13 = .ok (.bipush 120, 2) := by decide +kernel
theorem dX5_letterAt_15 : decode cX5_letterAt 15 = .ok (.if_icmp .ge 12, 3) := by decide +kernel
theorem dX5_letterAt_18 : decode cX5_letterAt 18 = .ok (.aload_n 0, 1) := by decide +kernel
theorem dX5_letterAt_19 : decode cX5_letterAt 19 = .ok (.getfield 9, 3) := by decide +kernel
theorem dX5_letterAt_22 : decode cX5_letterAt 22 = .ok (.iload_n 1, 1) := by decide +kernel
theorem dX5_letterAt_23 : decode cX5_letterAt 23 = .ok (.iaload, 1) := by decide +kernel
theorem dX5_letterAt_24 : decode cX5_letterAt 24 = .ok (.goto 4, 3) := by decide +kernel
theorem dX5_letterAt_27 : decode cX5_letterAt 27 = .ok (.iconst (-1), 1) := by decide +kernel
theorem dX5_letterAt_28 : decode cX5_letterAt 28 = .ok (.ireturn, 1) := by decide +kernel
theorem dX5_passes_0 : decode cX5_passes 0 = .ok (.aload_n 0, 1) := by decide +kernel
theorem dX5_passes_1 : decode cX5_passes 1 = .ok (.aload_n 0, 1) := by decide +kernel
theorem dX5_passes_2 : decode cX5_passes 2 = .ok (.getfield 19, 3) := by decide +kernel
theorem dX5_passes_5 : decode cX5_passes 5 = .ok (.invokevirtual 62, 3) := by decide +kernel
theorem dX5_passes_8 : decode cX5_passes 8 = .ok (.iload_n 1, 1) := by decide +kernel
theorem dX5_passes_9 : decode cX5_passes 9 = .ok (.if_icmp .eq 9, 3) := by decide +kernel
theorem dX5_passes_12 : decode cX5_passes 12 = .ok (.aload_n 0, 1) := by decide +kernel
theorem dX5_passes_13 : decode cX5_passes 13 = .ok (.iconst 1, 1) := by decide +kernel
theorem dX5_passes_14 : decode cX5_passes 14 = .ok (.invokevirtual 66, 3) := by decide +kernel
theorem dX5_passes_17 : decode cX5_passes 17 = .ok (.ireturn, 1) := by decide +kernel
theorem dX5_passes_18 : decode cX5_passes 18 = .ok (.aload_n 0, 1) := by decide +kernel
theorem dX5_passes_19 : decode cX5_passes 19 = .ok (.dup, 1) := by decide +kernel
theorem dX5_passes_20 : decode cX5_passes 20 = .ok (.getfield 19, 3) := by decide +kernel
theorem dX5_passes_23 : decode cX5_passes 23 = .ok (.iconst 1, 1) := by decide +kernel
theorem dX5_passes_24 : decode cX5_passes 24 = .ok (.iadd, 1) := by decide +kernel
theorem dX5_passes_25 : decode cX5_passes 25 = .ok (.putfield 19, 3) := by decide +kernel
theorem dX5_passes_28 : decode cX5_passes 28 = .ok (.iconst 1, 1) := by decide +kernel
theorem dX5_passes_29 : decode cX5_passes 29 = .ok (.ireturn, 1) := by decide +kernel
theorem dX5_number_0 : decode cX5_number 0 = .ok (.iconst 0, 1) := by decide +kernel
theorem dX5_number_1 : decode cX5_number 1 = .ok (.istore_n 3, 1) := by decide +kernel
theorem dX5_number_2 : decode cX5_number 2 = .ok (.iconst 0, 1) := by decide +kernel
theorem dX5_number_3 : decode cX5_number 3 = .ok (.istore 4, 2) := by decide +kernel
theorem dX5_number_5 : decode cX5_number 5 = .ok (.iload_n 3, 1) := by decide +kernel
theorem dX5_number_6 : decode cX5_number 6 = .ok (.iconst 3, 1) := by decide +kernel
theorem dX5_number_7 : decode cX5_number 7 = .ok (.if_icmp .ge 46, 3) := by decide +kernel
theorem dX5_number_10 : decode cX5_number 10 = .ok (.aload_n 0, 1) := by decide +kernel
theorem dX5_number_11 : decode cX5_number 11 = .ok (.aload_n 0, 1) := by decide +kernel
theorem dX5_number_12 : decode cX5_number 12 = .ok (.getfield 19, 3) := by decide +kernel
theorem dX5_number_15 : decode cX5_number 15 = .ok (.iload_n 3, 1) := by decide +kernel
theorem dX5_number_16 : decode cX5_number 16 = .ok (.iadd, 1) := by decide +kernel
theorem dX5_number_17 : decode cX5_number 17 = .ok (.invokevirtual 62, 3) := by decide +kernel
theorem dX5_number_20 : decode cX5_number 20 = .ok (.invokestatic 94, 3) := by decide +kernel
theorem dX5_number_23 : decode cX5_number 23 = .ok (.ifCond .eq 30, 3) := by decide +kernel
theorem dX5_number_26 : decode cX5_number 26 = .ok (.iload 4, 2) := by decide +kernel
theorem dX5_number_28 : decode cX5_number 28 = .ok (.bipush 10, 2) := by decide +kernel
theorem dX5_number_30 : decode cX5_number 30 = .ok (.imul, 1) := by decide +kernel
theorem dX5_number_31 : decode cX5_number 31 = .ok (.aload_n 0, 1) := by decide +kernel
theorem dX5_number_32 : decode cX5_number 32 = .ok (.aload_n 0, 1) := by decide +kernel
theorem dX5_number_33 : decode cX5_number 33 = .ok (.getfield 19, 3) := by decide +kernel
theorem dX5_number_36 : decode cX5_number 36 = .ok (.iload_n 3, 1) := by decide +kernel
theorem dX5_number_37 : decode cX5_number 37 = .ok (.iadd, 1) := by decide +kernel
theorem dX5_number_38 : decode cX5_number 38 = .ok (.invokevirtual 62, 3) := by decide +kernel
theorem dX5_number_41 : decode cX5_number 41 = .ok (.iadd, 1) := by decide +kernel
theorem dX5_number_42 : decode cX5_number 42 = .ok (.bipush 48, 2) := by decide +kernel
theorem dX5_number_44 : decode cX5_number 44 = .ok (.isub, 1) := by decide +kernel
theorem dX5_number_45 : decode cX5_number 45 = .ok (.istore 4, 2) := by decide +kernel
theorem dX5_number_47 : decode cX5_number 47 = .ok (.iinc 3 1, 3) := by decide +kernel
theorem dX5_number_50 : decode cX5_number 50 = .ok (.goto (-45), 3) := by decide +kernel
theorem dX5_number_53 : decode cX5_number 53 = .ok (.iload_n 3, 1) := by decide +kernel
theorem dX5_number_54 : decode cX5_number 54 = .ok (.ifCond .eq 8, 3) := by decide +kernel
theorem dX5_number_57 : decode cX5_number 57 = .ok (.iload_n 3, 1) := by decide +kernel
theorem dX5_number_58 : decode cX5_number 58 = .ok (.iconst 3, 1) := by decide +kernel
theorem dX5_number_59 : decode cX5_number 59 = .ok (.if_icmp .ne 11, 3) := by decide +kernel
theorem dX5_number_62 : decode cX5_number 62 = .ok (.aload_n 0, 1) := by decide +kernel
theorem dX5_number_63 : decode cX5_number 63 = .ok (.iconst 1, 1) := by decide +kernel
theorem dX5_number_64 : decode cX5_number 64 = .ok (.invokevirtual 66, 3) := by decide +kernel
theorem dX5_number_67 : decode cX5_number 67 = .ok (.pop, 1) := by decide +kernel
theorem dX5_number_68 : decode cX5_number 68 = .ok (.iconst (-1), 1) := by decide +kernel
theorem dX5_number_69 : decode cX5_number 69 = .ok (.ireturn, 1) := by decide +kernel
theorem dX5_number_70 : decode cX5_number 70 = .ok (.iload 4, 2) := by decide +kernel
theorem dX5_number_72 : decode cX5_number 72 = .ok (.iload_n 1, 1) := by decide +kernel
theorem dX5_number_73 : decode cX5_number 73 = .ok (.if_icmp .lt 9, 3) := by decide +kernel
theorem dX5_number_76 : decode cX5_number 76 = .ok (.iload 4, 2) := by decide +kernel
theorem dX5_number_78 : decode cX5_number 78 = .ok (.iload_n 2, 1) := by decide +kernel
theorem dX5_number_79 : decode cX5_number 79 = .ok (.if_icmp .le 11, 3) := by decide +kernel
theorem dX5_number_82 : decode cX5_number 82 = .ok (.aload_n 0, 1) := by decide +kernel
theorem dX5_number_83 : decode cX5_number 83 = .ok (.iconst 2, 1) := by decide +kernel
theorem dX5_number_84 : decode cX5_number 84 = .ok (.invokevirtual 66, 3) := by decide +kernel
theorem dX5_number_87 : decode cX5_number 87 = .ok (.pop, 1) := by decide +kernel
theorem dX5_number_88 : decode cX5_number 88 = .ok (.iconst (-1), 1) := by decide +kernel
theorem dX5_number_89 : decode cX5_number 89 = .ok (.ireturn, 1) := by decide +kernel
theorem dX5_number_90 : decode cX5_number 90 = .ok (.aload_n 0, 1) := by decide +kernel
theorem dX5_number_91 : decode cX5_number 91 = .ok (.dup, 1) := by decide +kernel
theorem dX5_number_92 : decode cX5_number 92 = .ok (.getfield 19, 3) := by decide +kernel
theorem dX5_number_95 : decode cX5_number 95 = .ok (.iload_n 3, 1) := by decide +kernel
theorem dX5_number_96 : decode cX5_number 96 = .ok (.iadd, 1) := by decide +kernel
theorem dX5_number_97 : decode cX5_number 97 = .ok (.putfield 19, 3) := by decide +kernel
theorem dX5_number_100 : decode cX5_number 100 = .ok (.iload 4, 2) := by decide +kernel
theorem dX5_number_102 : decode cX5_number 102 = .ok (.ireturn, 1) := by decide +kernel
theorem dX5_isFigure_0 : decode cX5_isFigure 0 = .ok (.iload_n 0, 1) := by decide +kernel
theorem dX5_isFigure_1 : decode cX5_isFigure 1 = .ok (.bipush 48, 2) := by decide +kernel
theorem dX5_isFigure_3 : decode cX5_isFigure 3 = .ok (.if_icmp .lt 13, 3) := by decide +kernel
theorem dX5_isFigure_6 : decode cX5_isFigure 6 = .ok (.iload_n 0, 1) := by decide +kernel
theorem dX5_isFigure_7 : decode cX5_isFigure 7 = .ok (.bipush 57, 2) := by decide +kernel
theorem dX5_isFigure_9 : decode cX5_isFigure 9 = .ok (.if_icmp .gt 7, 3) := by decide +kernel
theorem dX5_isFigure_12 : decode cX5_isFigure 12 = .ok (.iconst 1, 1) := by decide +kernel
theorem dX5_isFigure_13 : decode cX5_isFigure 13 = .ok (.goto 4, 3) := by decide +kernel
theorem dX5_isFigure_16 : decode cX5_isFigure 16 = .ok (.iconst 0, 1) := by decide +kernel
theorem dX5_isFigure_17 : decode cX5_isFigure 17 = .ok (.ireturn, 1) := by decide +kernel
theorem dX5_kindTold_0 : decode cX5_kindTold 0 = .ok (.iload_n 0, 1) := by decide +kernel
theorem dX5_kindTold_1 : decode cX5_kindTold 1 = .ok (.lookupswitch 61 #[(98, 53), (100, 55), (104, 51), (110, 59), (116, 57)], 51) := by decide +kernel
theorem dX5_kindTold_52 : decode cX5_kindTold 52 = .ok (.iconst 1, 1) := by decide +kernel
theorem dX5_kindTold_53 : decode cX5_kindTold 53 = .ok (.ireturn, 1) := by decide +kernel
theorem dX5_kindTold_54 : decode cX5_kindTold 54 = .ok (.iconst 2, 1) := by decide +kernel
theorem dX5_kindTold_55 : decode cX5_kindTold 55 = .ok (.ireturn, 1) := by decide +kernel
theorem dX5_kindTold_56 : decode cX5_kindTold 56 = .ok (.iconst 3, 1) := by decide +kernel
theorem dX5_kindTold_57 : decode cX5_kindTold 57 = .ok (.ireturn, 1) := by decide +kernel
theorem dX5_kindTold_58 : decode cX5_kindTold 58 = .ok (.iconst 4, 1) := by decide +kernel
theorem dX5_kindTold_59 : decode cX5_kindTold 59 = .ok (.ireturn, 1) := by decide +kernel
theorem dX5_kindTold_60 : decode cX5_kindTold 60 = .ok (.iconst 5, 1) := by decide +kernel
theorem dX5_kindTold_61 : decode cX5_kindTold 61 = .ok (.ireturn, 1) := by decide +kernel
theorem dX5_kindTold_62 : decode cX5_kindTold 62 = .ok (.iconst 0, 1) := by decide +kernel
theorem dX5_kindTold_63 : decode cX5_kindTold 63 = .ok (.ireturn, 1) := by decide +kernel
theorem dX6_init_0 : decode cX6_init 0 = .ok (.aload_n 0, 1) := by decide +kernel
theorem dX6_init_1 : decode cX6_init 1 = .ok (.invokespecial 1, 3) := by decide +kernel
theorem dX6_init_4 : decode cX6_init 4 = .ok (.aload_n 0, 1) := by decide +kernel
theorem dX6_init_5 : decode cX6_init 5 = .ok (.bipush 8, 2) := by decide +kernel
theorem dX6_init_7 : decode cX6_init 7 = .ok (.anewarray 9, 3) := by decide +kernel
theorem dX6_init_10 : decode cX6_init 10 = .ok (.putfield 11, 3) := by decide +kernel
theorem dX6_init_13 : decode cX6_init 13 = .ok (.aload_n 0, 1) := by decide +kernel
theorem dX6_init_14 : decode cX6_init 14 = .ok (.new 15, 3) := by decide +kernel
theorem dX6_init_17 : decode cX6_init 17 = .ok (.dup, 1) := by decide +kernel
theorem dX6_init_18 : decode cX6_init 18 = .ok (.invokespecial 17, 3) := by decide +kernel
theorem dX6_init_21 : decode cX6_init 21 = .ok (.putfield 18, 3) := by decide +kernel
theorem dX6_init_24 : decode cX6_init 24 = .ok (.aload_n 0, 1) := by decide +kernel
theorem dX6_init_25 : decode cX6_init 25 = .ok (.new 22, 3) := by decide +kernel
theorem dX6_init_28 : decode cX6_init 28 = .ok (.dup, 1) := by decide +kernel
theorem dX6_init_29 : decode cX6_init 29 = .ok (.invokespecial 24, 3) := by decide +kernel
theorem dX6_init_32 : decode cX6_init 32 = .ok (.putfield 25, 3) := by decide +kernel
theorem dX6_init_35 : decode cX6_init 35 = .ok (.aload_n 0, 1) := by decide +kernel
theorem dX6_init_36 : decode cX6_init 36 = .ok (.new 22, 3) := by decide +kernel
theorem dX6_init_39 : decode cX6_init 39 = .ok (.dup, 1) := by decide +kernel
theorem dX6_init_40 : decode cX6_init 40 = .ok (.invokespecial 24, 3) := by decide +kernel
theorem dX6_init_43 : decode cX6_init 43 = .ok (.putfield 29, 3) := by decide +kernel
theorem dX6_init_46 : decode cX6_init 46 = .ok (.aload_n 0, 1) := by decide +kernel
theorem dX6_init_47 : decode cX6_init 47 = .ok (.iconst 2, 1) := by decide +kernel
theorem dX6_init_48 : decode cX6_init 48 = .ok (.anewarray 22, 3) := by decide +kernel
theorem dX6_init_51 : decode cX6_init 51 = .ok (.putfield 32, 3) := by decide +kernel
theorem dX6_init_54 : decode cX6_init 54 = .ok (.aload_n 0, 1) := by decide +kernel
theorem dX6_init_55 : decode cX6_init 55 = .ok (.new 36, 3) := by decide +kernel
theorem dX6_init_58 : decode cX6_init 58 = .ok (.dup, 1) := by decide +kernel
theorem dX6_init_59 : decode cX6_init 59 = .ok (.invokespecial 38, 3) := by decide +kernel
theorem dX6_init_62 : decode cX6_init 62 = .ok (.putfield 39, 3) := by decide +kernel
theorem dX6_init_65 : decode cX6_init 65 = .ok (.aload_n 0, 1) := by decide +kernel
theorem dX6_init_66 : decode cX6_init 66 = .ok (.new 43, 3) := by decide +kernel
theorem dX6_init_69 : decode cX6_init 69 = .ok (.dup, 1) := by decide +kernel
theorem dX6_init_70 : decode cX6_init 70 = .ok (.invokespecial 45, 3) := by decide +kernel
theorem dX6_init_73 : decode cX6_init 73 = .ok (.putfield 46, 3) := by decide +kernel
theorem dX6_init_76 : decode cX6_init 76 = .ok (.aload_n 0, 1) := by decide +kernel
theorem dX6_init_77 : decode cX6_init 77 = .ok (.new 50, 3) := by decide +kernel
theorem dX6_init_80 : decode cX6_init 80 = .ok (.dup, 1) := by decide +kernel
theorem dX6_init_81 : decode cX6_init 81 = .ok (.invokespecial 52, 3) := by decide +kernel
theorem dX6_init_84 : decode cX6_init 84 = .ok (.putfield 53, 3) := by decide +kernel
theorem dX6_init_87 : decode cX6_init 87 = .ok (.aload_n 0, 1) := by decide +kernel
theorem dX6_init_88 : decode cX6_init 88 = .ok (.iconst 0, 1) := by decide +kernel
theorem dX6_init_89 : decode cX6_init 89 = .ok (.putfield 57, 3) := by decide +kernel
theorem dX6_init_92 : decode cX6_init 92 = .ok (.iconst 0, 1) := by decide +kernel
theorem dX6_init_93 : decode cX6_init 93 = .ok (.istore_n 1, 1) := by decide +kernel
theorem dX6_init_94 : decode cX6_init 94 = .ok (.iload_n 1, 1) := by decide +kernel
theorem dX6_init_95 : decode cX6_init 95 = .ok (.bipush 8, 2) := by decide +kernel
theorem dX6_init_97 : decode cX6_init 97 = .ok (.if_icmp .ge 22, 3) := by decide +kernel
theorem dX6_init_100 : decode cX6_init 100 = .ok (.aload_n 0, 1) := by decide +kernel
theorem dX6_init_101 : decode cX6_init 101 = .ok (.getfield 11, 3) := by decide +kernel
theorem dX6_init_104 : decode cX6_init 104 = .ok (.iload_n 1, 1) := by decide +kernel
theorem dX6_init_105 : decode cX6_init 105 = .ok (.new 9, 3) := by decide +kernel
theorem dX6_init_108 : decode cX6_init 108 = .ok (.dup, 1) := by decide +kernel
theorem dX6_init_109 : decode cX6_init 109 = .ok (.invokespecial 61, 3) := by decide +kernel
theorem dX6_init_112 : decode cX6_init 112 = .ok (.aastore, 1) := by decide +kernel
theorem dX6_init_113 : decode cX6_init 113 = .ok (.iinc 1 1, 3) := by decide +kernel
theorem dX6_init_116 : decode cX6_init 116 = .ok (.goto (-22), 3) := by decide +kernel
theorem dX6_init_119 : decode cX6_init 119 = .ok (.iconst 0, 1) := by decide +kernel
theorem dX6_init_120 : decode cX6_init 120 = .ok (.istore_n 1, 1) := by decide +kernel
theorem dX6_init_121 : decode cX6_init 121 = .ok (.iload_n 1, 1) := by decide +kernel
theorem dX6_init_122 : decode cX6_init 122 = .ok (.iconst 2, 1) := by decide +kernel
theorem dX6_init_123 : decode cX6_init 123 = .ok (.if_icmp .ge 22, 3) := by decide +kernel
theorem dX6_init_126 : decode cX6_init 126 = .ok (.aload_n 0, 1) := by decide +kernel
theorem dX6_init_127 : decode cX6_init 127 = .ok (.getfield 32, 3) := by decide +kernel
theorem dX6_init_130 : decode cX6_init 130 = .ok (.iload_n 1, 1) := by decide +kernel
theorem dX6_init_131 : decode cX6_init 131 = .ok (.new 22, 3) := by decide +kernel
theorem dX6_init_134 : decode cX6_init 134 = .ok (.dup, 1) := by decide +kernel
theorem dX6_init_135 : decode cX6_init 135 = .ok (.invokespecial 24, 3) := by decide +kernel
theorem dX6_init_138 : decode cX6_init 138 = .ok (.aastore, 1) := by decide +kernel
theorem dX6_init_139 : decode cX6_init 139 = .ok (.iinc 1 1, 3) := by decide +kernel
theorem dX6_init_142 : decode cX6_init 142 = .ok (.goto (-21), 3) := by decide +kernel
theorem dX6_init_145 : decode cX6_init 145 = .ok (.return_, 1) := by decide +kernel
theorem dX6_row_0 : decode cX6_row 0 = .ok (.iload_n 1, 1) := by decide +kernel
theorem dX6_row_1 : decode cX6_row 1 = .ok (.invokestatic 62, 3) := by decide +kernel
theorem dX6_row_4 : decode cX6_row 4 = .ok (.ifCond .eq 18, 3) := by decide +kernel
theorem dX6_row_7 : decode cX6_row 7 = .ok (.iload_n 2, 1) := by decide +kernel
theorem dX6_row_8 : decode cX6_row 8 = .ok (.ifCond .lt 14, 3) := by decide +kernel
theorem dX6_row_11 : decode cX6_row 11 = .ok (.iload_n 2, 1) := by decide +kernel
theorem dX6_row_12 : decode cX6_row 12 = .ok (.iconst 3, 1) := by decide +kernel
theorem dX6_row_13 : decode cX6_row 13 = .ok (.if_icmp .ge 9, 3) := by decide +kernel
theorem dX6_row_16 : decode cX6_row 16 = .ok (.iload_n 3, 1) := by decide +kernel
theorem dX6_row_17 : decode cX6_row 17 = .ok (.bipush 40, 2) := by decide +kernel
theorem dX6_row_19 : decode cX6_row 19 = .ok (.if_icmp .le 6, 3) := by decide +kernel
theorem dX6_row_22 : decode cX6_row 22 = .ok (.ldc 66, 2) := by decide +kernel
theorem dX6_row_24 : decode cX6_row 24 = .ok (.ireturn, 1) := by decide +kernel
theorem dX6_row_25 : decode cX6_row 25 = .ok (.iload_n 3, 1) := by decide +kernel
theorem dX6_row_26 : decode cX6_row 26 = .ok (.ifCond .ge 9, 3) := by decide +kernel
theorem dX6_row_29 : decode cX6_row 29 = .ok (.aload_n 0, 1) := by decide +kernel
theorem dX6_row_30 : decode cX6_row 30 = .ok (.iconst 4, 1) := by decide +kernel
theorem dX6_row_31 : decode cX6_row 31 = .ok (.invokevirtual 67, 3) := by decide +kernel
theorem dX6_row_34 : decode cX6_row 34 = .ok (.ireturn, 1) := by decide +kernel
theorem dX6_row_35 : decode cX6_row 35 = .ok (.aload_n 0, 1) := by decide +kernel
theorem dX6_row_36 : decode cX6_row 36 = .ok (.getfield 11, 3) := by decide +kernel
theorem dX6_row_39 : decode cX6_row 39 = .ok (.iload_n 1, 1) := by decide +kernel
theorem dX6_row_40 : decode cX6_row 40 = .ok (.aaload, 1) := by decide +kernel
theorem dX6_row_41 : decode cX6_row 41 = .ok (.iload_n 2, 1) := by decide +kernel
theorem dX6_row_42 : decode cX6_row 42 = .ok (.iload_n 3, 1) := by decide +kernel
theorem dX6_row_43 : decode cX6_row 43 = .ok (.invokevirtual 71, 3) := by decide +kernel
theorem dX6_row_46 : decode cX6_row 46 = .ok (.aload_n 0, 1) := by decide +kernel
theorem dX6_row_47 : decode cX6_row 47 = .ok (.iload_n 3, 1) := by decide +kernel
theorem dX6_row_48 : decode cX6_row 48 = .ok (.invokevirtual 75, 3) := by decide +kernel
theorem dX6_row_51 : decode cX6_row 51 = .ok (.ireturn, 1) := by decide +kernel
theorem dX6_set_0 : decode cX6_set 0 = .ok (.iload_n 1, 1) := by decide +kernel
theorem dX6_set_1 : decode cX6_set 1 = .ok (.invokestatic 62, 3) := by decide +kernel
theorem dX6_set_4 : decode cX6_set 4 = .ok (.ifCond .ne 6, 3) := by decide +kernel
theorem dX6_set_7 : decode cX6_set 7 = .ok (.ldc 66, 2) := by decide +kernel
theorem dX6_set_9 : decode cX6_set 9 = .ok (.ireturn, 1) := by decide +kernel
theorem dX6_set_10 : decode cX6_set 10 = .ok (.aload_n 0, 1) := by decide +kernel
theorem dX6_set_11 : decode cX6_set 11 = .ok (.getfield 11, 3) := by decide +kernel
theorem dX6_set_14 : decode cX6_set 14 = .ok (.iload_n 1, 1) := by decide +kernel
theorem dX6_set_15 : decode cX6_set 15 = .ok (.aaload, 1) := by decide +kernel
theorem dX6_set_16 : decode cX6_set 16 = .ok (.astore 4, 2) := by decide +kernel
theorem dX6_set_18 : decode cX6_set 18 = .ok (.aload 4, 2) := by decide +kernel
theorem dX6_set_20 : decode cX6_set 20 = .ok (.getfield 78, 3) := by decide +kernel
theorem dX6_set_23 : decode cX6_set 23 = .ok (.ifCond .ne 9, 3) := by decide +kernel
theorem dX6_set_26 : decode cX6_set 26 = .ok (.aload_n 0, 1) := by decide +kernel
theorem dX6_set_27 : decode cX6_set 27 = .ok (.iconst 1, 1) := by decide +kernel
theorem dX6_set_28 : decode cX6_set 28 = .ok (.invokevirtual 67, 3) := by decide +kernel
theorem dX6_set_31 : decode cX6_set 31 = .ok (.ireturn, 1) := by decide +kernel
theorem dX6_set_32 : decode cX6_set 32 = .ok (.aload 4, 2) := by decide +kernel
theorem dX6_set_34 : decode cX6_set 34 = .ok (.iload_n 2, 1) := by decide +kernel
theorem dX6_set_35 : decode cX6_set 35 = .ok (.iconst 1, 1) := by decide +kernel
theorem dX6_set_36 : decode cX6_set 36 = .ok (.invokevirtual 82, 3) := by decide +kernel
theorem dX6_set_39 : decode cX6_set 39 = .ok (.ifCond .ne 9, 3) := by decide +kernel
theorem dX6_set_42 : decode cX6_set 42 = .ok (.aload_n 0, 1) := by decide +kernel
theorem dX6_set_43 : decode cX6_set 43 = .ok (.iconst 2, 1) := by decide +kernel
theorem dX6_set_44 : decode cX6_set 44 = .ok (.invokevirtual 67, 3) := by decide +kernel
theorem dX6_set_47 : decode cX6_set 47 = .ok (.ireturn, 1) := by decide +kernel
theorem dX6_set_48 : decode cX6_set 48 = .ok (.aload 4, 2) := by decide +kernel
theorem dX6_set_50 : decode cX6_set 50 = .ok (.getfield 86, 3) := by decide +kernel
theorem dX6_set_53 : decode cX6_set 53 = .ok (.iload_n 2, 1) := by decide +kernel
theorem dX6_set_54 : decode cX6_set 54 = .ok (.aload 4, 2) := by decide +kernel
theorem dX6_set_56 : decode cX6_set 56 = .ok (.iload_n 3, 1) := by decide +kernel
theorem dX6_set_57 : decode cX6_set 57 = .ok (.invokevirtual 90, 3) := by decide +kernel
theorem dX6_set_60 : decode cX6_set 60 = .ok (.iastore, 1) := by decide +kernel
theorem dX6_set_61 : decode cX6_set 61 = .ok (.aload_n 0, 1) := by decide +kernel
theorem dX6_set_62 : decode cX6_set 62 = .ok (.aload 4, 2) := by decide +kernel
theorem dX6_set_64 : decode cX6_set 64 = .ok (.getfield 86, 3) := by decide +kernel
theorem dX6_set_67 : decode cX6_set 67 = .ok (.iload_n 2, 1) := by decide +kernel
theorem dX6_set_68 : decode cX6_set 68 = .ok (.iaload, 1) := by decide +kernel
theorem dX6_set_69 : decode cX6_set 69 = .ok (.invokevirtual 75, 3) := by decide +kernel
theorem dX6_set_72 : decode cX6_set 72 = .ok (.ireturn, 1) := by decide +kernel
theorem dX6_copy_0 : decode cX6_copy 0 = .ok (.iload_n 1, 1) := by decide +kernel
theorem dX6_copy_1 : decode cX6_copy 1 = .ok (.invokestatic 62, 3) := by decide +kernel
theorem dX6_copy_4 : decode cX6_copy 4 = .ok (.ifCond .eq 10, 3) := by decide +kernel
theorem dX6_copy_7 : decode cX6_copy 7 = .ok (.iload_n 3, 1) := by decide +kernel
theorem dX6_copy_8 : decode cX6_copy 8 = .ok (.invokestatic 62, 3) := by decide +kernel
theorem dX6_copy_11 : decode cX6_copy 11 = .ok (.ifCond .ne 6, 3) := by decide +kernel
theorem dX6_copy_14 : decode cX6_copy 14 = .ok (.ldc 66, 2) := by decide +kernel
theorem dX6_copy_16 : decode cX6_copy 16 = .ok (.ireturn, 1) := by decide +kernel
theorem dX6_copy_17 : decode cX6_copy 17 = .ok (.aload_n 0, 1) := by decide +kernel
theorem dX6_copy_18 : decode cX6_copy 18 = .ok (.getfield 11, 3) := by decide +kernel
theorem dX6_copy_21 : decode cX6_copy 21 = .ok (.iload_n 1, 1) := by decide +kernel
theorem dX6_copy_22 : decode cX6_copy 22 = .ok (.aaload, 1) := by decide +kernel
theorem dX6_copy_23 : decode cX6_copy 23 = .ok (.astore 6, 2) := by decide +kernel
theorem dX6_copy_25 : decode cX6_copy 25 = .ok (.aload_n 0, 1) := by decide +kernel
theorem dX6_copy_26 : decode cX6_copy 26 = .ok (.getfield 11, 3) := by decide +kernel
theorem dX6_copy_29 : decode cX6_copy 29 = .ok (.iload_n 3, 1) := by decide +kernel
theorem dX6_copy_30 : decode cX6_copy 30 = .ok (.aaload, 1) := by decide +kernel
theorem dX6_copy_31 : decode cX6_copy 31 = .ok (.astore 7, 2) := by decide +kernel
theorem dX6_copy_33 : decode cX6_copy 33 = .ok (.aload 6, 2) := by decide +kernel
theorem dX6_copy_35 : decode cX6_copy 35 = .ok (.getfield 78, 3) := by decide +kernel
theorem dX6_copy_38 : decode cX6_copy 38 = .ok (.ifCond .eq 11, 3) := by decide +kernel
theorem dX6_copy_41 : decode cX6_copy 41 = .ok (.aload 7, 2) := by decide +kernel
theorem dX6_copy_43 : decode cX6_copy 43 = .ok (.getfield 78, 3) := by decide +kernel
theorem dX6_copy_46 : decode cX6_copy 46 = .ok (.ifCond .ne 9, 3) := by decide +kernel
theorem dX6_copy_49 : decode cX6_copy 49 = .ok (.aload_n 0, 1) := by decide +kernel
theorem dX6_copy_50 : decode cX6_copy 50 = .ok (.iconst 1, 1) := by decide +kernel
theorem dX6_copy_51 : decode cX6_copy 51 = .ok (.invokevirtual 67, 3) := by decide +kernel
theorem dX6_copy_54 : decode cX6_copy 54 = .ok (.ireturn, 1) := by decide +kernel
theorem dX6_copy_55 : decode cX6_copy 55 = .ok (.aload 6, 2) := by decide +kernel
theorem dX6_copy_57 : decode cX6_copy 57 = .ok (.getfield 93, 3) := by decide +kernel
theorem dX6_copy_60 : decode cX6_copy 60 = .ok (.aload 7, 2) := by decide +kernel
theorem dX6_copy_62 : decode cX6_copy 62 = .ok (.getfield 93, 3) := by decide +kernel
theorem dX6_copy_65 : decode cX6_copy 65 = .ok (.if_icmp .eq 9, 3) := by decide +kernel
theorem dX6_copy_68 : decode cX6_copy 68 = .ok (.aload_n 0, 1) := by decide +kernel
theorem dX6_copy_69 : decode cX6_copy 69 = .ok (.iconst 5, 1) := by decide +kernel
theorem dX6_copy_70 : decode cX6_copy 70 = .ok (.invokevirtual 67, 3) := by decide +kernel
theorem dX6_copy_73 : decode cX6_copy 73 = .ok (.ireturn, 1) := by decide +kernel
theorem dX6_copy_74 : decode cX6_copy 74 = .ok (.aload 6, 2) := by decide +kernel
theorem dX6_copy_76 : decode cX6_copy 76 = .ok (.iload_n 2, 1) := by decide +kernel
theorem dX6_copy_77 : decode cX6_copy 77 = .ok (.iload 5, 2) := by decide +kernel
theorem dX6_copy_79 : decode cX6_copy 79 = .ok (.invokevirtual 82, 3) := by decide +kernel
theorem dX6_copy_82 : decode cX6_copy 82 = .ok (.ifCond .eq 15, 3) := by decide +kernel
theorem dX6_copy_85 : decode cX6_copy 85 = .ok (.aload 7, 2) := by decide +kernel
theorem dX6_copy_87 : decode cX6_copy 87 = .ok (.iload 4, 2) := by decide +kernel
theorem dX6_copy_89 : decode cX6_copy 89 = .ok (.iload 5, 2) := by decide +kernel
theorem dX6_copy_91 : decode cX6_copy 91 = .ok (.invokevirtual 82, 3) := by decide +kernel
theorem dX6_copy_94 : decode cX6_copy 94 = .ok (.ifCond .ne 9, 3) := by decide +kernel
theorem dX6_copy_97 : decode cX6_copy 97 = .ok (.aload_n 0, 1) := by decide +kernel
theorem dX6_copy_98 : decode cX6_copy 98 = .ok (.iconst 2, 1) := by decide +kernel
theorem dX6_copy_99 : decode cX6_copy 99 = .ok (.invokevirtual 67, 3) := by decide +kernel
theorem dX6_copy_102 : decode cX6_copy 102 = .ok (.ireturn, 1) := by decide +kernel
theorem dX6_copy_103 : decode cX6_copy 103 = .ok (.aload 6, 2) := by decide +kernel
theorem dX6_copy_105 : decode cX6_copy 105 = .ok (.getfield 86, 3) := by decide +kernel
theorem dX6_copy_108 : decode cX6_copy 108 = .ok (.iload_n 2, 1) := by decide +kernel
theorem dX6_copy_109 : decode cX6_copy 109 = .ok (.aload 7, 2) := by decide +kernel
theorem dX6_copy_111 : decode cX6_copy 111 = .ok (.getfield 86, 3) := by decide +kernel
theorem dX6_copy_114 : decode cX6_copy 114 = .ok (.iload 4, 2) := by decide +kernel
theorem dX6_copy_116 : decode cX6_copy 116 = .ok (.iload 5, 2) := by decide +kernel
theorem dX6_copy_118 : decode cX6_copy 118 = .ok (.invokestatic 96, 3) := by decide +kernel
theorem dX6_copy_121 : decode cX6_copy 121 = .ok (.aload_n 0, 1) := by decide +kernel
theorem dX6_copy_122 : decode cX6_copy 122 = .ok (.iload 5, 2) := by decide +kernel
theorem dX6_copy_124 : decode cX6_copy 124 = .ok (.invokevirtual 75, 3) := by decide +kernel
theorem dX6_copy_127 : decode cX6_copy 127 = .ok (.ireturn, 1) := by decide +kernel
theorem dX6_drop_0 : decode cX6_drop 0 = .ok (.iload_n 1, 1) := by decide +kernel
theorem dX6_drop_1 : decode cX6_drop 1 = .ok (.invokestatic 62, 3) := by decide +kernel
theorem dX6_drop_4 : decode cX6_drop 4 = .ok (.ifCond .ne 6, 3) := by decide +kernel
theorem dX6_drop_7 : decode cX6_drop 7 = .ok (.ldc 66, 2) := by decide +kernel
theorem dX6_drop_9 : decode cX6_drop 9 = .ok (.ireturn, 1) := by decide +kernel
theorem dX6_drop_10 : decode cX6_drop 10 = .ok (.aload_n 0, 1) := by decide +kernel
theorem dX6_drop_11 : decode cX6_drop 11 = .ok (.getfield 11, 3) := by decide +kernel
theorem dX6_drop_14 : decode cX6_drop 14 = .ok (.iload_n 1, 1) := by decide +kernel
theorem dX6_drop_15 : decode cX6_drop 15 = .ok (.aaload, 1) := by decide +kernel
theorem dX6_drop_16 : decode cX6_drop 16 = .ok (.astore_n 2, 1) := by decide +kernel
theorem dX6_drop_17 : decode cX6_drop 17 = .ok (.aload_n 2, 1) := by decide +kernel
theorem dX6_drop_18 : decode cX6_drop 18 = .ok (.getfield 78, 3) := by decide +kernel
theorem dX6_drop_21 : decode cX6_drop 21 = .ok (.ifCond .ne 9, 3) := by decide +kernel
theorem dX6_drop_24 : decode cX6_drop 24 = .ok (.aload_n 0, 1) := by decide +kernel
theorem dX6_drop_25 : decode cX6_drop 25 = .ok (.iconst 1, 1) := by decide +kernel
theorem dX6_drop_26 : decode cX6_drop 26 = .ok (.invokevirtual 67, 3) := by decide +kernel
theorem dX6_drop_29 : decode cX6_drop 29 = .ok (.ireturn, 1) := by decide +kernel
theorem dX6_drop_30 : decode cX6_drop 30 = .ok (.aload_n 2, 1) := by decide +kernel
theorem dX6_drop_31 : decode cX6_drop 31 = .ok (.iconst 0, 1) := by decide +kernel
theorem dX6_drop_32 : decode cX6_drop 32 = .ok (.putfield 78, 3) := by decide +kernel
theorem dX6_drop_35 : decode cX6_drop 35 = .ok (.aload_n 0, 1) := by decide +kernel
theorem dX6_drop_36 : decode cX6_drop 36 = .ok (.aload_n 2, 1) := by decide +kernel
theorem dX6_drop_37 : decode cX6_drop 37 = .ok (.getfield 102, 3) := by decide +kernel
theorem dX6_drop_40 : decode cX6_drop 40 = .ok (.invokevirtual 75, 3) := by decide +kernel
theorem dX6_drop_43 : decode cX6_drop 43 = .ok (.ireturn, 1) := by decide +kernel
theorem dX6_feed_0 : decode cX6_feed 0 = .ok (.iload_n 1, 1) := by decide +kernel
theorem dX6_feed_1 : decode cX6_feed 1 = .ok (.ifCond .lt 10, 3) := by decide +kernel
theorem dX6_feed_4 : decode cX6_feed 4 = .ok (.iload_n 1, 1) := by decide +kernel
theorem dX6_feed_5 : decode cX6_feed 5 = .ok (.sipush 255, 3) := by decide +kernel
theorem dX6_feed_8 : decode cX6_feed 8 = .ok (.if_icmp .le 6, 3) := by decide +kernel
theorem dX6_feed_11 : decode cX6_feed 11 = .ok (.ldc 66, 2) := by decide +kernel
theorem dX6_feed_13 : decode cX6_feed 13 = .ok (.ireturn, 1) := by decide +kernel
theorem dX6_feed_14 : decode cX6_feed 14 = .ok (.aload_n 0, 1) := by decide +kernel
theorem dX6_feed_15 : decode cX6_feed 15 = .ok (.getfield 18, 3) := by decide +kernel
theorem dX6_feed_18 : decode cX6_feed 18 = .ok (.invokevirtual 105, 3) := by decide +kernel
theorem dX6_feed_21 : decode cX6_feed 21 = .ok (.ifCond .ne 6, 3) := by decide +kernel
theorem dX6_feed_24 : decode cX6_feed 24 = .ok (.ldc 109, 2) := by decide +kernel
theorem dX6_feed_26 : decode cX6_feed 26 = .ok (.ireturn, 1) := by decide +kernel
theorem dX6_feed_27 : decode cX6_feed 27 = .ok (.aload_n 0, 1) := by decide +kernel
theorem dX6_feed_28 : decode cX6_feed 28 = .ok (.getfield 18, 3) := by decide +kernel
theorem dX6_feed_31 : decode cX6_feed 31 = .ok (.iload_n 1, 1) := by decide +kernel
theorem dX6_feed_32 : decode cX6_feed 32 = .ok (.invokevirtual 110, 3) := by decide +kernel
theorem dX6_feed_35 : decode cX6_feed 35 = .ok (.ireturn, 1) := by decide +kernel
theorem dX6_parish_0 : decode cX6_parish 0 = .ok (.aload_n 0, 1) := by decide +kernel
theorem dX6_parish_1 : decode cX6_parish 1 = .ok (.getfield 29, 3) := by decide +kernel
theorem dX6_parish_4 : decode cX6_parish 4 = .ok (.invokevirtual 113, 3) := by decide +kernel
theorem dX6_parish_7 : decode cX6_parish 7 = .ok (.aload_n 0, 1) := by decide +kernel
theorem dX6_parish_8 : decode cX6_parish 8 = .ok (.getfield 18, 3) := by decide +kernel
theorem dX6_parish_11 : decode cX6_parish 11 = .ok (.aload_n 0, 1) := by decide +kernel
theorem dX6_parish_12 : decode cX6_parish 12 = .ok (.getfield 29, 3) := by decide +kernel
theorem dX6_parish_15 : decode cX6_parish 15 = .ok (.invokevirtual 116, 3) := by decide +kernel
theorem dX6_parish_18 : decode cX6_parish 18 = .ok (.ifCond .ne 14, 3) := by decide +kernel
theorem dX6_parish_21 : decode cX6_parish 21 = .ok (.ldc 120, 2) := by decide +kernel
theorem dX6_parish_23 : decode cX6_parish 23 = .ok (.aload_n 0, 1) := by decide +kernel
theorem dX6_parish_24 : decode cX6_parish 24 = .ok (.getfield 18, 3) := by decide +kernel
theorem dX6_parish_27 : decode cX6_parish 27 = .ok (.getfield 121, 3) := by decide +kernel
theorem dX6_parish_30 : decode cX6_parish 30 = .ok (.isub, 1) := by decide +kernel
theorem dX6_parish_31 : decode cX6_parish 31 = .ok (.ireturn, 1) := by decide +kernel
theorem dX6_parish_32 : decode cX6_parish 32 = .ok (.aload_n 0, 1) := by decide +kernel
theorem dX6_parish_33 : decode cX6_parish 33 = .ok (.getfield 25, 3) := by decide +kernel
theorem dX6_parish_36 : decode cX6_parish 36 = .ok (.aload_n 0, 1) := by decide +kernel
theorem dX6_parish_37 : decode cX6_parish 37 = .ok (.getfield 29, 3) := by decide +kernel
theorem dX6_parish_40 : decode cX6_parish 40 = .ok (.invokevirtual 124, 3) := by decide +kernel
theorem dX6_parish_43 : decode cX6_parish 43 = .ok (.aload_n 0, 1) := by decide +kernel
theorem dX6_parish_44 : decode cX6_parish 44 = .ok (.getfield 39, 3) := by decide +kernel
theorem dX6_parish_47 : decode cX6_parish 47 = .ok (.invokevirtual 128, 3) := by decide +kernel
theorem dX6_parish_50 : decode cX6_parish 50 = .ok (.aload_n 0, 1) := by decide +kernel
theorem dX6_parish_51 : decode cX6_parish 51 = .ok (.getfield 25, 3) := by decide +kernel
theorem dX6_parish_54 : decode cX6_parish 54 = .ok (.getfield 131, 3) := by decide +kernel
theorem dX6_parish_57 : decode cX6_parish 57 = .ok (.ireturn, 1) := by decide +kernel
theorem dX6_fault_0 : decode cX6_fault 0 = .ok (.aload_n 0, 1) := by decide +kernel
theorem dX6_fault_1 : decode cX6_fault 1 = .ok (.getfield 18, 3) := by decide +kernel
theorem dX6_fault_4 : decode cX6_fault 4 = .ok (.getfield 134, 3) := by decide +kernel
theorem dX6_fault_7 : decode cX6_fault 7 = .ok (.ireturn, 1) := by decide +kernel
theorem dX6_undo_0 : decode cX6_undo 0 = .ok (.aload_n 0, 1) := by decide +kernel
theorem dX6_undo_1 : decode cX6_undo 1 = .ok (.getfield 39, 3) := by decide +kernel
theorem dX6_undo_4 : decode cX6_undo 4 = .ok (.getfield 137, 3) := by decide +kernel
theorem dX6_undo_7 : decode cX6_undo 7 = .ok (.ifCond .ne 6, 3) := by decide +kernel
theorem dX6_undo_10 : decode cX6_undo 10 = .ok (.ldc 138, 2) := by decide +kernel
theorem dX6_undo_12 : decode cX6_undo 12 = .ok (.ireturn, 1) := by decide +kernel
theorem dX6_undo_13 : decode cX6_undo 13 = .ok (.aload_n 0, 1) := by decide +kernel
theorem dX6_undo_14 : decode cX6_undo 14 = .ok (.getfield 39, 3) := by decide +kernel
theorem dX6_undo_17 : decode cX6_undo 17 = .ok (.aload_n 0, 1) := by decide +kernel
theorem dX6_undo_18 : decode cX6_undo 18 = .ok (.getfield 25, 3) := by decide +kernel
theorem dX6_undo_21 : decode cX6_undo 21 = .ok (.invokevirtual 139, 3) := by decide +kernel
theorem dX6_undo_24 : decode cX6_undo 24 = .ok (.aload_n 0, 1) := by decide +kernel
theorem dX6_undo_25 : decode cX6_undo 25 = .ok (.getfield 39, 3) := by decide +kernel
theorem dX6_undo_28 : decode cX6_undo 28 = .ok (.getfield 137, 3) := by decide +kernel
theorem dX6_undo_31 : decode cX6_undo 31 = .ok (.ireturn, 1) := by decide +kernel
theorem dX6_walk_0 : decode cX6_walk 0 = .ok (.aload_n 0, 1) := by decide +kernel
theorem dX6_walk_1 : decode cX6_walk 1 = .ok (.iload_n 1, 1) := by decide +kernel
theorem dX6_walk_2 : decode cX6_walk 2 = .ok (.invokevirtual 142, 3) := by decide +kernel
theorem dX6_walk_5 : decode cX6_walk 5 = .ok (.ifCond .eq 25, 3) := by decide +kernel
theorem dX6_walk_8 : decode cX6_walk 8 = .ok (.iload_n 3, 1) := by decide +kernel
theorem dX6_walk_9 : decode cX6_walk 9 = .ok (.invokestatic 145, 3) := by decide +kernel
theorem dX6_walk_12 : decode cX6_walk 12 = .ok (.ifCond .eq 18, 3) := by decide +kernel
theorem dX6_walk_15 : decode cX6_walk 15 = .ok (.iload_n 2, 1) := by decide +kernel
theorem dX6_walk_16 : decode cX6_walk 16 = .ok (.ifCond .lt 14, 3) := by decide +kernel
theorem dX6_walk_19 : decode cX6_walk 19 = .ok (.iload_n 2, 1) := by decide +kernel
theorem dX6_walk_20 : decode cX6_walk 20 = .ok (.aload_n 0, 1) := by decide +kernel
theorem dX6_walk_21 : decode cX6_walk 21 = .ok (.getfield 25, 3) := by decide +kernel
theorem dX6_walk_24 : decode cX6_walk 24 = .ok (.invokevirtual 148, 3) := by decide +kernel
theorem dX6_walk_27 : decode cX6_walk 27 = .ok (.if_icmp .le 6, 3) := by decide +kernel
theorem dX6_walk_30 : decode cX6_walk 30 = .ok (.ldc 66, 2) := by decide +kernel
theorem dX6_walk_32 : decode cX6_walk 32 = .ok (.ireturn, 1) := by decide +kernel
theorem dX6_walk_33 : decode cX6_walk 33 = .ok (.aload_n 0, 1) := by decide +kernel
theorem dX6_walk_34 : decode cX6_walk 34 = .ok (.getfield 39, 3) := by decide +kernel
theorem dX6_walk_37 : decode cX6_walk 37 = .ok (.iconst 0, 1) := by decide +kernel
theorem dX6_walk_38 : decode cX6_walk 38 = .ok (.iload_n 1, 1) := by decide +kernel
theorem dX6_walk_39 : decode cX6_walk 39 = .ok (.aload_n 0, 1) := by decide +kernel
theorem dX6_walk_40 : decode cX6_walk 40 = .ok (.getfield 25, 3) := by decide +kernel
theorem dX6_walk_43 : decode cX6_walk 43 = .ok (.invokevirtual 152, 3) := by decide +kernel
theorem dX6_walk_46 : decode cX6_walk 46 = .ok (.aload_n 0, 1) := by decide +kernel
theorem dX6_walk_47 : decode cX6_walk 47 = .ok (.getfield 25, 3) := by decide +kernel
theorem dX6_walk_50 : decode cX6_walk 50 = .ok (.iload_n 1, 1) := by decide +kernel
theorem dX6_walk_51 : decode cX6_walk 51 = .ok (.iload_n 2, 1) := by decide +kernel
theorem dX6_walk_52 : decode cX6_walk 52 = .ok (.iload_n 3, 1) := by decide +kernel
theorem dX6_walk_53 : decode cX6_walk 53 = .ok (.invokevirtual 156, 3) := by decide +kernel
theorem dX6_walk_56 : decode cX6_walk 56 = .ok (.ireturn, 1) := by decide +kernel
theorem dX6_move_0 : decode cX6_move 0 = .ok (.aload_n 0, 1) := by decide +kernel
theorem dX6_move_1 : decode cX6_move 1 = .ok (.iload_n 1, 1) := by decide +kernel
theorem dX6_move_2 : decode cX6_move 2 = .ok (.invokevirtual 142, 3) := by decide +kernel
theorem dX6_move_5 : decode cX6_move 5 = .ok (.ifCond .eq 10, 3) := by decide +kernel
theorem dX6_move_8 : decode cX6_move 8 = .ok (.iload_n 2, 1) := by decide +kernel
theorem dX6_move_9 : decode cX6_move 9 = .ok (.invokestatic 160, 3) := by decide +kernel
theorem dX6_move_12 : decode cX6_move 12 = .ok (.ifCond .ne 6, 3) := by decide +kernel
theorem dX6_move_15 : decode cX6_move 15 = .ok (.ldc 66, 2) := by decide +kernel
theorem dX6_move_17 : decode cX6_move 17 = .ok (.ireturn, 1) := by decide +kernel
theorem dX6_move_18 : decode cX6_move 18 = .ok (.aload_n 0, 1) := by decide +kernel
theorem dX6_move_19 : decode cX6_move 19 = .ok (.getfield 25, 3) := by decide +kernel
theorem dX6_move_22 : decode cX6_move 22 = .ok (.getfield 163, 3) := by decide +kernel
theorem dX6_move_25 : decode cX6_move 25 = .ok (.iload_n 1, 1) := by decide +kernel
theorem dX6_move_26 : decode cX6_move 26 = .ok (.iaload, 1) := by decide +kernel
theorem dX6_move_27 : decode cX6_move 27 = .ok (.istore_n 3, 1) := by decide +kernel
theorem dX6_move_28 : decode cX6_move 28 = .ok (.aload_n 0, 1) := by decide +kernel
theorem dX6_move_29 : decode cX6_move 29 = .ok (.getfield 39, 3) := by decide +kernel
theorem dX6_move_32 : decode cX6_move 32 = .ok (.iconst 1, 1) := by decide +kernel
theorem dX6_move_33 : decode cX6_move 33 = .ok (.iload_n 1, 1) := by decide +kernel
theorem dX6_move_34 : decode cX6_move 34 = .ok (.aload_n 0, 1) := by decide +kernel
theorem dX6_move_35 : decode cX6_move 35 = .ok (.getfield 25, 3) := by decide +kernel
theorem dX6_move_38 : decode cX6_move 38 = .ok (.invokevirtual 152, 3) := by decide +kernel
theorem dX6_move_41 : decode cX6_move 41 = .ok (.aload_n 0, 1) := by decide +kernel
theorem dX6_move_42 : decode cX6_move 42 = .ok (.getfield 25, 3) := by decide +kernel
theorem dX6_move_45 : decode cX6_move 45 = .ok (.getfield 163, 3) := by decide +kernel
theorem dX6_move_48 : decode cX6_move 48 = .ok (.iload_n 1, 1) := by decide +kernel
theorem dX6_move_49 : decode cX6_move 49 = .ok (.iload_n 2, 1) := by decide +kernel
theorem dX6_move_50 : decode cX6_move 50 = .ok (.iastore, 1) := by decide +kernel
theorem dX6_move_51 : decode cX6_move 51 = .ok (.iload_n 3, 1) := by decide +kernel
theorem dX6_move_52 : decode cX6_move 52 = .ok (.ireturn, 1) := by decide +kernel
theorem dX6_bribe_0 : decode cX6_bribe 0 = .ok (.aload_n 0, 1) := by decide +kernel
theorem dX6_bribe_1 : decode cX6_bribe 1 = .ok (.iload_n 1, 1) := by decide +kernel
theorem dX6_bribe_2 : decode cX6_bribe 2 = .ok (.invokevirtual 166, 3) := by decide +kernel
theorem dX6_bribe_5 : decode cX6_bribe 5 = .ok (.ifCond .eq 15, 3) := by decide +kernel
theorem dX6_bribe_8 : decode cX6_bribe 8 = .ok (.iload_n 2, 1) := by decide +kernel
theorem dX6_bribe_9 : decode cX6_bribe 9 = .ok (.bipush (-20), 2) := by decide +kernel
theorem dX6_bribe_11 : decode cX6_bribe 11 = .ok (.if_icmp .lt 9, 3) := by decide +kernel
theorem dX6_bribe_14 : decode cX6_bribe 14 = .ok (.iload_n 2, 1) := by decide +kernel
theorem dX6_bribe_15 : decode cX6_bribe 15 = .ok (.bipush 20, 2) := by decide +kernel
theorem dX6_bribe_17 : decode cX6_bribe 17 = .ok (.if_icmp .le 6, 3) := by decide +kernel
theorem dX6_bribe_20 : decode cX6_bribe 20 = .ok (.ldc 66, 2) := by decide +kernel
theorem dX6_bribe_22 : decode cX6_bribe 22 = .ok (.ireturn, 1) := by decide +kernel
theorem dX6_bribe_23 : decode cX6_bribe 23 = .ok (.aload_n 0, 1) := by decide +kernel
theorem dX6_bribe_24 : decode cX6_bribe 24 = .ok (.getfield 25, 3) := by decide +kernel
theorem dX6_bribe_27 : decode cX6_bribe 27 = .ok (.getfield 169, 3) := by decide +kernel
theorem dX6_bribe_30 : decode cX6_bribe 30 = .ok (.iload_n 1, 1) := by decide +kernel
theorem dX6_bribe_31 : decode cX6_bribe 31 = .ok (.iaload, 1) := by decide +kernel
theorem dX6_bribe_32 : decode cX6_bribe 32 = .ok (.iconst 2, 1) := by decide +kernel
theorem dX6_bribe_33 : decode cX6_bribe 33 = .ok (.if_icmp .eq 6, 3) := by decide +kernel
theorem dX6_bribe_36 : decode cX6_bribe 36 = .ok (.ldc 138, 2) := by decide +kernel
theorem dX6_bribe_38 : decode cX6_bribe 38 = .ok (.ireturn, 1) := by decide +kernel
theorem dX6_bribe_39 : decode cX6_bribe 39 = .ok (.aload_n 0, 1) := by decide +kernel
theorem dX6_bribe_40 : decode cX6_bribe 40 = .ok (.getfield 25, 3) := by decide +kernel
theorem dX6_bribe_43 : decode cX6_bribe 43 = .ok (.getfield 172, 3) := by decide +kernel
theorem dX6_bribe_46 : decode cX6_bribe 46 = .ok (.iload_n 1, 1) := by decide +kernel
theorem dX6_bribe_47 : decode cX6_bribe 47 = .ok (.iaload, 1) := by decide +kernel
theorem dX6_bribe_48 : decode cX6_bribe 48 = .ok (.istore_n 3, 1) := by decide +kernel
theorem dX6_bribe_49 : decode cX6_bribe 49 = .ok (.aload_n 0, 1) := by decide +kernel
theorem dX6_bribe_50 : decode cX6_bribe 50 = .ok (.getfield 39, 3) := by decide +kernel
theorem dX6_bribe_53 : decode cX6_bribe 53 = .ok (.iconst 2, 1) := by decide +kernel
theorem dX6_bribe_54 : decode cX6_bribe 54 = .ok (.iload_n 1, 1) := by decide +kernel
theorem dX6_bribe_55 : decode cX6_bribe 55 = .ok (.aload_n 0, 1) := by decide +kernel
theorem dX6_bribe_56 : decode cX6_bribe 56 = .ok (.getfield 25, 3) := by decide +kernel
theorem dX6_bribe_59 : decode cX6_bribe 59 = .ok (.invokevirtual 152, 3) := by decide +kernel
theorem dX6_bribe_62 : decode cX6_bribe 62 = .ok (.aload_n 0, 1) := by decide +kernel
theorem dX6_bribe_63 : decode cX6_bribe 63 = .ok (.getfield 25, 3) := by decide +kernel
theorem dX6_bribe_66 : decode cX6_bribe 66 = .ok (.getfield 172, 3) := by decide +kernel
theorem dX6_bribe_69 : decode cX6_bribe 69 = .ok (.iload_n 1, 1) := by decide +kernel
theorem dX6_bribe_70 : decode cX6_bribe 70 = .ok (.iload_n 2, 1) := by decide +kernel
theorem dX6_bribe_71 : decode cX6_bribe 71 = .ok (.iastore, 1) := by decide +kernel
theorem dX6_bribe_72 : decode cX6_bribe 72 = .ok (.iload_n 3, 1) := by decide +kernel
theorem dX6_bribe_73 : decode cX6_bribe 73 = .ok (.ireturn, 1) := by decide +kernel
theorem dX6_years_0 : decode cX6_years 0 = .ok (.aload_n 0, 1) := by decide +kernel
theorem dX6_years_1 : decode cX6_years 1 = .ok (.getfield 25, 3) := by decide +kernel
theorem dX6_years_4 : decode cX6_years 4 = .ok (.getfield 175, 3) := by decide +kernel
theorem dX6_years_7 : decode cX6_years 7 = .ok (.ifCond .ne 6, 3) := by decide +kernel
theorem dX6_years_10 : decode cX6_years 10 = .ok (.ldc 138, 2) := by decide +kernel
theorem dX6_years_12 : decode cX6_years 12 = .ok (.ireturn, 1) := by decide +kernel
theorem dX6_years_13 : decode cX6_years 13 = .ok (.iload_n 1, 1) := by decide +kernel
theorem dX6_years_14 : decode cX6_years 14 = .ok (.iconst 1, 1) := by decide +kernel
theorem dX6_years_15 : decode cX6_years 15 = .ok (.if_icmp .lt 9, 3) := by decide +kernel
theorem dX6_years_18 : decode cX6_years 18 = .ok (.iload_n 1, 1) := by decide +kernel
theorem dX6_years_19 : decode cX6_years 19 = .ok (.bipush 24, 2) := by decide +kernel
theorem dX6_years_21 : decode cX6_years 21 = .ok (.if_icmp .le 6, 3) := by decide +kernel
theorem dX6_years_24 : decode cX6_years 24 = .ok (.ldc 66, 2) := by decide +kernel
theorem dX6_years_26 : decode cX6_years 26 = .ok (.ireturn, 1) := by decide +kernel
theorem dX6_years_27 : decode cX6_years 27 = .ok (.aload_n 0, 1) := by decide +kernel
theorem dX6_years_28 : decode cX6_years 28 = .ok (.getfield 25, 3) := by decide +kernel
theorem dX6_years_31 : decode cX6_years 31 = .ok (.getfield 178, 3) := by decide +kernel
theorem dX6_years_34 : decode cX6_years 34 = .ok (.iload_n 1, 1) := by decide +kernel
theorem dX6_years_35 : decode cX6_years 35 = .ok (.iadd, 1) := by decide +kernel
theorem dX6_years_36 : decode cX6_years 36 = .ok (.sipush 999, 3) := by decide +kernel
theorem dX6_years_39 : decode cX6_years 39 = .ok (.if_icmp .le 6, 3) := by decide +kernel
theorem dX6_years_42 : decode cX6_years 42 = .ok (.ldc 109, 2) := by decide +kernel
theorem dX6_years_44 : decode cX6_years 44 = .ok (.ireturn, 1) := by decide +kernel
theorem dX6_years_45 : decode cX6_years 45 = .ok (.iconst 0, 1) := by decide +kernel
theorem dX6_years_46 : decode cX6_years 46 = .ok (.istore_n 2, 1) := by decide +kernel
theorem dX6_years_47 : decode cX6_years 47 = .ok (.iload_n 2, 1) := by decide +kernel
theorem dX6_years_48 : decode cX6_years 48 = .ok (.iload_n 1, 1) := by decide +kernel
theorem dX6_years_49 : decode cX6_years 49 = .ok (.if_icmp .ge 35, 3) := by decide +kernel
theorem dX6_years_52 : decode cX6_years 52 = .ok (.aload_n 0, 1) := by decide +kernel
theorem dX6_years_53 : decode cX6_years 53 = .ok (.getfield 39, 3) := by decide +kernel
theorem dX6_years_56 : decode cX6_years 56 = .ok (.iconst 3, 1) := by decide +kernel
theorem dX6_years_57 : decode cX6_years 57 = .ok (.iconst 0, 1) := by decide +kernel
theorem dX6_years_58 : decode cX6_years 58 = .ok (.aload_n 0, 1) := by decide +kernel
theorem dX6_years_59 : decode cX6_years 59 = .ok (.getfield 25, 3) := by decide +kernel
theorem dX6_years_62 : decode cX6_years 62 = .ok (.invokevirtual 152, 3) := by decide +kernel
theorem dX6_years_65 : decode cX6_years 65 = .ok (.aload_n 0, 1) := by decide +kernel
theorem dX6_years_66 : decode cX6_years 66 = .ok (.getfield 25, 3) := by decide +kernel
theorem dX6_years_69 : decode cX6_years 69 = .ok (.dup, 1) := by decide +kernel
theorem dX6_years_70 : decode cX6_years 70 = .ok (.getfield 178, 3) := by decide +kernel
theorem dX6_years_73 : decode cX6_years 73 = .ok (.iconst 1, 1) := by decide +kernel
theorem dX6_years_74 : decode cX6_years 74 = .ok (.iadd, 1) := by decide +kernel
theorem dX6_years_75 : decode cX6_years 75 = .ok (.putfield 178, 3) := by decide +kernel
theorem dX6_years_78 : decode cX6_years 78 = .ok (.iinc 2 1, 3) := by decide +kernel
theorem dX6_years_81 : decode cX6_years 81 = .ok (.goto (-34), 3) := by decide +kernel
theorem dX6_years_84 : decode cX6_years 84 = .ok (.aload_n 0, 1) := by decide +kernel
theorem dX6_years_85 : decode cX6_years 85 = .ok (.getfield 25, 3) := by decide +kernel
theorem dX6_years_88 : decode cX6_years 88 = .ok (.invokevirtual 181, 3) := by decide +kernel
theorem dX6_years_91 : decode cX6_years 91 = .ok (.invokestatic 184, 3) := by decide +kernel
theorem dX6_years_94 : decode cX6_years 94 = .ok (.ireturn, 1) := by decide +kernel
theorem dX6_witness_0 : decode cX6_witness 0 = .ok (.aload_n 0, 1) := by decide +kernel
theorem dX6_witness_1 : decode cX6_witness 1 = .ok (.iload_n 1, 1) := by decide +kernel
theorem dX6_witness_2 : decode cX6_witness 2 = .ok (.invokevirtual 166, 3) := by decide +kernel
theorem dX6_witness_5 : decode cX6_witness 5 = .ok (.ifCond .ne 6, 3) := by decide +kernel
theorem dX6_witness_8 : decode cX6_witness 8 = .ok (.ldc 66, 2) := by decide +kernel
theorem dX6_witness_10 : decode cX6_witness 10 = .ok (.ireturn, 1) := by decide +kernel
theorem dX6_witness_11 : decode cX6_witness 11 = .ok (.iload_n 2, 1) := by decide +kernel
theorem dX6_witness_12 : decode cX6_witness 12 = .ok (.tableswitch 91 0 4 #[36, 45, 55, 72, 82], 36) := by decide +kernel
theorem dX6_witness_48 : decode cX6_witness 48 = .ok (.aload_n 0, 1) := by decide +kernel
theorem dX6_witness_49 : decode cX6_witness 49 = .ok (.getfield 25, 3) := by decide +kernel
theorem dX6_witness_52 : decode cX6_witness 52 = .ok (.iload_n 1, 1) := by decide +kernel
theorem dX6_witness_53 : decode cX6_witness 53 = .ok (.invokevirtual 189, 3) := by decide +kernel
theorem dX6_witness_56 : decode cX6_witness 56 = .ok (.ireturn, 1) := by decide +kernel
theorem dX6_witness_57 : decode cX6_witness 57 = .ok (.aload_n 0, 1) := by decide +kernel
theorem dX6_witness_58 : decode cX6_witness 58 = .ok (.getfield 25, 3) := by decide +kernel
theorem dX6_witness_61 : decode cX6_witness 61 = .ok (.getfield 192, 3) := by decide +kernel
theorem dX6_witness_64 : decode cX6_witness 64 = .ok (.iload_n 1, 1) := by decide +kernel
theorem dX6_witness_65 : decode cX6_witness 65 = .ok (.iaload, 1) := by decide +kernel
theorem dX6_witness_66 : decode cX6_witness 66 = .ok (.ireturn, 1) := by decide +kernel
theorem dX6_witness_67 : decode cX6_witness 67 = .ok (.aload_n 0, 1) := by decide +kernel
theorem dX6_witness_68 : decode cX6_witness 68 = .ok (.getfield 25, 3) := by decide +kernel
theorem dX6_witness_71 : decode cX6_witness 71 = .ok (.iload_n 1, 1) := by decide +kernel
theorem dX6_witness_72 : decode cX6_witness 72 = .ok (.invokevirtual 195, 3) := by decide +kernel
theorem dX6_witness_75 : decode cX6_witness 75 = .ok (.ifCond .eq 7, 3) := by decide +kernel
theorem dX6_witness_78 : decode cX6_witness 78 = .ok (.iconst 1, 1) := by decide +kernel
theorem dX6_witness_79 : decode cX6_witness 79 = .ok (.goto 4, 3) := by decide +kernel
theorem dX6_witness_82 : decode cX6_witness 82 = .ok (.iconst 0, 1) := by decide +kernel
theorem dX6_witness_83 : decode cX6_witness 83 = .ok (.ireturn, 1) := by decide +kernel
theorem dX6_witness_84 : decode cX6_witness 84 = .ok (.aload_n 0, 1) := by decide +kernel
theorem dX6_witness_85 : decode cX6_witness 85 = .ok (.getfield 25, 3) := by decide +kernel
theorem dX6_witness_88 : decode cX6_witness 88 = .ok (.getfield 172, 3) := by decide +kernel
theorem dX6_witness_91 : decode cX6_witness 91 = .ok (.iload_n 1, 1) := by decide +kernel
theorem dX6_witness_92 : decode cX6_witness 92 = .ok (.iaload, 1) := by decide +kernel
theorem dX6_witness_93 : decode cX6_witness 93 = .ok (.ireturn, 1) := by decide +kernel
theorem dX6_witness_94 : decode cX6_witness 94 = .ok (.aload_n 0, 1) := by decide +kernel
theorem dX6_witness_95 : decode cX6_witness 95 = .ok (.getfield 25, 3) := by decide +kernel
theorem dX6_witness_98 : decode cX6_witness 98 = .ok (.iload_n 1, 1) := by decide +kernel
theorem dX6_witness_99 : decode cX6_witness 99 = .ok (.invokevirtual 198, 3) := by decide +kernel
theorem dX6_witness_102 : decode cX6_witness 102 = .ok (.ireturn, 1) := by decide +kernel
theorem dX6_witness_103 : decode cX6_witness 103 = .ok (.ldc 66, 2) := by decide +kernel
theorem dX6_witness_105 : decode cX6_witness 105 = .ok (.ireturn, 1) := by decide +kernel
theorem dX6_memory_0 : decode cX6_memory 0 = .ok (.aload_n 0, 1) := by decide +kernel
theorem dX6_memory_1 : decode cX6_memory 1 = .ok (.iload_n 1, 1) := by decide +kernel
theorem dX6_memory_2 : decode cX6_memory 2 = .ok (.invokevirtual 166, 3) := by decide +kernel
theorem dX6_memory_5 : decode cX6_memory 5 = .ok (.ifCond .eq 20, 3) := by decide +kernel
theorem dX6_memory_8 : decode cX6_memory 8 = .ok (.aload_n 0, 1) := by decide +kernel
theorem dX6_memory_9 : decode cX6_memory 9 = .ok (.iload_n 2, 1) := by decide +kernel
theorem dX6_memory_10 : decode cX6_memory 10 = .ok (.invokevirtual 142, 3) := by decide +kernel
theorem dX6_memory_13 : decode cX6_memory 13 = .ok (.ifCond .eq 12, 3) := by decide +kernel
theorem dX6_memory_16 : decode cX6_memory 16 = .ok (.iload_n 3, 1) := by decide +kernel
theorem dX6_memory_17 : decode cX6_memory 17 = .ok (.ifCond .lt 8, 3) := by decide +kernel
theorem dX6_memory_20 : decode cX6_memory 20 = .ok (.iload_n 3, 1) := by decide +kernel
theorem dX6_memory_21 : decode cX6_memory 21 = .ok (.iconst 3, 1) := by decide +kernel
theorem dX6_memory_22 : decode cX6_memory 22 = .ok (.if_icmp .le 6, 3) := by decide +kernel
theorem dX6_memory_25 : decode cX6_memory 25 = .ok (.ldc 66, 2) := by decide +kernel
theorem dX6_memory_27 : decode cX6_memory 27 = .ok (.ireturn, 1) := by decide +kernel
theorem dX6_memory_28 : decode cX6_memory 28 = .ok (.iload_n 3, 1) := by decide +kernel
theorem dX6_memory_29 : decode cX6_memory 29 = .ok (.iconst 3, 1) := by decide +kernel
theorem dX6_memory_30 : decode cX6_memory 30 = .ok (.if_icmp .ne 13, 3) := by decide +kernel
theorem dX6_memory_33 : decode cX6_memory 33 = .ok (.aload_n 0, 1) := by decide +kernel
theorem dX6_memory_34 : decode cX6_memory 34 = .ok (.getfield 25, 3) := by decide +kernel
theorem dX6_memory_37 : decode cX6_memory 37 = .ok (.iload_n 1, 1) := by decide +kernel
theorem dX6_memory_38 : decode cX6_memory 38 = .ok (.iload_n 2, 1) := by decide +kernel
theorem dX6_memory_39 : decode cX6_memory 39 = .ok (.invokevirtual 201, 3) := by decide +kernel
theorem dX6_memory_42 : decode cX6_memory 42 = .ok (.ireturn, 1) := by decide +kernel
theorem dX6_memory_43 : decode cX6_memory 43 = .ok (.aload_n 0, 1) := by decide +kernel
theorem dX6_memory_44 : decode cX6_memory 44 = .ok (.getfield 25, 3) := by decide +kernel
theorem dX6_memory_47 : decode cX6_memory 47 = .ok (.iload_n 1, 1) := by decide +kernel
theorem dX6_memory_48 : decode cX6_memory 48 = .ok (.iload_n 2, 1) := by decide +kernel
theorem dX6_memory_49 : decode cX6_memory 49 = .ok (.invokevirtual 205, 3) := by decide +kernel
theorem dX6_memory_52 : decode cX6_memory 52 = .ok (.istore 4, 2) := by decide +kernel
theorem dX6_memory_54 : decode cX6_memory 54 = .ok (.aload_n 0, 1) := by decide +kernel
theorem dX6_memory_55 : decode cX6_memory 55 = .ok (.getfield 25, 3) := by decide +kernel
theorem dX6_memory_58 : decode cX6_memory 58 = .ok (.getfield 208, 3) := by decide +kernel
theorem dX6_memory_61 : decode cX6_memory 61 = .ok (.iload 4, 2) := by decide +kernel
theorem dX6_memory_63 : decode cX6_memory 63 = .ok (.iaload, 1) := by decide +kernel
theorem dX6_memory_64 : decode cX6_memory 64 = .ok (.ifCond .ne 6, 3) := by decide +kernel
theorem dX6_memory_67 : decode cX6_memory 67 = .ok (.ldc 211, 2) := by decide +kernel
theorem dX6_memory_69 : decode cX6_memory 69 = .ok (.ireturn, 1) := by decide +kernel
theorem dX6_memory_70 : decode cX6_memory 70 = .ok (.iload_n 3, 1) := by decide +kernel
theorem dX6_memory_71 : decode cX6_memory 71 = .ok (.ifCond .ne 16, 3) := by decide +kernel
theorem dX6_memory_74 : decode cX6_memory 74 = .ok (.aload_n 0, 1) := by decide +kernel
theorem dX6_memory_75 : decode cX6_memory 75 = .ok (.getfield 25, 3) := by decide +kernel
theorem dX6_memory_78 : decode cX6_memory 78 = .ok (.getfield 212, 3) := by decide +kernel
theorem dX6_memory_81 : decode cX6_memory 81 = .ok (.iload 4, 2) := by decide +kernel
theorem dX6_memory_83 : decode cX6_memory 83 = .ok (.iaload, 1) := by decide +kernel
theorem dX6_memory_84 : decode cX6_memory 84 = .ok (.goto 31, 3) := by decide +kernel
theorem dX6_memory_87 : decode cX6_memory 87 = .ok (.iload_n 3, 1) := by decide +kernel
theorem dX6_memory_88 : decode cX6_memory 88 = .ok (.iconst 1, 1) := by decide +kernel
theorem dX6_memory_89 : decode cX6_memory 89 = .ok (.if_icmp .ne 16, 3) := by decide +kernel
theorem dX6_memory_92 : decode cX6_memory 92 = .ok (.aload_n 0, 1) := by decide +kernel
theorem dX6_memory_93 : decode cX6_memory 93 = .ok (.getfield 25, 3) := by decide +kernel
theorem dX6_memory_96 : decode cX6_memory 96 = .ok (.getfield 208, 3) := by decide +kernel
theorem dX6_memory_99 : decode cX6_memory 99 = .ok (.iload 4, 2) := by decide +kernel
theorem dX6_memory_101 : decode cX6_memory 101 = .ok (.iaload, 1) := by decide +kernel
theorem dX6_memory_102 : decode cX6_memory 102 = .ok (.goto 13, 3) := by decide +kernel
theorem dX6_memory_105 : decode cX6_memory 105 = .ok (.aload_n 0, 1) := by decide +kernel
theorem dX6_memory_106 : decode cX6_memory 106 = .ok (.getfield 25, 3) := by decide +kernel
theorem dX6_memory_109 : decode cX6_memory 109 = .ok (.getfield 215, 3) := by decide +kernel
theorem dX6_memory_112 : decode cX6_memory 112 = .ok (.iload 4, 2) := by decide +kernel
theorem dX6_memory_114 : decode cX6_memory 114 = .ok (.iaload, 1) := by decide +kernel
theorem dX6_memory_115 : decode cX6_memory 115 = .ok (.ireturn, 1) := by decide +kernel
theorem dX6_stone_0 : decode cX6_stone 0 = .ok (.aload_n 0, 1) := by decide +kernel
theorem dX6_stone_1 : decode cX6_stone 1 = .ok (.iload_n 1, 1) := by decide +kernel
theorem dX6_stone_2 : decode cX6_stone 2 = .ok (.invokevirtual 142, 3) := by decide +kernel
theorem dX6_stone_5 : decode cX6_stone 5 = .ok (.ifCond .eq 15, 3) := by decide +kernel
theorem dX6_stone_8 : decode cX6_stone 8 = .ok (.aload_n 0, 1) := by decide +kernel
theorem dX6_stone_9 : decode cX6_stone 9 = .ok (.getfield 25, 3) := by decide +kernel
theorem dX6_stone_12 : decode cX6_stone 12 = .ok (.getfield 163, 3) := by decide +kernel
theorem dX6_stone_15 : decode cX6_stone 15 = .ok (.iload_n 1, 1) := by decide +kernel
theorem dX6_stone_16 : decode cX6_stone 16 = .ok (.iaload, 1) := by decide +kernel
theorem dX6_stone_17 : decode cX6_stone 17 = .ok (.goto 5, 3) := by decide +kernel
theorem dX6_stone_20 : decode cX6_stone 20 = .ok (.ldc 66, 2) := by decide +kernel
theorem dX6_stone_22 : decode cX6_stone 22 = .ok (.ireturn, 1) := by decide +kernel
theorem dX6_sworn_0 : decode cX6_sworn 0 = .ok (.aload_n 0, 1) := by decide +kernel
theorem dX6_sworn_1 : decode cX6_sworn 1 = .ok (.iload_n 1, 1) := by decide +kernel
theorem dX6_sworn_2 : decode cX6_sworn 2 = .ok (.invokevirtual 142, 3) := by decide +kernel
theorem dX6_sworn_5 : decode cX6_sworn 5 = .ok (.ifCond .eq 12, 3) := by decide +kernel
theorem dX6_sworn_8 : decode cX6_sworn 8 = .ok (.iload_n 2, 1) := by decide +kernel
theorem dX6_sworn_9 : decode cX6_sworn 9 = .ok (.ifCond .lt 8, 3) := by decide +kernel
theorem dX6_sworn_12 : decode cX6_sworn 12 = .ok (.iload_n 2, 1) := by decide +kernel
theorem dX6_sworn_13 : decode cX6_sworn 13 = .ok (.iconst 5, 1) := by decide +kernel
theorem dX6_sworn_14 : decode cX6_sworn 14 = .ok (.if_icmp .le 6, 3) := by decide +kernel
theorem dX6_sworn_17 : decode cX6_sworn 17 = .ok (.ldc 66, 2) := by decide +kernel
theorem dX6_sworn_19 : decode cX6_sworn 19 = .ok (.ireturn, 1) := by decide +kernel
theorem dX6_sworn_20 : decode cX6_sworn 20 = .ok (.aload_n 0, 1) := by decide +kernel
theorem dX6_sworn_21 : decode cX6_sworn 21 = .ok (.getfield 46, 3) := by decide +kernel
theorem dX6_sworn_24 : decode cX6_sworn 24 = .ok (.aload_n 0, 1) := by decide +kernel
theorem dX6_sworn_25 : decode cX6_sworn 25 = .ok (.getfield 25, 3) := by decide +kernel
theorem dX6_sworn_28 : decode cX6_sworn 28 = .ok (.iload_n 1, 1) := by decide +kernel
theorem dX6_sworn_29 : decode cX6_sworn 29 = .ok (.invokevirtual 218, 3) := by decide +kernel
theorem dX6_sworn_32 : decode cX6_sworn 32 = .ok (.iload_n 2, 1) := by decide +kernel
theorem dX6_sworn_33 : decode cX6_sworn 33 = .ok (.ifCond .ne 11, 3) := by decide +kernel
theorem dX6_sworn_36 : decode cX6_sworn 36 = .ok (.aload_n 0, 1) := by decide +kernel
theorem dX6_sworn_37 : decode cX6_sworn 37 = .ok (.getfield 46, 3) := by decide +kernel
theorem dX6_sworn_40 : decode cX6_sworn 40 = .ok (.getfield 222, 3) := by decide +kernel
theorem dX6_sworn_43 : decode cX6_sworn 43 = .ok (.ireturn, 1) := by decide +kernel
theorem dX6_sworn_44 : decode cX6_sworn 44 = .ok (.iload_n 2, 1) := by decide +kernel
theorem dX6_sworn_45 : decode cX6_sworn 45 = .ok (.iconst 1, 1) := by decide +kernel
theorem dX6_sworn_46 : decode cX6_sworn 46 = .ok (.if_icmp .ne 12, 3) := by decide +kernel
theorem dX6_sworn_49 : decode cX6_sworn 49 = .ok (.aload_n 0, 1) := by decide +kernel
theorem dX6_sworn_50 : decode cX6_sworn 50 = .ok (.getfield 25, 3) := by decide +kernel
theorem dX6_sworn_53 : decode cX6_sworn 53 = .ok (.iload_n 1, 1) := by decide +kernel
theorem dX6_sworn_54 : decode cX6_sworn 54 = .ok (.invokevirtual 225, 3) := by decide +kernel
theorem dX6_sworn_57 : decode cX6_sworn 57 = .ok (.ireturn, 1) := by decide +kernel
