theorem dX6_sworn_58 : decode cX6_sworn 58 = .ok (.aload_n 0, 1) := by decide +kernel
theorem dX6_sworn_59 : decode cX6_sworn 59 = .ok (.getfield 46, 3) := by decide +kernel
theorem dX6_sworn_62 : decode cX6_sworn 62 = .ok (.getfield 222, 3) := by decide +kernel
theorem dX6_sworn_65 : decode cX6_sworn 65 = .ok (.ifCond .ne 6, 3) := by decide +kernel
theorem dX6_sworn_68 : decode cX6_sworn 68 = .ok (.ldc 211, 2) := by decide +kernel
theorem dX6_sworn_70 : decode cX6_sworn 70 = .ok (.ireturn, 1) := by decide +kernel
theorem dX6_sworn_71 : decode cX6_sworn 71 = .ok (.iload_n 2, 1) := by decide +kernel
theorem dX6_sworn_72 : decode cX6_sworn 72 = .ok (.tableswitch 52 2 4 #[28, 36, 44], 28) := by decide +kernel
theorem dX6_sworn_100 : decode cX6_sworn 100 = .ok (.aload_n 0, 1) := by decide +kernel
theorem dX6_sworn_101 : decode cX6_sworn 101 = .ok (.getfield 46, 3) := by decide +kernel
theorem dX6_sworn_104 : decode cX6_sworn 104 = .ok (.invokevirtual 228, 3) := by decide +kernel
theorem dX6_sworn_107 : decode cX6_sworn 107 = .ok (.ireturn, 1) := by decide +kernel
theorem dX6_sworn_108 : decode cX6_sworn 108 = .ok (.aload_n 0, 1) := by decide +kernel
theorem dX6_sworn_109 : decode cX6_sworn 109 = .ok (.getfield 46, 3) := by decide +kernel
theorem dX6_sworn_112 : decode cX6_sworn 112 = .ok (.invokevirtual 231, 3) := by decide +kernel
theorem dX6_sworn_115 : decode cX6_sworn 115 = .ok (.ireturn, 1) := by decide +kernel
theorem dX6_sworn_116 : decode cX6_sworn 116 = .ok (.aload_n 0, 1) := by decide +kernel
theorem dX6_sworn_117 : decode cX6_sworn 117 = .ok (.getfield 46, 3) := by decide +kernel
theorem dX6_sworn_120 : decode cX6_sworn 120 = .ok (.invokevirtual 234, 3) := by decide +kernel
theorem dX6_sworn_123 : decode cX6_sworn 123 = .ok (.ireturn, 1) := by decide +kernel
theorem dX6_sworn_124 : decode cX6_sworn 124 = .ok (.aload_n 0, 1) := by decide +kernel
theorem dX6_sworn_125 : decode cX6_sworn 125 = .ok (.getfield 46, 3) := by decide +kernel
theorem dX6_sworn_128 : decode cX6_sworn 128 = .ok (.aload_n 0, 1) := by decide +kernel
theorem dX6_sworn_129 : decode cX6_sworn 129 = .ok (.getfield 25, 3) := by decide +kernel
theorem dX6_sworn_132 : decode cX6_sworn 132 = .ok (.invokevirtual 237, 3) := by decide +kernel
theorem dX6_sworn_135 : decode cX6_sworn 135 = .ok (.ireturn, 1) := by decide +kernel
theorem dX6_belief_0 : decode cX6_belief 0 = .ok (.aload_n 0, 1) := by decide +kernel
theorem dX6_belief_1 : decode cX6_belief 1 = .ok (.iload_n 1, 1) := by decide +kernel
theorem dX6_belief_2 : decode cX6_belief 2 = .ok (.invokevirtual 142, 3) := by decide +kernel
theorem dX6_belief_5 : decode cX6_belief 5 = .ok (.ifCond .eq 17, 3) := by decide +kernel
theorem dX6_belief_8 : decode cX6_belief 8 = .ok (.iload_n 2, 1) := by decide +kernel
theorem dX6_belief_9 : decode cX6_belief 9 = .ok (.invokestatic 160, 3) := by decide +kernel
theorem dX6_belief_12 : decode cX6_belief 12 = .ok (.ifCond .eq 10, 3) := by decide +kernel
theorem dX6_belief_15 : decode cX6_belief 15 = .ok (.iload_n 3, 1) := by decide +kernel
theorem dX6_belief_16 : decode cX6_belief 16 = .ok (.invokestatic 241, 3) := by decide +kernel
theorem dX6_belief_19 : decode cX6_belief 19 = .ok (.ifCond .ne 6, 3) := by decide +kernel
theorem dX6_belief_22 : decode cX6_belief 22 = .ok (.ldc 66, 2) := by decide +kernel
theorem dX6_belief_24 : decode cX6_belief 24 = .ok (.ireturn, 1) := by decide +kernel
theorem dX6_belief_25 : decode cX6_belief 25 = .ok (.aload_n 0, 1) := by decide +kernel
theorem dX6_belief_26 : decode cX6_belief 26 = .ok (.getfield 46, 3) := by decide +kernel
theorem dX6_belief_29 : decode cX6_belief 29 = .ok (.aload_n 0, 1) := by decide +kernel
theorem dX6_belief_30 : decode cX6_belief 30 = .ok (.getfield 25, 3) := by decide +kernel
theorem dX6_belief_33 : decode cX6_belief 33 = .ok (.iload_n 1, 1) := by decide +kernel
theorem dX6_belief_34 : decode cX6_belief 34 = .ok (.invokevirtual 218, 3) := by decide +kernel
theorem dX6_belief_37 : decode cX6_belief 37 = .ok (.aload_n 0, 1) := by decide +kernel
theorem dX6_belief_38 : decode cX6_belief 38 = .ok (.getfield 46, 3) := by decide +kernel
theorem dX6_belief_41 : decode cX6_belief 41 = .ok (.getfield 222, 3) := by decide +kernel
theorem dX6_belief_44 : decode cX6_belief 44 = .ok (.ifCond .ne 6, 3) := by decide +kernel
theorem dX6_belief_47 : decode cX6_belief 47 = .ok (.ldc 138, 2) := by decide +kernel
theorem dX6_belief_49 : decode cX6_belief 49 = .ok (.ireturn, 1) := by decide +kernel
theorem dX6_belief_50 : decode cX6_belief 50 = .ok (.aload_n 0, 1) := by decide +kernel
theorem dX6_belief_51 : decode cX6_belief 51 = .ok (.getfield 46, 3) := by decide +kernel
theorem dX6_belief_54 : decode cX6_belief 54 = .ok (.iload_n 2, 1) := by decide +kernel
theorem dX6_belief_55 : decode cX6_belief 55 = .ok (.invokevirtual 244, 3) := by decide +kernel
theorem dX6_belief_58 : decode cX6_belief 58 = .ok (.istore 4, 2) := by decide +kernel
theorem dX6_belief_60 : decode cX6_belief 60 = .ok (.iload_n 3, 1) := by decide +kernel
theorem dX6_belief_61 : decode cX6_belief 61 = .ok (.ifCond .ne 8, 3) := by decide +kernel
theorem dX6_belief_64 : decode cX6_belief 64 = .ok (.iload 4, 2) := by decide +kernel
theorem dX6_belief_66 : decode cX6_belief 66 = .ok (.goto 10, 3) := by decide +kernel
theorem dX6_belief_69 : decode cX6_belief 69 = .ok (.aload_n 0, 1) := by decide +kernel
theorem dX6_belief_70 : decode cX6_belief 70 = .ok (.getfield 46, 3) := by decide +kernel
theorem dX6_belief_73 : decode cX6_belief 73 = .ok (.getfield 222, 3) := by decide +kernel
theorem dX6_belief_76 : decode cX6_belief 76 = .ok (.iload 4, 2) := by decide +kernel
theorem dX6_belief_78 : decode cX6_belief 78 = .ok (.aload_n 0, 1) := by decide +kernel
theorem dX6_belief_79 : decode cX6_belief 79 = .ok (.getfield 46, 3) := by decide +kernel
theorem dX6_belief_82 : decode cX6_belief 82 = .ok (.getfield 222, 3) := by decide +kernel
theorem dX6_belief_85 : decode cX6_belief 85 = .ok (.invokestatic 247, 3) := by decide +kernel
theorem dX6_belief_88 : decode cX6_belief 88 = .ok (.ireturn, 1) := by decide +kernel
theorem dX6_likeliest_0 : decode cX6_likeliest 0 = .ok (.aload_n 0, 1) := by decide +kernel
theorem dX6_likeliest_1 : decode cX6_likeliest 1 = .ok (.iload_n 1, 1) := by decide +kernel
theorem dX6_likeliest_2 : decode cX6_likeliest 2 = .ok (.invokevirtual 142, 3) := by decide +kernel
theorem dX6_likeliest_5 : decode cX6_likeliest 5 = .ok (.ifCond .ne 6, 3) := by decide +kernel
theorem dX6_likeliest_8 : decode cX6_likeliest 8 = .ok (.ldc 66, 2) := by decide +kernel
theorem dX6_likeliest_10 : decode cX6_likeliest 10 = .ok (.ireturn, 1) := by decide +kernel
theorem dX6_likeliest_11 : decode cX6_likeliest 11 = .ok (.aload_n 0, 1) := by decide +kernel
theorem dX6_likeliest_12 : decode cX6_likeliest 12 = .ok (.getfield 46, 3) := by decide +kernel
theorem dX6_likeliest_15 : decode cX6_likeliest 15 = .ok (.aload_n 0, 1) := by decide +kernel
theorem dX6_likeliest_16 : decode cX6_likeliest 16 = .ok (.getfield 25, 3) := by decide +kernel
theorem dX6_likeliest_19 : decode cX6_likeliest 19 = .ok (.iload_n 1, 1) := by decide +kernel
theorem dX6_likeliest_20 : decode cX6_likeliest 20 = .ok (.invokevirtual 218, 3) := by decide +kernel
theorem dX6_likeliest_23 : decode cX6_likeliest 23 = .ok (.aload_n 0, 1) := by decide +kernel
theorem dX6_likeliest_24 : decode cX6_likeliest 24 = .ok (.getfield 46, 3) := by decide +kernel
theorem dX6_likeliest_27 : decode cX6_likeliest 27 = .ok (.invokevirtual 250, 3) := by decide +kernel
theorem dX6_likeliest_30 : decode cX6_likeliest 30 = .ok (.ireturn, 1) := by decide +kernel
theorem dX6_till_0 : decode cX6_till 0 = .ok (.aload_n 0, 1) := by decide +kernel
theorem dX6_till_1 : decode cX6_till 1 = .ok (.iload_n 1, 1) := by decide +kernel
theorem dX6_till_2 : decode cX6_till 2 = .ok (.invokevirtual 142, 3) := by decide +kernel
theorem dX6_till_5 : decode cX6_till 5 = .ok (.ifCond .eq 10, 3) := by decide +kernel
theorem dX6_till_8 : decode cX6_till 8 = .ok (.iload_n 2, 1) := by decide +kernel
theorem dX6_till_9 : decode cX6_till 9 = .ok (.invokestatic 253, 3) := by decide +kernel
theorem dX6_till_12 : decode cX6_till 12 = .ok (.ifCond .ne 6, 3) := by decide +kernel
theorem dX6_till_15 : decode cX6_till 15 = .ok (.ldc 66, 2) := by decide +kernel
theorem dX6_till_17 : decode cX6_till 17 = .ok (.ireturn, 1) := by decide +kernel
theorem dX6_till_18 : decode cX6_till 18 = .ok (.aload_n 0, 1) := by decide +kernel
theorem dX6_till_19 : decode cX6_till 19 = .ok (.getfield 29, 3) := by decide +kernel
theorem dX6_till_22 : decode cX6_till 22 = .ok (.aload_n 0, 1) := by decide +kernel
theorem dX6_till_23 : decode cX6_till 23 = .ok (.getfield 25, 3) := by decide +kernel
theorem dX6_till_26 : decode cX6_till 26 = .ok (.invokevirtual 124, 3) := by decide +kernel
theorem dX6_till_29 : decode cX6_till 29 = .ok (.iconst 0, 1) := by decide +kernel
theorem dX6_till_30 : decode cX6_till 30 = .ok (.istore_n 3, 1) := by decide +kernel
theorem dX6_till_31 : decode cX6_till 31 = .ok (.iload_n 3, 1) := by decide +kernel
theorem dX6_till_32 : decode cX6_till 32 = .ok (.bipush 99, 2) := by decide +kernel
theorem dX6_till_34 : decode cX6_till 34 = .ok (.if_icmp .gt 42, 3) := by decide +kernel
theorem dX6_till_37 : decode cX6_till 37 = .ok (.aload_n 0, 1) := by decide +kernel
theorem dX6_till_38 : decode cX6_till 38 = .ok (.getfield 29, 3) := by decide +kernel
theorem dX6_till_41 : decode cX6_till 41 = .ok (.aload_n 0, 1) := by decide +kernel
theorem dX6_till_42 : decode cX6_till 42 = .ok (.getfield 25, 3) := by decide +kernel
theorem dX6_till_45 : decode cX6_till 45 = .ok (.getfield 178, 3) := by decide +kernel
theorem dX6_till_48 : decode cX6_till 48 = .ok (.iload_n 3, 1) := by decide +kernel
theorem dX6_till_49 : decode cX6_till 49 = .ok (.iadd, 1) := by decide +kernel
theorem dX6_till_50 : decode cX6_till 50 = .ok (.putfield 178, 3) := by decide +kernel
theorem dX6_till_53 : decode cX6_till 53 = .ok (.aload_n 0, 1) := by decide +kernel
theorem dX6_till_54 : decode cX6_till 54 = .ok (.getfield 29, 3) := by decide +kernel
theorem dX6_till_57 : decode cX6_till 57 = .ok (.iload_n 1, 1) := by decide +kernel
theorem dX6_till_58 : decode cX6_till 58 = .ok (.invokevirtual 225, 3) := by decide +kernel
theorem dX6_till_61 : decode cX6_till 61 = .ok (.invokestatic 184, 3) := by decide +kernel
theorem dX6_till_64 : decode cX6_till 64 = .ok (.iload_n 2, 1) := by decide +kernel
theorem dX6_till_65 : decode cX6_till 65 = .ok (.if_icmp .ge 5, 3) := by decide +kernel
theorem dX6_till_68 : decode cX6_till 68 = .ok (.iload_n 3, 1) := by decide +kernel
theorem dX6_till_69 : decode cX6_till 69 = .ok (.ireturn, 1) := by decide +kernel
theorem dX6_till_70 : decode cX6_till 70 = .ok (.iinc 3 1, 3) := by decide +kernel
theorem dX6_till_73 : decode cX6_till 73 = .ok (.goto (-42), 3) := by decide +kernel
theorem dX6_till_76 : decode cX6_till 76 = .ok (.ldc 211, 2) := by decide +kernel
theorem dX6_till_78 : decode cX6_till 78 = .ok (.ireturn, 1) := by decide +kernel
theorem dX6_take_0 : decode cX6_take 0 = .ok (.aload_n 0, 1) := by decide +kernel
theorem dX6_take_1 : decode cX6_take 1 = .ok (.iload_n 1, 1) := by decide +kernel
theorem dX6_take_2 : decode cX6_take 2 = .ok (.invokevirtual 142, 3) := by decide +kernel
theorem dX6_take_5 : decode cX6_take 5 = .ok (.ifCond .eq 33, 3) := by decide +kernel
theorem dX6_take_8 : decode cX6_take 8 = .ok (.iload_n 2, 1) := by decide +kernel
theorem dX6_take_9 : decode cX6_take 9 = .ok (.invokestatic 145, 3) := by decide +kernel
theorem dX6_take_12 : decode cX6_take 12 = .ok (.ifCond .eq 26, 3) := by decide +kernel
theorem dX6_take_15 : decode cX6_take 15 = .ok (.iload_n 3, 1) := by decide +kernel
theorem dX6_take_16 : decode cX6_take 16 = .ok (.invokestatic 256, 3) := by decide +kernel
theorem dX6_take_19 : decode cX6_take 19 = .ok (.ifCond .eq 19, 3) := by decide +kernel
theorem dX6_take_22 : decode cX6_take 22 = .ok (.iload 4, 2) := by decide +kernel
theorem dX6_take_24 : decode cX6_take 24 = .ok (.invokestatic 253, 3) := by decide +kernel
theorem dX6_take_27 : decode cX6_take 27 = .ok (.ifCond .eq 11, 3) := by decide +kernel
theorem dX6_take_30 : decode cX6_take 30 = .ok (.iload 5, 2) := by decide +kernel
theorem dX6_take_32 : decode cX6_take 32 = .ok (.invokestatic 241, 3) := by decide +kernel
theorem dX6_take_35 : decode cX6_take 35 = .ok (.ifCond .ne 6, 3) := by decide +kernel
theorem dX6_take_38 : decode cX6_take 38 = .ok (.ldc 66, 2) := by decide +kernel
theorem dX6_take_40 : decode cX6_take 40 = .ok (.ireturn, 1) := by decide +kernel
theorem dX6_take_41 : decode cX6_take 41 = .ok (.aload_n 0, 1) := by decide +kernel
theorem dX6_take_42 : decode cX6_take 42 = .ok (.getfield 25, 3) := by decide +kernel
theorem dX6_take_45 : decode cX6_take 45 = .ok (.invokevirtual 259, 3) := by decide +kernel
theorem dX6_take_48 : decode cX6_take 48 = .ok (.istore 6, 2) := by decide +kernel
theorem dX6_take_50 : decode cX6_take 50 = .ok (.aload_n 0, 1) := by decide +kernel
theorem dX6_take_51 : decode cX6_take 51 = .ok (.getfield 29, 3) := by decide +kernel
theorem dX6_take_54 : decode cX6_take 54 = .ok (.aload_n 0, 1) := by decide +kernel
theorem dX6_take_55 : decode cX6_take 55 = .ok (.getfield 25, 3) := by decide +kernel
theorem dX6_take_58 : decode cX6_take 58 = .ok (.invokevirtual 124, 3) := by decide +kernel
theorem dX6_take_61 : decode cX6_take 61 = .ok (.aload_n 0, 1) := by decide +kernel
theorem dX6_take_62 : decode cX6_take 62 = .ok (.getfield 29, 3) := by decide +kernel
theorem dX6_take_65 : decode cX6_take 65 = .ok (.aload_n 0, 1) := by decide +kernel
theorem dX6_take_66 : decode cX6_take 66 = .ok (.getfield 25, 3) := by decide +kernel
theorem dX6_take_69 : decode cX6_take 69 = .ok (.getfield 178, 3) := by decide +kernel
theorem dX6_take_72 : decode cX6_take 72 = .ok (.iload_n 3, 1) := by decide +kernel
theorem dX6_take_73 : decode cX6_take 73 = .ok (.iadd, 1) := by decide +kernel
theorem dX6_take_74 : decode cX6_take 74 = .ok (.putfield 178, 3) := by decide +kernel
theorem dX6_take_77 : decode cX6_take 77 = .ok (.aload_n 0, 1) := by decide +kernel
theorem dX6_take_78 : decode cX6_take 78 = .ok (.getfield 29, 3) := by decide +kernel
theorem dX6_take_81 : decode cX6_take 81 = .ok (.iload_n 1, 1) := by decide +kernel
theorem dX6_take_82 : decode cX6_take 82 = .ok (.invokevirtual 225, 3) := by decide +kernel
theorem dX6_take_85 : decode cX6_take 85 = .ok (.istore 7, 2) := by decide +kernel
theorem dX6_take_87 : decode cX6_take 87 = .ok (.aload_n 0, 1) := by decide +kernel
theorem dX6_take_88 : decode cX6_take 88 = .ok (.iload_n 1, 1) := by decide +kernel
theorem dX6_take_89 : decode cX6_take 89 = .ok (.iload_n 2, 1) := by decide +kernel
theorem dX6_take_90 : decode cX6_take 90 = .ok (.iload_n 3, 1) := by decide +kernel
theorem dX6_take_91 : decode cX6_take 91 = .ok (.invokevirtual 262, 3) := by decide +kernel
theorem dX6_take_94 : decode cX6_take 94 = .ok (.istore 8, 2) := by decide +kernel
theorem dX6_take_96 : decode cX6_take 96 = .ok (.ldc 211, 2) := by decide +kernel
theorem dX6_take_98 : decode cX6_take 98 = .ok (.istore 9, 2) := by decide +kernel
theorem dX6_take_100 : decode cX6_take 100 = .ok (.iconst 0, 1) := by decide +kernel
theorem dX6_take_101 : decode cX6_take 101 = .ok (.istore 10, 2) := by decide +kernel
theorem dX6_take_103 : decode cX6_take 103 = .ok (.iload 10, 2) := by decide +kernel
theorem dX6_take_105 : decode cX6_take 105 = .ok (.iload 6, 2) := by decide +kernel
theorem dX6_take_107 : decode cX6_take 107 = .ok (.if_icmp .gt 83, 3) := by decide +kernel
theorem dX6_take_110 : decode cX6_take 110 = .ok (.iload 10, 2) := by decide +kernel
theorem dX6_take_112 : decode cX6_take 112 = .ok (.iload 8, 2) := by decide +kernel
theorem dX6_take_114 : decode cX6_take 114 = .ok (.iand, 1) := by decide +kernel
theorem dX6_take_115 : decode cX6_take 115 = .ok (.invokestatic 184, 3) := by decide +kernel
theorem dX6_take_118 : decode cX6_take 118 = .ok (.iload 10, 2) := by decide +kernel
theorem dX6_take_120 : decode cX6_take 120 = .ok (.iconst (-1), 1) := by decide +kernel
theorem dX6_take_121 : decode cX6_take 121 = .ok (.ixor, 1) := by decide +kernel
theorem dX6_take_122 : decode cX6_take 122 = .ok (.iload 7, 2) := by decide +kernel
theorem dX6_take_124 : decode cX6_take 124 = .ok (.iand, 1) := by decide +kernel
theorem dX6_take_125 : decode cX6_take 125 = .ok (.invokestatic 184, 3) := by decide +kernel
theorem dX6_take_128 : decode cX6_take 128 = .ok (.iadd, 1) := by decide +kernel
theorem dX6_take_129 : decode cX6_take 129 = .ok (.istore 11, 2) := by decide +kernel
theorem dX6_take_131 : decode cX6_take 131 = .ok (.iload 9, 2) := by decide +kernel
theorem dX6_take_133 : decode cX6_take 133 = .ok (.ldc 211, 2) := by decide +kernel
theorem dX6_take_135 : decode cX6_take 135 = .ok (.if_icmp .eq 16, 3) := by decide +kernel
theorem dX6_take_138 : decode cX6_take 138 = .ok (.iload 10, 2) := by decide +kernel
theorem dX6_take_140 : decode cX6_take 140 = .ok (.invokestatic 184, 3) := by decide +kernel
theorem dX6_take_143 : decode cX6_take 143 = .ok (.iload 9, 2) := by decide +kernel
theorem dX6_take_145 : decode cX6_take 145 = .ok (.invokestatic 184, 3) := by decide +kernel
theorem dX6_take_148 : decode cX6_take 148 = .ok (.if_icmp .ge 7, 3) := by decide +kernel
theorem dX6_take_151 : decode cX6_take 151 = .ok (.iconst 1, 1) := by decide +kernel
theorem dX6_take_152 : decode cX6_take 152 = .ok (.goto 4, 3) := by decide +kernel
theorem dX6_take_155 : decode cX6_take 155 = .ok (.iconst 0, 1) := by decide +kernel
theorem dX6_take_156 : decode cX6_take 156 = .ok (.istore 12, 2) := by decide +kernel
theorem dX6_take_158 : decode cX6_take 158 = .ok (.iload 10, 2) := by decide +kernel
theorem dX6_take_160 : decode cX6_take 160 = .ok (.iload 6, 2) := by decide +kernel
theorem dX6_take_162 : decode cX6_take 162 = .ok (.iconst (-1), 1) := by decide +kernel
theorem dX6_take_163 : decode cX6_take 163 = .ok (.ixor, 1) := by decide +kernel
theorem dX6_take_164 : decode cX6_take 164 = .ok (.iand, 1) := by decide +kernel
theorem dX6_take_165 : decode cX6_take 165 = .ok (.ifCond .ne 19, 3) := by decide +kernel
theorem dX6_take_168 : decode cX6_take 168 = .ok (.iload 11, 2) := by decide +kernel
theorem dX6_take_170 : decode cX6_take 170 = .ok (.iload 4, 2) := by decide +kernel
theorem dX6_take_172 : decode cX6_take 172 = .ok (.if_icmp .lt 12, 3) := by decide +kernel
theorem dX6_take_175 : decode cX6_take 175 = .ok (.iload 12, 2) := by decide +kernel
theorem dX6_take_177 : decode cX6_take 177 = .ok (.ifCond .eq 7, 3) := by decide +kernel
theorem dX6_take_180 : decode cX6_take 180 = .ok (.iload 10, 2) := by decide +kernel
theorem dX6_take_182 : decode cX6_take 182 = .ok (.istore 9, 2) := by decide +kernel
theorem dX6_take_184 : decode cX6_take 184 = .ok (.iinc 10 1, 3) := by decide +kernel
theorem dX6_take_187 : decode cX6_take 187 = .ok (.goto (-84), 3) := by decide +kernel
theorem dX6_take_190 : decode cX6_take 190 = .ok (.iload 9, 2) := by decide +kernel
theorem dX6_take_192 : decode cX6_take 192 = .ok (.ldc 211, 2) := by decide +kernel
theorem dX6_take_194 : decode cX6_take 194 = .ok (.if_icmp .eq 9, 3) := by decide +kernel
theorem dX6_take_197 : decode cX6_take 197 = .ok (.iload 5, 2) := by decide +kernel
theorem dX6_take_199 : decode cX6_take 199 = .ok (.iconst 1, 1) := by decide +kernel
theorem dX6_take_200 : decode cX6_take 200 = .ok (.if_icmp .ne 8, 3) := by decide +kernel
theorem dX6_take_203 : decode cX6_take 203 = .ok (.iload 9, 2) := by decide +kernel
theorem dX6_take_205 : decode cX6_take 205 = .ok (.goto 8, 3) := by decide +kernel
theorem dX6_take_208 : decode cX6_take 208 = .ok (.iload 9, 2) := by decide +kernel
theorem dX6_take_210 : decode cX6_take 210 = .ok (.invokestatic 184, 3) := by decide +kernel
theorem dX6_take_213 : decode cX6_take 213 = .ok (.ireturn, 1) := by decide +kernel
theorem dX6_pain_0 : decode cX6_pain 0 = .ok (.aload_n 0, 1) := by decide +kernel
theorem dX6_pain_1 : decode cX6_pain 1 = .ok (.iload_n 1, 1) := by decide +kernel
theorem dX6_pain_2 : decode cX6_pain 2 = .ok (.invokevirtual 142, 3) := by decide +kernel
theorem dX6_pain_5 : decode cX6_pain 5 = .ok (.ifCond .eq 17, 3) := by decide +kernel
theorem dX6_pain_8 : decode cX6_pain 8 = .ok (.iload_n 2, 1) := by decide +kernel
theorem dX6_pain_9 : decode cX6_pain 9 = .ok (.invokestatic 256, 3) := by decide +kernel
theorem dX6_pain_12 : decode cX6_pain 12 = .ok (.ifCond .eq 10, 3) := by decide +kernel
theorem dX6_pain_15 : decode cX6_pain 15 = .ok (.iload_n 3, 1) := by decide +kernel
theorem dX6_pain_16 : decode cX6_pain 16 = .ok (.invokestatic 253, 3) := by decide +kernel
theorem dX6_pain_19 : decode cX6_pain 19 = .ok (.ifCond .ne 6, 3) := by decide +kernel
theorem dX6_pain_22 : decode cX6_pain 22 = .ok (.ldc 66, 2) := by decide +kernel
theorem dX6_pain_24 : decode cX6_pain 24 = .ok (.ireturn, 1) := by decide +kernel
theorem dX6_pain_25 : decode cX6_pain 25 = .ok (.aload_n 0, 1) := by decide +kernel
theorem dX6_pain_26 : decode cX6_pain 26 = .ok (.getfield 29, 3) := by decide +kernel
theorem dX6_pain_29 : decode cX6_pain 29 = .ok (.aload_n 0, 1) := by decide +kernel
theorem dX6_pain_30 : decode cX6_pain 30 = .ok (.getfield 25, 3) := by decide +kernel
theorem dX6_pain_33 : decode cX6_pain 33 = .ok (.invokevirtual 124, 3) := by decide +kernel
theorem dX6_pain_36 : decode cX6_pain 36 = .ok (.iconst 1, 1) := by decide +kernel
theorem dX6_pain_37 : decode cX6_pain 37 = .ok (.istore 4, 2) := by decide +kernel
theorem dX6_pain_39 : decode cX6_pain 39 = .ok (.iload 4, 2) := by decide +kernel
theorem dX6_pain_41 : decode cX6_pain 41 = .ok (.bipush 9, 2) := by decide +kernel
theorem dX6_pain_43 : decode cX6_pain 43 = .ok (.if_icmp .gt 27, 3) := by decide +kernel
theorem dX6_pain_46 : decode cX6_pain 46 = .ok (.aload_n 0, 1) := by decide +kernel
theorem dX6_pain_47 : decode cX6_pain 47 = .ok (.iload_n 1, 1) := by decide +kernel
theorem dX6_pain_48 : decode cX6_pain 48 = .ok (.iload 4, 2) := by decide +kernel
theorem dX6_pain_50 : decode cX6_pain 50 = .ok (.iload_n 2, 1) := by decide +kernel
theorem dX6_pain_51 : decode cX6_pain 51 = .ok (.invokevirtual 262, 3) := by decide +kernel
theorem dX6_pain_54 : decode cX6_pain 54 = .ok (.invokestatic 184, 3) := by decide +kernel
theorem dX6_pain_57 : decode cX6_pain 57 = .ok (.iload_n 3, 1) := by decide +kernel
theorem dX6_pain_58 : decode cX6_pain 58 = .ok (.if_icmp .lt 6, 3) := by decide +kernel
theorem dX6_pain_61 : decode cX6_pain 61 = .ok (.iload 4, 2) := by decide +kernel
theorem dX6_pain_63 : decode cX6_pain 63 = .ok (.ireturn, 1) := by decide +kernel
theorem dX6_pain_64 : decode cX6_pain 64 = .ok (.iinc 4 1, 3) := by decide +kernel
theorem dX6_pain_67 : decode cX6_pain 67 = .ok (.goto (-28), 3) := by decide +kernel
theorem dX6_pain_70 : decode cX6_pain 70 = .ok (.ldc 211, 2) := by decide +kernel
theorem dX6_pain_72 : decode cX6_pain 72 = .ok (.ireturn, 1) := by decide +kernel
theorem dX6_order_0 : decode cX6_order 0 = .ok (.aload_n 0, 1) := by decide +kernel
theorem dX6_order_1 : decode cX6_order 1 = .ok (.iload_n 1, 1) := by decide +kernel
theorem dX6_order_2 : decode cX6_order 2 = .ok (.invokevirtual 142, 3) := by decide +kernel
theorem dX6_order_5 : decode cX6_order 5 = .ok (.ifCond .eq 14, 3) := by decide +kernel
theorem dX6_order_8 : decode cX6_order 8 = .ok (.iload_n 2, 1) := by decide +kernel
theorem dX6_order_9 : decode cX6_order 9 = .ok (.iconst (-1), 1) := by decide +kernel
theorem dX6_order_10 : decode cX6_order 10 = .ok (.if_icmp .lt 9, 3) := by decide +kernel
theorem dX6_order_13 : decode cX6_order 13 = .ok (.iload_n 2, 1) := by decide +kernel
theorem dX6_order_14 : decode cX6_order 14 = .ok (.bipush 6, 2) := by decide +kernel
theorem dX6_order_16 : decode cX6_order 16 = .ok (.if_icmp .lt 6, 3) := by decide +kernel
theorem dX6_order_19 : decode cX6_order 19 = .ok (.ldc 66, 2) := by decide +kernel
theorem dX6_order_21 : decode cX6_order 21 = .ok (.ireturn, 1) := by decide +kernel
theorem dX6_order_22 : decode cX6_order 22 = .ok (.aload_n 0, 1) := by decide +kernel
theorem dX6_order_23 : decode cX6_order 23 = .ok (.getfield 46, 3) := by decide +kernel
theorem dX6_order_26 : decode cX6_order 26 = .ok (.aload_n 0, 1) := by decide +kernel
theorem dX6_order_27 : decode cX6_order 27 = .ok (.getfield 25, 3) := by decide +kernel
theorem dX6_order_30 : decode cX6_order 30 = .ok (.iload_n 1, 1) := by decide +kernel
theorem dX6_order_31 : decode cX6_order 31 = .ok (.invokevirtual 218, 3) := by decide +kernel
theorem dX6_order_34 : decode cX6_order 34 = .ok (.aload_n 0, 1) := by decide +kernel
theorem dX6_order_35 : decode cX6_order 35 = .ok (.getfield 46, 3) := by decide +kernel
theorem dX6_order_38 : decode cX6_order 38 = .ok (.invokevirtual 265, 3) := by decide +kernel
theorem dX6_order_41 : decode cX6_order 41 = .ok (.iload_n 2, 1) := by decide +kernel
theorem dX6_order_42 : decode cX6_order 42 = .ok (.iconst (-1), 1) := by decide +kernel
theorem dX6_order_43 : decode cX6_order 43 = .ok (.if_icmp .ne 13, 3) := by decide +kernel
theorem dX6_order_46 : decode cX6_order 46 = .ok (.aload_n 0, 1) := by decide +kernel
theorem dX6_order_47 : decode cX6_order 47 = .ok (.getfield 46, 3) := by decide +kernel
theorem dX6_order_50 : decode cX6_order 50 = .ok (.invokevirtual 268, 3) := by decide +kernel
theorem dX6_order_53 : decode cX6_order 53 = .ok (.goto 11, 3) := by decide +kernel
theorem dX6_order_56 : decode cX6_order 56 = .ok (.aload_n 0, 1) := by decide +kernel
theorem dX6_order_57 : decode cX6_order 57 = .ok (.getfield 46, 3) := by decide +kernel
theorem dX6_order_60 : decode cX6_order 60 = .ok (.iload_n 2, 1) := by decide +kernel
theorem dX6_order_61 : decode cX6_order 61 = .ok (.invokevirtual 271, 3) := by decide +kernel
theorem dX6_order_64 : decode cX6_order 64 = .ok (.ireturn, 1) := by decide +kernel
theorem dX6_stood_0 : decode cX6_stood 0 = .ok (.aload_n 0, 1) := by decide +kernel
theorem dX6_stood_1 : decode cX6_stood 1 = .ok (.getfield 25, 3) := by decide +kernel
theorem dX6_stood_4 : decode cX6_stood 4 = .ok (.getfield 175, 3) := by decide +kernel
theorem dX6_stood_7 : decode cX6_stood 7 = .ok (.ifCond .ne 6, 3) := by decide +kernel
theorem dX6_stood_10 : decode cX6_stood 10 = .ok (.ldc 138, 2) := by decide +kernel
theorem dX6_stood_12 : decode cX6_stood 12 = .ok (.ireturn, 1) := by decide +kernel
theorem dX6_stood_13 : decode cX6_stood 13 = .ok (.iload_n 1, 1) := by decide +kernel
theorem dX6_stood_14 : decode cX6_stood 14 = .ok (.invokestatic 62, 3) := by decide +kernel
theorem dX6_stood_17 : decode cX6_stood 17 = .ok (.ifCond .eq 10, 3) := by decide +kernel
theorem dX6_stood_20 : decode cX6_stood 20 = .ok (.iload_n 3, 1) := by decide +kernel
theorem dX6_stood_21 : decode cX6_stood 21 = .ok (.invokestatic 241, 3) := by decide +kernel
theorem dX6_stood_24 : decode cX6_stood 24 = .ok (.ifCond .ne 6, 3) := by decide +kernel
theorem dX6_stood_27 : decode cX6_stood 27 = .ok (.ldc 66, 2) := by decide +kernel
theorem dX6_stood_29 : decode cX6_stood 29 = .ok (.ireturn, 1) := by decide +kernel
theorem dX6_stood_30 : decode cX6_stood 30 = .ok (.aload_n 0, 1) := by decide +kernel
theorem dX6_stood_31 : decode cX6_stood 31 = .ok (.getfield 11, 3) := by decide +kernel
theorem dX6_stood_34 : decode cX6_stood 34 = .ok (.iload_n 1, 1) := by decide +kernel
theorem dX6_stood_35 : decode cX6_stood 35 = .ok (.aaload, 1) := by decide +kernel
theorem dX6_stood_36 : decode cX6_stood 36 = .ok (.astore 4, 2) := by decide +kernel
theorem dX6_stood_38 : decode cX6_stood 38 = .ok (.aload 4, 2) := by decide +kernel
theorem dX6_stood_40 : decode cX6_stood 40 = .ok (.getfield 78, 3) := by decide +kernel
theorem dX6_stood_43 : decode cX6_stood 43 = .ok (.ifCond .ne 9, 3) := by decide +kernel
theorem dX6_stood_46 : decode cX6_stood 46 = .ok (.aload_n 0, 1) := by decide +kernel
theorem dX6_stood_47 : decode cX6_stood 47 = .ok (.iconst 1, 1) := by decide +kernel
theorem dX6_stood_48 : decode cX6_stood 48 = .ok (.invokevirtual 67, 3) := by decide +kernel
theorem dX6_stood_51 : decode cX6_stood 51 = .ok (.ireturn, 1) := by decide +kernel
theorem dX6_stood_52 : decode cX6_stood 52 = .ok (.aload 4, 2) := by decide +kernel
theorem dX6_stood_54 : decode cX6_stood 54 = .ok (.iload_n 2, 1) := by decide +kernel
theorem dX6_stood_55 : decode cX6_stood 55 = .ok (.aload_n 0, 1) := by decide +kernel
theorem dX6_stood_56 : decode cX6_stood 56 = .ok (.getfield 25, 3) := by decide +kernel
theorem dX6_stood_59 : decode cX6_stood 59 = .ok (.getfield 131, 3) := by decide +kernel
theorem dX6_stood_62 : decode cX6_stood 62 = .ok (.invokevirtual 82, 3) := by decide +kernel
theorem dX6_stood_65 : decode cX6_stood 65 = .ok (.ifCond .ne 9, 3) := by decide +kernel
theorem dX6_stood_68 : decode cX6_stood 68 = .ok (.aload_n 0, 1) := by decide +kernel
theorem dX6_stood_69 : decode cX6_stood 69 = .ok (.iconst 2, 1) := by decide +kernel
theorem dX6_stood_70 : decode cX6_stood 70 = .ok (.invokevirtual 67, 3) := by decide +kernel
theorem dX6_stood_73 : decode cX6_stood 73 = .ok (.ireturn, 1) := by decide +kernel
theorem dX6_stood_74 : decode cX6_stood 74 = .ok (.lconst 0, 1) := by decide +kernel
theorem dX6_stood_75 : decode cX6_stood 75 = .ok (.lstore 5, 2) := by decide +kernel
theorem dX6_stood_77 : decode cX6_stood 77 = .ok (.ldc2_w 274, 3) := by decide +kernel
theorem dX6_stood_80 : decode cX6_stood 80 = .ok (.lstore 7, 2) := by decide +kernel
theorem dX6_stood_82 : decode cX6_stood 82 = .ok (.iconst 0, 1) := by decide +kernel
theorem dX6_stood_83 : decode cX6_stood 83 = .ok (.istore 9, 2) := by decide +kernel
theorem dX6_stood_85 : decode cX6_stood 85 = .ok (.iload 9, 2) := by decide +kernel
theorem dX6_stood_87 : decode cX6_stood 87 = .ok (.aload_n 0, 1) := by decide +kernel
theorem dX6_stood_88 : decode cX6_stood 88 = .ok (.getfield 25, 3) := by decide +kernel
theorem dX6_stood_91 : decode cX6_stood 91 = .ok (.getfield 131, 3) := by decide +kernel
theorem dX6_stood_94 : decode cX6_stood 94 = .ok (.if_icmp .ge 79, 3) := by decide +kernel
theorem dX6_stood_97 : decode cX6_stood 97 = .ok (.aload 4, 2) := by decide +kernel
theorem dX6_stood_99 : decode cX6_stood 99 = .ok (.getfield 86, 3) := by decide +kernel
theorem dX6_stood_102 : decode cX6_stood 102 = .ok (.iload_n 2, 1) := by decide +kernel
theorem dX6_stood_103 : decode cX6_stood 103 = .ok (.iload 9, 2) := by decide +kernel
theorem dX6_stood_105 : decode cX6_stood 105 = .ok (.iadd, 1) := by decide +kernel
theorem dX6_stood_106 : decode cX6_stood 106 = .ok (.iaload, 1) := by decide +kernel
theorem dX6_stood_107 : decode cX6_stood 107 = .ok (.i2l, 1) := by decide +kernel
theorem dX6_stood_108 : decode cX6_stood 108 = .ok (.lstore 10, 2) := by decide +kernel
theorem dX6_stood_110 : decode cX6_stood 110 = .ok (.lload 10, 2) := by decide +kernel
theorem dX6_stood_112 : decode cX6_stood 112 = .ok (.ldc2_w 276, 3) := by decide +kernel
theorem dX6_stood_115 : decode cX6_stood 115 = .ok (.lcmp, 1) := by decide +kernel
theorem dX6_stood_116 : decode cX6_stood 116 = .ok (.ifCond .eq 51, 3) := by decide +kernel
theorem dX6_stood_119 : decode cX6_stood 119 = .ok (.aload_n 0, 1) := by decide +kernel
theorem dX6_stood_120 : decode cX6_stood 120 = .ok (.getfield 25, 3) := by decide +kernel
theorem dX6_stood_123 : decode cX6_stood 123 = .ok (.getfield 169, 3) := by decide +kernel
theorem dX6_stood_126 : decode cX6_stood 126 = .ok (.iload 9, 2) := by decide +kernel
theorem dX6_stood_128 : decode cX6_stood 128 = .ok (.iaload, 1) := by decide +kernel
theorem dX6_stood_129 : decode cX6_stood 129 = .ok (.iconst 3, 1) := by decide +kernel
theorem dX6_stood_130 : decode cX6_stood 130 = .ok (.if_icmp .ne 8, 3) := by decide +kernel
theorem dX6_stood_133 : decode cX6_stood 133 = .ok (.bipush 12, 2) := by decide +kernel
theorem dX6_stood_135 : decode cX6_stood 135 = .ok (.goto 4, 3) := by decide +kernel
theorem dX6_stood_138 : decode cX6_stood 138 = .ok (.iconst 3, 1) := by decide +kernel
theorem dX6_stood_139 : decode cX6_stood 139 = .ok (.istore 12, 2) := by decide +kernel
theorem dX6_stood_141 : decode cX6_stood 141 = .ok (.lload 5, 2) := by decide +kernel
theorem dX6_stood_143 : decode cX6_stood 143 = .ok (.lload 10, 2) := by decide +kernel
theorem dX6_stood_145 : decode cX6_stood 145 = .ok (.iload 12, 2) := by decide +kernel
theorem dX6_stood_147 : decode cX6_stood 147 = .ok (.i2l, 1) := by decide +kernel
theorem dX6_stood_148 : decode cX6_stood 148 = .ok (.lsub, 1) := by decide +kernel
theorem dX6_stood_149 : decode cX6_stood 149 = .ok (.invokestatic 278, 3) := by decide +kernel
theorem dX6_stood_152 : decode cX6_stood 152 = .ok (.lstore 5, 2) := by decide +kernel
theorem dX6_stood_154 : decode cX6_stood 154 = .ok (.lload 7, 2) := by decide +kernel
theorem dX6_stood_156 : decode cX6_stood 156 = .ok (.lload 10, 2) := by decide +kernel
theorem dX6_stood_158 : decode cX6_stood 158 = .ok (.ldc2_w 284, 3) := by decide +kernel
theorem dX6_stood_161 : decode cX6_stood 161 = .ok (.ladd, 1) := by decide +kernel
theorem dX6_stood_162 : decode cX6_stood 162 = .ok (.invokestatic 286, 3) := by decide +kernel
theorem dX6_stood_165 : decode cX6_stood 165 = .ok (.lstore 7, 2) := by decide +kernel
theorem dX6_stood_167 : decode cX6_stood 167 = .ok (.iinc 9 1, 3) := by decide +kernel
theorem dX6_stood_170 : decode cX6_stood 170 = .ok (.goto (-85), 3) := by decide +kernel
theorem dX6_stood_173 : decode cX6_stood 173 = .ok (.lload 5, 2) := by decide +kernel
theorem dX6_stood_175 : decode cX6_stood 175 = .ok (.lload 7, 2) := by decide +kernel
theorem dX6_stood_177 : decode cX6_stood 177 = .ok (.lcmp, 1) := by decide +kernel
theorem dX6_stood_178 : decode cX6_stood 178 = .ok (.ifCond .le 18, 3) := by decide +kernel
theorem dX6_stood_181 : decode cX6_stood 181 = .ok (.aload_n 0, 1) := by decide +kernel
theorem dX6_stood_182 : decode cX6_stood 182 = .ok (.iload_n 3, 1) := by decide +kernel
theorem dX6_stood_183 : decode cX6_stood 183 = .ok (.ifCond .ne 7, 3) := by decide +kernel
theorem dX6_stood_186 : decode cX6_stood 186 = .ok (.iconst 0, 1) := by decide +kernel
theorem dX6_stood_187 : decode cX6_stood 187 = .ok (.goto 5, 3) := by decide +kernel
theorem dX6_stood_190 : decode cX6_stood 190 = .ok (.ldc 211, 2) := by decide +kernel
theorem dX6_stood_192 : decode cX6_stood 192 = .ok (.invokevirtual 75, 3) := by decide +kernel
theorem dX6_stood_195 : decode cX6_stood 195 = .ok (.ireturn, 1) := by decide +kernel
theorem dX6_stood_196 : decode cX6_stood 196 = .ok (.aload_n 0, 1) := by decide +kernel
theorem dX6_stood_197 : decode cX6_stood 197 = .ok (.iload_n 3, 1) := by decide +kernel
theorem dX6_stood_198 : decode cX6_stood 198 = .ok (.ifCond .ne 13, 3) := by decide +kernel
theorem dX6_stood_201 : decode cX6_stood 201 = .ok (.lload 7, 2) := by decide +kernel
theorem dX6_stood_203 : decode cX6_stood 203 = .ok (.lload 5, 2) := by decide +kernel
theorem dX6_stood_205 : decode cX6_stood 205 = .ok (.lsub, 1) := by decide +kernel
theorem dX6_stood_206 : decode cX6_stood 206 = .ok (.lconst 1, 1) := by decide +kernel
theorem dX6_stood_207 : decode cX6_stood 207 = .ok (.ladd, 1) := by decide +kernel
theorem dX6_stood_208 : decode cX6_stood 208 = .ok (.goto 5, 3) := by decide +kernel
theorem dX6_stood_211 : decode cX6_stood 211 = .ok (.lload 5, 2) := by decide +kernel
theorem dX6_stood_213 : decode cX6_stood 213 = .ok (.l2i, 1) := by decide +kernel
theorem dX6_stood_214 : decode cX6_stood 214 = .ok (.invokevirtual 75, 3) := by decide +kernel
theorem dX6_stood_217 : decode cX6_stood 217 = .ok (.ireturn, 1) := by decide +kernel
theorem dX6_shift_0 : decode cX6_shift 0 = .ok (.aload_n 0, 1) := by decide +kernel
theorem dX6_shift_1 : decode cX6_shift 1 = .ok (.iload_n 1, 1) := by decide +kernel
theorem dX6_shift_2 : decode cX6_shift 2 = .ok (.invokevirtual 142, 3) := by decide +kernel
theorem dX6_shift_5 : decode cX6_shift 5 = .ok (.ifCond .eq 13, 3) := by decide +kernel
theorem dX6_shift_8 : decode cX6_shift 8 = .ok (.iload_n 2, 1) := by decide +kernel
theorem dX6_shift_9 : decode cX6_shift 9 = .ok (.ifCond .lt 9, 3) := by decide +kernel
theorem dX6_shift_12 : decode cX6_shift 12 = .ok (.iload_n 2, 1) := by decide +kernel
theorem dX6_shift_13 : decode cX6_shift 13 = .ok (.bipush 6, 2) := by decide +kernel
theorem dX6_shift_15 : decode cX6_shift 15 = .ok (.if_icmp .le 6, 3) := by decide +kernel
theorem dX6_shift_18 : decode cX6_shift 18 = .ok (.ldc 66, 2) := by decide +kernel
theorem dX6_shift_20 : decode cX6_shift 20 = .ok (.ireturn, 1) := by decide +kernel
theorem dX6_shift_21 : decode cX6_shift 21 = .ok (.aload_n 0, 1) := by decide +kernel
theorem dX6_shift_22 : decode cX6_shift 22 = .ok (.getfield 46, 3) := by decide +kernel
theorem dX6_shift_25 : decode cX6_shift 25 = .ok (.aload_n 0, 1) := by decide +kernel
theorem dX6_shift_26 : decode cX6_shift 26 = .ok (.getfield 25, 3) := by decide +kernel
theorem dX6_shift_29 : decode cX6_shift 29 = .ok (.iload_n 1, 1) := by decide +kernel
theorem dX6_shift_30 : decode cX6_shift 30 = .ok (.invokevirtual 218, 3) := by decide +kernel
theorem dX6_shift_33 : decode cX6_shift 33 = .ok (.aload_n 0, 1) := by decide +kernel
theorem dX6_shift_34 : decode cX6_shift 34 = .ok (.getfield 46, 3) := by decide +kernel
theorem dX6_shift_37 : decode cX6_shift 37 = .ok (.getfield 222, 3) := by decide +kernel
theorem dX6_shift_40 : decode cX6_shift 40 = .ok (.ifCond .ne 6, 3) := by decide +kernel
theorem dX6_shift_43 : decode cX6_shift 43 = .ok (.ldc 211, 2) := by decide +kernel
theorem dX6_shift_45 : decode cX6_shift 45 = .ok (.ireturn, 1) := by decide +kernel
theorem dX6_shift_46 : decode cX6_shift 46 = .ok (.aload_n 0, 1) := by decide +kernel
theorem dX6_shift_47 : decode cX6_shift 47 = .ok (.getfield 46, 3) := by decide +kernel
theorem dX6_shift_50 : decode cX6_shift 50 = .ok (.invokevirtual 234, 3) := by decide +kernel
theorem dX6_shift_53 : decode cX6_shift 53 = .ok (.istore_n 3, 1) := by decide +kernel
theorem dX6_shift_54 : decode cX6_shift 54 = .ok (.aload_n 0, 1) := by decide +kernel
theorem dX6_shift_55 : decode cX6_shift 55 = .ok (.getfield 46, 3) := by decide +kernel
theorem dX6_shift_58 : decode cX6_shift 58 = .ok (.aload_n 0, 1) := by decide +kernel
theorem dX6_shift_59 : decode cX6_shift 59 = .ok (.getfield 25, 3) := by decide +kernel
theorem dX6_shift_62 : decode cX6_shift 62 = .ok (.iload_n 2, 1) := by decide +kernel
theorem dX6_shift_63 : decode cX6_shift 63 = .ok (.invokevirtual 289, 3) := by decide +kernel
theorem dX6_shift_66 : decode cX6_shift 66 = .ok (.aload_n 0, 1) := by decide +kernel
theorem dX6_shift_67 : decode cX6_shift 67 = .ok (.getfield 46, 3) := by decide +kernel
theorem dX6_shift_70 : decode cX6_shift 70 = .ok (.invokevirtual 234, 3) := by decide +kernel
theorem dX6_shift_73 : decode cX6_shift 73 = .ok (.iload_n 3, 1) := by decide +kernel
theorem dX6_shift_74 : decode cX6_shift 74 = .ok (.isub, 1) := by decide +kernel
theorem dX6_shift_75 : decode cX6_shift 75 = .ok (.ireturn, 1) := by decide +kernel
theorem dX6_map_0 : decode cX6_map 0 = .ok (.aload_n 0, 1) := by decide +kernel
theorem dX6_map_1 : decode cX6_map 1 = .ok (.iload_n 1, 1) := by decide +kernel
theorem dX6_map_2 : decode cX6_map 2 = .ok (.invokevirtual 142, 3) := by decide +kernel
theorem dX6_map_5 : decode cX6_map 5 = .ok (.ifCond .eq 10, 3) := by decide +kernel
theorem dX6_map_8 : decode cX6_map 8 = .ok (.iload_n 2, 1) := by decide +kernel
theorem dX6_map_9 : decode cX6_map 9 = .ok (.invokestatic 160, 3) := by decide +kernel
theorem dX6_map_12 : decode cX6_map 12 = .ok (.ifCond .ne 6, 3) := by decide +kernel
theorem dX6_map_15 : decode cX6_map 15 = .ok (.ldc 66, 2) := by decide +kernel
theorem dX6_map_17 : decode cX6_map 17 = .ok (.ireturn, 1) := by decide +kernel
theorem dX6_map_18 : decode cX6_map 18 = .ok (.aload_n 0, 1) := by decide +kernel
theorem dX6_map_19 : decode cX6_map 19 = .ok (.getfield 46, 3) := by decide +kernel
theorem dX6_map_22 : decode cX6_map 22 = .ok (.aload_n 0, 1) := by decide +kernel
theorem dX6_map_23 : decode cX6_map 23 = .ok (.getfield 25, 3) := by decide +kernel
theorem dX6_map_26 : decode cX6_map 26 = .ok (.iload_n 1, 1) := by decide +kernel
theorem dX6_map_27 : decode cX6_map 27 = .ok (.invokevirtual 218, 3) := by decide +kernel
theorem dX6_map_30 : decode cX6_map 30 = .ok (.aload_n 0, 1) := by decide +kernel
theorem dX6_map_31 : decode cX6_map 31 = .ok (.getfield 46, 3) := by decide +kernel
theorem dX6_map_34 : decode cX6_map 34 = .ok (.getfield 222, 3) := by decide +kernel
theorem dX6_map_37 : decode cX6_map 37 = .ok (.aload_n 0, 1) := by decide +kernel
theorem dX6_map_38 : decode cX6_map 38 = .ok (.getfield 46, 3) := by decide +kernel
theorem dX6_map_41 : decode cX6_map 41 = .ok (.iload_n 2, 1) := by decide +kernel
theorem dX6_map_42 : decode cX6_map 42 = .ok (.invokevirtual 244, 3) := by decide +kernel
theorem dX6_map_45 : decode cX6_map 45 = .ok (.isub, 1) := by decide +kernel
theorem dX6_map_46 : decode cX6_map 46 = .ok (.ireturn, 1) := by decide +kernel
theorem dX6_agree_0 : decode cX6_agree 0 = .ok (.aload_n 0, 1) := by decide +kernel
theorem dX6_agree_1 : decode cX6_agree 1 = .ok (.getfield 25, 3) := by decide +kernel
theorem dX6_agree_4 : decode cX6_agree 4 = .ok (.getfield 175, 3) := by decide +kernel
theorem dX6_agree_7 : decode cX6_agree 7 = .ok (.ifCond .ne 6, 3) := by decide +kernel
theorem dX6_agree_10 : decode cX6_agree 10 = .ok (.ldc 138, 2) := by decide +kernel
theorem dX6_agree_12 : decode cX6_agree 12 = .ok (.ireturn, 1) := by decide +kernel
theorem dX6_agree_13 : decode cX6_agree 13 = .ok (.iload_n 1, 1) := by decide +kernel
theorem dX6_agree_14 : decode cX6_agree 14 = .ok (.invokestatic 253, 3) := by decide +kernel
theorem dX6_agree_17 : decode cX6_agree 17 = .ok (.ifCond .ne 6, 3) := by decide +kernel
theorem dX6_agree_20 : decode cX6_agree 20 = .ok (.ldc 66, 2) := by decide +kernel
theorem dX6_agree_22 : decode cX6_agree 22 = .ok (.ireturn, 1) := by decide +kernel
theorem dX6_agree_23 : decode cX6_agree 23 = .ok (.iconst 0, 1) := by decide +kernel
theorem dX6_agree_24 : decode cX6_agree 24 = .ok (.istore_n 2, 1) := by decide +kernel
theorem dX6_agree_25 : decode cX6_agree 25 = .ok (.iconst 0, 1) := by decide +kernel
theorem dX6_agree_26 : decode cX6_agree 26 = .ok (.istore_n 3, 1) := by decide +kernel
theorem dX6_agree_27 : decode cX6_agree 27 = .ok (.iload_n 3, 1) := by decide +kernel
theorem dX6_agree_28 : decode cX6_agree 28 = .ok (.aload_n 0, 1) := by decide +kernel
theorem dX6_agree_29 : decode cX6_agree 29 = .ok (.getfield 25, 3) := by decide +kernel
theorem dX6_agree_32 : decode cX6_agree 32 = .ok (.getfield 292, 3) := by decide +kernel
theorem dX6_agree_35 : decode cX6_agree 35 = .ok (.if_icmp .ge 45, 3) := by decide +kernel
theorem dX6_agree_38 : decode cX6_agree 38 = .ok (.aload_n 0, 1) := by decide +kernel
theorem dX6_agree_39 : decode cX6_agree 39 = .ok (.getfield 46, 3) := by decide +kernel
theorem dX6_agree_42 : decode cX6_agree 42 = .ok (.aload_n 0, 1) := by decide +kernel
theorem dX6_agree_43 : decode cX6_agree 43 = .ok (.getfield 25, 3) := by decide +kernel
theorem dX6_agree_46 : decode cX6_agree 46 = .ok (.iload_n 3, 1) := by decide +kernel
theorem dX6_agree_47 : decode cX6_agree 47 = .ok (.invokevirtual 218, 3) := by decide +kernel
theorem dX6_agree_50 : decode cX6_agree 50 = .ok (.aload_n 0, 1) := by decide +kernel
theorem dX6_agree_51 : decode cX6_agree 51 = .ok (.getfield 46, 3) := by decide +kernel
theorem dX6_agree_54 : decode cX6_agree 54 = .ok (.aload_n 0, 1) := by decide +kernel
theorem dX6_agree_55 : decode cX6_agree 55 = .ok (.getfield 46, 3) := by decide +kernel
theorem dX6_agree_58 : decode cX6_agree 58 = .ok (.invokevirtual 250, 3) := by decide +kernel
theorem dX6_agree_61 : decode cX6_agree 61 = .ok (.invokevirtual 244, 3) := by decide +kernel
theorem dX6_agree_64 : decode cX6_agree 64 = .ok (.iload_n 1, 1) := by decide +kernel
theorem dX6_agree_65 : decode cX6_agree 65 = .ok (.if_icmp .lt 9, 3) := by decide +kernel
theorem dX6_agree_68 : decode cX6_agree 68 = .ok (.iload_n 2, 1) := by decide +kernel
theorem dX6_agree_69 : decode cX6_agree 69 = .ok (.iconst 1, 1) := by decide +kernel
theorem dX6_agree_70 : decode cX6_agree 70 = .ok (.iload_n 3, 1) := by decide +kernel
theorem dX6_agree_71 : decode cX6_agree 71 = .ok (.ishl, 1) := by decide +kernel
theorem dX6_agree_72 : decode cX6_agree 72 = .ok (.ior, 1) := by decide +kernel
theorem dX6_agree_73 : decode cX6_agree 73 = .ok (.istore_n 2, 1) := by decide +kernel
theorem dX6_agree_74 : decode cX6_agree 74 = .ok (.iinc 3 1, 3) := by decide +kernel
theorem dX6_agree_77 : decode cX6_agree 77 = .ok (.goto (-50), 3) := by decide +kernel
theorem dX6_agree_80 : decode cX6_agree 80 = .ok (.iload_n 2, 1) := by decide +kernel
theorem dX6_agree_81 : decode cX6_agree 81 = .ok (.ireturn, 1) := by decide +kernel
theorem dX6_drawn_0 : decode cX6_drawn 0 = .ok (.aload_n 0, 1) := by decide +kernel
theorem dX6_drawn_1 : decode cX6_drawn 1 = .ok (.getfield 25, 3) := by decide +kernel
theorem dX6_drawn_4 : decode cX6_drawn 4 = .ok (.getfield 175, 3) := by decide +kernel
theorem dX6_drawn_7 : decode cX6_drawn 7 = .ok (.ifCond .ne 6, 3) := by decide +kernel
theorem dX6_drawn_10 : decode cX6_drawn 10 = .ok (.ldc 138, 2) := by decide +kernel
theorem dX6_drawn_12 : decode cX6_drawn 12 = .ok (.ireturn, 1) := by decide +kernel
theorem dX6_drawn_13 : decode cX6_drawn 13 = .ok (.iload_n 1, 1) := by decide +kernel
theorem dX6_drawn_14 : decode cX6_drawn 14 = .ok (.ifCond .lt 28, 3) := by decide +kernel
theorem dX6_drawn_17 : decode cX6_drawn 17 = .ok (.iload_n 1, 1) := by decide +kernel
theorem dX6_drawn_18 : decode cX6_drawn 18 = .ok (.bipush 60, 2) := by decide +kernel
theorem dX6_drawn_20 : decode cX6_drawn 20 = .ok (.if_icmp .gt 22, 3) := by decide +kernel
theorem dX6_drawn_23 : decode cX6_drawn 23 = .ok (.iload_n 2, 1) := by decide +kernel
theorem dX6_drawn_24 : decode cX6_drawn 24 = .ok (.iconst 1, 1) := by decide +kernel
theorem dX6_drawn_25 : decode cX6_drawn 25 = .ok (.if_icmp .lt 17, 3) := by decide +kernel
theorem dX6_drawn_28 : decode cX6_drawn 28 = .ok (.iload_n 2, 1) := by decide +kernel
theorem dX6_drawn_29 : decode cX6_drawn 29 = .ok (.ldc_w 295, 3) := by decide +kernel
theorem dX6_drawn_32 : decode cX6_drawn 32 = .ok (.if_icmp .gt 10, 3) := by decide +kernel
theorem dX6_drawn_35 : decode cX6_drawn 35 = .ok (.iload_n 3, 1) := by decide +kernel
theorem dX6_drawn_36 : decode cX6_drawn 36 = .ok (.invokestatic 241, 3) := by decide +kernel
theorem dX6_drawn_39 : decode cX6_drawn 39 = .ok (.ifCond .ne 6, 3) := by decide +kernel
theorem dX6_drawn_42 : decode cX6_drawn 42 = .ok (.ldc 66, 2) := by decide +kernel
theorem dX6_drawn_44 : decode cX6_drawn 44 = .ok (.ireturn, 1) := by decide +kernel
theorem dX6_drawn_45 : decode cX6_drawn 45 = .ok (.aload_n 0, 1) := by decide +kernel
theorem dX6_drawn_46 : decode cX6_drawn 46 = .ok (.getfield 29, 3) := by decide +kernel
theorem dX6_drawn_49 : decode cX6_drawn 49 = .ok (.aload_n 0, 1) := by decide +kernel
theorem dX6_drawn_50 : decode cX6_drawn 50 = .ok (.getfield 25, 3) := by decide +kernel
theorem dX6_drawn_53 : decode cX6_drawn 53 = .ok (.invokevirtual 124, 3) := by decide +kernel
theorem dX6_drawn_56 : decode cX6_drawn 56 = .ok (.iload_n 2, 1) := by decide +kernel
theorem dX6_drawn_57 : decode cX6_drawn 57 = .ok (.i2l, 1) := by decide +kernel
theorem dX6_drawn_58 : decode cX6_drawn 58 = .ok (.lstore 4, 2) := by decide +kernel
theorem dX6_drawn_60 : decode cX6_drawn 60 = .ok (.iconst 0, 1) := by decide +kernel
theorem dX6_drawn_61 : decode cX6_drawn 61 = .ok (.istore 6, 2) := by decide +kernel
theorem dX6_drawn_63 : decode cX6_drawn 63 = .ok (.iload 6, 2) := by decide +kernel
theorem dX6_drawn_65 : decode cX6_drawn 65 = .ok (.iload_n 1, 1) := by decide +kernel
theorem dX6_drawn_66 : decode cX6_drawn 66 = .ok (.if_icmp .ge 30, 3) := by decide +kernel
theorem dX6_drawn_69 : decode cX6_drawn 69 = .ok (.lload 4, 2) := by decide +kernel
theorem dX6_drawn_71 : decode cX6_drawn 71 = .ok (.ldc2_w 296, 3) := by decide +kernel
theorem dX6_drawn_74 : decode cX6_drawn 74 = .ok (.lmul, 1) := by decide +kernel
theorem dX6_drawn_75 : decode cX6_drawn 75 = .ok (.ldc2_w 298, 3) := by decide +kernel
theorem dX6_drawn_78 : decode cX6_drawn 78 = .ok (.lrem, 1) := by decide +kernel
theorem dX6_drawn_79 : decode cX6_drawn 79 = .ok (.lstore 4, 2) := by decide +kernel
theorem dX6_drawn_81 : decode cX6_drawn 81 = .ok (.aload_n 0, 1) := by decide +kernel
theorem dX6_drawn_82 : decode cX6_drawn 82 = .ok (.getfield 29, 3) := by decide +kernel
theorem dX6_drawn_85 : decode cX6_drawn 85 = .ok (.lload 4, 2) := by decide +kernel
theorem dX6_drawn_87 : decode cX6_drawn 87 = .ok (.invokevirtual 300, 3) := by decide +kernel
theorem dX6_drawn_90 : decode cX6_drawn 90 = .ok (.iinc 6 1, 3) := by decide +kernel
theorem dX6_drawn_93 : decode cX6_drawn 93 = .ok (.goto (-30), 3) := by decide +kernel
theorem dX6_drawn_96 : decode cX6_drawn 96 = .ok (.iload_n 3, 1) := by decide +kernel
theorem dX6_drawn_97 : decode cX6_drawn 97 = .ok (.ifCond .ne 13, 3) := by decide +kernel
theorem dX6_drawn_100 : decode cX6_drawn 100 = .ok (.aload_n 0, 1) := by decide +kernel
theorem dX6_drawn_101 : decode cX6_drawn 101 = .ok (.getfield 29, 3) := by decide +kernel
theorem dX6_drawn_104 : decode cX6_drawn 104 = .ok (.invokevirtual 304, 3) := by decide +kernel
theorem dX6_drawn_107 : decode cX6_drawn 107 = .ok (.goto 10, 3) := by decide +kernel
theorem dX6_drawn_110 : decode cX6_drawn 110 = .ok (.aload_n 0, 1) := by decide +kernel
theorem dX6_drawn_111 : decode cX6_drawn 111 = .ok (.getfield 29, 3) := by decide +kernel
theorem dX6_drawn_114 : decode cX6_drawn 114 = .ok (.invokevirtual 307, 3) := by decide +kernel
theorem dX6_drawn_117 : decode cX6_drawn 117 = .ok (.ireturn, 1) := by decide +kernel
theorem dX6_image_0 : decode cX6_image 0 = .ok (.iload_n 1, 1) := by decide +kernel
theorem dX6_image_1 : decode cX6_image 1 = .ok (.ifCond .lt 8, 3) := by decide +kernel
theorem dX6_image_4 : decode cX6_image 4 = .ok (.iload_n 1, 1) := by decide +kernel
theorem dX6_image_5 : decode cX6_image 5 = .ok (.iconst 2, 1) := by decide +kernel
theorem dX6_image_6 : decode cX6_image 6 = .ok (.if_icmp .lt 6, 3) := by decide +kernel
theorem dX6_image_9 : decode cX6_image 9 = .ok (.ldc 66, 2) := by decide +kernel
theorem dX6_image_11 : decode cX6_image 11 = .ok (.ireturn, 1) := by decide +kernel
theorem dX6_image_12 : decode cX6_image 12 = .ok (.aload_n 0, 1) := by decide +kernel
theorem dX6_image_13 : decode cX6_image 13 = .ok (.getfield 25, 3) := by decide +kernel
theorem dX6_image_16 : decode cX6_image 16 = .ok (.getfield 175, 3) := by decide +kernel
theorem dX6_image_19 : decode cX6_image 19 = .ok (.ifCond .ne 6, 3) := by decide +kernel
theorem dX6_image_22 : decode cX6_image 22 = .ok (.ldc 138, 2) := by decide +kernel
theorem dX6_image_24 : decode cX6_image 24 = .ok (.ireturn, 1) := by decide +kernel
theorem dX6_image_25 : decode cX6_image 25 = .ok (.aload_n 0, 1) := by decide +kernel
theorem dX6_image_26 : decode cX6_image 26 = .ok (.getfield 32, 3) := by decide +kernel
theorem dX6_image_29 : decode cX6_image 29 = .ok (.iload_n 1, 1) := by decide +kernel
theorem dX6_image_30 : decode cX6_image 30 = .ok (.aaload, 1) := by decide +kernel
theorem dX6_image_31 : decode cX6_image 31 = .ok (.aload_n 0, 1) := by decide +kernel
theorem dX6_image_32 : decode cX6_image 32 = .ok (.getfield 25, 3) := by decide +kernel
theorem dX6_image_35 : decode cX6_image 35 = .ok (.invokevirtual 124, 3) := by decide +kernel
theorem dX6_image_38 : decode cX6_image 38 = .ok (.iconst 1, 1) := by decide +kernel
theorem dX6_image_39 : decode cX6_image 39 = .ok (.ireturn, 1) := by decide +kernel
theorem dX6_restore_0 : decode cX6_restore 0 = .ok (.iload_n 1, 1) := by decide +kernel
theorem dX6_restore_1 : decode cX6_restore 1 = .ok (.ifCond .lt 8, 3) := by decide +kernel
theorem dX6_restore_4 : decode cX6_restore 4 = .ok (.iload_n 1, 1) := by decide +kernel
theorem dX6_restore_5 : decode cX6_restore 5 = .ok (.iconst 2, 1) := by decide +kernel
theorem dX6_restore_6 : decode cX6_restore 6 = .ok (.if_icmp .lt 6, 3) := by decide +kernel
theorem dX6_restore_9 : decode cX6_restore 9 = .ok (.ldc 66, 2) := by decide +kernel
theorem dX6_restore_11 : decode cX6_restore 11 = .ok (.ireturn, 1) := by decide +kernel
theorem dX6_restore_12 : decode cX6_restore 12 = .ok (.aload_n 0, 1) := by decide +kernel
theorem dX6_restore_13 : decode cX6_restore 13 = .ok (.getfield 32, 3) := by decide +kernel
theorem dX6_restore_16 : decode cX6_restore 16 = .ok (.iload_n 1, 1) := by decide +kernel
theorem dX6_restore_17 : decode cX6_restore 17 = .ok (.aaload, 1) := by decide +kernel
theorem dX6_restore_18 : decode cX6_restore 18 = .ok (.getfield 175, 3) := by decide +kernel
theorem dX6_restore_21 : decode cX6_restore 21 = .ok (.ifCond .ne 6, 3) := by decide +kernel
theorem dX6_restore_24 : decode cX6_restore 24 = .ok (.ldc 138, 2) := by decide +kernel
theorem dX6_restore_26 : decode cX6_restore 26 = .ok (.ireturn, 1) := by decide +kernel
theorem dX6_restore_27 : decode cX6_restore 27 = .ok (.aload_n 0, 1) := by decide +kernel
theorem dX6_restore_28 : decode cX6_restore 28 = .ok (.getfield 25, 3) := by decide +kernel
theorem dX6_restore_31 : decode cX6_restore 31 = .ok (.aload_n 0, 1) := by decide +kernel
theorem dX6_restore_32 : decode cX6_restore 32 = .ok (.getfield 32, 3) := by decide +kernel
theorem dX6_restore_35 : decode cX6_restore 35 = .ok (.iload_n 1, 1) := by decide +kernel
theorem dX6_restore_36 : decode cX6_restore 36 = .ok (.aaload, 1) := by decide +kernel
theorem dX6_restore_37 : decode cX6_restore 37 = .ok (.invokevirtual 124, 3) := by decide +kernel
theorem dX6_restore_40 : decode cX6_restore 40 = .ok (.aload_n 0, 1) := by decide +kernel
theorem dX6_restore_41 : decode cX6_restore 41 = .ok (.getfield 39, 3) := by decide +kernel
theorem dX6_restore_44 : decode cX6_restore 44 = .ok (.invokevirtual 128, 3) := by decide +kernel
theorem dX6_restore_47 : decode cX6_restore 47 = .ok (.iconst 1, 1) := by decide +kernel
theorem dX6_restore_48 : decode cX6_restore 48 = .ok (.ireturn, 1) := by decide +kernel
theorem dX6_kind_0 : decode cX6_kind 0 = .ok (.aload_n 0, 1) := by decide +kernel
theorem dX6_kind_1 : decode cX6_kind 1 = .ok (.iload_n 1, 1) := by decide +kernel
theorem dX6_kind_2 : decode cX6_kind 2 = .ok (.invokevirtual 166, 3) := by decide +kernel
theorem dX6_kind_5 : decode cX6_kind 5 = .ok (.ifCond .eq 15, 3) := by decide +kernel
theorem dX6_kind_8 : decode cX6_kind 8 = .ok (.aload_n 0, 1) := by decide +kernel
theorem dX6_kind_9 : decode cX6_kind 9 = .ok (.getfield 25, 3) := by decide +kernel
theorem dX6_kind_12 : decode cX6_kind 12 = .ok (.getfield 169, 3) := by decide +kernel
theorem dX6_kind_15 : decode cX6_kind 15 = .ok (.iload_n 1, 1) := by decide +kernel
theorem dX6_kind_16 : decode cX6_kind 16 = .ok (.iaload, 1) := by decide +kernel
theorem dX6_kind_17 : decode cX6_kind 17 = .ok (.goto 5, 3) := by decide +kernel
theorem dX6_kind_20 : decode cX6_kind 20 = .ok (.ldc 66, 2) := by decide +kernel
theorem dX6_kind_22 : decode cX6_kind 22 = .ok (.ireturn, 1) := by decide +kernel
theorem dX6_as_0 : decode cX6_as 0 = .ok (.aload_n 0, 1) := by decide +kernel
theorem dX6_as_1 : decode cX6_as 1 = .ok (.iload_n 1, 1) := by decide +kernel
theorem dX6_as_2 : decode cX6_as 2 = .ok (.invokevirtual 166, 3) := by decide +kernel
theorem dX6_as_5 : decode cX6_as 5 = .ok (.ifCond .eq 13, 3) := by decide +kernel
theorem dX6_as_8 : decode cX6_as 8 = .ok (.iload_n 2, 1) := by decide +kernel
theorem dX6_as_9 : decode cX6_as 9 = .ok (.ifCond .lt 9, 3) := by decide +kernel
theorem dX6_as_12 : decode cX6_as 12 = .ok (.iload_n 2, 1) := by decide +kernel
theorem dX6_as_13 : decode cX6_as 13 = .ok (.bipush 6, 2) := by decide +kernel
theorem dX6_as_15 : decode cX6_as 15 = .ok (.if_icmp .lt 6, 3) := by decide +kernel
theorem dX6_as_18 : decode cX6_as 18 = .ok (.ldc 66, 2) := by decide +kernel
theorem dX6_as_20 : decode cX6_as 20 = .ok (.ireturn, 1) := by decide +kernel
theorem dX6_as_21 : decode cX6_as 21 = .ok (.aload_n 0, 1) := by decide +kernel
theorem dX6_as_22 : decode cX6_as 22 = .ok (.getfield 25, 3) := by decide +kernel
theorem dX6_as_25 : decode cX6_as 25 = .ok (.getfield 169, 3) := by decide +kernel
theorem dX6_as_28 : decode cX6_as 28 = .ok (.iload_n 1, 1) := by decide +kernel
theorem dX6_as_29 : decode cX6_as 29 = .ok (.iaload, 1) := by decide +kernel
theorem dX6_as_30 : decode cX6_as 30 = .ok (.iload_n 2, 1) := by decide +kernel
theorem dX6_as_31 : decode cX6_as 31 = .ok (.invokestatic 310, 3) := by decide +kernel
theorem dX6_as_34 : decode cX6_as 34 = .ok (.ifCond .eq 11, 3) := by decide +kernel
theorem dX6_as_37 : decode cX6_as 37 = .ok (.aload_n 0, 1) := by decide +kernel
theorem dX6_as_38 : decode cX6_as 38 = .ok (.iload_n 1, 1) := by decide +kernel
theorem dX6_as_39 : decode cX6_as 39 = .ok (.invokevirtual 75, 3) := by decide +kernel
theorem dX6_as_42 : decode cX6_as 42 = .ok (.goto 8, 3) := by decide +kernel
theorem dX6_as_45 : decode cX6_as 45 = .ok (.aload_n 0, 1) := by decide +kernel
theorem dX6_as_46 : decode cX6_as 46 = .ok (.iconst 3, 1) := by decide +kernel
theorem dX6_as_47 : decode cX6_as 47 = .ok (.invokevirtual 67, 3) := by decide +kernel
theorem dX6_as_50 : decode cX6_as 50 = .ok (.ireturn, 1) := by decide +kernel
theorem dX6_ask_0 : decode cX6_ask 0 = .ok (.aload_n 0, 1) := by decide +kernel
theorem dX6_ask_1 : decode cX6_ask 1 = .ok (.iload_n 1, 1) := by decide +kernel
theorem dX6_ask_2 : decode cX6_ask 2 = .ok (.invokevirtual 166, 3) := by decide +kernel
theorem dX6_ask_5 : decode cX6_ask 5 = .ok (.ifCond .eq 10, 3) := by decide +kernel
theorem dX6_ask_8 : decode cX6_ask 8 = .ok (.iload_n 2, 1) := by decide +kernel
theorem dX6_ask_9 : decode cX6_ask 9 = .ok (.invokestatic 241, 3) := by decide +kernel
theorem dX6_ask_12 : decode cX6_ask 12 = .ok (.ifCond .ne 6, 3) := by decide +kernel
theorem dX6_ask_15 : decode cX6_ask 15 = .ok (.ldc 66, 2) := by decide +kernel
theorem dX6_ask_17 : decode cX6_ask 17 = .ok (.ireturn, 1) := by decide +kernel
theorem dX6_ask_18 : decode cX6_ask 18 = .ok (.aload_n 0, 1) := by decide +kernel
theorem dX6_ask_19 : decode cX6_ask 19 = .ok (.getfield 53, 3) := by decide +kernel
theorem dX6_ask_22 : decode cX6_ask 22 = .ok (.aload_n 0, 1) := by decide +kernel
theorem dX6_ask_23 : decode cX6_ask 23 = .ok (.getfield 25, 3) := by decide +kernel
theorem dX6_ask_26 : decode cX6_ask 26 = .ok (.iload_n 1, 1) := by decide +kernel
theorem dX6_ask_27 : decode cX6_ask 27 = .ok (.iload_n 2, 1) := by decide +kernel
theorem dX6_ask_28 : decode cX6_ask 28 = .ok (.invokevirtual 313, 3) := by decide +kernel
theorem dX6_ask_31 : decode cX6_ask 31 = .ok (.ireturn, 1) := by decide +kernel
theorem dX6_trace_0 : decode cX6_trace 0 = .ok (.iload_n 1, 1) := by decide +kernel
theorem dX6_trace_1 : decode cX6_trace 1 = .ok (.ifCond .lt 14, 3) := by decide +kernel
theorem dX6_trace_4 : decode cX6_trace 4 = .ok (.iload_n 1, 1) := by decide +kernel
theorem dX6_trace_5 : decode cX6_trace 5 = .ok (.aload_n 0, 1) := by decide +kernel
theorem dX6_trace_6 : decode cX6_trace 6 = .ok (.getfield 53, 3) := by decide +kernel
theorem dX6_trace_9 : decode cX6_trace 9 = .ok (.getfield 317, 3) := by decide +kernel
theorem dX6_trace_12 : decode cX6_trace 12 = .ok (.if_icmp .lt 8, 3) := by decide +kernel
theorem dX6_trace_15 : decode cX6_trace 15 = .ok (.ldc 211, 2) := by decide +kernel
theorem dX6_trace_17 : decode cX6_trace 17 = .ok (.goto 12, 3) := by decide +kernel
theorem dX6_trace_20 : decode cX6_trace 20 = .ok (.aload_n 0, 1) := by decide +kernel
theorem dX6_trace_21 : decode cX6_trace 21 = .ok (.getfield 53, 3) := by decide +kernel
theorem dX6_trace_24 : decode cX6_trace 24 = .ok (.getfield 320, 3) := by decide +kernel
theorem dX6_trace_27 : decode cX6_trace 27 = .ok (.iload_n 1, 1) := by decide +kernel
theorem dX6_trace_28 : decode cX6_trace 28 = .ok (.iaload, 1) := by decide +kernel
theorem dX6_trace_29 : decode cX6_trace 29 = .ok (.ireturn, 1) := by decide +kernel
theorem dX6_count_0 : decode cX6_count 0 = .ok (.iload_n 1, 1) := by decide +kernel
theorem dX6_count_1 : decode cX6_count 1 = .ok (.tableswitch 96 0 6 #[43, 48, 56, 64, 72, 80, 88], 43) := by decide +kernel
theorem dX6_count_44 : decode cX6_count 44 = .ok (.aload_n 0, 1) := by decide +kernel
theorem dX6_count_45 : decode cX6_count 45 = .ok (.invokevirtual 323, 3) := by decide +kernel
theorem dX6_count_48 : decode cX6_count 48 = .ok (.ireturn, 1) := by decide +kernel
theorem dX6_count_49 : decode cX6_count 49 = .ok (.aload_n 0, 1) := by decide +kernel
theorem dX6_count_50 : decode cX6_count 50 = .ok (.getfield 25, 3) := by decide +kernel
theorem dX6_count_53 : decode cX6_count 53 = .ok (.getfield 292, 3) := by decide +kernel
theorem dX6_count_56 : decode cX6_count 56 = .ok (.ireturn, 1) := by decide +kernel
theorem dX6_count_57 : decode cX6_count 57 = .ok (.aload_n 0, 1) := by decide +kernel
theorem dX6_count_58 : decode cX6_count 58 = .ok (.getfield 25, 3) := by decide +kernel
theorem dX6_count_61 : decode cX6_count 61 = .ok (.getfield 131, 3) := by decide +kernel
theorem dX6_count_64 : decode cX6_count 64 = .ok (.ireturn, 1) := by decide +kernel
theorem dX6_count_65 : decode cX6_count 65 = .ok (.aload_n 0, 1) := by decide +kernel
theorem dX6_count_66 : decode cX6_count 66 = .ok (.getfield 25, 3) := by decide +kernel
theorem dX6_count_69 : decode cX6_count 69 = .ok (.getfield 178, 3) := by decide +kernel
theorem dX6_count_72 : decode cX6_count 72 = .ok (.ireturn, 1) := by decide +kernel
theorem dX6_count_73 : decode cX6_count 73 = .ok (.aload_n 0, 1) := by decide +kernel
theorem dX6_count_74 : decode cX6_count 74 = .ok (.getfield 25, 3) := by decide +kernel
theorem dX6_count_77 : decode cX6_count 77 = .ok (.invokevirtual 181, 3) := by decide +kernel
theorem dX6_count_80 : decode cX6_count 80 = .ok (.ireturn, 1) := by decide +kernel
theorem dX6_count_81 : decode cX6_count 81 = .ok (.aload_n 0, 1) := by decide +kernel
theorem dX6_count_82 : decode cX6_count 82 = .ok (.getfield 39, 3) := by decide +kernel
theorem dX6_count_85 : decode cX6_count 85 = .ok (.getfield 137, 3) := by decide +kernel
theorem dX6_count_88 : decode cX6_count 88 = .ok (.ireturn, 1) := by decide +kernel
theorem dX6_count_89 : decode cX6_count 89 = .ok (.aload_n 0, 1) := by decide +kernel
theorem dX6_count_90 : decode cX6_count 90 = .ok (.getfield 18, 3) := by decide +kernel
theorem dX6_count_93 : decode cX6_count 93 = .ok (.getfield 326, 3) := by decide +kernel
theorem dX6_count_96 : decode cX6_count 96 = .ok (.ireturn, 1) := by decide +kernel
theorem dX6_count_97 : decode cX6_count 97 = .ok (.ldc 66, 2) := by decide +kernel
theorem dX6_count_99 : decode cX6_count 99 = .ok (.ireturn, 1) := by decide +kernel
theorem dX6_status_0 : decode cX6_status 0 = .ok (.aload_n 0, 1) := by decide +kernel
theorem dX6_status_1 : decode cX6_status 1 = .ok (.getfield 57, 3) := by decide +kernel
theorem dX6_status_4 : decode cX6_status 4 = .ok (.ireturn, 1) := by decide +kernel
theorem dX6_finding_0 : decode cX6_finding 0 = .ok (.aload_n 0, 1) := by decide +kernel
theorem dX6_finding_1 : decode cX6_finding 1 = .ok (.iload_n 1, 1) := by decide +kernel
theorem dX6_finding_2 : decode cX6_finding 2 = .ok (.putfield 57, 3) := by decide +kernel
theorem dX6_finding_5 : decode cX6_finding 5 = .ok (.ldc_w 329, 3) := by decide +kernel
theorem dX6_finding_8 : decode cX6_finding 8 = .ok (.iload_n 1, 1) := by decide +kernel
theorem dX6_finding_9 : decode cX6_finding 9 = .ok (.isub, 1) := by decide +kernel
theorem dX6_finding_10 : decode cX6_finding 10 = .ok (.ireturn, 1) := by decide +kernel
theorem dX6_fine_0 : decode cX6_fine 0 = .ok (.aload_n 0, 1) := by decide +kernel
theorem dX6_fine_1 : decode cX6_fine 1 = .ok (.iconst 0, 1) := by decide +kernel
theorem dX6_fine_2 : decode cX6_fine 2 = .ok (.putfield 57, 3) := by decide +kernel
theorem dX6_fine_5 : decode cX6_fine 5 = .ok (.iload_n 1, 1) := by decide +kernel
theorem dX6_fine_6 : decode cX6_fine 6 = .ok (.ireturn, 1) := by decide +kernel
theorem dX6_rowsThere_0 : decode cX6_rowsThere 0 = .ok (.iconst 0, 1) := by decide +kernel
theorem dX6_rowsThere_1 : decode cX6_rowsThere 1 = .ok (.istore_n 1, 1) := by decide +kernel
theorem dX6_rowsThere_2 : decode cX6_rowsThere 2 = .ok (.iconst 0, 1) := by decide +kernel
theorem dX6_rowsThere_3 : decode cX6_rowsThere 3 = .ok (.istore_n 2, 1) := by decide +kernel
theorem dX6_rowsThere_4 : decode cX6_rowsThere 4 = .ok (.iload_n 2, 1) := by decide +kernel
theorem dX6_rowsThere_5 : decode cX6_rowsThere 5 = .ok (.bipush 8, 2) := by decide +kernel
theorem dX6_rowsThere_7 : decode cX6_rowsThere 7 = .ok (.if_icmp .ge 24, 3) := by decide +kernel
theorem dX6_rowsThere_10 : decode cX6_rowsThere 10 = .ok (.aload_n 0, 1) := by decide +kernel
theorem dX6_rowsThere_11 : decode cX6_rowsThere 11 = .ok (.getfield 11, 3) := by decide +kernel
theorem dX6_rowsThere_14 : decode cX6_rowsThere 14 = .ok (.iload_n 2, 1) := by decide +kernel
theorem dX6_rowsThere_15 : decode cX6_rowsThere 15 = .ok (.aaload, 1) := by decide +kernel
theorem dX6_rowsThere_16 : decode cX6_rowsThere 16 = .ok (.getfield 78, 3) := by decide +kernel
theorem dX6_rowsThere_19 : decode cX6_rowsThere 19 = .ok (.ifCond .eq 6, 3) := by decide +kernel
theorem dX6_rowsThere_22 : decode cX6_rowsThere 22 = .ok (.iinc 1 1, 3) := by decide +kernel
theorem dX6_rowsThere_25 : decode cX6_rowsThere 25 = .ok (.iinc 2 1, 3) := by decide +kernel
theorem dX6_rowsThere_28 : decode cX6_rowsThere 28 = .ok (.goto (-24), 3) := by decide +kernel
theorem dX6_rowsThere_31 : decode cX6_rowsThere 31 = .ok (.iload_n 1, 1) := by decide +kernel
theorem dX6_rowsThere_32 : decode cX6_rowsThere 32 = .ok (.ireturn, 1) := by decide +kernel
theorem dX6_swearersIfTaken_0 : decode cX6_swearersIfTaken 0 = .ok (.aload_n 0, 1) := by decide +kernel
theorem dX6_swearersIfTaken_1 : decode cX6_swearersIfTaken 1 = .ok (.getfield 29, 3) := by decide +kernel
theorem dX6_swearersIfTaken_4 : decode cX6_swearersIfTaken 4 = .ok (.aload_n 0, 1) := by decide +kernel
theorem dX6_swearersIfTaken_5 : decode cX6_swearersIfTaken 5 = .ok (.getfield 25, 3) := by decide +kernel
theorem dX6_swearersIfTaken_8 : decode cX6_swearersIfTaken 8 = .ok (.getfield 178, 3) := by decide +kernel
theorem dX6_swearersIfTaken_11 : decode cX6_swearersIfTaken 11 = .ok (.putfield 178, 3) := by decide +kernel
theorem dX6_swearersIfTaken_14 : decode cX6_swearersIfTaken 14 = .ok (.aload_n 0, 1) := by decide +kernel
theorem dX6_swearersIfTaken_15 : decode cX6_swearersIfTaken 15 = .ok (.getfield 29, 3) := by decide +kernel
theorem dX6_swearersIfTaken_18 : decode cX6_swearersIfTaken 18 = .ok (.iload_n 1, 1) := by decide +kernel
theorem dX6_swearersIfTaken_19 : decode cX6_swearersIfTaken 19 = .ok (.aload_n 0, 1) := by decide +kernel
theorem dX6_swearersIfTaken_20 : decode cX6_swearersIfTaken 20 = .ok (.getfield 29, 3) := by decide +kernel
theorem dX6_swearersIfTaken_23 : decode cX6_swearersIfTaken 23 = .ok (.invokevirtual 148, 3) := by decide +kernel
theorem dX6_swearersIfTaken_26 : decode cX6_swearersIfTaken 26 = .ok (.iload_n 2, 1) := by decide +kernel
theorem dX6_swearersIfTaken_27 : decode cX6_swearersIfTaken 27 = .ok (.invokevirtual 156, 3) := by decide +kernel
theorem dX6_swearersIfTaken_30 : decode cX6_swearersIfTaken 30 = .ok (.pop, 1) := by decide +kernel
theorem dX6_swearersIfTaken_31 : decode cX6_swearersIfTaken 31 = .ok (.aload_n 0, 1) := by decide +kernel
theorem dX6_swearersIfTaken_32 : decode cX6_swearersIfTaken 32 = .ok (.getfield 29, 3) := by decide +kernel
theorem dX6_swearersIfTaken_35 : decode cX6_swearersIfTaken 35 = .ok (.aload_n 0, 1) := by decide +kernel
theorem dX6_swearersIfTaken_36 : decode cX6_swearersIfTaken 36 = .ok (.getfield 25, 3) := by decide +kernel
theorem dX6_swearersIfTaken_39 : decode cX6_swearersIfTaken 39 = .ok (.getfield 178, 3) := by decide +kernel
theorem dX6_swearersIfTaken_42 : decode cX6_swearersIfTaken 42 = .ok (.iload_n 3, 1) := by decide +kernel
theorem dX6_swearersIfTaken_43 : decode cX6_swearersIfTaken 43 = .ok (.iadd, 1) := by decide +kernel
theorem dX6_swearersIfTaken_44 : decode cX6_swearersIfTaken 44 = .ok (.putfield 178, 3) := by decide +kernel
theorem dX6_swearersIfTaken_47 : decode cX6_swearersIfTaken 47 = .ok (.aload_n 0, 1) := by decide +kernel
theorem dX6_swearersIfTaken_48 : decode cX6_swearersIfTaken 48 = .ok (.getfield 29, 3) := by decide +kernel
theorem dX6_swearersIfTaken_51 : decode cX6_swearersIfTaken 51 = .ok (.iload_n 1, 1) := by decide +kernel
theorem dX6_swearersIfTaken_52 : decode cX6_swearersIfTaken 52 = .ok (.invokevirtual 225, 3) := by decide +kernel
theorem dX6_swearersIfTaken_55 : decode cX6_swearersIfTaken 55 = .ok (.ireturn, 1) := by decide +kernel
theorem dX6_isStone_0 : decode cX6_isStone 0 = .ok (.iload_n 1, 1) := by decide +kernel
theorem dX6_isStone_1 : decode cX6_isStone 1 = .ok (.ifCond .lt 18, 3) := by decide +kernel
theorem dX6_isStone_4 : decode cX6_isStone 4 = .ok (.iload_n 1, 1) := by decide +kernel
theorem dX6_isStone_5 : decode cX6_isStone 5 = .ok (.aload_n 0, 1) := by decide +kernel
theorem dX6_isStone_6 : decode cX6_isStone 6 = .ok (.getfield 25, 3) := by decide +kernel
theorem dX6_isStone_9 : decode cX6_isStone 9 = .ok (.getfield 292, 3) := by decide +kernel
theorem dX6_isStone_12 : decode cX6_isStone 12 = .ok (.if_icmp .ge 7, 3) := by decide +kernel
theorem dX6_isStone_15 : decode cX6_isStone 15 = .ok (.iconst 1, 1) := by decide +kernel
theorem dX6_isStone_16 : decode cX6_isStone 16 = .ok (.goto 4, 3) := by decide +kernel
theorem dX6_isStone_19 : decode cX6_isStone 19 = .ok (.iconst 0, 1) := by decide +kernel
theorem dX6_isStone_20 : decode cX6_isStone 20 = .ok (.ireturn, 1) := by decide +kernel
theorem dX6_isWitness_0 : decode cX6_isWitness 0 = .ok (.iload_n 1, 1) := by decide +kernel
theorem dX6_isWitness_1 : decode cX6_isWitness 1 = .ok (.ifCond .lt 18, 3) := by decide +kernel
theorem dX6_isWitness_4 : decode cX6_isWitness 4 = .ok (.iload_n 1, 1) := by decide +kernel
theorem dX6_isWitness_5 : decode cX6_isWitness 5 = .ok (.aload_n 0, 1) := by decide +kernel
theorem dX6_isWitness_6 : decode cX6_isWitness 6 = .ok (.getfield 25, 3) := by decide +kernel
theorem dX6_isWitness_9 : decode cX6_isWitness 9 = .ok (.getfield 131, 3) := by decide +kernel
theorem dX6_isWitness_12 : decode cX6_isWitness 12 = .ok (.if_icmp .ge 7, 3) := by decide +kernel
theorem dX6_isWitness_15 : decode cX6_isWitness 15 = .ok (.iconst 1, 1) := by decide +kernel
theorem dX6_isWitness_16 : decode cX6_isWitness 16 = .ok (.goto 4, 3) := by decide +kernel
theorem dX6_isWitness_19 : decode cX6_isWitness 19 = .ok (.iconst 0, 1) := by decide +kernel
theorem dX6_isWitness_20 : decode cX6_isWitness 20 = .ok (.ireturn, 1) := by decide +kernel
theorem dX6_isRow_0 : decode cX6_isRow 0 = .ok (.iload_n 0, 1) := by decide +kernel
theorem dX6_isRow_1 : decode cX6_isRow 1 = .ok (.ifCond .lt 13, 3) := by decide +kernel
theorem dX6_isRow_4 : decode cX6_isRow 4 = .ok (.iload_n 0, 1) := by decide +kernel
theorem dX6_isRow_5 : decode cX6_isRow 5 = .ok (.bipush 8, 2) := by decide +kernel
theorem dX6_isRow_7 : decode cX6_isRow 7 = .ok (.if_icmp .ge 7, 3) := by decide +kernel
theorem dX6_isRow_10 : decode cX6_isRow 10 = .ok (.iconst 1, 1) := by decide +kernel
theorem dX6_isRow_11 : decode cX6_isRow 11 = .ok (.goto 4, 3) := by decide +kernel
theorem dX6_isRow_14 : decode cX6_isRow 14 = .ok (.iconst 0, 1) := by decide +kernel
theorem dX6_isRow_15 : decode cX6_isRow 15 = .ok (.ireturn, 1) := by decide +kernel
theorem dX6_isYard_0 : decode cX6_isYard 0 = .ok (.iload_n 0, 1) := by decide +kernel
theorem dX6_isYard_1 : decode cX6_isYard 1 = .ok (.ifCond .lt 13, 3) := by decide +kernel
theorem dX6_isYard_4 : decode cX6_isYard 4 = .ok (.iload_n 0, 1) := by decide +kernel
theorem dX6_isYard_5 : decode cX6_isYard 5 = .ok (.bipush 99, 2) := by decide +kernel
theorem dX6_isYard_7 : decode cX6_isYard 7 = .ok (.if_icmp .gt 7, 3) := by decide +kernel
theorem dX6_isYard_10 : decode cX6_isYard 10 = .ok (.iconst 1, 1) := by decide +kernel
theorem dX6_isYard_11 : decode cX6_isYard 11 = .ok (.goto 4, 3) := by decide +kernel
theorem dX6_isYard_14 : decode cX6_isYard 14 = .ok (.iconst 0, 1) := by decide +kernel
theorem dX6_isYard_15 : decode cX6_isYard 15 = .ok (.ireturn, 1) := by decide +kernel
theorem dX6_isPain_0 : decode cX6_isPain 0 = .ok (.iload_n 0, 1) := by decide +kernel
theorem dX6_isPain_1 : decode cX6_isPain 1 = .ok (.iconst 1, 1) := by decide +kernel
theorem dX6_isPain_2 : decode cX6_isPain 2 = .ok (.if_icmp .lt 13, 3) := by decide +kernel
theorem dX6_isPain_5 : decode cX6_isPain 5 = .ok (.iload_n 0, 1) := by decide +kernel
theorem dX6_isPain_6 : decode cX6_isPain 6 = .ok (.bipush 9, 2) := by decide +kernel
theorem dX6_isPain_8 : decode cX6_isPain 8 = .ok (.if_icmp .gt 7, 3) := by decide +kernel
theorem dX6_isPain_11 : decode cX6_isPain 11 = .ok (.iconst 1, 1) := by decide +kernel
theorem dX6_isPain_12 : decode cX6_isPain 12 = .ok (.goto 4, 3) := by decide +kernel
theorem dX6_isPain_15 : decode cX6_isPain 15 = .ok (.iconst 0, 1) := by decide +kernel
theorem dX6_isPain_16 : decode cX6_isPain 16 = .ok (.ireturn, 1) := by decide +kernel
theorem dX6_isMany_0 : decode cX6_isMany 0 = .ok (.iload_n 0, 1) := by decide +kernel
theorem dX6_isMany_1 : decode cX6_isMany 1 = .ok (.iconst 1, 1) := by decide +kernel
theorem dX6_isMany_2 : decode cX6_isMany 2 = .ok (.if_icmp .lt 13, 3) := by decide +kernel
theorem dX6_isMany_5 : decode cX6_isMany 5 = .ok (.iload_n 0, 1) := by decide +kernel
theorem dX6_isMany_6 : decode cX6_isMany 6 = .ok (.bipush 6, 2) := by decide +kernel
theorem dX6_isMany_8 : decode cX6_isMany 8 = .ok (.if_icmp .gt 7, 3) := by decide +kernel
theorem dX6_isMany_11 : decode cX6_isMany 11 = .ok (.iconst 1, 1) := by decide +kernel
theorem dX6_isMany_12 : decode cX6_isMany 12 = .ok (.goto 4, 3) := by decide +kernel
theorem dX6_isMany_15 : decode cX6_isMany 15 = .ok (.iconst 0, 1) := by decide +kernel
theorem dX6_isMany_16 : decode cX6_isMany 16 = .ok (.ireturn, 1) := by decide +kernel
theorem dX6_isLater_0 : decode cX6_isLater 0 = .ok (.iload_n 0, 1) := by decide +kernel
theorem dX6_isLater_1 : decode cX6_isLater 1 = .ok (.iconst 1, 1) := by decide +kernel
theorem dX6_isLater_2 : decode cX6_isLater 2 = .ok (.if_icmp .lt 13, 3) := by decide +kernel
theorem dX6_isLater_5 : decode cX6_isLater 5 = .ok (.iload_n 0, 1) := by decide +kernel
theorem dX6_isLater_6 : decode cX6_isLater 6 = .ok (.bipush 60, 2) := by decide +kernel
theorem dX6_isLater_8 : decode cX6_isLater 8 = .ok (.if_icmp .gt 7, 3) := by decide +kernel
theorem dX6_isLater_11 : decode cX6_isLater 11 = .ok (.iconst 1, 1) := by decide +kernel
theorem dX6_isLater_12 : decode cX6_isLater 12 = .ok (.goto 4, 3) := by decide +kernel
theorem dX6_isLater_15 : decode cX6_isLater 15 = .ok (.iconst 0, 1) := by decide +kernel
theorem dX6_isLater_16 : decode cX6_isLater 16 = .ok (.ireturn, 1) := by decide +kernel
theorem dX6_isEither_0 : decode cX6_isEither 0 = .ok (.iload_n 0, 1) := by decide +kernel
theorem dX6_isEither_1 : decode cX6_isEither 1 = .ok (.ifCond .eq 8, 3) := by decide +kernel
theorem dX6_isEither_4 : decode cX6_isEither 4 = .ok (.iload_n 0, 1) := by decide +kernel
theorem dX6_isEither_5 : decode cX6_isEither 5 = .ok (.iconst 1, 1) := by decide +kernel
theorem dX6_isEither_6 : decode cX6_isEither 6 = .ok (.if_icmp .ne 7, 3) := by decide +kernel
theorem dX6_isEither_9 : decode cX6_isEither 9 = .ok (.iconst 1, 1) := by decide +kernel
theorem dX6_isEither_10 : decode cX6_isEither 10 = .ok (.goto 4, 3) := by decide +kernel
theorem dX6_isEither_13 : decode cX6_isEither 13 = .ok (.iconst 0, 1) := by decide +kernel
theorem dX6_isEither_14 : decode cX6_isEither 14 = .ok (.ireturn, 1) := by decide +kernel
theorem dX6_inLowestTerms_0 : decode cX6_inLowestTerms 0 = .ok (.iload_n 2, 1) := by decide +kernel
theorem dX6_inLowestTerms_1 : decode cX6_inLowestTerms 1 = .ok (.istore_n 3, 1) := by decide +kernel
theorem dX6_inLowestTerms_2 : decode cX6_inLowestTerms 2 = .ok (.iload_n 3, 1) := by decide +kernel
theorem dX6_inLowestTerms_3 : decode cX6_inLowestTerms 3 = .ok (.iconst 1, 1) := by decide +kernel
theorem dX6_inLowestTerms_4 : decode cX6_inLowestTerms 4 = .ok (.if_icmp .le 25, 3) := by decide +kernel
theorem dX6_inLowestTerms_7 : decode cX6_inLowestTerms 7 = .ok (.iload_n 1, 1) := by decide +kernel
theorem dX6_inLowestTerms_8 : decode cX6_inLowestTerms 8 = .ok (.iload_n 3, 1) := by decide +kernel
theorem dX6_inLowestTerms_9 : decode cX6_inLowestTerms 9 = .ok (.irem, 1) := by decide +kernel
theorem dX6_inLowestTerms_10 : decode cX6_inLowestTerms 10 = .ok (.ifCond .ne 13, 3) := by decide +kernel
theorem dX6_inLowestTerms_13 : decode cX6_inLowestTerms 13 = .ok (.iload_n 2, 1) := by decide +kernel
theorem dX6_inLowestTerms_14 : decode cX6_inLowestTerms 14 = .ok (.iload_n 3, 1) := by decide +kernel
theorem dX6_inLowestTerms_15 : decode cX6_inLowestTerms 15 = .ok (.irem, 1) := by decide +kernel
theorem dX6_inLowestTerms_16 : decode cX6_inLowestTerms 16 = .ok (.ifCond .ne 7, 3) := by decide +kernel
theorem dX6_inLowestTerms_19 : decode cX6_inLowestTerms 19 = .ok (.iload_n 0, 1) := by decide +kernel
theorem dX6_inLowestTerms_20 : decode cX6_inLowestTerms 20 = .ok (.iload_n 3, 1) := by decide +kernel
theorem dX6_inLowestTerms_21 : decode cX6_inLowestTerms 21 = .ok (.idiv, 1) := by decide +kernel
theorem dX6_inLowestTerms_22 : decode cX6_inLowestTerms 22 = .ok (.ireturn, 1) := by decide +kernel
theorem dX6_inLowestTerms_23 : decode cX6_inLowestTerms 23 = .ok (.iinc 3 (-1), 3) := by decide +kernel
theorem dX6_inLowestTerms_26 : decode cX6_inLowestTerms 26 = .ok (.goto (-24), 3) := by decide +kernel
theorem dX6_inLowestTerms_29 : decode cX6_inLowestTerms 29 = .ok (.iload_n 0, 1) := by decide +kernel
theorem dX6_inLowestTerms_30 : decode cX6_inLowestTerms 30 = .ok (.ireturn, 1) := by decide +kernel
theorem dX6_isOf_0 : decode cX6_isOf 0 = .ok (.iload_n 0, 1) := by decide +kernel
theorem dX6_isOf_1 : decode cX6_isOf 1 = .ok (.istore_n 2, 1) := by decide +kernel
theorem dX6_isOf_2 : decode cX6_isOf 2 = .ok (.iconst 0, 1) := by decide +kernel
theorem dX6_isOf_3 : decode cX6_isOf 3 = .ok (.istore_n 3, 1) := by decide +kernel
theorem dX6_isOf_4 : decode cX6_isOf 4 = .ok (.iload_n 3, 1) := by decide +kernel
theorem dX6_isOf_5 : decode cX6_isOf 5 = .ok (.bipush 6, 2) := by decide +kernel
theorem dX6_isOf_7 : decode cX6_isOf 7 = .ok (.if_icmp .ge 22, 3) := by decide +kernel
theorem dX6_isOf_10 : decode cX6_isOf 10 = .ok (.iload_n 2, 1) := by decide +kernel
theorem dX6_isOf_11 : decode cX6_isOf 11 = .ok (.iload_n 1, 1) := by decide +kernel
theorem dX6_isOf_12 : decode cX6_isOf 12 = .ok (.if_icmp .ne 5, 3) := by decide +kernel
theorem dX6_isOf_15 : decode cX6_isOf 15 = .ok (.iconst 1, 1) := by decide +kernel
theorem dX6_isOf_16 : decode cX6_isOf 16 = .ok (.ireturn, 1) := by decide +kernel
theorem dX6_isOf_17 : decode cX6_isOf 17 = .ok (.getstatic 330, 3) := by decide +kernel
theorem dX6_isOf_20 : decode cX6_isOf 20 = .ok (.iload_n 2, 1) := by decide +kernel
theorem dX6_isOf_21 : decode cX6_isOf 21 = .ok (.iaload, 1) := by decide +kernel
theorem dX6_isOf_22 : decode cX6_isOf 22 = .ok (.istore_n 2, 1) := by decide +kernel
theorem dX6_isOf_23 : decode cX6_isOf 23 = .ok (.iinc 3 1, 3) := by decide +kernel
theorem dX6_isOf_26 : decode cX6_isOf 26 = .ok (.goto (-22), 3) := by decide +kernel
theorem dX6_isOf_29 : decode cX6_isOf 29 = .ok (.iconst 0, 1) := by decide +kernel
theorem dX6_isOf_30 : decode cX6_isOf 30 = .ok (.ireturn, 1) := by decide +kernel
theorem dX7_init_0 : decode cX7_init 0 = .ok (.aload_n 0, 1) := by decide +kernel
theorem dX7_init_1 : decode cX7_init 1 = .ok (.invokespecial 1, 3) := by decide +kernel
theorem dX7_init_4 : decode cX7_init 4 = .ok (.aload_n 0, 1) := by decide +kernel
theorem dX7_init_5 : decode cX7_init 5 = .ok (.bipush 8, 2) := by decide +kernel
theorem dX7_init_7 : decode cX7_init 7 = .ok (.newarray .int, 2) := by decide +kernel
theorem dX7_init_9 : decode cX7_init 9 = .ok (.dup, 1) := by decide +kernel
theorem dX7_init_10 : decode cX7_init 10 = .ok (.iconst 0, 1) := by decide +kernel
theorem dX7_init_11 : decode cX7_init 11 = .ok (.iconst (-1), 1) := by decide +kernel
theorem dX7_init_12 : decode cX7_init 12 = .ok (.iastore, 1) := by decide +kernel
theorem dX7_init_13 : decode cX7_init 13 = .ok (.dup, 1) := by decide +kernel
theorem dX7_init_14 : decode cX7_init 14 = .ok (.iconst 1, 1) := by decide +kernel
theorem dX7_init_15 : decode cX7_init 15 = .ok (.iconst (-1), 1) := by decide +kernel
theorem dX7_init_16 : decode cX7_init 16 = .ok (.iastore, 1) := by decide +kernel
theorem dX7_init_17 : decode cX7_init 17 = .ok (.dup, 1) := by decide +kernel
theorem dX7_init_18 : decode cX7_init 18 = .ok (.iconst 2, 1) := by decide +kernel
theorem dX7_init_19 : decode cX7_init 19 = .ok (.iconst (-1), 1) := by decide +kernel
theorem dX7_init_20 : decode cX7_init 20 = .ok (.iastore, 1) := by decide +kernel
theorem dX7_init_21 : decode cX7_init 21 = .ok (.dup, 1) := by decide +kernel
theorem dX7_init_22 : decode cX7_init 22 = .ok (.iconst 3, 1) := by decide +kernel
theorem dX7_init_23 : decode cX7_init 23 = .ok (.iconst (-1), 1) := by decide +kernel
theorem dX7_init_24 : decode cX7_init 24 = .ok (.iastore, 1) := by decide +kernel
theorem dX7_init_25 : decode cX7_init 25 = .ok (.dup, 1) := by decide +kernel
theorem dX7_init_26 : decode cX7_init 26 = .ok (.iconst 4, 1) := by decide +kernel
theorem dX7_init_27 : decode cX7_init 27 = .ok (.iconst (-1), 1) := by decide +kernel
theorem dX7_init_28 : decode cX7_init 28 = .ok (.iastore, 1) := by decide +kernel
theorem dX7_init_29 : decode cX7_init 29 = .ok (.dup, 1) := by decide +kernel
theorem dX7_init_30 : decode cX7_init 30 = .ok (.iconst 5, 1) := by decide +kernel
theorem dX7_init_31 : decode cX7_init 31 = .ok (.iconst (-1), 1) := by decide +kernel
theorem dX7_init_32 : decode cX7_init 32 = .ok (.iastore, 1) := by decide +kernel
theorem dX7_init_33 : decode cX7_init 33 = .ok (.dup, 1) := by decide +kernel
theorem dX7_init_34 : decode cX7_init 34 = .ok (.bipush 6, 2) := by decide +kernel
theorem dX7_init_36 : decode cX7_init 36 = .ok (.iconst (-1), 1) := by decide +kernel
theorem dX7_init_37 : decode cX7_init 37 = .ok (.iastore, 1) := by decide +kernel
theorem dX7_init_38 : decode cX7_init 38 = .ok (.dup, 1) := by decide +kernel
theorem dX7_init_39 : decode cX7_init 39 = .ok (.bipush 7, 2) := by decide +kernel
theorem dX7_init_41 : decode cX7_init 41 = .ok (.iconst (-1), 1) := by decide +kernel
theorem dX7_init_42 : decode cX7_init 42 = .ok (.iastore, 1) := by decide +kernel
theorem dX7_init_43 : decode cX7_init 43 = .ok (.putfield 7, 3) := by decide +kernel
theorem dX7_init_46 : decode cX7_init 46 = .ok (.aload_n 0, 1) := by decide +kernel
theorem dX7_init_47 : decode cX7_init 47 = .ok (.bipush 8, 2) := by decide +kernel
theorem dX7_init_49 : decode cX7_init 49 = .ok (.newarray .int, 2) := by decide +kernel
theorem dX7_init_51 : decode cX7_init 51 = .ok (.putfield 13, 3) := by decide +kernel
theorem dX7_init_54 : decode cX7_init 54 = .ok (.aload_n 0, 1) := by decide +kernel
theorem dX7_init_55 : decode cX7_init 55 = .ok (.sipush 320, 3) := by decide +kernel
theorem dX7_init_58 : decode cX7_init 58 = .ok (.newarray .int, 2) := by decide +kernel
theorem dX7_init_60 : decode cX7_init 60 = .ok (.putfield 16, 3) := by decide +kernel
theorem dX7_init_63 : decode cX7_init 63 = .ok (.aload_n 0, 1) := by decide +kernel
theorem dX7_init_64 : decode cX7_init 64 = .ok (.sipush 143, 3) := by decide +kernel
theorem dX7_init_67 : decode cX7_init 67 = .ok (.newarray .int, 2) := by decide +kernel
theorem dX7_init_69 : decode cX7_init 69 = .ok (.putfield 19, 3) := by decide +kernel
theorem dX7_init_72 : decode cX7_init 72 = .ok (.aload_n 0, 1) := by decide +kernel
theorem dX7_init_73 : decode cX7_init 73 = .ok (.sipush 143, 3) := by decide +kernel
theorem dX7_init_76 : decode cX7_init 76 = .ok (.newarray .int, 2) := by decide +kernel
theorem dX7_init_78 : decode cX7_init 78 = .ok (.putfield 22, 3) := by decide +kernel
theorem dX7_init_81 : decode cX7_init 81 = .ok (.aload_n 0, 1) := by decide +kernel
theorem dX7_init_82 : decode cX7_init 82 = .ok (.sipush 143, 3) := by decide +kernel
theorem dX7_init_85 : decode cX7_init 85 = .ok (.newarray .int, 2) := by decide +kernel
theorem dX7_init_87 : decode cX7_init 87 = .ok (.putfield 25, 3) := by decide +kernel
theorem dX7_init_90 : decode cX7_init 90 = .ok (.aload_n 0, 1) := by decide +kernel
theorem dX7_init_91 : decode cX7_init 91 = .ok (.sipush 3432, 3) := by decide +kernel
theorem dX7_init_94 : decode cX7_init 94 = .ok (.newarray .int, 2) := by decide +kernel
theorem dX7_init_96 : decode cX7_init 96 = .ok (.putfield 28, 3) := by decide +kernel
theorem dX7_init_99 : decode cX7_init 99 = .ok (.aload_n 0, 1) := by decide +kernel
theorem dX7_init_100 : decode cX7_init 100 = .ok (.bipush 120, 2) := by decide +kernel
theorem dX7_init_102 : decode cX7_init 102 = .ok (.newarray .int, 2) := by decide +kernel
theorem dX7_init_104 : decode cX7_init 104 = .ok (.putfield 31, 3) := by decide +kernel
theorem dX7_init_107 : decode cX7_init 107 = .ok (.aload_n 0, 1) := by decide +kernel
theorem dX7_init_108 : decode cX7_init 108 = .ok (.bipush 6, 2) := by decide +kernel
theorem dX7_init_110 : decode cX7_init 110 = .ok (.newarray .int, 2) := by decide +kernel
theorem dX7_init_112 : decode cX7_init 112 = .ok (.putfield 34, 3) := by decide +kernel
theorem dX7_init_115 : decode cX7_init 115 = .ok (.aload_n 0, 1) := by decide +kernel
theorem dX7_init_116 : decode cX7_init 116 = .ok (.sipush 384, 3) := by decide +kernel
theorem dX7_init_119 : decode cX7_init 119 = .ok (.newarray .int, 2) := by decide +kernel
theorem dX7_init_121 : decode cX7_init 121 = .ok (.putfield 37, 3) := by decide +kernel
theorem dX7_init_124 : decode cX7_init 124 = .ok (.aload_n 0, 1) := by decide +kernel
theorem dX7_init_125 : decode cX7_init 125 = .ok (.iconst 2, 1) := by decide +kernel
theorem dX7_init_126 : decode cX7_init 126 = .ok (.newarray .boolean, 2) := by decide +kernel
theorem dX7_init_128 : decode cX7_init 128 = .ok (.putfield 40, 3) := by decide +kernel
theorem dX7_init_131 : decode cX7_init 131 = .ok (.aload_n 0, 1) := by decide +kernel
theorem dX7_init_132 : decode cX7_init 132 = .ok (.sipush 286, 3) := by decide +kernel
theorem dX7_init_135 : decode cX7_init 135 = .ok (.newarray .int, 2) := by decide +kernel
theorem dX7_init_137 : decode cX7_init 137 = .ok (.putfield 44, 3) := by decide +kernel
theorem dX7_init_140 : decode cX7_init 140 = .ok (.aload_n 0, 1) := by decide +kernel
theorem dX7_init_141 : decode cX7_init 141 = .ok (.bipush 16, 2) := by decide +kernel
theorem dX7_init_143 : decode cX7_init 143 = .ok (.newarray .int, 2) := by decide +kernel
theorem dX7_init_145 : decode cX7_init 145 = .ok (.putfield 47, 3) := by decide +kernel
theorem dX7_init_148 : decode cX7_init 148 = .ok (.return_, 1) := by decide +kernel
theorem dX7_in_0 : decode cX7_in 0 = .ok (.lload_n 0, 1) := by decide +kernel
theorem dX7_in_1 : decode cX7_in 1 = .ok (.lload_n 2, 1) := by decide +kernel
theorem dX7_in_2 : decode cX7_in 2 = .ok (.lcmp, 1) := by decide +kernel
theorem dX7_in_3 : decode cX7_in 3 = .ok (.ifCond .lt 14, 3) := by decide +kernel
theorem dX7_in_6 : decode cX7_in 6 = .ok (.lload_n 0, 1) := by decide +kernel
theorem dX7_in_7 : decode cX7_in 7 = .ok (.lload 4, 2) := by decide +kernel
theorem dX7_in_9 : decode cX7_in 9 = .ok (.lcmp, 1) := by decide +kernel
theorem dX7_in_10 : decode cX7_in 10 = .ok (.ifCond .gt 7, 3) := by decide +kernel
theorem dX7_in_13 : decode cX7_in 13 = .ok (.iconst 1, 1) := by decide +kernel
theorem dX7_in_14 : decode cX7_in 14 = .ok (.goto 4, 3) := by decide +kernel
theorem dX7_in_17 : decode cX7_in 17 = .ok (.iconst 0, 1) := by decide +kernel
theorem dX7_in_18 : decode cX7_in 18 = .ok (.ireturn, 1) := by decide +kernel
theorem dX7_finding_0 : decode cX7_finding 0 = .ok (.aload_n 0, 1) := by decide +kernel
theorem dX7_finding_1 : decode cX7_finding 1 = .ok (.iload_n 1, 1) := by decide +kernel
theorem dX7_finding_2 : decode cX7_finding 2 = .ok (.putfield 54, 3) := by decide +kernel
theorem dX7_finding_5 : decode cX7_finding 5 = .ok (.ldc 57, 2) := by decide +kernel
theorem dX7_finding_7 : decode cX7_finding 7 = .ok (.iload_n 1, 1) := by decide +kernel
theorem dX7_finding_8 : decode cX7_finding 8 = .ok (.isub, 1) := by decide +kernel
theorem dX7_finding_9 : decode cX7_finding 9 = .ok (.ireturn, 1) := by decide +kernel
theorem dX7_isRow_0 : decode cX7_isRow 0 = .ok (.iload_n 0, 1) := by decide +kernel
theorem dX7_isRow_1 : decode cX7_isRow 1 = .ok (.i2l, 1) := by decide +kernel
theorem dX7_isRow_2 : decode cX7_isRow 2 = .ok (.lconst 0, 1) := by decide +kernel
theorem dX7_isRow_3 : decode cX7_isRow 3 = .ok (.ldc2_w 58, 3) := by decide +kernel
theorem dX7_isRow_6 : decode cX7_isRow 6 = .ok (.invokestatic 60, 3) := by decide +kernel
theorem dX7_isRow_9 : decode cX7_isRow 9 = .ok (.ireturn, 1) := by decide +kernel
theorem dX7_row_0 : decode cX7_row 0 = .ok (.aload_n 0, 1) := by decide +kernel
theorem dX7_row_1 : decode cX7_row 1 = .ok (.iconst 0, 1) := by decide +kernel
theorem dX7_row_2 : decode cX7_row 2 = .ok (.putfield 50, 3) := by decide +kernel
theorem dX7_row_5 : decode cX7_row 5 = .ok (.iload_n 1, 1) := by decide +kernel
theorem dX7_row_6 : decode cX7_row 6 = .ok (.invokestatic 64, 3) := by decide +kernel
theorem dX7_row_9 : decode cX7_row 9 = .ok (.ifCond .eq 21, 3) := by decide +kernel
theorem dX7_row_12 : decode cX7_row 12 = .ok (.iload_n 2, 1) := by decide +kernel
theorem dX7_row_13 : decode cX7_row 13 = .ok (.i2l, 1) := by decide +kernel
theorem dX7_row_14 : decode cX7_row 14 = .ok (.lconst 0, 1) := by decide +kernel
theorem dX7_row_15 : decode cX7_row 15 = .ok (.ldc2_w 68, 3) := by decide +kernel
theorem dX7_row_18 : decode cX7_row 18 = .ok (.invokestatic 60, 3) := by decide +kernel
theorem dX7_row_21 : decode cX7_row 21 = .ok (.ifCond .eq 9, 3) := by decide +kernel
theorem dX7_row_24 : decode cX7_row 24 = .ok (.iload_n 3, 1) := by decide +kernel
theorem dX7_row_25 : decode cX7_row 25 = .ok (.bipush 40, 2) := by decide +kernel
theorem dX7_row_27 : decode cX7_row 27 = .ok (.if_icmp .le 6, 3) := by decide +kernel
theorem dX7_row_30 : decode cX7_row 30 = .ok (.ldc 70, 2) := by decide +kernel
theorem dX7_row_32 : decode cX7_row 32 = .ok (.ireturn, 1) := by decide +kernel
theorem dX7_row_33 : decode cX7_row 33 = .ok (.aload_n 0, 1) := by decide +kernel
theorem dX7_row_34 : decode cX7_row 34 = .ok (.iconst 0, 1) := by decide +kernel
theorem dX7_row_35 : decode cX7_row 35 = .ok (.putfield 54, 3) := by decide +kernel
theorem dX7_row_38 : decode cX7_row 38 = .ok (.iload_n 3, 1) := by decide +kernel
theorem dX7_row_39 : decode cX7_row 39 = .ok (.ifCond .ge 9, 3) := by decide +kernel
theorem dX7_row_42 : decode cX7_row 42 = .ok (.aload_n 0, 1) := by decide +kernel
theorem dX7_row_43 : decode cX7_row 43 = .ok (.iconst 4, 1) := by decide +kernel
theorem dX7_row_44 : decode cX7_row 44 = .ok (.invokevirtual 71, 3) := by decide +kernel
theorem dX7_row_47 : decode cX7_row 47 = .ok (.ireturn, 1) := by decide +kernel
theorem dX7_row_48 : decode cX7_row 48 = .ok (.aload_n 0, 1) := by decide +kernel
theorem dX7_row_49 : decode cX7_row 49 = .ok (.getfield 7, 3) := by decide +kernel
theorem dX7_row_52 : decode cX7_row 52 = .ok (.iload_n 1, 1) := by decide +kernel
theorem dX7_row_53 : decode cX7_row 53 = .ok (.iload_n 2, 1) := by decide +kernel
theorem dX7_row_54 : decode cX7_row 54 = .ok (.iastore, 1) := by decide +kernel
theorem dX7_row_55 : decode cX7_row 55 = .ok (.aload_n 0, 1) := by decide +kernel
theorem dX7_row_56 : decode cX7_row 56 = .ok (.getfield 13, 3) := by decide +kernel
theorem dX7_row_59 : decode cX7_row 59 = .ok (.iload_n 1, 1) := by decide +kernel
theorem dX7_row_60 : decode cX7_row 60 = .ok (.iload_n 3, 1) := by decide +kernel
theorem dX7_row_61 : decode cX7_row 61 = .ok (.iastore, 1) := by decide +kernel
theorem dX7_row_62 : decode cX7_row 62 = .ok (.iconst 0, 1) := by decide +kernel
theorem dX7_row_63 : decode cX7_row 63 = .ok (.istore 4, 2) := by decide +kernel
theorem dX7_row_65 : decode cX7_row 65 = .ok (.iload 4, 2) := by decide +kernel
theorem dX7_row_67 : decode cX7_row 67 = .ok (.bipush 40, 2) := by decide +kernel
theorem dX7_row_69 : decode cX7_row 69 = .ok (.if_icmp .ge 22, 3) := by decide +kernel
theorem dX7_row_72 : decode cX7_row 72 = .ok (.aload_n 0, 1) := by decide +kernel
theorem dX7_row_73 : decode cX7_row 73 = .ok (.getfield 16, 3) := by decide +kernel
theorem dX7_row_76 : decode cX7_row 76 = .ok (.bipush 40, 2) := by decide +kernel
theorem dX7_row_78 : decode cX7_row 78 = .ok (.iload_n 1, 1) := by decide +kernel
theorem dX7_row_79 : decode cX7_row 79 = .ok (.imul, 1) := by decide +kernel
theorem dX7_row_80 : decode cX7_row 80 = .ok (.iload 4, 2) := by decide +kernel
theorem dX7_row_82 : decode cX7_row 82 = .ok (.iadd, 1) := by decide +kernel
theorem dX7_row_83 : decode cX7_row 83 = .ok (.iconst 0, 1) := by decide +kernel
theorem dX7_row_84 : decode cX7_row 84 = .ok (.iastore, 1) := by decide +kernel
theorem dX7_row_85 : decode cX7_row 85 = .ok (.iinc 4 1, 3) := by decide +kernel
theorem dX7_row_88 : decode cX7_row 88 = .ok (.goto (-23), 3) := by decide +kernel
theorem dX7_row_91 : decode cX7_row 91 = .ok (.iload_n 3, 1) := by decide +kernel
theorem dX7_row_92 : decode cX7_row 92 = .ok (.ireturn, 1) := by decide +kernel
theorem dX7_set_0 : decode cX7_set 0 = .ok (.aload_n 0, 1) := by decide +kernel
theorem dX7_set_1 : decode cX7_set 1 = .ok (.iconst 0, 1) := by decide +kernel
theorem dX7_set_2 : decode cX7_set 2 = .ok (.putfield 50, 3) := by decide +kernel
theorem dX7_set_5 : decode cX7_set 5 = .ok (.iload_n 1, 1) := by decide +kernel
theorem dX7_set_6 : decode cX7_set 6 = .ok (.invokestatic 64, 3) := by decide +kernel
theorem dX7_set_9 : decode cX7_set 9 = .ok (.ifCond .ne 6, 3) := by decide +kernel
theorem dX7_set_12 : decode cX7_set 12 = .ok (.ldc 70, 2) := by decide +kernel
theorem dX7_set_14 : decode cX7_set 14 = .ok (.ireturn, 1) := by decide +kernel
theorem dX7_set_15 : decode cX7_set 15 = .ok (.aload_n 0, 1) := by decide +kernel
theorem dX7_set_16 : decode cX7_set 16 = .ok (.iconst 0, 1) := by decide +kernel
theorem dX7_set_17 : decode cX7_set 17 = .ok (.putfield 54, 3) := by decide +kernel
theorem dX7_set_20 : decode cX7_set 20 = .ok (.aload_n 0, 1) := by decide +kernel
theorem dX7_set_21 : decode cX7_set 21 = .ok (.getfield 7, 3) := by decide +kernel
theorem dX7_set_24 : decode cX7_set 24 = .ok (.iload_n 1, 1) := by decide +kernel
theorem dX7_set_25 : decode cX7_set 25 = .ok (.iaload, 1) := by decide +kernel
theorem dX7_set_26 : decode cX7_set 26 = .ok (.ifCond .ge 9, 3) := by decide +kernel
theorem dX7_set_29 : decode cX7_set 29 = .ok (.aload_n 0, 1) := by decide +kernel
theorem dX7_set_30 : decode cX7_set 30 = .ok (.iconst 1, 1) := by decide +kernel
theorem dX7_set_31 : decode cX7_set 31 = .ok (.invokevirtual 71, 3) := by decide +kernel
theorem dX7_set_34 : decode cX7_set 34 = .ok (.ireturn, 1) := by decide +kernel
theorem dX7_set_35 : decode cX7_set 35 = .ok (.iload_n 2, 1) := by decide +kernel
theorem dX7_set_36 : decode cX7_set 36 = .ok (.i2l, 1) := by decide +kernel
theorem dX7_set_37 : decode cX7_set 37 = .ok (.lconst 0, 1) := by decide +kernel
theorem dX7_set_38 : decode cX7_set 38 = .ok (.aload_n 0, 1) := by decide +kernel
theorem dX7_set_39 : decode cX7_set 39 = .ok (.getfield 13, 3) := by decide +kernel
theorem dX7_set_42 : decode cX7_set 42 = .ok (.iload_n 1, 1) := by decide +kernel
theorem dX7_set_43 : decode cX7_set 43 = .ok (.iaload, 1) := by decide +kernel
theorem dX7_set_44 : decode cX7_set 44 = .ok (.iconst 1, 1) := by decide +kernel
theorem dX7_set_45 : decode cX7_set 45 = .ok (.isub, 1) := by decide +kernel
theorem dX7_set_46 : decode cX7_set 46 = .ok (.i2l, 1) := by decide +kernel
theorem dX7_set_47 : decode cX7_set 47 = .ok (.invokestatic 60, 3) := by decide +kernel
theorem dX7_set_50 : decode cX7_set 50 = .ok (.ifCond .ne 9, 3) := by decide +kernel
theorem dX7_set_53 : decode cX7_set 53 = .ok (.aload_n 0, 1) := by decide +kernel
theorem dX7_set_54 : decode cX7_set 54 = .ok (.iconst 2, 1) := by decide +kernel
theorem dX7_set_55 : decode cX7_set 55 = .ok (.invokevirtual 71, 3) := by decide +kernel
theorem dX7_set_58 : decode cX7_set 58 = .ok (.ireturn, 1) := by decide +kernel
theorem dX7_set_59 : decode cX7_set 59 = .ok (.aload_n 0, 1) := by decide +kernel
theorem dX7_set_60 : decode cX7_set 60 = .ok (.getfield 16, 3) := by decide +kernel
theorem dX7_set_63 : decode cX7_set 63 = .ok (.bipush 40, 2) := by decide +kernel
theorem dX7_set_65 : decode cX7_set 65 = .ok (.iload_n 1, 1) := by decide +kernel
theorem dX7_set_66 : decode cX7_set 66 = .ok (.imul, 1) := by decide +kernel
theorem dX7_set_67 : decode cX7_set 67 = .ok (.iload_n 2, 1) := by decide +kernel
theorem dX7_set_68 : decode cX7_set 68 = .ok (.iadd, 1) := by decide +kernel
theorem dX7_set_69 : decode cX7_set 69 = .ok (.aload_n 0, 1) := by decide +kernel
theorem dX7_set_70 : decode cX7_set 70 = .ok (.getfield 7, 3) := by decide +kernel
theorem dX7_set_73 : decode cX7_set 73 = .ok (.iload_n 1, 1) := by decide +kernel
theorem dX7_set_74 : decode cX7_set 74 = .ok (.iaload, 1) := by decide +kernel
theorem dX7_set_75 : decode cX7_set 75 = .ok (.ifCond .ne 8, 3) := by decide +kernel
theorem dX7_set_78 : decode cX7_set 78 = .ok (.iload_n 3, 1) := by decide +kernel
theorem dX7_set_79 : decode cX7_set 79 = .ok (.i2b, 1) := by decide +kernel
theorem dX7_set_80 : decode cX7_set 80 = .ok (.goto 19, 3) := by decide +kernel
theorem dX7_set_83 : decode cX7_set 83 = .ok (.aload_n 0, 1) := by decide +kernel
theorem dX7_set_84 : decode cX7_set 84 = .ok (.getfield 7, 3) := by decide +kernel
theorem dX7_set_87 : decode cX7_set 87 = .ok (.iload_n 1, 1) := by decide +kernel
theorem dX7_set_88 : decode cX7_set 88 = .ok (.iaload, 1) := by decide +kernel
theorem dX7_set_89 : decode cX7_set 89 = .ok (.iconst 1, 1) := by decide +kernel
theorem dX7_set_90 : decode cX7_set 90 = .ok (.if_icmp .ne 8, 3) := by decide +kernel
theorem dX7_set_93 : decode cX7_set 93 = .ok (.iload_n 3, 1) := by decide +kernel
theorem dX7_set_94 : decode cX7_set 94 = .ok (.i2s, 1) := by decide +kernel
theorem dX7_set_95 : decode cX7_set 95 = .ok (.goto 4, 3) := by decide +kernel
theorem dX7_set_98 : decode cX7_set 98 = .ok (.iload_n 3, 1) := by decide +kernel
theorem dX7_set_99 : decode cX7_set 99 = .ok (.iastore, 1) := by decide +kernel
theorem dX7_set_100 : decode cX7_set 100 = .ok (.aload_n 0, 1) := by decide +kernel
theorem dX7_set_101 : decode cX7_set 101 = .ok (.getfield 16, 3) := by decide +kernel
theorem dX7_set_104 : decode cX7_set 104 = .ok (.bipush 40, 2) := by decide +kernel
theorem dX7_set_106 : decode cX7_set 106 = .ok (.iload_n 1, 1) := by decide +kernel
theorem dX7_set_107 : decode cX7_set 107 = .ok (.imul, 1) := by decide +kernel
theorem dX7_set_108 : decode cX7_set 108 = .ok (.iload_n 2, 1) := by decide +kernel
theorem dX7_set_109 : decode cX7_set 109 = .ok (.iadd, 1) := by decide +kernel
theorem dX7_set_110 : decode cX7_set 110 = .ok (.iaload, 1) := by decide +kernel
theorem dX7_set_111 : decode cX7_set 111 = .ok (.ireturn, 1) := by decide +kernel
theorem dX7_copy_0 : decode cX7_copy 0 = .ok (.aload_n 0, 1) := by decide +kernel
theorem dX7_copy_1 : decode cX7_copy 1 = .ok (.iconst 0, 1) := by decide +kernel
theorem dX7_copy_2 : decode cX7_copy 2 = .ok (.putfield 50, 3) := by decide +kernel
theorem dX7_copy_5 : decode cX7_copy 5 = .ok (.iload_n 1, 1) := by decide +kernel
theorem dX7_copy_6 : decode cX7_copy 6 = .ok (.invokestatic 64, 3) := by decide +kernel
theorem dX7_copy_9 : decode cX7_copy 9 = .ok (.ifCond .eq 10, 3) := by decide +kernel
theorem dX7_copy_12 : decode cX7_copy 12 = .ok (.iload_n 3, 1) := by decide +kernel
theorem dX7_copy_13 : decode cX7_copy 13 = .ok (.invokestatic 64, 3) := by decide +kernel
theorem dX7_copy_16 : decode cX7_copy 16 = .ok (.ifCond .ne 6, 3) := by decide +kernel
theorem dX7_copy_19 : decode cX7_copy 19 = .ok (.ldc 70, 2) := by decide +kernel
theorem dX7_copy_21 : decode cX7_copy 21 = .ok (.ireturn, 1) := by decide +kernel
theorem dX7_copy_22 : decode cX7_copy 22 = .ok (.aload_n 0, 1) := by decide +kernel
theorem dX7_copy_23 : decode cX7_copy 23 = .ok (.iconst 0, 1) := by decide +kernel
theorem dX7_copy_24 : decode cX7_copy 24 = .ok (.putfield 54, 3) := by decide +kernel
theorem dX7_copy_27 : decode cX7_copy 27 = .ok (.aload_n 0, 1) := by decide +kernel
theorem dX7_copy_28 : decode cX7_copy 28 = .ok (.getfield 7, 3) := by decide +kernel
theorem dX7_copy_31 : decode cX7_copy 31 = .ok (.iload_n 1, 1) := by decide +kernel
theorem dX7_copy_32 : decode cX7_copy 32 = .ok (.iaload, 1) := by decide +kernel
theorem dX7_copy_33 : decode cX7_copy 33 = .ok (.ifCond .lt 12, 3) := by decide +kernel
theorem dX7_copy_36 : decode cX7_copy 36 = .ok (.aload_n 0, 1) := by decide +kernel
theorem dX7_copy_37 : decode cX7_copy 37 = .ok (.getfield 7, 3) := by decide +kernel
theorem dX7_copy_40 : decode cX7_copy 40 = .ok (.iload_n 3, 1) := by decide +kernel
theorem dX7_copy_41 : decode cX7_copy 41 = .ok (.iaload, 1) := by decide +kernel
theorem dX7_copy_42 : decode cX7_copy 42 = .ok (.ifCond .ge 9, 3) := by decide +kernel
theorem dX7_copy_45 : decode cX7_copy 45 = .ok (.aload_n 0, 1) := by decide +kernel
theorem dX7_copy_46 : decode cX7_copy 46 = .ok (.iconst 1, 1) := by decide +kernel
theorem dX7_copy_47 : decode cX7_copy 47 = .ok (.invokevirtual 71, 3) := by decide +kernel
theorem dX7_copy_50 : decode cX7_copy 50 = .ok (.ireturn, 1) := by decide +kernel
theorem dX7_copy_51 : decode cX7_copy 51 = .ok (.aload_n 0, 1) := by decide +kernel
theorem dX7_copy_52 : decode cX7_copy 52 = .ok (.getfield 7, 3) := by decide +kernel
theorem dX7_copy_55 : decode cX7_copy 55 = .ok (.iload_n 1, 1) := by decide +kernel
theorem dX7_copy_56 : decode cX7_copy 56 = .ok (.iaload, 1) := by decide +kernel
theorem dX7_copy_57 : decode cX7_copy 57 = .ok (.aload_n 0, 1) := by decide +kernel
theorem dX7_copy_58 : decode cX7_copy 58 = .ok (.getfield 7, 3) := by decide +kernel
theorem dX7_copy_61 : decode cX7_copy 61 = .ok (.iload_n 3, 1) := by decide +kernel
theorem dX7_copy_62 : decode cX7_copy 62 = .ok (.iaload, 1) := by decide +kernel
theorem dX7_copy_63 : decode cX7_copy 63 = .ok (.if_icmp .eq 9, 3) := by decide +kernel
theorem dX7_copy_66 : decode cX7_copy 66 = .ok (.aload_n 0, 1) := by decide +kernel
theorem dX7_copy_67 : decode cX7_copy 67 = .ok (.iconst 5, 1) := by decide +kernel
theorem dX7_copy_68 : decode cX7_copy 68 = .ok (.invokevirtual 71, 3) := by decide +kernel
theorem dX7_copy_71 : decode cX7_copy 71 = .ok (.ireturn, 1) := by decide +kernel
theorem dX7_copy_72 : decode cX7_copy 72 = .ok (.iload_n 2, 1) := by decide +kernel
theorem dX7_copy_73 : decode cX7_copy 73 = .ok (.ifCond .lt 48, 3) := by decide +kernel
theorem dX7_copy_76 : decode cX7_copy 76 = .ok (.iload 4, 2) := by decide +kernel
theorem dX7_copy_78 : decode cX7_copy 78 = .ok (.ifCond .lt 43, 3) := by decide +kernel
theorem dX7_copy_81 : decode cX7_copy 81 = .ok (.iload 5, 2) := by decide +kernel
theorem dX7_copy_83 : decode cX7_copy 83 = .ok (.ifCond .lt 38, 3) := by decide +kernel
theorem dX7_copy_86 : decode cX7_copy 86 = .ok (.iload_n 2, 1) := by decide +kernel
theorem dX7_copy_87 : decode cX7_copy 87 = .ok (.i2l, 1) := by decide +kernel
theorem dX7_copy_88 : decode cX7_copy 88 = .ok (.iload 5, 2) := by decide +kernel
theorem dX7_copy_90 : decode cX7_copy 90 = .ok (.i2l, 1) := by decide +kernel
theorem dX7_copy_91 : decode cX7_copy 91 = .ok (.ladd, 1) := by decide +kernel
theorem dX7_copy_92 : decode cX7_copy 92 = .ok (.aload_n 0, 1) := by decide +kernel
theorem dX7_copy_93 : decode cX7_copy 93 = .ok (.getfield 13, 3) := by decide +kernel
theorem dX7_copy_96 : decode cX7_copy 96 = .ok (.iload_n 1, 1) := by decide +kernel
theorem dX7_copy_97 : decode cX7_copy 97 = .ok (.iaload, 1) := by decide +kernel
theorem dX7_copy_98 : decode cX7_copy 98 = .ok (.i2l, 1) := by decide +kernel
theorem dX7_copy_99 : decode cX7_copy 99 = .ok (.lcmp, 1) := by decide +kernel
theorem dX7_copy_100 : decode cX7_copy 100 = .ok (.ifCond .gt 21, 3) := by decide +kernel
theorem dX7_copy_103 : decode cX7_copy 103 = .ok (.iload 4, 2) := by decide +kernel
theorem dX7_copy_105 : decode cX7_copy 105 = .ok (.i2l, 1) := by decide +kernel
theorem dX7_copy_106 : decode cX7_copy 106 = .ok (.iload 5, 2) := by decide +kernel
theorem dX7_copy_108 : decode cX7_copy 108 = .ok (.i2l, 1) := by decide +kernel
theorem dX7_copy_109 : decode cX7_copy 109 = .ok (.ladd, 1) := by decide +kernel
theorem dX7_copy_110 : decode cX7_copy 110 = .ok (.aload_n 0, 1) := by decide +kernel
theorem dX7_copy_111 : decode cX7_copy 111 = .ok (.getfield 13, 3) := by decide +kernel
theorem dX7_copy_114 : decode cX7_copy 114 = .ok (.iload_n 3, 1) := by decide +kernel
theorem dX7_copy_115 : decode cX7_copy 115 = .ok (.iaload, 1) := by decide +kernel
theorem dX7_copy_116 : decode cX7_copy 116 = .ok (.i2l, 1) := by decide +kernel
theorem dX7_copy_117 : decode cX7_copy 117 = .ok (.lcmp, 1) := by decide +kernel
theorem dX7_copy_118 : decode cX7_copy 118 = .ok (.ifCond .le 9, 3) := by decide +kernel
theorem dX7_copy_121 : decode cX7_copy 121 = .ok (.aload_n 0, 1) := by decide +kernel
theorem dX7_copy_122 : decode cX7_copy 122 = .ok (.iconst 2, 1) := by decide +kernel
theorem dX7_copy_123 : decode cX7_copy 123 = .ok (.invokevirtual 71, 3) := by decide +kernel
theorem dX7_copy_126 : decode cX7_copy 126 = .ok (.ireturn, 1) := by decide +kernel
theorem dX7_copy_127 : decode cX7_copy 127 = .ok (.iload_n 2, 1) := by decide +kernel
theorem dX7_copy_128 : decode cX7_copy 128 = .ok (.iload 4, 2) := by decide +kernel
theorem dX7_copy_130 : decode cX7_copy 130 = .ok (.if_icmp .lt 7, 3) := by decide +kernel
theorem dX7_copy_133 : decode cX7_copy 133 = .ok (.iconst 1, 1) := by decide +kernel
theorem dX7_copy_134 : decode cX7_copy 134 = .ok (.goto 4, 3) := by decide +kernel
theorem dX7_copy_137 : decode cX7_copy 137 = .ok (.iconst 0, 1) := by decide +kernel
theorem dX7_copy_138 : decode cX7_copy 138 = .ok (.istore 6, 2) := by decide +kernel
theorem dX7_copy_140 : decode cX7_copy 140 = .ok (.iconst 0, 1) := by decide +kernel
theorem dX7_copy_141 : decode cX7_copy 141 = .ok (.istore 7, 2) := by decide +kernel
theorem dX7_copy_143 : decode cX7_copy 143 = .ok (.iload 7, 2) := by decide +kernel
theorem dX7_copy_145 : decode cX7_copy 145 = .ok (.iload 5, 2) := by decide +kernel
theorem dX7_copy_147 : decode cX7_copy 147 = .ok (.if_icmp .ge 57, 3) := by decide +kernel
theorem dX7_copy_150 : decode cX7_copy 150 = .ok (.iload 6, 2) := by decide +kernel
theorem dX7_copy_152 : decode cX7_copy 152 = .ok (.ifCond .eq 8, 3) := by decide +kernel
theorem dX7_copy_155 : decode cX7_copy 155 = .ok (.iload 7, 2) := by decide +kernel
theorem dX7_copy_157 : decode cX7_copy 157 = .ok (.goto 10, 3) := by decide +kernel
theorem dX7_copy_160 : decode cX7_copy 160 = .ok (.iload 5, 2) := by decide +kernel
theorem dX7_copy_162 : decode cX7_copy 162 = .ok (.iconst 1, 1) := by decide +kernel
theorem dX7_copy_163 : decode cX7_copy 163 = .ok (.isub, 1) := by decide +kernel
theorem dX7_copy_164 : decode cX7_copy 164 = .ok (.iload 7, 2) := by decide +kernel
theorem dX7_copy_166 : decode cX7_copy 166 = .ok (.isub, 1) := by decide +kernel
theorem dX7_copy_167 : decode cX7_copy 167 = .ok (.istore 8, 2) := by decide +kernel
theorem dX7_copy_169 : decode cX7_copy 169 = .ok (.aload_n 0, 1) := by decide +kernel
theorem dX7_copy_170 : decode cX7_copy 170 = .ok (.getfield 16, 3) := by decide +kernel
theorem dX7_copy_173 : decode cX7_copy 173 = .ok (.bipush 40, 2) := by decide +kernel
theorem dX7_copy_175 : decode cX7_copy 175 = .ok (.iload_n 3, 1) := by decide +kernel
theorem dX7_copy_176 : decode cX7_copy 176 = .ok (.imul, 1) := by decide +kernel
theorem dX7_copy_177 : decode cX7_copy 177 = .ok (.iload 4, 2) := by decide +kernel
theorem dX7_copy_179 : decode cX7_copy 179 = .ok (.iadd, 1) := by decide +kernel
theorem dX7_copy_180 : decode cX7_copy 180 = .ok (.iload 8, 2) := by decide +kernel
theorem dX7_copy_182 : decode cX7_copy 182 = .ok (.iadd, 1) := by decide +kernel
theorem dX7_copy_183 : decode cX7_copy 183 = .ok (.aload_n 0, 1) := by decide +kernel
theorem dX7_copy_184 : decode cX7_copy 184 = .ok (.getfield 16, 3) := by decide +kernel
theorem dX7_copy_187 : decode cX7_copy 187 = .ok (.bipush 40, 2) := by decide +kernel
theorem dX7_copy_189 : decode cX7_copy 189 = .ok (.iload_n 1, 1) := by decide +kernel
theorem dX7_copy_190 : decode cX7_copy 190 = .ok (.imul, 1) := by decide +kernel
theorem dX7_copy_191 : decode cX7_copy 191 = .ok (.iload_n 2, 1) := by decide +kernel
theorem dX7_copy_192 : decode cX7_copy 192 = .ok (.iadd, 1) := by decide +kernel
theorem dX7_copy_193 : decode cX7_copy 193 = .ok (.iload 8, 2) := by decide +kernel
theorem dX7_copy_195 : decode cX7_copy 195 = .ok (.iadd, 1) := by decide +kernel
theorem dX7_copy_196 : decode cX7_copy 196 = .ok (.iaload, 1) := by decide +kernel
theorem dX7_copy_197 : decode cX7_copy 197 = .ok (.iastore, 1) := by decide +kernel
theorem dX7_copy_198 : decode cX7_copy 198 = .ok (.iinc 7 1, 3) := by decide +kernel
theorem dX7_copy_201 : decode cX7_copy 201 = .ok (.goto (-58), 3) := by decide +kernel
theorem dX7_copy_204 : decode cX7_copy 204 = .ok (.iload 5, 2) := by decide +kernel
theorem dX7_copy_206 : decode cX7_copy 206 = .ok (.ireturn, 1) := by decide +kernel
theorem dX7_drop_0 : decode cX7_drop 0 = .ok (.aload_n 0, 1) := by decide +kernel
theorem dX7_drop_1 : decode cX7_drop 1 = .ok (.iconst 0, 1) := by decide +kernel
theorem dX7_drop_2 : decode cX7_drop 2 = .ok (.putfield 50, 3) := by decide +kernel
theorem dX7_drop_5 : decode cX7_drop 5 = .ok (.iload_n 1, 1) := by decide +kernel
theorem dX7_drop_6 : decode cX7_drop 6 = .ok (.invokestatic 64, 3) := by decide +kernel
theorem dX7_drop_9 : decode cX7_drop 9 = .ok (.ifCond .ne 6, 3) := by decide +kernel
theorem dX7_drop_12 : decode cX7_drop 12 = .ok (.ldc 70, 2) := by decide +kernel
theorem dX7_drop_14 : decode cX7_drop 14 = .ok (.ireturn, 1) := by decide +kernel
theorem dX7_drop_15 : decode cX7_drop 15 = .ok (.aload_n 0, 1) := by decide +kernel
theorem dX7_drop_16 : decode cX7_drop 16 = .ok (.iconst 0, 1) := by decide +kernel
theorem dX7_drop_17 : decode cX7_drop 17 = .ok (.putfield 54, 3) := by decide +kernel
theorem dX7_drop_20 : decode cX7_drop 20 = .ok (.aload_n 0, 1) := by decide +kernel
theorem dX7_drop_21 : decode cX7_drop 21 = .ok (.getfield 7, 3) := by decide +kernel
theorem dX7_drop_24 : decode cX7_drop 24 = .ok (.iload_n 1, 1) := by decide +kernel
theorem dX7_drop_25 : decode cX7_drop 25 = .ok (.iaload, 1) := by decide +kernel
theorem dX7_drop_26 : decode cX7_drop 26 = .ok (.ifCond .ge 9, 3) := by decide +kernel
theorem dX7_drop_29 : decode cX7_drop 29 = .ok (.aload_n 0, 1) := by decide +kernel
theorem dX7_drop_30 : decode cX7_drop 30 = .ok (.iconst 1, 1) := by decide +kernel
theorem dX7_drop_31 : decode cX7_drop 31 = .ok (.invokevirtual 71, 3) := by decide +kernel
theorem dX7_drop_34 : decode cX7_drop 34 = .ok (.ireturn, 1) := by decide +kernel
theorem dX7_drop_35 : decode cX7_drop 35 = .ok (.aload_n 0, 1) := by decide +kernel
theorem dX7_drop_36 : decode cX7_drop 36 = .ok (.getfield 7, 3) := by decide +kernel
theorem dX7_drop_39 : decode cX7_drop 39 = .ok (.iload_n 1, 1) := by decide +kernel
theorem dX7_drop_40 : decode cX7_drop 40 = .ok (.iconst (-1), 1) := by decide +kernel
theorem dX7_drop_41 : decode cX7_drop 41 = .ok (.iastore, 1) := by decide +kernel
theorem dX7_drop_42 : decode cX7_drop 42 = .ok (.aload_n 0, 1) := by decide +kernel
theorem dX7_drop_43 : decode cX7_drop 43 = .ok (.getfield 13, 3) := by decide +kernel
theorem dX7_drop_46 : decode cX7_drop 46 = .ok (.iload_n 1, 1) := by decide +kernel
theorem dX7_drop_47 : decode cX7_drop 47 = .ok (.iaload, 1) := by decide +kernel
theorem dX7_drop_48 : decode cX7_drop 48 = .ok (.ireturn, 1) := by decide +kernel
theorem dX7_feed_0 : decode cX7_feed 0 = .ok (.aload_n 0, 1) := by decide +kernel
theorem dX7_feed_1 : decode cX7_feed 1 = .ok (.iconst 0, 1) := by decide +kernel
theorem dX7_feed_2 : decode cX7_feed 2 = .ok (.putfield 50, 3) := by decide +kernel
theorem dX7_feed_5 : decode cX7_feed 5 = .ok (.iload_n 1, 1) := by decide +kernel
theorem dX7_feed_6 : decode cX7_feed 6 = .ok (.i2l, 1) := by decide +kernel
theorem dX7_feed_7 : decode cX7_feed 7 = .ok (.lconst 0, 1) := by decide +kernel
theorem dX7_feed_8 : decode cX7_feed 8 = .ok (.ldc2_w 75, 3) := by decide +kernel
theorem dX7_feed_11 : decode cX7_feed 11 = .ok (.invokestatic 60, 3) := by decide +kernel
theorem dX7_feed_14 : decode cX7_feed 14 = .ok (.ifCond .ne 6, 3) := by decide +kernel
