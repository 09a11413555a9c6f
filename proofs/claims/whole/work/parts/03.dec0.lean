theorem dX0_init_0 : decode cX0_init 0 = .ok (.aload_n 0, 1) := by decide +kernel
theorem dX0_init_1 : decode cX0_init 1 = .ok (.invokespecial 3, 3) := by decide +kernel
theorem dX0_init_4 : decode cX0_init 4 = .ok (.aload_n 0, 1) := by decide +kernel
theorem dX0_init_5 : decode cX0_init 5 = .ok (.iconst 0, 1) := by decide +kernel
theorem dX0_init_6 : decode cX0_init 6 = .ok (.putfield 9, 3) := by decide +kernel
theorem dX0_init_9 : decode cX0_init 9 = .ok (.aload_n 0, 1) := by decide +kernel
theorem dX0_init_10 : decode cX0_init 10 = .ok (.iconst 0, 1) := by decide +kernel
theorem dX0_init_11 : decode cX0_init 11 = .ok (.putfield 15, 3) := by decide +kernel
theorem dX0_init_14 : decode cX0_init 14 = .ok (.aload_n 0, 1) := by decide +kernel
theorem dX0_init_15 : decode cX0_init 15 = .ok (.bipush 24, 2) := by decide +kernel
theorem dX0_init_17 : decode cX0_init 17 = .ok (.newarray .int, 2) := by decide +kernel
theorem dX0_init_19 : decode cX0_init 19 = .ok (.putfield 18, 3) := by decide +kernel
theorem dX0_init_22 : decode cX0_init 22 = .ok (.aload_n 0, 1) := by decide +kernel
theorem dX0_init_23 : decode cX0_init 23 = .ok (.bipush 24, 2) := by decide +kernel
theorem dX0_init_25 : decode cX0_init 25 = .ok (.newarray .int, 2) := by decide +kernel
theorem dX0_init_27 : decode cX0_init 27 = .ok (.putfield 22, 3) := by decide +kernel
theorem dX0_init_30 : decode cX0_init 30 = .ok (.aload_n 0, 1) := by decide +kernel
theorem dX0_init_31 : decode cX0_init 31 = .ok (.bipush 24, 2) := by decide +kernel
theorem dX0_init_33 : decode cX0_init 33 = .ok (.newarray .int, 2) := by decide +kernel
theorem dX0_init_35 : decode cX0_init 35 = .ok (.putfield 25, 3) := by decide +kernel
theorem dX0_init_38 : decode cX0_init 38 = .ok (.aload_n 0, 1) := by decide +kernel
theorem dX0_init_39 : decode cX0_init 39 = .ok (.sipush 144, 3) := by decide +kernel
theorem dX0_init_42 : decode cX0_init 42 = .ok (.newarray .int, 2) := by decide +kernel
theorem dX0_init_44 : decode cX0_init 44 = .ok (.putfield 28, 3) := by decide +kernel
theorem dX0_init_47 : decode cX0_init 47 = .ok (.aload_n 0, 1) := by decide +kernel
theorem dX0_init_48 : decode cX0_init 48 = .ok (.sipush 144, 3) := by decide +kernel
theorem dX0_init_51 : decode cX0_init 51 = .ok (.newarray .int, 2) := by decide +kernel
theorem dX0_init_53 : decode cX0_init 53 = .ok (.putfield 31, 3) := by decide +kernel
theorem dX0_init_56 : decode cX0_init 56 = .ok (.aload_n 0, 1) := by decide +kernel
theorem dX0_init_57 : decode cX0_init 57 = .ok (.sipush 144, 3) := by decide +kernel
theorem dX0_init_60 : decode cX0_init 60 = .ok (.newarray .int, 2) := by decide +kernel
theorem dX0_init_62 : decode cX0_init 62 = .ok (.putfield 34, 3) := by decide +kernel
theorem dX0_init_65 : decode cX0_init 65 = .ok (.return_, 1) := by decide +kernel
theorem dX0_forgetAll_0 : decode cX0_forgetAll 0 = .ok (.aload_n 0, 1) := by decide +kernel
theorem dX0_forgetAll_1 : decode cX0_forgetAll 1 = .ok (.iconst 0, 1) := by decide +kernel
theorem dX0_forgetAll_2 : decode cX0_forgetAll 2 = .ok (.putfield 9, 3) := by decide +kernel
theorem dX0_forgetAll_5 : decode cX0_forgetAll 5 = .ok (.return_, 1) := by decide +kernel
theorem dX0_keep_0 : decode cX0_keep 0 = .ok (.aload_n 0, 1) := by decide +kernel
theorem dX0_keep_1 : decode cX0_keep 1 = .ok (.getfield 18, 3) := by decide +kernel
theorem dX0_keep_4 : decode cX0_keep 4 = .ok (.aload_n 0, 1) := by decide +kernel
theorem dX0_keep_5 : decode cX0_keep 5 = .ok (.getfield 15, 3) := by decide +kernel
theorem dX0_keep_8 : decode cX0_keep 8 = .ok (.iload_n 1, 1) := by decide +kernel
theorem dX0_keep_9 : decode cX0_keep 9 = .ok (.iastore, 1) := by decide +kernel
theorem dX0_keep_10 : decode cX0_keep 10 = .ok (.aload_n 0, 1) := by decide +kernel
theorem dX0_keep_11 : decode cX0_keep 11 = .ok (.getfield 22, 3) := by decide +kernel
theorem dX0_keep_14 : decode cX0_keep 14 = .ok (.aload_n 0, 1) := by decide +kernel
theorem dX0_keep_15 : decode cX0_keep 15 = .ok (.getfield 15, 3) := by decide +kernel
theorem dX0_keep_18 : decode cX0_keep 18 = .ok (.iload_n 2, 1) := by decide +kernel
theorem dX0_keep_19 : decode cX0_keep 19 = .ok (.iastore, 1) := by decide +kernel
theorem dX0_keep_20 : decode cX0_keep 20 = .ok (.iload_n 1, 1) := by decide +kernel
theorem dX0_keep_21 : decode cX0_keep 21 = .ok (.iconst 1, 1) := by decide +kernel
theorem dX0_keep_22 : decode cX0_keep 22 = .ok (.if_icmp .ne 21, 3) := by decide +kernel
theorem dX0_keep_25 : decode cX0_keep 25 = .ok (.aload_n 0, 1) := by decide +kernel
theorem dX0_keep_26 : decode cX0_keep 26 = .ok (.getfield 25, 3) := by decide +kernel
theorem dX0_keep_29 : decode cX0_keep 29 = .ok (.aload_n 0, 1) := by decide +kernel
theorem dX0_keep_30 : decode cX0_keep 30 = .ok (.getfield 15, 3) := by decide +kernel
theorem dX0_keep_33 : decode cX0_keep 33 = .ok (.aload_n 3, 1) := by decide +kernel
theorem dX0_keep_34 : decode cX0_keep 34 = .ok (.getfield 37, 3) := by decide +kernel
theorem dX0_keep_37 : decode cX0_keep 37 = .ok (.iload_n 2, 1) := by decide +kernel
theorem dX0_keep_38 : decode cX0_keep 38 = .ok (.iaload, 1) := by decide +kernel
theorem dX0_keep_39 : decode cX0_keep 39 = .ok (.iastore, 1) := by decide +kernel
theorem dX0_keep_40 : decode cX0_keep 40 = .ok (.goto 36, 3) := by decide +kernel
theorem dX0_keep_43 : decode cX0_keep 43 = .ok (.iload_n 1, 1) := by decide +kernel
theorem dX0_keep_44 : decode cX0_keep 44 = .ok (.iconst 2, 1) := by decide +kernel
theorem dX0_keep_45 : decode cX0_keep 45 = .ok (.if_icmp .ne 21, 3) := by decide +kernel
theorem dX0_keep_48 : decode cX0_keep 48 = .ok (.aload_n 0, 1) := by decide +kernel
theorem dX0_keep_49 : decode cX0_keep 49 = .ok (.getfield 25, 3) := by decide +kernel
theorem dX0_keep_52 : decode cX0_keep 52 = .ok (.aload_n 0, 1) := by decide +kernel
theorem dX0_keep_53 : decode cX0_keep 53 = .ok (.getfield 15, 3) := by decide +kernel
theorem dX0_keep_56 : decode cX0_keep 56 = .ok (.aload_n 3, 1) := by decide +kernel
theorem dX0_keep_57 : decode cX0_keep 57 = .ok (.getfield 42, 3) := by decide +kernel
theorem dX0_keep_60 : decode cX0_keep 60 = .ok (.iload_n 2, 1) := by decide +kernel
theorem dX0_keep_61 : decode cX0_keep 61 = .ok (.iaload, 1) := by decide +kernel
theorem dX0_keep_62 : decode cX0_keep 62 = .ok (.iastore, 1) := by decide +kernel
theorem dX0_keep_63 : decode cX0_keep 63 = .ok (.goto 13, 3) := by decide +kernel
theorem dX0_keep_66 : decode cX0_keep 66 = .ok (.iload_n 1, 1) := by decide +kernel
theorem dX0_keep_67 : decode cX0_keep 67 = .ok (.ifCond .ne 9, 3) := by decide +kernel
theorem dX0_keep_70 : decode cX0_keep 70 = .ok (.aload_n 0, 1) := by decide +kernel
theorem dX0_keep_71 : decode cX0_keep 71 = .ok (.iload_n 2, 1) := by decide +kernel
theorem dX0_keep_72 : decode cX0_keep 72 = .ok (.aload_n 3, 1) := by decide +kernel
theorem dX0_keep_73 : decode cX0_keep 73 = .ok (.invokevirtual 45, 3) := by decide +kernel
theorem dX0_keep_76 : decode cX0_keep 76 = .ok (.aload_n 0, 1) := by decide +kernel
theorem dX0_keep_77 : decode cX0_keep 77 = .ok (.aload_n 0, 1) := by decide +kernel
theorem dX0_keep_78 : decode cX0_keep 78 = .ok (.getfield 15, 3) := by decide +kernel
theorem dX0_keep_81 : decode cX0_keep 81 = .ok (.iconst 1, 1) := by decide +kernel
theorem dX0_keep_82 : decode cX0_keep 82 = .ok (.iadd, 1) := by decide +kernel
theorem dX0_keep_83 : decode cX0_keep 83 = .ok (.bipush 24, 2) := by decide +kernel
theorem dX0_keep_85 : decode cX0_keep 85 = .ok (.if_icmp .ge 12, 3) := by decide +kernel
theorem dX0_keep_88 : decode cX0_keep 88 = .ok (.aload_n 0, 1) := by decide +kernel
theorem dX0_keep_89 : decode cX0_keep 89 = .ok (.getfield 15, 3) := by decide +kernel
theorem dX0_keep_92 : decode cX0_keep 92 = .ok (.iconst 1, 1) := by decide +kernel
theorem dX0_keep_93 : decode cX0_keep 93 = .ok (.iadd, 1) := by decide +kernel
theorem dX0_keep_94 : decode cX0_keep 94 = .ok (.goto 4, 3) := by decide +kernel
theorem dX0_keep_97 : decode cX0_keep 97 = .ok (.iconst 0, 1) := by decide +kernel
theorem dX0_keep_98 : decode cX0_keep 98 = .ok (.putfield 15, 3) := by decide +kernel
theorem dX0_keep_101 : decode cX0_keep 101 = .ok (.aload_n 0, 1) := by decide +kernel
theorem dX0_keep_102 : decode cX0_keep 102 = .ok (.bipush 24, 2) := by decide +kernel
theorem dX0_keep_104 : decode cX0_keep 104 = .ok (.aload_n 0, 1) := by decide +kernel
theorem dX0_keep_105 : decode cX0_keep 105 = .ok (.getfield 9, 3) := by decide +kernel
theorem dX0_keep_108 : decode cX0_keep 108 = .ok (.iconst 1, 1) := by decide +kernel
theorem dX0_keep_109 : decode cX0_keep 109 = .ok (.iadd, 1) := by decide +kernel
theorem dX0_keep_110 : decode cX0_keep 110 = .ok (.invokestatic 49, 3) := by decide +kernel
theorem dX0_keep_113 : decode cX0_keep 113 = .ok (.putfield 9, 3) := by decide +kernel
theorem dX0_keep_116 : decode cX0_keep 116 = .ok (.return_, 1) := by decide +kernel
theorem dX0_takeBack_0 : decode cX0_takeBack 0 = .ok (.aload_n 0, 1) := by decide +kernel
theorem dX0_takeBack_1 : decode cX0_takeBack 1 = .ok (.getfield 9, 3) := by decide +kernel
theorem dX0_takeBack_4 : decode cX0_takeBack 4 = .ok (.ifCond .ne 4, 3) := by decide +kernel
theorem dX0_takeBack_7 : decode cX0_takeBack 7 = .ok (.return_, 1) := by decide +kernel
theorem dX0_takeBack_8 : decode cX0_takeBack 8 = .ok (.aload_n 0, 1) := by decide +kernel
theorem dX0_takeBack_9 : decode cX0_takeBack 9 = .ok (.dup, 1) := by decide +kernel
theorem dX0_takeBack_10 : decode cX0_takeBack 10 = .ok (.getfield 9, 3) := by decide +kernel
theorem dX0_takeBack_13 : decode cX0_takeBack 13 = .ok (.iconst 1, 1) := by decide +kernel
theorem dX0_takeBack_14 : decode cX0_takeBack 14 = .ok (.isub, 1) := by decide +kernel
theorem dX0_takeBack_15 : decode cX0_takeBack 15 = .ok (.putfield 9, 3) := by decide +kernel
theorem dX0_takeBack_18 : decode cX0_takeBack 18 = .ok (.aload_n 0, 1) := by decide +kernel
theorem dX0_takeBack_19 : decode cX0_takeBack 19 = .ok (.aload_n 0, 1) := by decide +kernel
theorem dX0_takeBack_20 : decode cX0_takeBack 20 = .ok (.getfield 15, 3) := by decide +kernel
theorem dX0_takeBack_23 : decode cX0_takeBack 23 = .ok (.ifCond .le 12, 3) := by decide +kernel
theorem dX0_takeBack_26 : decode cX0_takeBack 26 = .ok (.aload_n 0, 1) := by decide +kernel
theorem dX0_takeBack_27 : decode cX0_takeBack 27 = .ok (.getfield 15, 3) := by decide +kernel
theorem dX0_takeBack_30 : decode cX0_takeBack 30 = .ok (.iconst 1, 1) := by decide +kernel
theorem dX0_takeBack_31 : decode cX0_takeBack 31 = .ok (.isub, 1) := by decide +kernel
theorem dX0_takeBack_32 : decode cX0_takeBack 32 = .ok (.goto 5, 3) := by decide +kernel
theorem dX0_takeBack_35 : decode cX0_takeBack 35 = .ok (.bipush 23, 2) := by decide +kernel
theorem dX0_takeBack_37 : decode cX0_takeBack 37 = .ok (.putfield 15, 3) := by decide +kernel
theorem dX0_takeBack_40 : decode cX0_takeBack 40 = .ok (.aload_n 0, 1) := by decide +kernel
theorem dX0_takeBack_41 : decode cX0_takeBack 41 = .ok (.getfield 22, 3) := by decide +kernel
theorem dX0_takeBack_44 : decode cX0_takeBack 44 = .ok (.aload_n 0, 1) := by decide +kernel
theorem dX0_takeBack_45 : decode cX0_takeBack 45 = .ok (.getfield 15, 3) := by decide +kernel
theorem dX0_takeBack_48 : decode cX0_takeBack 48 = .ok (.iaload, 1) := by decide +kernel
theorem dX0_takeBack_49 : decode cX0_takeBack 49 = .ok (.istore_n 2, 1) := by decide +kernel
theorem dX0_takeBack_50 : decode cX0_takeBack 50 = .ok (.aload_n 0, 1) := by decide +kernel
theorem dX0_takeBack_51 : decode cX0_takeBack 51 = .ok (.getfield 18, 3) := by decide +kernel
theorem dX0_takeBack_54 : decode cX0_takeBack 54 = .ok (.aload_n 0, 1) := by decide +kernel
theorem dX0_takeBack_55 : decode cX0_takeBack 55 = .ok (.getfield 15, 3) := by decide +kernel
theorem dX0_takeBack_58 : decode cX0_takeBack 58 = .ok (.iaload, 1) := by decide +kernel
theorem dX0_takeBack_59 : decode cX0_takeBack 59 = .ok (.iconst 1, 1) := by decide +kernel
theorem dX0_takeBack_60 : decode cX0_takeBack 60 = .ok (.if_icmp .ne 21, 3) := by decide +kernel
theorem dX0_takeBack_63 : decode cX0_takeBack 63 = .ok (.aload_n 1, 1) := by decide +kernel
theorem dX0_takeBack_64 : decode cX0_takeBack 64 = .ok (.getfield 37, 3) := by decide +kernel
theorem dX0_takeBack_67 : decode cX0_takeBack 67 = .ok (.iload_n 2, 1) := by decide +kernel
theorem dX0_takeBack_68 : decode cX0_takeBack 68 = .ok (.aload_n 0, 1) := by decide +kernel
theorem dX0_takeBack_69 : decode cX0_takeBack 69 = .ok (.getfield 25, 3) := by decide +kernel
theorem dX0_takeBack_72 : decode cX0_takeBack 72 = .ok (.aload_n 0, 1) := by decide +kernel
theorem dX0_takeBack_73 : decode cX0_takeBack 73 = .ok (.getfield 15, 3) := by decide +kernel
theorem dX0_takeBack_76 : decode cX0_takeBack 76 = .ok (.iaload, 1) := by decide +kernel
theorem dX0_takeBack_77 : decode cX0_takeBack 77 = .ok (.iastore, 1) := by decide +kernel
theorem dX0_takeBack_78 : decode cX0_takeBack 78 = .ok (.goto 65, 3) := by decide +kernel
theorem dX0_takeBack_81 : decode cX0_takeBack 81 = .ok (.aload_n 0, 1) := by decide +kernel
theorem dX0_takeBack_82 : decode cX0_takeBack 82 = .ok (.getfield 18, 3) := by decide +kernel
theorem dX0_takeBack_85 : decode cX0_takeBack 85 = .ok (.aload_n 0, 1) := by decide +kernel
theorem dX0_takeBack_86 : decode cX0_takeBack 86 = .ok (.getfield 15, 3) := by decide +kernel
theorem dX0_takeBack_89 : decode cX0_takeBack 89 = .ok (.iaload, 1) := by decide +kernel
theorem dX0_takeBack_90 : decode cX0_takeBack 90 = .ok (.iconst 2, 1) := by decide +kernel
theorem dX0_takeBack_91 : decode cX0_takeBack 91 = .ok (.if_icmp .ne 21, 3) := by decide +kernel
theorem dX0_takeBack_94 : decode cX0_takeBack 94 = .ok (.aload_n 1, 1) := by decide +kernel
theorem dX0_takeBack_95 : decode cX0_takeBack 95 = .ok (.getfield 42, 3) := by decide +kernel
theorem dX0_takeBack_98 : decode cX0_takeBack 98 = .ok (.iload_n 2, 1) := by decide +kernel
theorem dX0_takeBack_99 : decode cX0_takeBack 99 = .ok (.aload_n 0, 1) := by decide +kernel
theorem dX0_takeBack_100 : decode cX0_takeBack 100 = .ok (.getfield 25, 3) := by decide +kernel
theorem dX0_takeBack_103 : decode cX0_takeBack 103 = .ok (.aload_n 0, 1) := by decide +kernel
theorem dX0_takeBack_104 : decode cX0_takeBack 104 = .ok (.getfield 15, 3) := by decide +kernel
theorem dX0_takeBack_107 : decode cX0_takeBack 107 = .ok (.iaload, 1) := by decide +kernel
theorem dX0_takeBack_108 : decode cX0_takeBack 108 = .ok (.iastore, 1) := by decide +kernel
theorem dX0_takeBack_109 : decode cX0_takeBack 109 = .ok (.goto 34, 3) := by decide +kernel
theorem dX0_takeBack_112 : decode cX0_takeBack 112 = .ok (.aload_n 0, 1) := by decide +kernel
theorem dX0_takeBack_113 : decode cX0_takeBack 113 = .ok (.getfield 18, 3) := by decide +kernel
theorem dX0_takeBack_116 : decode cX0_takeBack 116 = .ok (.aload_n 0, 1) := by decide +kernel
theorem dX0_takeBack_117 : decode cX0_takeBack 117 = .ok (.getfield 15, 3) := by decide +kernel
theorem dX0_takeBack_120 : decode cX0_takeBack 120 = .ok (.iaload, 1) := by decide +kernel
theorem dX0_takeBack_121 : decode cX0_takeBack 121 = .ok (.ifCond .ne 12, 3) := by decide +kernel
theorem dX0_takeBack_124 : decode cX0_takeBack 124 = .ok (.aload_n 0, 1) := by decide +kernel
theorem dX0_takeBack_125 : decode cX0_takeBack 125 = .ok (.iload_n 2, 1) := by decide +kernel
theorem dX0_takeBack_126 : decode cX0_takeBack 126 = .ok (.aload_n 1, 1) := by decide +kernel
theorem dX0_takeBack_127 : decode cX0_takeBack 127 = .ok (.invokevirtual 55, 3) := by decide +kernel
theorem dX0_takeBack_130 : decode cX0_takeBack 130 = .ok (.goto 13, 3) := by decide +kernel
theorem dX0_takeBack_133 : decode cX0_takeBack 133 = .ok (.aload_n 1, 1) := by decide +kernel
theorem dX0_takeBack_134 : decode cX0_takeBack 134 = .ok (.dup, 1) := by decide +kernel
theorem dX0_takeBack_135 : decode cX0_takeBack 135 = .ok (.getfield 58, 3) := by decide +kernel
theorem dX0_takeBack_138 : decode cX0_takeBack 138 = .ok (.iconst 1, 1) := by decide +kernel
theorem dX0_takeBack_139 : decode cX0_takeBack 139 = .ok (.isub, 1) := by decide +kernel
theorem dX0_takeBack_140 : decode cX0_takeBack 140 = .ok (.putfield 58, 3) := by decide +kernel
theorem dX0_takeBack_143 : decode cX0_takeBack 143 = .ok (.return_, 1) := by decide +kernel
theorem dX0_keepBumps_0 : decode cX0_keepBumps 0 = .ok (.iconst 0, 1) := by decide +kernel
theorem dX0_keepBumps_1 : decode cX0_keepBumps 1 = .ok (.istore_n 3, 1) := by decide +kernel
theorem dX0_keepBumps_2 : decode cX0_keepBumps 2 = .ok (.iload_n 3, 1) := by decide +kernel
theorem dX0_keepBumps_3 : decode cX0_keepBumps 3 = .ok (.bipush 6, 2) := by decide +kernel
theorem dX0_keepBumps_5 : decode cX0_keepBumps 5 = .ok (.if_icmp .ge 80, 3) := by decide +kernel
theorem dX0_keepBumps_8 : decode cX0_keepBumps 8 = .ok (.aload_n 2, 1) := by decide +kernel
theorem dX0_keepBumps_9 : decode cX0_keepBumps 9 = .ok (.iload_n 3, 1) := by decide +kernel
theorem dX0_keepBumps_10 : decode cX0_keepBumps 10 = .ok (.iload_n 1, 1) := by decide +kernel
theorem dX0_keepBumps_11 : decode cX0_keepBumps 11 = .ok (.invokevirtual 61, 3) := by decide +kernel
theorem dX0_keepBumps_14 : decode cX0_keepBumps 14 = .ok (.istore 4, 2) := by decide +kernel
theorem dX0_keepBumps_16 : decode cX0_keepBumps 16 = .ok (.aload_n 0, 1) := by decide +kernel
theorem dX0_keepBumps_17 : decode cX0_keepBumps 17 = .ok (.getfield 28, 3) := by decide +kernel
theorem dX0_keepBumps_20 : decode cX0_keepBumps 20 = .ok (.aload_n 0, 1) := by decide +kernel
theorem dX0_keepBumps_21 : decode cX0_keepBumps 21 = .ok (.getfield 15, 3) := by decide +kernel
theorem dX0_keepBumps_24 : decode cX0_keepBumps 24 = .ok (.bipush 6, 2) := by decide +kernel
theorem dX0_keepBumps_26 : decode cX0_keepBumps 26 = .ok (.imul, 1) := by decide +kernel
theorem dX0_keepBumps_27 : decode cX0_keepBumps 27 = .ok (.iload_n 3, 1) := by decide +kernel
theorem dX0_keepBumps_28 : decode cX0_keepBumps 28 = .ok (.iadd, 1) := by decide +kernel
theorem dX0_keepBumps_29 : decode cX0_keepBumps 29 = .ok (.aload_n 2, 1) := by decide +kernel
theorem dX0_keepBumps_30 : decode cX0_keepBumps 30 = .ok (.getfield 64, 3) := by decide +kernel
theorem dX0_keepBumps_33 : decode cX0_keepBumps 33 = .ok (.iload 4, 2) := by decide +kernel
theorem dX0_keepBumps_35 : decode cX0_keepBumps 35 = .ok (.iaload, 1) := by decide +kernel
theorem dX0_keepBumps_36 : decode cX0_keepBumps 36 = .ok (.iastore, 1) := by decide +kernel
theorem dX0_keepBumps_37 : decode cX0_keepBumps 37 = .ok (.aload_n 0, 1) := by decide +kernel
theorem dX0_keepBumps_38 : decode cX0_keepBumps 38 = .ok (.getfield 31, 3) := by decide +kernel
theorem dX0_keepBumps_41 : decode cX0_keepBumps 41 = .ok (.aload_n 0, 1) := by decide +kernel
theorem dX0_keepBumps_42 : decode cX0_keepBumps 42 = .ok (.getfield 15, 3) := by decide +kernel
theorem dX0_keepBumps_45 : decode cX0_keepBumps 45 = .ok (.bipush 6, 2) := by decide +kernel
theorem dX0_keepBumps_47 : decode cX0_keepBumps 47 = .ok (.imul, 1) := by decide +kernel
theorem dX0_keepBumps_48 : decode cX0_keepBumps 48 = .ok (.iload_n 3, 1) := by decide +kernel
theorem dX0_keepBumps_49 : decode cX0_keepBumps 49 = .ok (.iadd, 1) := by decide +kernel
theorem dX0_keepBumps_50 : decode cX0_keepBumps 50 = .ok (.aload_n 2, 1) := by decide +kernel
theorem dX0_keepBumps_51 : decode cX0_keepBumps 51 = .ok (.getfield 67, 3) := by decide +kernel
theorem dX0_keepBumps_54 : decode cX0_keepBumps 54 = .ok (.iload 4, 2) := by decide +kernel
theorem dX0_keepBumps_56 : decode cX0_keepBumps 56 = .ok (.iaload, 1) := by decide +kernel
theorem dX0_keepBumps_57 : decode cX0_keepBumps 57 = .ok (.iastore, 1) := by decide +kernel
theorem dX0_keepBumps_58 : decode cX0_keepBumps 58 = .ok (.aload_n 0, 1) := by decide +kernel
theorem dX0_keepBumps_59 : decode cX0_keepBumps 59 = .ok (.getfield 34, 3) := by decide +kernel
theorem dX0_keepBumps_62 : decode cX0_keepBumps 62 = .ok (.aload_n 0, 1) := by decide +kernel
theorem dX0_keepBumps_63 : decode cX0_keepBumps 63 = .ok (.getfield 15, 3) := by decide +kernel
theorem dX0_keepBumps_66 : decode cX0_keepBumps 66 = .ok (.bipush 6, 2) := by decide +kernel
theorem dX0_keepBumps_68 : decode cX0_keepBumps 68 = .ok (.imul, 1) := by decide +kernel
theorem dX0_keepBumps_69 : decode cX0_keepBumps 69 = .ok (.iload_n 3, 1) := by decide +kernel
theorem dX0_keepBumps_70 : decode cX0_keepBumps 70 = .ok (.iadd, 1) := by decide +kernel
theorem dX0_keepBumps_71 : decode cX0_keepBumps 71 = .ok (.aload_n 2, 1) := by decide +kernel
theorem dX0_keepBumps_72 : decode cX0_keepBumps 72 = .ok (.getfield 70, 3) := by decide +kernel
theorem dX0_keepBumps_75 : decode cX0_keepBumps 75 = .ok (.iload 4, 2) := by decide +kernel
theorem dX0_keepBumps_77 : decode cX0_keepBumps 77 = .ok (.iaload, 1) := by decide +kernel
theorem dX0_keepBumps_78 : decode cX0_keepBumps 78 = .ok (.iastore, 1) := by decide +kernel
theorem dX0_keepBumps_79 : decode cX0_keepBumps 79 = .ok (.iinc 3 1, 3) := by decide +kernel
theorem dX0_keepBumps_82 : decode cX0_keepBumps 82 = .ok (.goto (-80), 3) := by decide +kernel
theorem dX0_keepBumps_85 : decode cX0_keepBumps 85 = .ok (.return_, 1) := by decide +kernel
theorem dX0_takeBumpsBack_0 : decode cX0_takeBumpsBack 0 = .ok (.iconst 0, 1) := by decide +kernel
theorem dX0_takeBumpsBack_1 : decode cX0_takeBumpsBack 1 = .ok (.istore_n 3, 1) := by decide +kernel
theorem dX0_takeBumpsBack_2 : decode cX0_takeBumpsBack 2 = .ok (.iload_n 3, 1) := by decide +kernel
theorem dX0_takeBumpsBack_3 : decode cX0_takeBumpsBack 3 = .ok (.bipush 6, 2) := by decide +kernel
theorem dX0_takeBumpsBack_5 : decode cX0_takeBumpsBack 5 = .ok (.if_icmp .ge 80, 3) := by decide +kernel
theorem dX0_takeBumpsBack_8 : decode cX0_takeBumpsBack 8 = .ok (.aload_n 2, 1) := by decide +kernel
theorem dX0_takeBumpsBack_9 : decode cX0_takeBumpsBack 9 = .ok (.iload_n 3, 1) := by decide +kernel
theorem dX0_takeBumpsBack_10 : decode cX0_takeBumpsBack 10 = .ok (.iload_n 1, 1) := by decide +kernel
theorem dX0_takeBumpsBack_11 : decode cX0_takeBumpsBack 11 = .ok (.invokevirtual 61, 3) := by decide +kernel
theorem dX0_takeBumpsBack_14 : decode cX0_takeBumpsBack 14 = .ok (.istore 4, 2) := by decide +kernel
theorem dX0_takeBumpsBack_16 : decode cX0_takeBumpsBack 16 = .ok (.aload_n 2, 1) := by decide +kernel
theorem dX0_takeBumpsBack_17 : decode cX0_takeBumpsBack 17 = .ok (.getfield 64, 3) := by decide +kernel
theorem dX0_takeBumpsBack_20 : decode cX0_takeBumpsBack 20 = .ok (.iload 4, 2) := by decide +kernel
theorem dX0_takeBumpsBack_22 : decode cX0_takeBumpsBack 22 = .ok (.aload_n 0, 1) := by decide +kernel
theorem dX0_takeBumpsBack_23 : decode cX0_takeBumpsBack 23 = .ok (.getfield 28, 3) := by decide +kernel
theorem dX0_takeBumpsBack_26 : decode cX0_takeBumpsBack 26 = .ok (.aload_n 0, 1) := by decide +kernel
theorem dX0_takeBumpsBack_27 : decode cX0_takeBumpsBack 27 = .ok (.getfield 15, 3) := by decide +kernel
theorem dX0_takeBumpsBack_30 : decode cX0_takeBumpsBack 30 = .ok (.bipush 6, 2) := by decide +kernel
theorem dX0_takeBumpsBack_32 : decode cX0_takeBumpsBack 32 = .ok (.imul, 1) := by decide +kernel
theorem dX0_takeBumpsBack_33 : decode cX0_takeBumpsBack 33 = .ok (.iload_n 3, 1) := by decide +kernel
theorem dX0_takeBumpsBack_34 : decode cX0_takeBumpsBack 34 = .ok (.iadd, 1) := by decide +kernel
theorem dX0_takeBumpsBack_35 : decode cX0_takeBumpsBack 35 = .ok (.iaload, 1) := by decide +kernel
theorem dX0_takeBumpsBack_36 : decode cX0_takeBumpsBack 36 = .ok (.iastore, 1) := by decide +kernel
theorem dX0_takeBumpsBack_37 : decode cX0_takeBumpsBack 37 = .ok (.aload_n 2, 1) := by decide +kernel
theorem dX0_takeBumpsBack_38 : decode cX0_takeBumpsBack 38 = .ok (.getfield 67, 3) := by decide +kernel
theorem dX0_takeBumpsBack_41 : decode cX0_takeBumpsBack 41 = .ok (.iload 4, 2) := by decide +kernel
theorem dX0_takeBumpsBack_43 : decode cX0_takeBumpsBack 43 = .ok (.aload_n 0, 1) := by decide +kernel
theorem dX0_takeBumpsBack_44 : decode cX0_takeBumpsBack 44 = .ok (.getfield 31, 3) := by decide +kernel
theorem dX0_takeBumpsBack_47 : decode cX0_takeBumpsBack 47 = .ok (.aload_n 0, 1) := by decide +kernel
theorem dX0_takeBumpsBack_48 : decode cX0_takeBumpsBack 48 = .ok (.getfield 15, 3) := by decide +kernel
theorem dX0_takeBumpsBack_51 : decode cX0_takeBumpsBack 51 = .ok (.bipush 6, 2) := by decide +kernel
theorem dX0_takeBumpsBack_53 : decode cX0_takeBumpsBack 53 = .ok (.imul, 1) := by decide +kernel
theorem dX0_takeBumpsBack_54 : decode cX0_takeBumpsBack 54 = .ok (.iload_n 3, 1) := by decide +kernel
theorem dX0_takeBumpsBack_55 : decode cX0_takeBumpsBack 55 = .ok (.iadd, 1) := by decide +kernel
theorem dX0_takeBumpsBack_56 : decode cX0_takeBumpsBack 56 = .ok (.iaload, 1) := by decide +kernel
theorem dX0_takeBumpsBack_57 : decode cX0_takeBumpsBack 57 = .ok (.iastore, 1) := by decide +kernel
theorem dX0_takeBumpsBack_58 : decode cX0_takeBumpsBack 58 = .ok (.aload_n 2, 1) := by decide +kernel
theorem dX0_takeBumpsBack_59 : decode cX0_takeBumpsBack 59 = .ok (.getfield 70, 3) := by decide +kernel
theorem dX0_takeBumpsBack_62 : decode cX0_takeBumpsBack 62 = .ok (.iload 4, 2) := by decide +kernel
theorem dX0_takeBumpsBack_64 : decode cX0_takeBumpsBack 64 = .ok (.aload_n 0, 1) := by decide +kernel
theorem dX0_takeBumpsBack_65 : decode cX0_takeBumpsBack 65 = .ok (.getfield 34, 3) := by decide +kernel
theorem dX0_takeBumpsBack_68 : decode cX0_takeBumpsBack 68 = .ok (.aload_n 0, 1) := by decide +kernel
theorem dX0_takeBumpsBack_69 : decode cX0_takeBumpsBack 69 = .ok (.getfield 15, 3) := by decide +kernel
theorem dX0_takeBumpsBack_72 : decode cX0_takeBumpsBack 72 = .ok (.bipush 6, 2) := by decide +kernel
theorem dX0_takeBumpsBack_74 : decode cX0_takeBumpsBack 74 = .ok (.imul, 1) := by decide +kernel
theorem dX0_takeBumpsBack_75 : decode cX0_takeBumpsBack 75 = .ok (.iload_n 3, 1) := by decide +kernel
theorem dX0_takeBumpsBack_76 : decode cX0_takeBumpsBack 76 = .ok (.iadd, 1) := by decide +kernel
theorem dX0_takeBumpsBack_77 : decode cX0_takeBumpsBack 77 = .ok (.iaload, 1) := by decide +kernel
theorem dX0_takeBumpsBack_78 : decode cX0_takeBumpsBack 78 = .ok (.iastore, 1) := by decide +kernel
theorem dX0_takeBumpsBack_79 : decode cX0_takeBumpsBack 79 = .ok (.iinc 3 1, 3) := by decide +kernel
theorem dX0_takeBumpsBack_82 : decode cX0_takeBumpsBack 82 = .ok (.goto (-80), 3) := by decide +kernel
theorem dX0_takeBumpsBack_85 : decode cX0_takeBumpsBack 85 = .ok (.return_, 1) := by decide +kernel
theorem dX1_init_0 : decode cX1_init 0 = .ok (.aload_n 0, 1) := by decide +kernel
theorem dX1_init_1 : decode cX1_init 1 = .ok (.invokespecial 3, 3) := by decide +kernel
theorem dX1_init_4 : decode cX1_init 4 = .ok (.aload_n 0, 1) := by decide +kernel
theorem dX1_init_5 : decode cX1_init 5 = .ok (.bipush 16, 2) := by decide +kernel
theorem dX1_init_7 : decode cX1_init 7 = .ok (.newarray .int, 2) := by decide +kernel
theorem dX1_init_9 : decode cX1_init 9 = .ok (.putfield 9, 3) := by decide +kernel
theorem dX1_init_12 : decode cX1_init 12 = .ok (.aload_n 0, 1) := by decide +kernel
theorem dX1_init_13 : decode cX1_init 13 = .ok (.iconst 0, 1) := by decide +kernel
theorem dX1_init_14 : decode cX1_init 14 = .ok (.putfield 15, 3) := by decide +kernel
theorem dX1_init_17 : decode cX1_init 17 = .ok (.return_, 1) := by decide +kernel
theorem dX1_answer_0 : decode cX1_answer 0 = .ok (.aload_n 0, 1) := by decide +kernel
theorem dX1_answer_1 : decode cX1_answer 1 = .ok (.iconst 0, 1) := by decide +kernel
theorem dX1_answer_2 : decode cX1_answer 2 = .ok (.putfield 15, 3) := by decide +kernel
theorem dX1_answer_5 : decode cX1_answer 5 = .ok (.aload_n 0, 1) := by decide +kernel
theorem dX1_answer_6 : decode cX1_answer 6 = .ok (.aload_n 1, 1) := by decide +kernel
theorem dX1_answer_7 : decode cX1_answer 7 = .ok (.getfield 19, 3) := by decide +kernel
theorem dX1_answer_10 : decode cX1_answer 10 = .ok (.iload_n 2, 1) := by decide +kernel
theorem dX1_answer_11 : decode cX1_answer 11 = .ok (.iaload, 1) := by decide +kernel
theorem dX1_answer_12 : decode cX1_answer 12 = .ok (.iload_n 3, 1) := by decide +kernel
theorem dX1_answer_13 : decode cX1_answer 13 = .ok (.invokestatic 24, 3) := by decide +kernel
theorem dX1_answer_16 : decode cX1_answer 16 = .ok (.aload_n 1, 1) := by decide +kernel
theorem dX1_answer_17 : decode cX1_answer 17 = .ok (.iload_n 2, 1) := by decide +kernel
theorem dX1_answer_18 : decode cX1_answer 18 = .ok (.iconst 0, 1) := by decide +kernel
theorem dX1_answer_19 : decode cX1_answer 19 = .ok (.invokevirtual 28, 3) := by decide +kernel
theorem dX1_answer_22 : decode cX1_answer 22 = .ok (.ireturn, 1) := by decide +kernel
theorem dX1_bodyOf_0 : decode cX1_bodyOf 0 = .ok (.iload_n 0, 1) := by decide +kernel
theorem dX1_bodyOf_1 : decode cX1_bodyOf 1 = .ok (.istore_n 2, 1) := by decide +kernel
theorem dX1_bodyOf_2 : decode cX1_bodyOf 2 = .ok (.iconst 0, 1) := by decide +kernel
theorem dX1_bodyOf_3 : decode cX1_bodyOf 3 = .ok (.istore_n 3, 1) := by decide +kernel
theorem dX1_bodyOf_4 : decode cX1_bodyOf 4 = .ok (.iload_n 3, 1) := by decide +kernel
theorem dX1_bodyOf_5 : decode cX1_bodyOf 5 = .ok (.bipush 6, 2) := by decide +kernel
theorem dX1_bodyOf_7 : decode cX1_bodyOf 7 = .ok (.if_icmp .ge 42, 3) := by decide +kernel
theorem dX1_bodyOf_10 : decode cX1_bodyOf 10 = .ok (.iload_n 1, 1) := by decide +kernel
theorem dX1_bodyOf_11 : decode cX1_bodyOf 11 = .ok (.ifCond .ne 11, 3) := by decide +kernel
theorem dX1_bodyOf_14 : decode cX1_bodyOf 14 = .ok (.getstatic 32, 3) := by decide +kernel
theorem dX1_bodyOf_17 : decode cX1_bodyOf 17 = .ok (.iload_n 2, 1) := by decide +kernel
theorem dX1_bodyOf_18 : decode cX1_bodyOf 18 = .ok (.iaload, 1) := by decide +kernel
theorem dX1_bodyOf_19 : decode cX1_bodyOf 19 = .ok (.goto 8, 3) := by decide +kernel
theorem dX1_bodyOf_22 : decode cX1_bodyOf 22 = .ok (.getstatic 35, 3) := by decide +kernel
theorem dX1_bodyOf_25 : decode cX1_bodyOf 25 = .ok (.iload_n 2, 1) := by decide +kernel
theorem dX1_bodyOf_26 : decode cX1_bodyOf 26 = .ok (.iaload, 1) := by decide +kernel
theorem dX1_bodyOf_27 : decode cX1_bodyOf 27 = .ok (.istore 4, 2) := by decide +kernel
theorem dX1_bodyOf_29 : decode cX1_bodyOf 29 = .ok (.iload 4, 2) := by decide +kernel
theorem dX1_bodyOf_31 : decode cX1_bodyOf 31 = .ok (.ifCond .eq 6, 3) := by decide +kernel
theorem dX1_bodyOf_34 : decode cX1_bodyOf 34 = .ok (.iload 4, 2) := by decide +kernel
theorem dX1_bodyOf_36 : decode cX1_bodyOf 36 = .ok (.ireturn, 1) := by decide +kernel
theorem dX1_bodyOf_37 : decode cX1_bodyOf 37 = .ok (.getstatic 38, 3) := by decide +kernel
theorem dX1_bodyOf_40 : decode cX1_bodyOf 40 = .ok (.iload_n 2, 1) := by decide +kernel
theorem dX1_bodyOf_41 : decode cX1_bodyOf 41 = .ok (.iaload, 1) := by decide +kernel
theorem dX1_bodyOf_42 : decode cX1_bodyOf 42 = .ok (.istore_n 2, 1) := by decide +kernel
theorem dX1_bodyOf_43 : decode cX1_bodyOf 43 = .ok (.iinc 3 1, 3) := by decide +kernel
theorem dX1_bodyOf_46 : decode cX1_bodyOf 46 = .ok (.goto (-42), 3) := by decide +kernel
theorem dX1_bodyOf_49 : decode cX1_bodyOf 49 = .ok (.iconst 0, 1) := by decide +kernel
theorem dX1_bodyOf_50 : decode cX1_bodyOf 50 = .ok (.ireturn, 1) := by decide +kernel
theorem dX1_anew_0 : decode cX1_anew 0 = .ok (.aload_n 0, 1) := by decide +kernel
theorem dX1_anew_1 : decode cX1_anew 1 = .ok (.aload_n 2, 1) := by decide +kernel
theorem dX1_anew_2 : decode cX1_anew 2 = .ok (.getfield 19, 3) := by decide +kernel
theorem dX1_anew_5 : decode cX1_anew 5 = .ok (.iload_n 3, 1) := by decide +kernel
theorem dX1_anew_6 : decode cX1_anew 6 = .ok (.iaload, 1) := by decide +kernel
theorem dX1_anew_7 : decode cX1_anew 7 = .ok (.iload_n 1, 1) := by decide +kernel
theorem dX1_anew_8 : decode cX1_anew 8 = .ok (.invokestatic 24, 3) := by decide +kernel
theorem dX1_anew_11 : decode cX1_anew 11 = .ok (.aload_n 2, 1) := by decide +kernel
theorem dX1_anew_12 : decode cX1_anew 12 = .ok (.iload_n 3, 1) := by decide +kernel
theorem dX1_anew_13 : decode cX1_anew 13 = .ok (.iload 4, 2) := by decide +kernel
theorem dX1_anew_15 : decode cX1_anew 15 = .ok (.invokevirtual 28, 3) := by decide +kernel
theorem dX1_anew_18 : decode cX1_anew 18 = .ok (.ireturn, 1) := by decide +kernel
theorem dX1_begin_0 : decode cX1_begin 0 = .ok (.iload 4, 2) := by decide +kernel
theorem dX1_begin_2 : decode cX1_begin 2 = .ok (.bipush 30, 2) := by decide +kernel
theorem dX1_begin_4 : decode cX1_begin 4 = .ok (.if_icmp .le 5, 3) := by decide +kernel
theorem dX1_begin_7 : decode cX1_begin 7 = .ok (.iconst 0, 1) := by decide +kernel
theorem dX1_begin_8 : decode cX1_begin 8 = .ok (.ireturn, 1) := by decide +kernel
theorem dX1_begin_9 : decode cX1_begin 9 = .ok (.aload_n 0, 1) := by decide +kernel
theorem dX1_begin_10 : decode cX1_begin 10 = .ok (.iload_n 1, 1) := by decide +kernel
theorem dX1_begin_11 : decode cX1_begin 11 = .ok (.invokevirtual 41, 3) := by decide +kernel
theorem dX1_begin_14 : decode cX1_begin 14 = .ok (.iload 4, 2) := by decide +kernel
theorem dX1_begin_16 : decode cX1_begin 16 = .ok (.iconst 1, 1) := by decide +kernel
theorem dX1_begin_17 : decode cX1_begin 17 = .ok (.iadd, 1) := by decide +kernel
theorem dX1_begin_18 : decode cX1_begin 18 = .ok (.istore 5, 2) := by decide +kernel
theorem dX1_begin_20 : decode cX1_begin 20 = .ok (.iload_n 1, 1) := by decide +kernel
theorem dX1_begin_21 : decode cX1_begin 21 = .ok (.tableswitch 212 10 24 #[75, 84, 105, 117, 131, 212, 212, 212, 212, 212, 144, 146, 163, 178, 199], 75) := by decide +kernel
theorem dX1_begin_96 : decode cX1_begin 96 = .ok (.aload_n 2, 1) := by decide +kernel
theorem dX1_begin_97 : decode cX1_begin 97 = .ok (.iload_n 3, 1) := by decide +kernel
theorem dX1_begin_98 : decode cX1_begin 98 = .ok (.invokevirtual 45, 3) := by decide +kernel
theorem dX1_begin_101 : decode cX1_begin 101 = .ok (.invokestatic 49, 3) := by decide +kernel
theorem dX1_begin_104 : decode cX1_begin 104 = .ok (.ireturn, 1) := by decide +kernel
theorem dX1_begin_105 : decode cX1_begin 105 = .ok (.aload_n 0, 1) := by decide +kernel
theorem dX1_begin_106 : decode cX1_begin 106 = .ok (.bipush 10, 2) := by decide +kernel
theorem dX1_begin_108 : decode cX1_begin 108 = .ok (.aload_n 2, 1) := by decide +kernel
theorem dX1_begin_109 : decode cX1_begin 109 = .ok (.iload_n 3, 1) := by decide +kernel
theorem dX1_begin_110 : decode cX1_begin 110 = .ok (.iload 5, 2) := by decide +kernel
theorem dX1_begin_112 : decode cX1_begin 112 = .ok (.invokevirtual 28, 3) := by decide +kernel
theorem dX1_begin_115 : decode cX1_begin 115 = .ok (.aload_n 0, 1) := by decide +kernel
theorem dX1_begin_116 : decode cX1_begin 116 = .ok (.iconst 1, 1) := by decide +kernel
theorem dX1_begin_117 : decode cX1_begin 117 = .ok (.aload_n 2, 1) := by decide +kernel
theorem dX1_begin_118 : decode cX1_begin 118 = .ok (.iload_n 3, 1) := by decide +kernel
theorem dX1_begin_119 : decode cX1_begin 119 = .ok (.iload 5, 2) := by decide +kernel
theorem dX1_begin_121 : decode cX1_begin 121 = .ok (.invokevirtual 54, 3) := by decide +kernel
theorem dX1_begin_124 : decode cX1_begin 124 = .ok (.iadd, 1) := by decide +kernel
theorem dX1_begin_125 : decode cX1_begin 125 = .ok (.ireturn, 1) := by decide +kernel
theorem dX1_begin_126 : decode cX1_begin 126 = .ok (.aload_n 0, 1) := by decide +kernel
theorem dX1_begin_127 : decode cX1_begin 127 = .ok (.bipush 11, 2) := by decide +kernel
theorem dX1_begin_129 : decode cX1_begin 129 = .ok (.aload_n 2, 1) := by decide +kernel
theorem dX1_begin_130 : decode cX1_begin 130 = .ok (.iload_n 3, 1) := by decide +kernel
theorem dX1_begin_131 : decode cX1_begin 131 = .ok (.iload 5, 2) := by decide +kernel
theorem dX1_begin_133 : decode cX1_begin 133 = .ok (.invokevirtual 28, 3) := by decide +kernel
theorem dX1_begin_136 : decode cX1_begin 136 = .ok (.ineg, 1) := by decide +kernel
theorem dX1_begin_137 : decode cX1_begin 137 = .ok (.ireturn, 1) := by decide +kernel
theorem dX1_begin_138 : decode cX1_begin 138 = .ok (.aload_n 0, 1) := by decide +kernel
theorem dX1_begin_139 : decode cX1_begin 139 = .ok (.bipush 10, 2) := by decide +kernel
theorem dX1_begin_141 : decode cX1_begin 141 = .ok (.aload_n 2, 1) := by decide +kernel
theorem dX1_begin_142 : decode cX1_begin 142 = .ok (.iload_n 3, 1) := by decide +kernel
theorem dX1_begin_143 : decode cX1_begin 143 = .ok (.iload 5, 2) := by decide +kernel
theorem dX1_begin_145 : decode cX1_begin 145 = .ok (.invokevirtual 28, 3) := by decide +kernel
theorem dX1_begin_148 : decode cX1_begin 148 = .ok (.bipush 100, 2) := by decide +kernel
theorem dX1_begin_150 : decode cX1_begin 150 = .ok (.isub, 1) := by decide +kernel
theorem dX1_begin_151 : decode cX1_begin 151 = .ok (.ireturn, 1) := by decide +kernel
theorem dX1_begin_152 : decode cX1_begin 152 = .ok (.iconst 2, 1) := by decide +kernel
theorem dX1_begin_153 : decode cX1_begin 153 = .ok (.aload_n 0, 1) := by decide +kernel
theorem dX1_begin_154 : decode cX1_begin 154 = .ok (.bipush 13, 2) := by decide +kernel
theorem dX1_begin_156 : decode cX1_begin 156 = .ok (.aload_n 2, 1) := by decide +kernel
theorem dX1_begin_157 : decode cX1_begin 157 = .ok (.iload_n 3, 1) := by decide +kernel
theorem dX1_begin_158 : decode cX1_begin 158 = .ok (.iload 5, 2) := by decide +kernel
theorem dX1_begin_160 : decode cX1_begin 160 = .ok (.invokevirtual 28, 3) := by decide +kernel
theorem dX1_begin_163 : decode cX1_begin 163 = .ok (.imul, 1) := by decide +kernel
theorem dX1_begin_164 : decode cX1_begin 164 = .ok (.ireturn, 1) := by decide +kernel
theorem dX1_begin_165 : decode cX1_begin 165 = .ok (.iload_n 3, 1) := by decide +kernel
theorem dX1_begin_166 : decode cX1_begin 166 = .ok (.ireturn, 1) := by decide +kernel
theorem dX1_begin_167 : decode cX1_begin 167 = .ok (.aload_n 0, 1) := by decide +kernel
theorem dX1_begin_168 : decode cX1_begin 168 = .ok (.bipush 20, 2) := by decide +kernel
theorem dX1_begin_170 : decode cX1_begin 170 = .ok (.aload_n 2, 1) := by decide +kernel
theorem dX1_begin_171 : decode cX1_begin 171 = .ok (.iload_n 3, 1) := by decide +kernel
theorem dX1_begin_172 : decode cX1_begin 172 = .ok (.iload 5, 2) := by decide +kernel
theorem dX1_begin_174 : decode cX1_begin 174 = .ok (.invokevirtual 28, 3) := by decide +kernel
theorem dX1_begin_177 : decode cX1_begin 177 = .ok (.aload_n 2, 1) := by decide +kernel
theorem dX1_begin_178 : decode cX1_begin 178 = .ok (.iload_n 3, 1) := by decide +kernel
theorem dX1_begin_179 : decode cX1_begin 179 = .ok (.invokevirtual 57, 3) := by decide +kernel
theorem dX1_begin_182 : decode cX1_begin 182 = .ok (.iadd, 1) := by decide +kernel
theorem dX1_begin_183 : decode cX1_begin 183 = .ok (.ireturn, 1) := by decide +kernel
theorem dX1_begin_184 : decode cX1_begin 184 = .ok (.aload_n 0, 1) := by decide +kernel
theorem dX1_begin_185 : decode cX1_begin 185 = .ok (.bipush 21, 2) := by decide +kernel
theorem dX1_begin_187 : decode cX1_begin 187 = .ok (.aload_n 2, 1) := by decide +kernel
theorem dX1_begin_188 : decode cX1_begin 188 = .ok (.iload_n 3, 1) := by decide +kernel
theorem dX1_begin_189 : decode cX1_begin 189 = .ok (.iload 5, 2) := by decide +kernel
theorem dX1_begin_191 : decode cX1_begin 191 = .ok (.invokevirtual 28, 3) := by decide +kernel
theorem dX1_begin_194 : decode cX1_begin 194 = .ok (.sipush 1000, 3) := by decide +kernel
theorem dX1_begin_197 : decode cX1_begin 197 = .ok (.isub, 1) := by decide +kernel
theorem dX1_begin_198 : decode cX1_begin 198 = .ok (.ireturn, 1) := by decide +kernel
theorem dX1_begin_199 : decode cX1_begin 199 = .ok (.aload_n 0, 1) := by decide +kernel
theorem dX1_begin_200 : decode cX1_begin 200 = .ok (.bipush 20, 2) := by decide +kernel
theorem dX1_begin_202 : decode cX1_begin 202 = .ok (.aload_n 2, 1) := by decide +kernel
theorem dX1_begin_203 : decode cX1_begin 203 = .ok (.iload_n 3, 1) := by decide +kernel
theorem dX1_begin_204 : decode cX1_begin 204 = .ok (.iload 5, 2) := by decide +kernel
theorem dX1_begin_206 : decode cX1_begin 206 = .ok (.invokevirtual 28, 3) := by decide +kernel
theorem dX1_begin_209 : decode cX1_begin 209 = .ok (.aload_n 0, 1) := by decide +kernel
theorem dX1_begin_210 : decode cX1_begin 210 = .ok (.iconst 0, 1) := by decide +kernel
theorem dX1_begin_211 : decode cX1_begin 211 = .ok (.aload_n 2, 1) := by decide +kernel
theorem dX1_begin_212 : decode cX1_begin 212 = .ok (.iload_n 3, 1) := by decide +kernel
theorem dX1_begin_213 : decode cX1_begin 213 = .ok (.iload 5, 2) := by decide +kernel
theorem dX1_begin_215 : decode cX1_begin 215 = .ok (.invokevirtual 54, 3) := by decide +kernel
theorem dX1_begin_218 : decode cX1_begin 218 = .ok (.isub, 1) := by decide +kernel
theorem dX1_begin_219 : decode cX1_begin 219 = .ok (.ireturn, 1) := by decide +kernel
theorem dX1_begin_220 : decode cX1_begin 220 = .ok (.iconst 2, 1) := by decide +kernel
theorem dX1_begin_221 : decode cX1_begin 221 = .ok (.aload_n 0, 1) := by decide +kernel
theorem dX1_begin_222 : decode cX1_begin 222 = .ok (.bipush 21, 2) := by decide +kernel
theorem dX1_begin_224 : decode cX1_begin 224 = .ok (.aload_n 2, 1) := by decide +kernel
theorem dX1_begin_225 : decode cX1_begin 225 = .ok (.iload_n 3, 1) := by decide +kernel
theorem dX1_begin_226 : decode cX1_begin 226 = .ok (.iload 5, 2) := by decide +kernel
theorem dX1_begin_228 : decode cX1_begin 228 = .ok (.invokevirtual 28, 3) := by decide +kernel
theorem dX1_begin_231 : decode cX1_begin 231 = .ok (.imul, 1) := by decide +kernel
theorem dX1_begin_232 : decode cX1_begin 232 = .ok (.ireturn, 1) := by decide +kernel
theorem dX1_begin_233 : decode cX1_begin 233 = .ok (.iconst 0, 1) := by decide +kernel
theorem dX1_begin_234 : decode cX1_begin 234 = .ok (.ireturn, 1) := by decide +kernel
theorem dX1_leave_0 : decode cX1_leave 0 = .ok (.aload_n 0, 1) := by decide +kernel
theorem dX1_leave_1 : decode cX1_leave 1 = .ok (.getfield 15, 3) := by decide +kernel
theorem dX1_leave_4 : decode cX1_leave 4 = .ok (.bipush 16, 2) := by decide +kernel
theorem dX1_leave_6 : decode cX1_leave 6 = .ok (.if_icmp .ge 23, 3) := by decide +kernel
theorem dX1_leave_9 : decode cX1_leave 9 = .ok (.aload_n 0, 1) := by decide +kernel
theorem dX1_leave_10 : decode cX1_leave 10 = .ok (.getfield 9, 3) := by decide +kernel
theorem dX1_leave_13 : decode cX1_leave 13 = .ok (.aload_n 0, 1) := by decide +kernel
theorem dX1_leave_14 : decode cX1_leave 14 = .ok (.getfield 15, 3) := by decide +kernel
theorem dX1_leave_17 : decode cX1_leave 17 = .ok (.iload_n 1, 1) := by decide +kernel
theorem dX1_leave_18 : decode cX1_leave 18 = .ok (.iastore, 1) := by decide +kernel
theorem dX1_leave_19 : decode cX1_leave 19 = .ok (.aload_n 0, 1) := by decide +kernel
theorem dX1_leave_20 : decode cX1_leave 20 = .ok (.dup, 1) := by decide +kernel
theorem dX1_leave_21 : decode cX1_leave 21 = .ok (.getfield 15, 3) := by decide +kernel
theorem dX1_leave_24 : decode cX1_leave 24 = .ok (.iconst 1, 1) := by decide +kernel
theorem dX1_leave_25 : decode cX1_leave 25 = .ok (.iadd, 1) := by decide +kernel
theorem dX1_leave_26 : decode cX1_leave 26 = .ok (.putfield 15, 3) := by decide +kernel
theorem dX1_leave_29 : decode cX1_leave 29 = .ok (.return_, 1) := by decide +kernel
theorem dX2_init_0 : decode cX2_init 0 = .ok (.aload_n 0, 1) := by decide +kernel
theorem dX2_init_1 : decode cX2_init 1 = .ok (.invokespecial 3, 3) := by decide +kernel
theorem dX2_init_4 : decode cX2_init 4 = .ok (.aload_n 0, 1) := by decide +kernel
theorem dX2_init_5 : decode cX2_init 5 = .ok (.iconst 0, 1) := by decide +kernel
theorem dX2_init_6 : decode cX2_init 6 = .ok (.putfield 9, 3) := by decide +kernel
theorem dX2_init_9 : decode cX2_init 9 = .ok (.aload_n 0, 1) := by decide +kernel
theorem dX2_init_10 : decode cX2_init 10 = .ok (.bipush 6, 2) := by decide +kernel
theorem dX2_init_12 : decode cX2_init 12 = .ok (.newarray .int, 2) := by decide +kernel
theorem dX2_init_14 : decode cX2_init 14 = .ok (.putfield 15, 3) := by decide +kernel
theorem dX2_init_17 : decode cX2_init 17 = .ok (.aload_n 0, 1) := by decide +kernel
theorem dX2_init_18 : decode cX2_init 18 = .ok (.bipush 6, 2) := by decide +kernel
theorem dX2_init_20 : decode cX2_init 20 = .ok (.newarray .int, 2) := by decide +kernel
theorem dX2_init_22 : decode cX2_init 22 = .ok (.putfield 19, 3) := by decide +kernel
theorem dX2_init_25 : decode cX2_init 25 = .ok (.aload_n 0, 1) := by decide +kernel
theorem dX2_init_26 : decode cX2_init 26 = .ok (.sipush 384, 3) := by decide +kernel
theorem dX2_init_29 : decode cX2_init 29 = .ok (.newarray .int, 2) := by decide +kernel
theorem dX2_init_31 : decode cX2_init 31 = .ok (.putfield 22, 3) := by decide +kernel
theorem dX2_init_34 : decode cX2_init 34 = .ok (.return_, 1) := by decide +kernel
theorem dX2_gather_0 : decode cX2_gather 0 = .ok (.aload_n 0, 1) := by decide +kernel
theorem dX2_gather_1 : decode cX2_gather 1 = .ok (.iconst 0, 1) := by decide +kernel
theorem dX2_gather_2 : decode cX2_gather 2 = .ok (.putfield 9, 3) := by decide +kernel
theorem dX2_gather_5 : decode cX2_gather 5 = .ok (.iconst 0, 1) := by decide +kernel
theorem dX2_gather_6 : decode cX2_gather 6 = .ok (.istore_n 3, 1) := by decide +kernel
theorem dX2_gather_7 : decode cX2_gather 7 = .ok (.iload_n 3, 1) := by decide +kernel
theorem dX2_gather_8 : decode cX2_gather 8 = .ok (.aload_n 1, 1) := by decide +kernel
theorem dX2_gather_9 : decode cX2_gather 9 = .ok (.getfield 25, 3) := by decide +kernel
theorem dX2_gather_12 : decode cX2_gather 12 = .ok (.if_icmp .ge 55, 3) := by decide +kernel
theorem dX2_gather_15 : decode cX2_gather 15 = .ok (.aload_n 1, 1) := by decide +kernel
theorem dX2_gather_16 : decode cX2_gather 16 = .ok (.iload_n 3, 1) := by decide +kernel
theorem dX2_gather_17 : decode cX2_gather 17 = .ok (.iload_n 2, 1) := by decide +kernel
theorem dX2_gather_18 : decode cX2_gather 18 = .ok (.invokevirtual 30, 3) := by decide +kernel
theorem dX2_gather_21 : decode cX2_gather 21 = .ok (.istore 4, 2) := by decide +kernel
theorem dX2_gather_23 : decode cX2_gather 23 = .ok (.iload 4, 2) := by decide +kernel
theorem dX2_gather_25 : decode cX2_gather 25 = .ok (.ldc 34, 2) := by decide +kernel
theorem dX2_gather_27 : decode cX2_gather 27 = .ok (.if_icmp .eq 34, 3) := by decide +kernel
theorem dX2_gather_30 : decode cX2_gather 30 = .ok (.aload_n 0, 1) := by decide +kernel
theorem dX2_gather_31 : decode cX2_gather 31 = .ok (.getfield 15, 3) := by decide +kernel
theorem dX2_gather_34 : decode cX2_gather 34 = .ok (.aload_n 0, 1) := by decide +kernel
theorem dX2_gather_35 : decode cX2_gather 35 = .ok (.getfield 9, 3) := by decide +kernel
theorem dX2_gather_38 : decode cX2_gather 38 = .ok (.iload_n 3, 1) := by decide +kernel
theorem dX2_gather_39 : decode cX2_gather 39 = .ok (.iastore, 1) := by decide +kernel
theorem dX2_gather_40 : decode cX2_gather 40 = .ok (.aload_n 0, 1) := by decide +kernel
theorem dX2_gather_41 : decode cX2_gather 41 = .ok (.getfield 19, 3) := by decide +kernel
theorem dX2_gather_44 : decode cX2_gather 44 = .ok (.aload_n 0, 1) := by decide +kernel
theorem dX2_gather_45 : decode cX2_gather 45 = .ok (.getfield 9, 3) := by decide +kernel
theorem dX2_gather_48 : decode cX2_gather 48 = .ok (.iload 4, 2) := by decide +kernel
theorem dX2_gather_50 : decode cX2_gather 50 = .ok (.iastore, 1) := by decide +kernel
theorem dX2_gather_51 : decode cX2_gather 51 = .ok (.aload_n 0, 1) := by decide +kernel
theorem dX2_gather_52 : decode cX2_gather 52 = .ok (.dup, 1) := by decide +kernel
theorem dX2_gather_53 : decode cX2_gather 53 = .ok (.getfield 9, 3) := by decide +kernel
theorem dX2_gather_56 : decode cX2_gather 56 = .ok (.iconst 1, 1) := by decide +kernel
theorem dX2_gather_57 : decode cX2_gather 57 = .ok (.iadd, 1) := by decide +kernel
theorem dX2_gather_58 : decode cX2_gather 58 = .ok (.putfield 9, 3) := by decide +kernel
theorem dX2_gather_61 : decode cX2_gather 61 = .ok (.iinc 3 1, 3) := by decide +kernel
theorem dX2_gather_64 : decode cX2_gather 64 = .ok (.goto (-57), 3) := by decide +kernel
theorem dX2_gather_67 : decode cX2_gather 67 = .ok (.return_, 1) := by decide +kernel
theorem dX2_least_0 : decode cX2_least 0 = .ok (.bipush 99, 2) := by decide +kernel
theorem dX2_least_2 : decode cX2_least 2 = .ok (.istore_n 1, 1) := by decide +kernel
theorem dX2_least_3 : decode cX2_least 3 = .ok (.iconst 0, 1) := by decide +kernel
theorem dX2_least_4 : decode cX2_least 4 = .ok (.istore_n 2, 1) := by decide +kernel
theorem dX2_least_5 : decode cX2_least 5 = .ok (.iload_n 2, 1) := by decide +kernel
theorem dX2_least_6 : decode cX2_least 6 = .ok (.aload_n 0, 1) := by decide +kernel
theorem dX2_least_7 : decode cX2_least 7 = .ok (.getfield 9, 3) := by decide +kernel
theorem dX2_least_10 : decode cX2_least 10 = .ok (.if_icmp .ge 20, 3) := by decide +kernel
theorem dX2_least_13 : decode cX2_least 13 = .ok (.iload_n 1, 1) := by decide +kernel
theorem dX2_least_14 : decode cX2_least 14 = .ok (.aload_n 0, 1) := by decide +kernel
theorem dX2_least_15 : decode cX2_least 15 = .ok (.getfield 19, 3) := by decide +kernel
theorem dX2_least_18 : decode cX2_least 18 = .ok (.iload_n 2, 1) := by decide +kernel
theorem dX2_least_19 : decode cX2_least 19 = .ok (.iaload, 1) := by decide +kernel
theorem dX2_least_20 : decode cX2_least 20 = .ok (.invokestatic 35, 3) := by decide +kernel
theorem dX2_least_23 : decode cX2_least 23 = .ok (.istore_n 1, 1) := by decide +kernel
theorem dX2_least_24 : decode cX2_least 24 = .ok (.iinc 2 1, 3) := by decide +kernel
theorem dX2_least_27 : decode cX2_least 27 = .ok (.goto (-22), 3) := by decide +kernel
theorem dX2_least_30 : decode cX2_least 30 = .ok (.iload_n 1, 1) := by decide +kernel
theorem dX2_least_31 : decode cX2_least 31 = .ok (.ireturn, 1) := by decide +kernel
theorem dX2_greatest_0 : decode cX2_greatest 0 = .ok (.iconst 0, 1) := by decide +kernel
theorem dX2_greatest_1 : decode cX2_greatest 1 = .ok (.istore_n 1, 1) := by decide +kernel
theorem dX2_greatest_2 : decode cX2_greatest 2 = .ok (.iconst 0, 1) := by decide +kernel
theorem dX2_greatest_3 : decode cX2_greatest 3 = .ok (.istore_n 2, 1) := by decide +kernel
theorem dX2_greatest_4 : decode cX2_greatest 4 = .ok (.iload_n 2, 1) := by decide +kernel
theorem dX2_greatest_5 : decode cX2_greatest 5 = .ok (.aload_n 0, 1) := by decide +kernel
theorem dX2_greatest_6 : decode cX2_greatest 6 = .ok (.getfield 9, 3) := by decide +kernel
theorem dX2_greatest_9 : decode cX2_greatest 9 = .ok (.if_icmp .ge 20, 3) := by decide +kernel
theorem dX2_greatest_12 : decode cX2_greatest 12 = .ok (.iload_n 1, 1) := by decide +kernel
theorem dX2_greatest_13 : decode cX2_greatest 13 = .ok (.aload_n 0, 1) := by decide +kernel
theorem dX2_greatest_14 : decode cX2_greatest 14 = .ok (.getfield 19, 3) := by decide +kernel
theorem dX2_greatest_17 : decode cX2_greatest 17 = .ok (.iload_n 2, 1) := by decide +kernel
theorem dX2_greatest_18 : decode cX2_greatest 18 = .ok (.iaload, 1) := by decide +kernel
theorem dX2_greatest_19 : decode cX2_greatest 19 = .ok (.invokestatic 40, 3) := by decide +kernel
theorem dX2_greatest_22 : decode cX2_greatest 22 = .ok (.istore_n 1, 1) := by decide +kernel
theorem dX2_greatest_23 : decode cX2_greatest 23 = .ok (.iinc 2 1, 3) := by decide +kernel
theorem dX2_greatest_26 : decode cX2_greatest 26 = .ok (.goto (-22), 3) := by decide +kernel
theorem dX2_greatest_29 : decode cX2_greatest 29 = .ok (.iload_n 1, 1) := by decide +kernel
theorem dX2_greatest_30 : decode cX2_greatest 30 = .ok (.ireturn, 1) := by decide +kernel
theorem dX2_middle_0 : decode cX2_middle 0 = .ok (.aload_n 0, 1) := by decide +kernel
theorem dX2_middle_1 : decode cX2_middle 1 = .ok (.getfield 9, 3) := by decide +kernel
theorem dX2_middle_4 : decode cX2_middle 4 = .ok (.iconst 2, 1) := by decide +kernel
theorem dX2_middle_5 : decode cX2_middle 5 = .ok (.idiv, 1) := by decide +kernel
theorem dX2_middle_6 : decode cX2_middle 6 = .ok (.istore_n 1, 1) := by decide +kernel
theorem dX2_middle_7 : decode cX2_middle 7 = .ok (.iconst 0, 1) := by decide +kernel
theorem dX2_middle_8 : decode cX2_middle 8 = .ok (.istore_n 2, 1) := by decide +kernel
theorem dX2_middle_9 : decode cX2_middle 9 = .ok (.iload_n 2, 1) := by decide +kernel
theorem dX2_middle_10 : decode cX2_middle 10 = .ok (.aload_n 0, 1) := by decide +kernel
theorem dX2_middle_11 : decode cX2_middle 11 = .ok (.getfield 9, 3) := by decide +kernel
theorem dX2_middle_14 : decode cX2_middle 14 = .ok (.if_icmp .ge 48, 3) := by decide +kernel
theorem dX2_middle_17 : decode cX2_middle 17 = .ok (.aload_n 0, 1) := by decide +kernel
theorem dX2_middle_18 : decode cX2_middle 18 = .ok (.aload_n 0, 1) := by decide +kernel
theorem dX2_middle_19 : decode cX2_middle 19 = .ok (.getfield 19, 3) := by decide +kernel
theorem dX2_middle_22 : decode cX2_middle 22 = .ok (.iload_n 2, 1) := by decide +kernel
theorem dX2_middle_23 : decode cX2_middle 23 = .ok (.iaload, 1) := by decide +kernel
theorem dX2_middle_24 : decode cX2_middle 24 = .ok (.invokevirtual 43, 3) := by decide +kernel
theorem dX2_middle_27 : decode cX2_middle 27 = .ok (.istore_n 3, 1) := by decide +kernel
theorem dX2_middle_28 : decode cX2_middle 28 = .ok (.iload_n 3, 1) := by decide +kernel
theorem dX2_middle_29 : decode cX2_middle 29 = .ok (.iload_n 1, 1) := by decide +kernel
theorem dX2_middle_30 : decode cX2_middle 30 = .ok (.if_icmp .gt 26, 3) := by decide +kernel
theorem dX2_middle_33 : decode cX2_middle 33 = .ok (.iload_n 1, 1) := by decide +kernel
theorem dX2_middle_34 : decode cX2_middle 34 = .ok (.iload_n 3, 1) := by decide +kernel
theorem dX2_middle_35 : decode cX2_middle 35 = .ok (.aload_n 0, 1) := by decide +kernel
theorem dX2_middle_36 : decode cX2_middle 36 = .ok (.aload_n 0, 1) := by decide +kernel
theorem dX2_middle_37 : decode cX2_middle 37 = .ok (.getfield 19, 3) := by decide +kernel
theorem dX2_middle_40 : decode cX2_middle 40 = .ok (.iload_n 2, 1) := by decide +kernel
theorem dX2_middle_41 : decode cX2_middle 41 = .ok (.iaload, 1) := by decide +kernel
theorem dX2_middle_42 : decode cX2_middle 42 = .ok (.invokevirtual 47, 3) := by decide +kernel
theorem dX2_middle_45 : decode cX2_middle 45 = .ok (.iadd, 1) := by decide +kernel
theorem dX2_middle_46 : decode cX2_middle 46 = .ok (.if_icmp .ge 10, 3) := by decide +kernel
theorem dX2_middle_49 : decode cX2_middle 49 = .ok (.aload_n 0, 1) := by decide +kernel
theorem dX2_middle_50 : decode cX2_middle 50 = .ok (.getfield 19, 3) := by decide +kernel
theorem dX2_middle_53 : decode cX2_middle 53 = .ok (.iload_n 2, 1) := by decide +kernel
theorem dX2_middle_54 : decode cX2_middle 54 = .ok (.iaload, 1) := by decide +kernel
theorem dX2_middle_55 : decode cX2_middle 55 = .ok (.ireturn, 1) := by decide +kernel
theorem dX2_middle_56 : decode cX2_middle 56 = .ok (.iinc 2 1, 3) := by decide +kernel
theorem dX2_middle_59 : decode cX2_middle 59 = .ok (.goto (-50), 3) := by decide +kernel
theorem dX2_middle_62 : decode cX2_middle 62 = .ok (.ldc 34, 2) := by decide +kernel
theorem dX2_middle_64 : decode cX2_middle 64 = .ok (.ireturn, 1) := by decide +kernel
theorem dX2_ofOldest_0 : decode cX2_ofOldest 0 = .ok (.ldc 34, 2) := by decide +kernel
theorem dX2_ofOldest_2 : decode cX2_ofOldest 2 = .ok (.istore_n 2, 1) := by decide +kernel
theorem dX2_ofOldest_3 : decode cX2_ofOldest 3 = .ok (.ldc 34, 2) := by decide +kernel
theorem dX2_ofOldest_5 : decode cX2_ofOldest 5 = .ok (.istore_n 3, 1) := by decide +kernel
theorem dX2_ofOldest_6 : decode cX2_ofOldest 6 = .ok (.iconst 0, 1) := by decide +kernel
theorem dX2_ofOldest_7 : decode cX2_ofOldest 7 = .ok (.istore 4, 2) := by decide +kernel
theorem dX2_ofOldest_9 : decode cX2_ofOldest 9 = .ok (.iload 4, 2) := by decide +kernel
theorem dX2_ofOldest_11 : decode cX2_ofOldest 11 = .ok (.aload_n 0, 1) := by decide +kernel
theorem dX2_ofOldest_12 : decode cX2_ofOldest 12 = .ok (.getfield 9, 3) := by decide +kernel
theorem dX2_ofOldest_15 : decode cX2_ofOldest 15 = .ok (.if_icmp .ge 44, 3) := by decide +kernel
theorem dX2_ofOldest_18 : decode cX2_ofOldest 18 = .ok (.aload_n 1, 1) := by decide +kernel
theorem dX2_ofOldest_19 : decode cX2_ofOldest 19 = .ok (.aload_n 0, 1) := by decide +kernel
theorem dX2_ofOldest_20 : decode cX2_ofOldest 20 = .ok (.getfield 15, 3) := by decide +kernel
theorem dX2_ofOldest_23 : decode cX2_ofOldest 23 = .ok (.iload 4, 2) := by decide +kernel
theorem dX2_ofOldest_25 : decode cX2_ofOldest 25 = .ok (.iaload, 1) := by decide +kernel
theorem dX2_ofOldest_26 : decode cX2_ofOldest 26 = .ok (.invokevirtual 50, 3) := by decide +kernel
theorem dX2_ofOldest_29 : decode cX2_ofOldest 29 = .ok (.iload_n 2, 1) := by decide +kernel
theorem dX2_ofOldest_30 : decode cX2_ofOldest 30 = .ok (.if_icmp .le 23, 3) := by decide +kernel
theorem dX2_ofOldest_33 : decode cX2_ofOldest 33 = .ok (.aload_n 1, 1) := by decide +kernel
theorem dX2_ofOldest_34 : decode cX2_ofOldest 34 = .ok (.aload_n 0, 1) := by decide +kernel
theorem dX2_ofOldest_35 : decode cX2_ofOldest 35 = .ok (.getfield 15, 3) := by decide +kernel
theorem dX2_ofOldest_38 : decode cX2_ofOldest 38 = .ok (.iload 4, 2) := by decide +kernel
theorem dX2_ofOldest_40 : decode cX2_ofOldest 40 = .ok (.iaload, 1) := by decide +kernel
theorem dX2_ofOldest_41 : decode cX2_ofOldest 41 = .ok (.invokevirtual 50, 3) := by decide +kernel
theorem dX2_ofOldest_44 : decode cX2_ofOldest 44 = .ok (.istore_n 2, 1) := by decide +kernel
theorem dX2_ofOldest_45 : decode cX2_ofOldest 45 = .ok (.aload_n 0, 1) := by decide +kernel
theorem dX2_ofOldest_46 : decode cX2_ofOldest 46 = .ok (.getfield 19, 3) := by decide +kernel
theorem dX2_ofOldest_49 : decode cX2_ofOldest 49 = .ok (.iload 4, 2) := by decide +kernel
theorem dX2_ofOldest_51 : decode cX2_ofOldest 51 = .ok (.iaload, 1) := by decide +kernel
theorem dX2_ofOldest_52 : decode cX2_ofOldest 52 = .ok (.istore_n 3, 1) := by decide +kernel
theorem dX2_ofOldest_53 : decode cX2_ofOldest 53 = .ok (.iinc 4 1, 3) := by decide +kernel
theorem dX2_ofOldest_56 : decode cX2_ofOldest 56 = .ok (.goto (-47), 3) := by decide +kernel
theorem dX2_ofOldest_59 : decode cX2_ofOldest 59 = .ok (.iload_n 3, 1) := by decide +kernel
theorem dX2_ofOldest_60 : decode cX2_ofOldest 60 = .ok (.ireturn, 1) := by decide +kernel
theorem dX2_below_0 : decode cX2_below 0 = .ok (.iconst 0, 1) := by decide +kernel
theorem dX2_below_1 : decode cX2_below 1 = .ok (.istore_n 2, 1) := by decide +kernel
theorem dX2_below_2 : decode cX2_below 2 = .ok (.iconst 0, 1) := by decide +kernel
theorem dX2_below_3 : decode cX2_below 3 = .ok (.istore_n 3, 1) := by decide +kernel
theorem dX2_below_4 : decode cX2_below 4 = .ok (.iload_n 3, 1) := by decide +kernel
theorem dX2_below_5 : decode cX2_below 5 = .ok (.aload_n 0, 1) := by decide +kernel
theorem dX2_below_6 : decode cX2_below 6 = .ok (.getfield 9, 3) := by decide +kernel
theorem dX2_below_9 : decode cX2_below 9 = .ok (.if_icmp .ge 22, 3) := by decide +kernel
theorem dX2_below_12 : decode cX2_below 12 = .ok (.aload_n 0, 1) := by decide +kernel
theorem dX2_below_13 : decode cX2_below 13 = .ok (.getfield 19, 3) := by decide +kernel
theorem dX2_below_16 : decode cX2_below 16 = .ok (.iload_n 3, 1) := by decide +kernel
theorem dX2_below_17 : decode cX2_below 17 = .ok (.iaload, 1) := by decide +kernel
theorem dX2_below_18 : decode cX2_below 18 = .ok (.iload_n 1, 1) := by decide +kernel
theorem dX2_below_19 : decode cX2_below 19 = .ok (.if_icmp .ge 6, 3) := by decide +kernel
theorem dX2_below_22 : decode cX2_below 22 = .ok (.iinc 2 1, 3) := by decide +kernel
theorem dX2_below_25 : decode cX2_below 25 = .ok (.iinc 3 1, 3) := by decide +kernel
theorem dX2_below_28 : decode cX2_below 28 = .ok (.goto (-24), 3) := by decide +kernel
theorem dX2_below_31 : decode cX2_below 31 = .ok (.iload_n 2, 1) := by decide +kernel
theorem dX2_below_32 : decode cX2_below 32 = .ok (.ireturn, 1) := by decide +kernel
theorem dX2_alike_0 : decode cX2_alike 0 = .ok (.iconst 0, 1) := by decide +kernel
theorem dX2_alike_1 : decode cX2_alike 1 = .ok (.istore_n 2, 1) := by decide +kernel
theorem dX2_alike_2 : decode cX2_alike 2 = .ok (.iconst 0, 1) := by decide +kernel
theorem dX2_alike_3 : decode cX2_alike 3 = .ok (.istore_n 3, 1) := by decide +kernel
theorem dX2_alike_4 : decode cX2_alike 4 = .ok (.iload_n 3, 1) := by decide +kernel
theorem dX2_alike_5 : decode cX2_alike 5 = .ok (.aload_n 0, 1) := by decide +kernel
theorem dX2_alike_6 : decode cX2_alike 6 = .ok (.getfield 9, 3) := by decide +kernel
theorem dX2_alike_9 : decode cX2_alike 9 = .ok (.if_icmp .ge 22, 3) := by decide +kernel
theorem dX2_alike_12 : decode cX2_alike 12 = .ok (.aload_n 0, 1) := by decide +kernel
theorem dX2_alike_13 : decode cX2_alike 13 = .ok (.getfield 19, 3) := by decide +kernel
theorem dX2_alike_16 : decode cX2_alike 16 = .ok (.iload_n 3, 1) := by decide +kernel
theorem dX2_alike_17 : decode cX2_alike 17 = .ok (.iaload, 1) := by decide +kernel
theorem dX2_alike_18 : decode cX2_alike 18 = .ok (.iload_n 1, 1) := by decide +kernel
theorem dX2_alike_19 : decode cX2_alike 19 = .ok (.if_icmp .ne 6, 3) := by decide +kernel
theorem dX2_alike_22 : decode cX2_alike 22 = .ok (.iinc 2 1, 3) := by decide +kernel
theorem dX2_alike_25 : decode cX2_alike 25 = .ok (.iinc 3 1, 3) := by decide +kernel
theorem dX2_alike_28 : decode cX2_alike 28 = .ok (.goto (-24), 3) := by decide +kernel
theorem dX2_alike_31 : decode cX2_alike 31 = .ok (.iload_n 2, 1) := by decide +kernel
theorem dX2_alike_32 : decode cX2_alike 32 = .ok (.ireturn, 1) := by decide +kernel
theorem dX2_likeliestYard_0 : decode cX2_likeliestYard 0 = .ok (.ldc 34, 2) := by decide +kernel
theorem dX2_likeliestYard_2 : decode cX2_likeliestYard 2 = .ok (.istore_n 1, 1) := by decide +kernel
theorem dX2_likeliestYard_3 : decode cX2_likeliestYard 3 = .ok (.iconst 0, 1) := by decide +kernel
theorem dX2_likeliestYard_4 : decode cX2_likeliestYard 4 = .ok (.istore_n 2, 1) := by decide +kernel
theorem dX2_likeliestYard_5 : decode cX2_likeliestYard 5 = .ok (.iconst 0, 1) := by decide +kernel
theorem dX2_likeliestYard_6 : decode cX2_likeliestYard 6 = .ok (.istore_n 3, 1) := by decide +kernel
theorem dX2_likeliestYard_7 : decode cX2_likeliestYard 7 = .ok (.iload_n 3, 1) := by decide +kernel
theorem dX2_likeliestYard_8 : decode cX2_likeliestYard 8 = .ok (.aload_n 0, 1) := by decide +kernel
theorem dX2_likeliestYard_9 : decode cX2_likeliestYard 9 = .ok (.getfield 9, 3) := by decide +kernel
theorem dX2_likeliestYard_12 : decode cX2_likeliestYard 12 = .ok (.if_icmp .ge 53, 3) := by decide +kernel
theorem dX2_likeliestYard_15 : decode cX2_likeliestYard 15 = .ok (.aload_n 0, 1) := by decide +kernel
theorem dX2_likeliestYard_16 : decode cX2_likeliestYard 16 = .ok (.aload_n 0, 1) := by decide +kernel
theorem dX2_likeliestYard_17 : decode cX2_likeliestYard 17 = .ok (.getfield 19, 3) := by decide +kernel
theorem dX2_likeliestYard_20 : decode cX2_likeliestYard 20 = .ok (.iload_n 3, 1) := by decide +kernel
theorem dX2_likeliestYard_21 : decode cX2_likeliestYard 21 = .ok (.iaload, 1) := by decide +kernel
theorem dX2_likeliestYard_22 : decode cX2_likeliestYard 22 = .ok (.invokevirtual 47, 3) := by decide +kernel
theorem dX2_likeliestYard_25 : decode cX2_likeliestYard 25 = .ok (.istore 4, 2) := by decide +kernel
theorem dX2_likeliestYard_27 : decode cX2_likeliestYard 27 = .ok (.iload 4, 2) := by decide +kernel
theorem dX2_likeliestYard_29 : decode cX2_likeliestYard 29 = .ok (.iload_n 2, 1) := by decide +kernel
theorem dX2_likeliestYard_30 : decode cX2_likeliestYard 30 = .ok (.if_icmp .gt 19, 3) := by decide +kernel
theorem dX2_likeliestYard_33 : decode cX2_likeliestYard 33 = .ok (.iload 4, 2) := by decide +kernel
theorem dX2_likeliestYard_35 : decode cX2_likeliestYard 35 = .ok (.iload_n 2, 1) := by decide +kernel
theorem dX2_likeliestYard_36 : decode cX2_likeliestYard 36 = .ok (.if_icmp .ne 23, 3) := by decide +kernel
theorem dX2_likeliestYard_39 : decode cX2_likeliestYard 39 = .ok (.aload_n 0, 1) := by decide +kernel
theorem dX2_likeliestYard_40 : decode cX2_likeliestYard 40 = .ok (.getfield 19, 3) := by decide +kernel
theorem dX2_likeliestYard_43 : decode cX2_likeliestYard 43 = .ok (.iload_n 3, 1) := by decide +kernel
theorem dX2_likeliestYard_44 : decode cX2_likeliestYard 44 = .ok (.iaload, 1) := by decide +kernel
theorem dX2_likeliestYard_45 : decode cX2_likeliestYard 45 = .ok (.iload_n 1, 1) := by decide +kernel
theorem dX2_likeliestYard_46 : decode cX2_likeliestYard 46 = .ok (.if_icmp .ge 13, 3) := by decide +kernel
theorem dX2_likeliestYard_49 : decode cX2_likeliestYard 49 = .ok (.iload 4, 2) := by decide +kernel
theorem dX2_likeliestYard_51 : decode cX2_likeliestYard 51 = .ok (.istore_n 2, 1) := by decide +kernel
theorem dX2_likeliestYard_52 : decode cX2_likeliestYard 52 = .ok (.aload_n 0, 1) := by decide +kernel
theorem dX2_likeliestYard_53 : decode cX2_likeliestYard 53 = .ok (.getfield 19, 3) := by decide +kernel
theorem dX2_likeliestYard_56 : decode cX2_likeliestYard 56 = .ok (.iload_n 3, 1) := by decide +kernel
theorem dX2_likeliestYard_57 : decode cX2_likeliestYard 57 = .ok (.iaload, 1) := by decide +kernel
theorem dX2_likeliestYard_58 : decode cX2_likeliestYard 58 = .ok (.istore_n 1, 1) := by decide +kernel
theorem dX2_likeliestYard_59 : decode cX2_likeliestYard 59 = .ok (.iinc 3 1, 3) := by decide +kernel
theorem dX2_likeliestYard_62 : decode cX2_likeliestYard 62 = .ok (.goto (-55), 3) := by decide +kernel
theorem dX2_likeliestYard_65 : decode cX2_likeliestYard 65 = .ok (.iload_n 1, 1) := by decide +kernel
theorem dX2_likeliestYard_66 : decode cX2_likeliestYard 66 = .ok (.ireturn, 1) := by decide +kernel
theorem dX2_raiseBribed_0 : decode cX2_raiseBribed 0 = .ok (.iconst 0, 1) := by decide +kernel
theorem dX2_raiseBribed_1 : decode cX2_raiseBribed 1 = .ok (.istore_n 3, 1) := by decide +kernel
theorem dX2_raiseBribed_2 : decode cX2_raiseBribed 2 = .ok (.iload_n 3, 1) := by decide +kernel
theorem dX2_raiseBribed_3 : decode cX2_raiseBribed 3 = .ok (.iload_n 2, 1) := by decide +kernel
theorem dX2_raiseBribed_4 : decode cX2_raiseBribed 4 = .ok (.if_icmp .ge 98, 3) := by decide +kernel
theorem dX2_raiseBribed_7 : decode cX2_raiseBribed 7 = .ok (.iconst (-1), 1) := by decide +kernel
theorem dX2_raiseBribed_8 : decode cX2_raiseBribed 8 = .ok (.istore 4, 2) := by decide +kernel
theorem dX2_raiseBribed_10 : decode cX2_raiseBribed 10 = .ok (.iconst 0, 1) := by decide +kernel
theorem dX2_raiseBribed_11 : decode cX2_raiseBribed 11 = .ok (.istore 5, 2) := by decide +kernel
theorem dX2_raiseBribed_13 : decode cX2_raiseBribed 13 = .ok (.iload 5, 2) := by decide +kernel
theorem dX2_raiseBribed_15 : decode cX2_raiseBribed 15 = .ok (.aload_n 0, 1) := by decide +kernel
theorem dX2_raiseBribed_16 : decode cX2_raiseBribed 16 = .ok (.getfield 9, 3) := by decide +kernel
theorem dX2_raiseBribed_19 : decode cX2_raiseBribed 19 = .ok (.if_icmp .ge 63, 3) := by decide +kernel
theorem dX2_raiseBribed_22 : decode cX2_raiseBribed 22 = .ok (.aload_n 1, 1) := by decide +kernel
theorem dX2_raiseBribed_23 : decode cX2_raiseBribed 23 = .ok (.getfield 53, 3) := by decide +kernel
theorem dX2_raiseBribed_26 : decode cX2_raiseBribed 26 = .ok (.aload_n 0, 1) := by decide +kernel
theorem dX2_raiseBribed_27 : decode cX2_raiseBribed 27 = .ok (.getfield 15, 3) := by decide +kernel
theorem dX2_raiseBribed_30 : decode cX2_raiseBribed 30 = .ok (.iload 5, 2) := by decide +kernel
theorem dX2_raiseBribed_32 : decode cX2_raiseBribed 32 = .ok (.iaload, 1) := by decide +kernel
theorem dX2_raiseBribed_33 : decode cX2_raiseBribed 33 = .ok (.iaload, 1) := by decide +kernel
theorem dX2_raiseBribed_34 : decode cX2_raiseBribed 34 = .ok (.iconst 2, 1) := by decide +kernel
theorem dX2_raiseBribed_35 : decode cX2_raiseBribed 35 = .ok (.if_icmp .ne 7, 3) := by decide +kernel
theorem dX2_raiseBribed_38 : decode cX2_raiseBribed 38 = .ok (.iconst 1, 1) := by decide +kernel
theorem dX2_raiseBribed_39 : decode cX2_raiseBribed 39 = .ok (.goto 4, 3) := by decide +kernel
theorem dX2_raiseBribed_42 : decode cX2_raiseBribed 42 = .ok (.iconst 0, 1) := by decide +kernel
theorem dX2_raiseBribed_43 : decode cX2_raiseBribed 43 = .ok (.istore 6, 2) := by decide +kernel
theorem dX2_raiseBribed_45 : decode cX2_raiseBribed 45 = .ok (.iload 6, 2) := by decide +kernel
theorem dX2_raiseBribed_47 : decode cX2_raiseBribed 47 = .ok (.ifCond .eq 29, 3) := by decide +kernel
theorem dX2_raiseBribed_50 : decode cX2_raiseBribed 50 = .ok (.iload 4, 2) := by decide +kernel
theorem dX2_raiseBribed_52 : decode cX2_raiseBribed 52 = .ok (.ifCond .lt 20, 3) := by decide +kernel
theorem dX2_raiseBribed_55 : decode cX2_raiseBribed 55 = .ok (.aload_n 0, 1) := by decide +kernel
theorem dX2_raiseBribed_56 : decode cX2_raiseBribed 56 = .ok (.getfield 19, 3) := by decide +kernel
theorem dX2_raiseBribed_59 : decode cX2_raiseBribed 59 = .ok (.iload 5, 2) := by decide +kernel
theorem dX2_raiseBribed_61 : decode cX2_raiseBribed 61 = .ok (.iaload, 1) := by decide +kernel
theorem dX2_raiseBribed_62 : decode cX2_raiseBribed 62 = .ok (.aload_n 0, 1) := by decide +kernel
theorem dX2_raiseBribed_63 : decode cX2_raiseBribed 63 = .ok (.getfield 19, 3) := by decide +kernel
theorem dX2_raiseBribed_66 : decode cX2_raiseBribed 66 = .ok (.iload 4, 2) := by decide +kernel
theorem dX2_raiseBribed_68 : decode cX2_raiseBribed 68 = .ok (.iaload, 1) := by decide +kernel
theorem dX2_raiseBribed_69 : decode cX2_raiseBribed 69 = .ok (.if_icmp .ge 7, 3) := by decide +kernel
theorem dX2_raiseBribed_72 : decode cX2_raiseBribed 72 = .ok (.iload 5, 2) := by decide +kernel
theorem dX2_raiseBribed_74 : decode cX2_raiseBribed 74 = .ok (.istore 4, 2) := by decide +kernel
theorem dX2_raiseBribed_76 : decode cX2_raiseBribed 76 = .ok (.iinc 5 1, 3) := by decide +kernel
theorem dX2_raiseBribed_79 : decode cX2_raiseBribed 79 = .ok (.goto (-66), 3) := by decide +kernel
theorem dX2_raiseBribed_82 : decode cX2_raiseBribed 82 = .ok (.iload 4, 2) := by decide +kernel
theorem dX2_raiseBribed_84 : decode cX2_raiseBribed 84 = .ok (.ifCond .lt 12, 3) := by decide +kernel
theorem dX2_raiseBribed_87 : decode cX2_raiseBribed 87 = .ok (.aload_n 0, 1) := by decide +kernel
theorem dX2_raiseBribed_88 : decode cX2_raiseBribed 88 = .ok (.getfield 19, 3) := by decide +kernel
theorem dX2_raiseBribed_91 : decode cX2_raiseBribed 91 = .ok (.iload 4, 2) := by decide +kernel
theorem dX2_raiseBribed_93 : decode cX2_raiseBribed 93 = .ok (.bipush 99, 2) := by decide +kernel
theorem dX2_raiseBribed_95 : decode cX2_raiseBribed 95 = .ok (.iastore, 1) := by decide +kernel
theorem dX2_raiseBribed_96 : decode cX2_raiseBribed 96 = .ok (.iinc 3 1, 3) := by decide +kernel
theorem dX2_raiseBribed_99 : decode cX2_raiseBribed 99 = .ok (.goto (-97), 3) := by decide +kernel
theorem dX2_raiseBribed_102 : decode cX2_raiseBribed 102 = .ok (.return_, 1) := by decide +kernel
theorem dX2_countOrders_0 : decode cX2_countOrders 0 = .ok (.iconst 1, 1) := by decide +kernel
theorem dX2_countOrders_1 : decode cX2_countOrders 1 = .ok (.aload_n 0, 1) := by decide +kernel
theorem dX2_countOrders_2 : decode cX2_countOrders 2 = .ok (.getfield 9, 3) := by decide +kernel
theorem dX2_countOrders_5 : decode cX2_countOrders 5 = .ok (.ishl, 1) := by decide +kernel
theorem dX2_countOrders_6 : decode cX2_countOrders 6 = .ok (.iconst 1, 1) := by decide +kernel
theorem dX2_countOrders_7 : decode cX2_countOrders 7 = .ok (.isub, 1) := by decide +kernel
theorem dX2_countOrders_8 : decode cX2_countOrders 8 = .ok (.istore_n 1, 1) := by decide +kernel
theorem dX2_countOrders_9 : decode cX2_countOrders 9 = .ok (.iload_n 1, 1) := by decide +kernel
theorem dX2_countOrders_10 : decode cX2_countOrders 10 = .ok (.istore_n 2, 1) := by decide +kernel
theorem dX2_countOrders_11 : decode cX2_countOrders 11 = .ok (.iload_n 2, 1) := by decide +kernel
theorem dX2_countOrders_12 : decode cX2_countOrders 12 = .ok (.ifCond .le 60, 3) := by decide +kernel
theorem dX2_countOrders_15 : decode cX2_countOrders 15 = .ok (.iconst 0, 1) := by decide +kernel
theorem dX2_countOrders_16 : decode cX2_countOrders 16 = .ok (.istore_n 3, 1) := by decide +kernel
theorem dX2_countOrders_17 : decode cX2_countOrders 17 = .ok (.iload_n 3, 1) := by decide +kernel
theorem dX2_countOrders_18 : decode cX2_countOrders 18 = .ok (.aload_n 0, 1) := by decide +kernel
theorem dX2_countOrders_19 : decode cX2_countOrders 19 = .ok (.getfield 9, 3) := by decide +kernel
theorem dX2_countOrders_22 : decode cX2_countOrders 22 = .ok (.if_icmp .ge 44, 3) := by decide +kernel
theorem dX2_countOrders_25 : decode cX2_countOrders 25 = .ok (.iload_n 2, 1) := by decide +kernel
theorem dX2_countOrders_26 : decode cX2_countOrders 26 = .ok (.iload_n 3, 1) := by decide +kernel
theorem dX2_countOrders_27 : decode cX2_countOrders 27 = .ok (.ishr, 1) := by decide +kernel
theorem dX2_countOrders_28 : decode cX2_countOrders 28 = .ok (.iconst 1, 1) := by decide +kernel
theorem dX2_countOrders_29 : decode cX2_countOrders 29 = .ok (.iand, 1) := by decide +kernel
theorem dX2_countOrders_30 : decode cX2_countOrders 30 = .ok (.iconst 1, 1) := by decide +kernel
theorem dX2_countOrders_31 : decode cX2_countOrders 31 = .ok (.if_icmp .ne 29, 3) := by decide +kernel
theorem dX2_countOrders_34 : decode cX2_countOrders 34 = .ok (.aload_n 0, 1) := by decide +kernel
theorem dX2_countOrders_35 : decode cX2_countOrders 35 = .ok (.getfield 22, 3) := by decide +kernel
theorem dX2_countOrders_38 : decode cX2_countOrders 38 = .ok (.iload_n 2, 1) := by decide +kernel
theorem dX2_countOrders_39 : decode cX2_countOrders 39 = .ok (.bipush 6, 2) := by decide +kernel
theorem dX2_countOrders_41 : decode cX2_countOrders 41 = .ok (.imul, 1) := by decide +kernel
theorem dX2_countOrders_42 : decode cX2_countOrders 42 = .ok (.iload_n 3, 1) := by decide +kernel
theorem dX2_countOrders_43 : decode cX2_countOrders 43 = .ok (.iadd, 1) := by decide +kernel
theorem dX2_countOrders_44 : decode cX2_countOrders 44 = .ok (.iload_n 2, 1) := by decide +kernel
theorem dX2_countOrders_45 : decode cX2_countOrders 45 = .ok (.iload_n 1, 1) := by decide +kernel
theorem dX2_countOrders_46 : decode cX2_countOrders 46 = .ok (.if_icmp .ne 7, 3) := by decide +kernel
theorem dX2_countOrders_49 : decode cX2_countOrders 49 = .ok (.iconst 1, 1) := by decide +kernel
theorem dX2_countOrders_50 : decode cX2_countOrders 50 = .ok (.goto 9, 3) := by decide +kernel
theorem dX2_countOrders_53 : decode cX2_countOrders 53 = .ok (.aload_n 0, 1) := by decide +kernel
theorem dX2_countOrders_54 : decode cX2_countOrders 54 = .ok (.iload_n 2, 1) := by decide +kernel
theorem dX2_countOrders_55 : decode cX2_countOrders 55 = .ok (.iload_n 3, 1) := by decide +kernel
theorem dX2_countOrders_56 : decode cX2_countOrders 56 = .ok (.invokevirtual 56, 3) := by decide +kernel
theorem dX2_countOrders_59 : decode cX2_countOrders 59 = .ok (.iastore, 1) := by decide +kernel
theorem dX2_countOrders_60 : decode cX2_countOrders 60 = .ok (.iinc 3 1, 3) := by decide +kernel
theorem dX2_countOrders_63 : decode cX2_countOrders 63 = .ok (.goto (-46), 3) := by decide +kernel
theorem dX2_countOrders_66 : decode cX2_countOrders 66 = .ok (.iinc 2 (-1), 3) := by decide +kernel
theorem dX2_countOrders_69 : decode cX2_countOrders 69 = .ok (.goto (-58), 3) := by decide +kernel
theorem dX2_countOrders_72 : decode cX2_countOrders 72 = .ok (.return_, 1) := by decide +kernel
theorem dX2_waysOn_0 : decode cX2_waysOn 0 = .ok (.iconst 0, 1) := by decide +kernel
theorem dX2_waysOn_1 : decode cX2_waysOn 1 = .ok (.istore_n 3, 1) := by decide +kernel
theorem dX2_waysOn_2 : decode cX2_waysOn 2 = .ok (.iconst 0, 1) := by decide +kernel
theorem dX2_waysOn_3 : decode cX2_waysOn 3 = .ok (.istore 4, 2) := by decide +kernel
theorem dX2_waysOn_5 : decode cX2_waysOn 5 = .ok (.iload 4, 2) := by decide +kernel
theorem dX2_waysOn_7 : decode cX2_waysOn 7 = .ok (.aload_n 0, 1) := by decide +kernel
theorem dX2_waysOn_8 : decode cX2_waysOn 8 = .ok (.getfield 9, 3) := by decide +kernel
theorem dX2_waysOn_11 : decode cX2_waysOn 11 = .ok (.if_icmp .ge 48, 3) := by decide +kernel
theorem dX2_waysOn_14 : decode cX2_waysOn 14 = .ok (.iload_n 1, 1) := by decide +kernel
theorem dX2_waysOn_15 : decode cX2_waysOn 15 = .ok (.iload 4, 2) := by decide +kernel
theorem dX2_waysOn_17 : decode cX2_waysOn 17 = .ok (.ishr, 1) := by decide +kernel
theorem dX2_waysOn_18 : decode cX2_waysOn 18 = .ok (.iconst 1, 1) := by decide +kernel
theorem dX2_waysOn_19 : decode cX2_waysOn 19 = .ok (.iand, 1) := by decide +kernel
theorem dX2_waysOn_20 : decode cX2_waysOn 20 = .ok (.ifCond .ne 33, 3) := by decide +kernel
theorem dX2_waysOn_23 : decode cX2_waysOn 23 = .ok (.aload_n 0, 1) := by decide +kernel
theorem dX2_waysOn_24 : decode cX2_waysOn 24 = .ok (.iload_n 2, 1) := by decide +kernel
theorem dX2_waysOn_25 : decode cX2_waysOn 25 = .ok (.iload 4, 2) := by decide +kernel
theorem dX2_waysOn_27 : decode cX2_waysOn 27 = .ok (.invokevirtual 59, 3) := by decide +kernel
theorem dX2_waysOn_30 : decode cX2_waysOn 30 = .ok (.ifCond .eq 23, 3) := by decide +kernel
theorem dX2_waysOn_33 : decode cX2_waysOn 33 = .ok (.iload_n 3, 1) := by decide +kernel
theorem dX2_waysOn_34 : decode cX2_waysOn 34 = .ok (.aload_n 0, 1) := by decide +kernel
theorem dX2_waysOn_35 : decode cX2_waysOn 35 = .ok (.getfield 22, 3) := by decide +kernel
theorem dX2_waysOn_38 : decode cX2_waysOn 38 = .ok (.iload_n 1, 1) := by decide +kernel
theorem dX2_waysOn_39 : decode cX2_waysOn 39 = .ok (.iconst 1, 1) := by decide +kernel
theorem dX2_waysOn_40 : decode cX2_waysOn 40 = .ok (.iload 4, 2) := by decide +kernel
theorem dX2_waysOn_42 : decode cX2_waysOn 42 = .ok (.ishl, 1) := by decide +kernel
theorem dX2_waysOn_43 : decode cX2_waysOn 43 = .ok (.ior, 1) := by decide +kernel
theorem dX2_waysOn_44 : decode cX2_waysOn 44 = .ok (.bipush 6, 2) := by decide +kernel
theorem dX2_waysOn_46 : decode cX2_waysOn 46 = .ok (.imul, 1) := by decide +kernel
theorem dX2_waysOn_47 : decode cX2_waysOn 47 = .ok (.iload 4, 2) := by decide +kernel
theorem dX2_waysOn_49 : decode cX2_waysOn 49 = .ok (.iadd, 1) := by decide +kernel
theorem dX2_waysOn_50 : decode cX2_waysOn 50 = .ok (.iaload, 1) := by decide +kernel
theorem dX2_waysOn_51 : decode cX2_waysOn 51 = .ok (.iadd, 1) := by decide +kernel
theorem dX2_waysOn_52 : decode cX2_waysOn 52 = .ok (.istore_n 3, 1) := by decide +kernel
theorem dX2_waysOn_53 : decode cX2_waysOn 53 = .ok (.iinc 4 1, 3) := by decide +kernel
theorem dX2_waysOn_56 : decode cX2_waysOn 56 = .ok (.goto (-51), 3) := by decide +kernel
theorem dX2_waysOn_59 : decode cX2_waysOn 59 = .ok (.iload_n 3, 1) := by decide +kernel
theorem dX2_waysOn_60 : decode cX2_waysOn 60 = .ok (.ireturn, 1) := by decide +kernel
theorem dX2_areNear_0 : decode cX2_areNear 0 = .ok (.aload_n 0, 1) := by decide +kernel
theorem dX2_areNear_1 : decode cX2_areNear 1 = .ok (.getfield 19, 3) := by decide +kernel
theorem dX2_areNear_4 : decode cX2_areNear 4 = .ok (.iload_n 1, 1) := by decide +kernel
theorem dX2_areNear_5 : decode cX2_areNear 5 = .ok (.iaload, 1) := by decide +kernel
theorem dX2_areNear_6 : decode cX2_areNear 6 = .ok (.aload_n 0, 1) := by decide +kernel
theorem dX2_areNear_7 : decode cX2_areNear 7 = .ok (.getfield 19, 3) := by decide +kernel
theorem dX2_areNear_10 : decode cX2_areNear 10 = .ok (.iload_n 2, 1) := by decide +kernel
theorem dX2_areNear_11 : decode cX2_areNear 11 = .ok (.iaload, 1) := by decide +kernel
theorem dX2_areNear_12 : decode cX2_areNear 12 = .ok (.isub, 1) := by decide +kernel
theorem dX2_areNear_13 : decode cX2_areNear 13 = .ok (.invokestatic 63, 3) := by decide +kernel
theorem dX2_areNear_16 : decode cX2_areNear 16 = .ok (.iconst 2, 1) := by decide +kernel
theorem dX2_areNear_17 : decode cX2_areNear 17 = .ok (.if_icmp .gt 7, 3) := by decide +kernel
theorem dX2_areNear_20 : decode cX2_areNear 20 = .ok (.iconst 1, 1) := by decide +kernel
theorem dX2_areNear_21 : decode cX2_areNear 21 = .ok (.goto 4, 3) := by decide +kernel
theorem dX2_areNear_24 : decode cX2_areNear 24 = .ok (.iconst 0, 1) := by decide +kernel
theorem dX2_areNear_25 : decode cX2_areNear 25 = .ok (.ireturn, 1) := by decide +kernel
theorem dX2_orders_0 : decode cX2_orders 0 = .ok (.aload_n 0, 1) := by decide +kernel
theorem dX2_orders_1 : decode cX2_orders 1 = .ok (.getfield 9, 3) := by decide +kernel
theorem dX2_orders_4 : decode cX2_orders 4 = .ok (.ifCond .ne 5, 3) := by decide +kernel
theorem dX2_orders_7 : decode cX2_orders 7 = .ok (.iconst 1, 1) := by decide +kernel
theorem dX2_orders_8 : decode cX2_orders 8 = .ok (.ireturn, 1) := by decide +kernel
theorem dX2_orders_9 : decode cX2_orders 9 = .ok (.iconst 0, 1) := by decide +kernel
theorem dX2_orders_10 : decode cX2_orders 10 = .ok (.istore_n 1, 1) := by decide +kernel
theorem dX2_orders_11 : decode cX2_orders 11 = .ok (.iconst 0, 1) := by decide +kernel
theorem dX2_orders_12 : decode cX2_orders 12 = .ok (.istore_n 2, 1) := by decide +kernel
theorem dX2_orders_13 : decode cX2_orders 13 = .ok (.iload_n 2, 1) := by decide +kernel
theorem dX2_orders_14 : decode cX2_orders 14 = .ok (.aload_n 0, 1) := by decide +kernel
theorem dX2_orders_15 : decode cX2_orders 15 = .ok (.getfield 9, 3) := by decide +kernel
theorem dX2_orders_18 : decode cX2_orders 18 = .ok (.if_icmp .ge 25, 3) := by decide +kernel
theorem dX2_orders_21 : decode cX2_orders 21 = .ok (.iload_n 1, 1) := by decide +kernel
theorem dX2_orders_22 : decode cX2_orders 22 = .ok (.aload_n 0, 1) := by decide +kernel
theorem dX2_orders_23 : decode cX2_orders 23 = .ok (.getfield 22, 3) := by decide +kernel
theorem dX2_orders_26 : decode cX2_orders 26 = .ok (.iconst 1, 1) := by decide +kernel
theorem dX2_orders_27 : decode cX2_orders 27 = .ok (.iload_n 2, 1) := by decide +kernel
theorem dX2_orders_28 : decode cX2_orders 28 = .ok (.ishl, 1) := by decide +kernel
theorem dX2_orders_29 : decode cX2_orders 29 = .ok (.bipush 6, 2) := by decide +kernel
theorem dX2_orders_31 : decode cX2_orders 31 = .ok (.imul, 1) := by decide +kernel
theorem dX2_orders_32 : decode cX2_orders 32 = .ok (.iload_n 2, 1) := by decide +kernel
theorem dX2_orders_33 : decode cX2_orders 33 = .ok (.iadd, 1) := by decide +kernel
theorem dX2_orders_34 : decode cX2_orders 34 = .ok (.iaload, 1) := by decide +kernel
theorem dX2_orders_35 : decode cX2_orders 35 = .ok (.iadd, 1) := by decide +kernel
theorem dX2_orders_36 : decode cX2_orders 36 = .ok (.istore_n 1, 1) := by decide +kernel
theorem dX2_orders_37 : decode cX2_orders 37 = .ok (.iinc 2 1, 3) := by decide +kernel
theorem dX2_orders_40 : decode cX2_orders 40 = .ok (.goto (-27), 3) := by decide +kernel
theorem dX2_orders_43 : decode cX2_orders 43 = .ok (.iload_n 1, 1) := by decide +kernel
theorem dX2_orders_44 : decode cX2_orders 44 = .ok (.ireturn, 1) := by decide +kernel
theorem dX2_inFirstOrder_0 : decode cX2_inFirstOrder 0 = .ok (.iload_n 1, 1) := by decide +kernel
theorem dX2_inFirstOrder_1 : decode cX2_inFirstOrder 1 = .ok (.ifCond .lt 11, 3) := by decide +kernel
theorem dX2_inFirstOrder_4 : decode cX2_inFirstOrder 4 = .ok (.iload_n 1, 1) := by decide +kernel
theorem dX2_inFirstOrder_5 : decode cX2_inFirstOrder 5 = .ok (.aload_n 0, 1) := by decide +kernel
theorem dX2_inFirstOrder_6 : decode cX2_inFirstOrder 6 = .ok (.getfield 9, 3) := by decide +kernel
theorem dX2_inFirstOrder_9 : decode cX2_inFirstOrder 9 = .ok (.if_icmp .lt 6, 3) := by decide +kernel
theorem dX2_inFirstOrder_12 : decode cX2_inFirstOrder 12 = .ok (.ldc 34, 2) := by decide +kernel
theorem dX2_inFirstOrder_14 : decode cX2_inFirstOrder 14 = .ok (.ireturn, 1) := by decide +kernel
theorem dX2_inFirstOrder_15 : decode cX2_inFirstOrder 15 = .ok (.iconst 0, 1) := by decide +kernel
theorem dX2_inFirstOrder_16 : decode cX2_inFirstOrder 16 = .ok (.istore_n 2, 1) := by decide +kernel
theorem dX2_inFirstOrder_17 : decode cX2_inFirstOrder 17 = .ok (.iconst (-1), 1) := by decide +kernel
theorem dX2_inFirstOrder_18 : decode cX2_inFirstOrder 18 = .ok (.istore_n 3, 1) := by decide +kernel
theorem dX2_inFirstOrder_19 : decode cX2_inFirstOrder 19 = .ok (.iconst 0, 1) := by decide +kernel
theorem dX2_inFirstOrder_20 : decode cX2_inFirstOrder 20 = .ok (.istore 4, 2) := by decide +kernel
theorem dX2_inFirstOrder_22 : decode cX2_inFirstOrder 22 = .ok (.iload 4, 2) := by decide +kernel
theorem dX2_inFirstOrder_24 : decode cX2_inFirstOrder 24 = .ok (.iload_n 1, 1) := by decide +kernel
theorem dX2_inFirstOrder_25 : decode cX2_inFirstOrder 25 = .ok (.if_icmp .gt 29, 3) := by decide +kernel
theorem dX2_inFirstOrder_28 : decode cX2_inFirstOrder 28 = .ok (.aload_n 0, 1) := by decide +kernel
theorem dX2_inFirstOrder_29 : decode cX2_inFirstOrder 29 = .ok (.iload_n 2, 1) := by decide +kernel
theorem dX2_inFirstOrder_30 : decode cX2_inFirstOrder 30 = .ok (.iload_n 3, 1) := by decide +kernel
theorem dX2_inFirstOrder_31 : decode cX2_inFirstOrder 31 = .ok (.invokevirtual 66, 3) := by decide +kernel
theorem dX2_inFirstOrder_34 : decode cX2_inFirstOrder 34 = .ok (.istore_n 3, 1) := by decide +kernel
theorem dX2_inFirstOrder_35 : decode cX2_inFirstOrder 35 = .ok (.iload_n 3, 1) := by decide +kernel
theorem dX2_inFirstOrder_36 : decode cX2_inFirstOrder 36 = .ok (.ifCond .ge 6, 3) := by decide +kernel
theorem dX2_inFirstOrder_39 : decode cX2_inFirstOrder 39 = .ok (.ldc 34, 2) := by decide +kernel
theorem dX2_inFirstOrder_41 : decode cX2_inFirstOrder 41 = .ok (.ireturn, 1) := by decide +kernel
theorem dX2_inFirstOrder_42 : decode cX2_inFirstOrder 42 = .ok (.iload_n 2, 1) := by decide +kernel
theorem dX2_inFirstOrder_43 : decode cX2_inFirstOrder 43 = .ok (.iconst 1, 1) := by decide +kernel
theorem dX2_inFirstOrder_44 : decode cX2_inFirstOrder 44 = .ok (.iload_n 3, 1) := by decide +kernel
theorem dX2_inFirstOrder_45 : decode cX2_inFirstOrder 45 = .ok (.ishl, 1) := by decide +kernel
theorem dX2_inFirstOrder_46 : decode cX2_inFirstOrder 46 = .ok (.ior, 1) := by decide +kernel
theorem dX2_inFirstOrder_47 : decode cX2_inFirstOrder 47 = .ok (.istore_n 2, 1) := by decide +kernel
theorem dX2_inFirstOrder_48 : decode cX2_inFirstOrder 48 = .ok (.iinc 4 1, 3) := by decide +kernel
theorem dX2_inFirstOrder_51 : decode cX2_inFirstOrder 51 = .ok (.goto (-29), 3) := by decide +kernel
theorem dX2_inFirstOrder_54 : decode cX2_inFirstOrder 54 = .ok (.aload_n 0, 1) := by decide +kernel
theorem dX2_inFirstOrder_55 : decode cX2_inFirstOrder 55 = .ok (.getfield 15, 3) := by decide +kernel
theorem dX2_inFirstOrder_58 : decode cX2_inFirstOrder 58 = .ok (.iload_n 3, 1) := by decide +kernel
theorem dX2_inFirstOrder_59 : decode cX2_inFirstOrder 59 = .ok (.iaload, 1) := by decide +kernel
theorem dX2_inFirstOrder_60 : decode cX2_inFirstOrder 60 = .ok (.ireturn, 1) := by decide +kernel
theorem dX2_firstNext_0 : decode cX2_firstNext 0 = .ok (.iconst 0, 1) := by decide +kernel
theorem dX2_firstNext_1 : decode cX2_firstNext 1 = .ok (.istore_n 3, 1) := by decide +kernel
theorem dX2_firstNext_2 : decode cX2_firstNext 2 = .ok (.iload_n 3, 1) := by decide +kernel
theorem dX2_firstNext_3 : decode cX2_firstNext 3 = .ok (.aload_n 0, 1) := by decide +kernel
theorem dX2_firstNext_4 : decode cX2_firstNext 4 = .ok (.getfield 9, 3) := by decide +kernel
theorem dX2_firstNext_7 : decode cX2_firstNext 7 = .ok (.if_icmp .ge 62, 3) := by decide +kernel
theorem dX2_firstNext_10 : decode cX2_firstNext 10 = .ok (.iload_n 1, 1) := by decide +kernel
theorem dX2_firstNext_11 : decode cX2_firstNext 11 = .ok (.iload_n 3, 1) := by decide +kernel
theorem dX2_firstNext_12 : decode cX2_firstNext 12 = .ok (.ishr, 1) := by decide +kernel
theorem dX2_firstNext_13 : decode cX2_firstNext 13 = .ok (.iconst 1, 1) := by decide +kernel
theorem dX2_firstNext_14 : decode cX2_firstNext 14 = .ok (.iand, 1) := by decide +kernel
theorem dX2_firstNext_15 : decode cX2_firstNext 15 = .ok (.ifCond .ne 20, 3) := by decide +kernel
theorem dX2_firstNext_18 : decode cX2_firstNext 18 = .ok (.iload_n 2, 1) := by decide +kernel
theorem dX2_firstNext_19 : decode cX2_firstNext 19 = .ok (.ifCond .lt 12, 3) := by decide +kernel
theorem dX2_firstNext_22 : decode cX2_firstNext 22 = .ok (.aload_n 0, 1) := by decide +kernel
theorem dX2_firstNext_23 : decode cX2_firstNext 23 = .ok (.iload_n 2, 1) := by decide +kernel
theorem dX2_firstNext_24 : decode cX2_firstNext 24 = .ok (.iload_n 3, 1) := by decide +kernel
theorem dX2_firstNext_25 : decode cX2_firstNext 25 = .ok (.invokevirtual 59, 3) := by decide +kernel
theorem dX2_firstNext_28 : decode cX2_firstNext 28 = .ok (.ifCond .eq 7, 3) := by decide +kernel
theorem dX2_firstNext_31 : decode cX2_firstNext 31 = .ok (.iconst 1, 1) := by decide +kernel
theorem dX2_firstNext_32 : decode cX2_firstNext 32 = .ok (.goto 4, 3) := by decide +kernel
theorem dX2_firstNext_35 : decode cX2_firstNext 35 = .ok (.iconst 0, 1) := by decide +kernel
theorem dX2_firstNext_36 : decode cX2_firstNext 36 = .ok (.istore 4, 2) := by decide +kernel
theorem dX2_firstNext_38 : decode cX2_firstNext 38 = .ok (.iload 4, 2) := by decide +kernel
theorem dX2_firstNext_40 : decode cX2_firstNext 40 = .ok (.ifCond .eq 23, 3) := by decide +kernel
theorem dX2_firstNext_43 : decode cX2_firstNext 43 = .ok (.aload_n 0, 1) := by decide +kernel
theorem dX2_firstNext_44 : decode cX2_firstNext 44 = .ok (.getfield 22, 3) := by decide +kernel
theorem dX2_firstNext_47 : decode cX2_firstNext 47 = .ok (.iload_n 1, 1) := by decide +kernel
theorem dX2_firstNext_48 : decode cX2_firstNext 48 = .ok (.iconst 1, 1) := by decide +kernel
theorem dX2_firstNext_49 : decode cX2_firstNext 49 = .ok (.iload_n 3, 1) := by decide +kernel
theorem dX2_firstNext_50 : decode cX2_firstNext 50 = .ok (.ishl, 1) := by decide +kernel
theorem dX2_firstNext_51 : decode cX2_firstNext 51 = .ok (.ior, 1) := by decide +kernel
theorem dX2_firstNext_52 : decode cX2_firstNext 52 = .ok (.bipush 6, 2) := by decide +kernel
theorem dX2_firstNext_54 : decode cX2_firstNext 54 = .ok (.imul, 1) := by decide +kernel
theorem dX2_firstNext_55 : decode cX2_firstNext 55 = .ok (.iload_n 3, 1) := by decide +kernel
theorem dX2_firstNext_56 : decode cX2_firstNext 56 = .ok (.iadd, 1) := by decide +kernel
theorem dX2_firstNext_57 : decode cX2_firstNext 57 = .ok (.iaload, 1) := by decide +kernel
theorem dX2_firstNext_58 : decode cX2_firstNext 58 = .ok (.ifCond .le 5, 3) := by decide +kernel
theorem dX2_firstNext_61 : decode cX2_firstNext 61 = .ok (.iload_n 3, 1) := by decide +kernel
theorem dX2_firstNext_62 : decode cX2_firstNext 62 = .ok (.ireturn, 1) := by decide +kernel
theorem dX2_firstNext_63 : decode cX2_firstNext 63 = .ok (.iinc 3 1, 3) := by decide +kernel
theorem dX2_firstNext_66 : decode cX2_firstNext 66 = .ok (.goto (-64), 3) := by decide +kernel
theorem dX2_firstNext_69 : decode cX2_firstNext 69 = .ok (.iconst (-1), 1) := by decide +kernel
theorem dX2_firstNext_70 : decode cX2_firstNext 70 = .ok (.ireturn, 1) := by decide +kernel
theorem dX3_init_0 : decode cX3_init 0 = .ok (.aload_n 0, 1) := by decide +kernel
theorem dX3_init_1 : decode cX3_init 1 = .ok (.invokespecial 3, 3) := by decide +kernel
theorem dX3_init_4 : decode cX3_init 4 = .ok (.aload_n 0, 1) := by decide +kernel
theorem dX3_init_5 : decode cX3_init 5 = .ok (.iconst 0, 1) := by decide +kernel
theorem dX3_init_6 : decode cX3_init 6 = .ok (.putfield 9, 3) := by decide +kernel
theorem dX3_init_9 : decode cX3_init 9 = .ok (.aload_n 0, 1) := by decide +kernel
theorem dX3_init_10 : decode cX3_init 10 = .ok (.iconst 1, 1) := by decide +kernel
theorem dX3_init_11 : decode cX3_init 11 = .ok (.putfield 15, 3) := by decide +kernel
theorem dX3_init_14 : decode cX3_init 14 = .ok (.aload_n 0, 1) := by decide +kernel
theorem dX3_init_15 : decode cX3_init 15 = .ok (.iconst 1, 1) := by decide +kernel
theorem dX3_init_16 : decode cX3_init 16 = .ok (.putfield 19, 3) := by decide +kernel
theorem dX3_init_19 : decode cX3_init 19 = .ok (.aload_n 0, 1) := by decide +kernel
theorem dX3_init_20 : decode cX3_init 20 = .ok (.iconst 0, 1) := by decide +kernel
theorem dX3_init_21 : decode cX3_init 21 = .ok (.putfield 22, 3) := by decide +kernel
theorem dX3_init_24 : decode cX3_init 24 = .ok (.aload_n 0, 1) := by decide +kernel
theorem dX3_init_25 : decode cX3_init 25 = .ok (.iconst 0, 1) := by decide +kernel
theorem dX3_init_26 : decode cX3_init 26 = .ok (.putfield 25, 3) := by decide +kernel
theorem dX3_init_29 : decode cX3_init 29 = .ok (.aload_n 0, 1) := by decide +kernel
theorem dX3_init_30 : decode cX3_init 30 = .ok (.iconst 0, 1) := by decide +kernel
theorem dX3_init_31 : decode cX3_init 31 = .ok (.putfield 28, 3) := by decide +kernel
theorem dX3_init_34 : decode cX3_init 34 = .ok (.aload_n 0, 1) := by decide +kernel
theorem dX3_init_35 : decode cX3_init 35 = .ok (.bipush 6, 2) := by decide +kernel
theorem dX3_init_37 : decode cX3_init 37 = .ok (.newarray .int, 2) := by decide +kernel
theorem dX3_init_39 : decode cX3_init 39 = .ok (.putfield 31, 3) := by decide +kernel
theorem dX3_init_42 : decode cX3_init 42 = .ok (.aload_n 0, 1) := by decide +kernel
theorem dX3_init_43 : decode cX3_init 43 = .ok (.bipush 6, 2) := by decide +kernel
theorem dX3_init_45 : decode cX3_init 45 = .ok (.newarray .int, 2) := by decide +kernel
theorem dX3_init_47 : decode cX3_init 47 = .ok (.putfield 35, 3) := by decide +kernel
theorem dX3_init_50 : decode cX3_init 50 = .ok (.aload_n 0, 1) := by decide +kernel
theorem dX3_init_51 : decode cX3_init 51 = .ok (.bipush 6, 2) := by decide +kernel
theorem dX3_init_53 : decode cX3_init 53 = .ok (.newarray .int, 2) := by decide +kernel
theorem dX3_init_55 : decode cX3_init 55 = .ok (.putfield 38, 3) := by decide +kernel
theorem dX3_init_58 : decode cX3_init 58 = .ok (.aload_n 0, 1) := by decide +kernel
theorem dX3_init_59 : decode cX3_init 59 = .ok (.bipush 6, 2) := by decide +kernel
theorem dX3_init_61 : decode cX3_init 61 = .ok (.newarray .int, 2) := by decide +kernel
theorem dX3_init_63 : decode cX3_init 63 = .ok (.putfield 41, 3) := by decide +kernel
theorem dX3_init_66 : decode cX3_init 66 = .ok (.aload_n 0, 1) := by decide +kernel
theorem dX3_init_67 : decode cX3_init 67 = .ok (.bipush 6, 2) := by decide +kernel
theorem dX3_init_69 : decode cX3_init 69 = .ok (.newarray .int, 2) := by decide +kernel
theorem dX3_init_71 : decode cX3_init 71 = .ok (.putfield 44, 3) := by decide +kernel
theorem dX3_init_74 : decode cX3_init 74 = .ok (.aload_n 0, 1) := by decide +kernel
theorem dX3_init_75 : decode cX3_init 75 = .ok (.bipush 36, 2) := by decide +kernel
theorem dX3_init_77 : decode cX3_init 77 = .ok (.newarray .int, 2) := by decide +kernel
theorem dX3_init_79 : decode cX3_init 79 = .ok (.putfield 47, 3) := by decide +kernel
theorem dX3_init_82 : decode cX3_init 82 = .ok (.aload_n 0, 1) := by decide +kernel
theorem dX3_init_83 : decode cX3_init 83 = .ok (.bipush 36, 2) := by decide +kernel
theorem dX3_init_85 : decode cX3_init 85 = .ok (.newarray .int, 2) := by decide +kernel
theorem dX3_init_87 : decode cX3_init 87 = .ok (.putfield 50, 3) := by decide +kernel
theorem dX3_init_90 : decode cX3_init 90 = .ok (.aload_n 0, 1) := by decide +kernel
theorem dX3_init_91 : decode cX3_init 91 = .ok (.bipush 36, 2) := by decide +kernel
theorem dX3_init_93 : decode cX3_init 93 = .ok (.newarray .int, 2) := by decide +kernel
theorem dX3_init_95 : decode cX3_init 95 = .ok (.putfield 53, 3) := by decide +kernel
theorem dX3_init_98 : decode cX3_init 98 = .ok (.return_, 1) := by decide +kernel
theorem dX3_clear_0 : decode cX3_clear 0 = .ok (.aload_n 0, 1) := by decide +kernel
theorem dX3_clear_1 : decode cX3_clear 1 = .ok (.iconst 0, 1) := by decide +kernel
theorem dX3_clear_2 : decode cX3_clear 2 = .ok (.putfield 9, 3) := by decide +kernel
theorem dX3_clear_5 : decode cX3_clear 5 = .ok (.aload_n 0, 1) := by decide +kernel
theorem dX3_clear_6 : decode cX3_clear 6 = .ok (.iconst 1, 1) := by decide +kernel
theorem dX3_clear_7 : decode cX3_clear 7 = .ok (.putfield 15, 3) := by decide +kernel
theorem dX3_clear_10 : decode cX3_clear 10 = .ok (.aload_n 0, 1) := by decide +kernel
theorem dX3_clear_11 : decode cX3_clear 11 = .ok (.iconst 1, 1) := by decide +kernel
theorem dX3_clear_12 : decode cX3_clear 12 = .ok (.putfield 19, 3) := by decide +kernel
theorem dX3_clear_15 : decode cX3_clear 15 = .ok (.aload_n 0, 1) := by decide +kernel
theorem dX3_clear_16 : decode cX3_clear 16 = .ok (.iconst 0, 1) := by decide +kernel
theorem dX3_clear_17 : decode cX3_clear 17 = .ok (.putfield 22, 3) := by decide +kernel
theorem dX3_clear_20 : decode cX3_clear 20 = .ok (.aload_n 0, 1) := by decide +kernel
theorem dX3_clear_21 : decode cX3_clear 21 = .ok (.iconst 0, 1) := by decide +kernel
theorem dX3_clear_22 : decode cX3_clear 22 = .ok (.putfield 25, 3) := by decide +kernel
theorem dX3_clear_25 : decode cX3_clear 25 = .ok (.aload_n 0, 1) := by decide +kernel
theorem dX3_clear_26 : decode cX3_clear 26 = .ok (.iconst 0, 1) := by decide +kernel
theorem dX3_clear_27 : decode cX3_clear 27 = .ok (.putfield 28, 3) := by decide +kernel
theorem dX3_clear_30 : decode cX3_clear 30 = .ok (.iconst 0, 1) := by decide +kernel
theorem dX3_clear_31 : decode cX3_clear 31 = .ok (.istore_n 1, 1) := by decide +kernel
theorem dX3_clear_32 : decode cX3_clear 32 = .ok (.iload_n 1, 1) := by decide +kernel
theorem dX3_clear_33 : decode cX3_clear 33 = .ok (.bipush 6, 2) := by decide +kernel
theorem dX3_clear_35 : decode cX3_clear 35 = .ok (.if_icmp .ge 16, 3) := by decide +kernel
theorem dX3_clear_38 : decode cX3_clear 38 = .ok (.aload_n 0, 1) := by decide +kernel
theorem dX3_clear_39 : decode cX3_clear 39 = .ok (.getfield 44, 3) := by decide +kernel
theorem dX3_clear_42 : decode cX3_clear 42 = .ok (.iload_n 1, 1) := by decide +kernel
theorem dX3_clear_43 : decode cX3_clear 43 = .ok (.iconst 0, 1) := by decide +kernel
theorem dX3_clear_44 : decode cX3_clear 44 = .ok (.iastore, 1) := by decide +kernel
theorem dX3_clear_45 : decode cX3_clear 45 = .ok (.iinc 1 1, 3) := by decide +kernel
theorem dX3_clear_48 : decode cX3_clear 48 = .ok (.goto (-16), 3) := by decide +kernel
theorem dX3_clear_51 : decode cX3_clear 51 = .ok (.iconst 0, 1) := by decide +kernel
theorem dX3_clear_52 : decode cX3_clear 52 = .ok (.istore_n 1, 1) := by decide +kernel
theorem dX3_clear_53 : decode cX3_clear 53 = .ok (.iload_n 1, 1) := by decide +kernel
theorem dX3_clear_54 : decode cX3_clear 54 = .ok (.bipush 36, 2) := by decide +kernel
theorem dX3_clear_56 : decode cX3_clear 56 = .ok (.if_icmp .ge 16, 3) := by decide +kernel
theorem dX3_clear_59 : decode cX3_clear 59 = .ok (.aload_n 0, 1) := by decide +kernel
theorem dX3_clear_60 : decode cX3_clear 60 = .ok (.getfield 50, 3) := by decide +kernel
theorem dX3_clear_63 : decode cX3_clear 63 = .ok (.iload_n 1, 1) := by decide +kernel
theorem dX3_clear_64 : decode cX3_clear 64 = .ok (.iconst 0, 1) := by decide +kernel
theorem dX3_clear_65 : decode cX3_clear 65 = .ok (.iastore, 1) := by decide +kernel
theorem dX3_clear_66 : decode cX3_clear 66 = .ok (.iinc 1 1, 3) := by decide +kernel
theorem dX3_clear_69 : decode cX3_clear 69 = .ok (.goto (-16), 3) := by decide +kernel
theorem dX3_clear_72 : decode cX3_clear 72 = .ok (.return_, 1) := by decide +kernel
theorem dX3_become_0 : decode cX3_become 0 = .ok (.aload_n 0, 1) := by decide +kernel
theorem dX3_become_1 : decode cX3_become 1 = .ok (.aload_n 1, 1) := by decide +kernel
theorem dX3_become_2 : decode cX3_become 2 = .ok (.getfield 9, 3) := by decide +kernel
theorem dX3_become_5 : decode cX3_become 5 = .ok (.putfield 9, 3) := by decide +kernel
theorem dX3_become_8 : decode cX3_become 8 = .ok (.aload_n 0, 1) := by decide +kernel
theorem dX3_become_9 : decode cX3_become 9 = .ok (.aload_n 1, 1) := by decide +kernel
theorem dX3_become_10 : decode cX3_become 10 = .ok (.getfield 15, 3) := by decide +kernel
theorem dX3_become_13 : decode cX3_become 13 = .ok (.putfield 15, 3) := by decide +kernel
theorem dX3_become_16 : decode cX3_become 16 = .ok (.aload_n 0, 1) := by decide +kernel
theorem dX3_become_17 : decode cX3_become 17 = .ok (.aload_n 1, 1) := by decide +kernel
theorem dX3_become_18 : decode cX3_become 18 = .ok (.getfield 19, 3) := by decide +kernel
theorem dX3_become_21 : decode cX3_become 21 = .ok (.putfield 19, 3) := by decide +kernel
theorem dX3_become_24 : decode cX3_become 24 = .ok (.aload_n 0, 1) := by decide +kernel
theorem dX3_become_25 : decode cX3_become 25 = .ok (.aload_n 1, 1) := by decide +kernel
theorem dX3_become_26 : decode cX3_become 26 = .ok (.getfield 22, 3) := by decide +kernel
theorem dX3_become_29 : decode cX3_become 29 = .ok (.putfield 22, 3) := by decide +kernel
theorem dX3_become_32 : decode cX3_become 32 = .ok (.aload_n 0, 1) := by decide +kernel
theorem dX3_become_33 : decode cX3_become 33 = .ok (.aload_n 1, 1) := by decide +kernel
theorem dX3_become_34 : decode cX3_become 34 = .ok (.getfield 25, 3) := by decide +kernel
theorem dX3_become_37 : decode cX3_become 37 = .ok (.putfield 25, 3) := by decide +kernel
theorem dX3_become_40 : decode cX3_become 40 = .ok (.aload_n 0, 1) := by decide +kernel
theorem dX3_become_41 : decode cX3_become 41 = .ok (.aload_n 1, 1) := by decide +kernel
theorem dX3_become_42 : decode cX3_become 42 = .ok (.getfield 28, 3) := by decide +kernel
theorem dX3_become_45 : decode cX3_become 45 = .ok (.putfield 28, 3) := by decide +kernel
theorem dX3_become_48 : decode cX3_become 48 = .ok (.aload_n 1, 1) := by decide +kernel
theorem dX3_become_49 : decode cX3_become 49 = .ok (.getfield 31, 3) := by decide +kernel
theorem dX3_become_52 : decode cX3_become 52 = .ok (.iconst 0, 1) := by decide +kernel
theorem dX3_become_53 : decode cX3_become 53 = .ok (.aload_n 0, 1) := by decide +kernel
theorem dX3_become_54 : decode cX3_become 54 = .ok (.getfield 31, 3) := by decide +kernel
theorem dX3_become_57 : decode cX3_become 57 = .ok (.iconst 0, 1) := by decide +kernel
theorem dX3_become_58 : decode cX3_become 58 = .ok (.bipush 6, 2) := by decide +kernel
theorem dX3_become_60 : decode cX3_become 60 = .ok (.invokestatic 56, 3) := by decide +kernel
theorem dX3_become_63 : decode cX3_become 63 = .ok (.aload_n 1, 1) := by decide +kernel
theorem dX3_become_64 : decode cX3_become 64 = .ok (.getfield 35, 3) := by decide +kernel
theorem dX3_become_67 : decode cX3_become 67 = .ok (.iconst 0, 1) := by decide +kernel
theorem dX3_become_68 : decode cX3_become 68 = .ok (.aload_n 0, 1) := by decide +kernel
theorem dX3_become_69 : decode cX3_become 69 = .ok (.getfield 35, 3) := by decide +kernel
theorem dX3_become_72 : decode cX3_become 72 = .ok (.iconst 0, 1) := by decide +kernel
theorem dX3_become_73 : decode cX3_become 73 = .ok (.bipush 6, 2) := by decide +kernel
theorem dX3_become_75 : decode cX3_become 75 = .ok (.invokestatic 56, 3) := by decide +kernel
theorem dX3_become_78 : decode cX3_become 78 = .ok (.aload_n 1, 1) := by decide +kernel
theorem dX3_become_79 : decode cX3_become 79 = .ok (.getfield 38, 3) := by decide +kernel
theorem dX3_become_82 : decode cX3_become 82 = .ok (.iconst 0, 1) := by decide +kernel
theorem dX3_become_83 : decode cX3_become 83 = .ok (.aload_n 0, 1) := by decide +kernel
theorem dX3_become_84 : decode cX3_become 84 = .ok (.getfield 38, 3) := by decide +kernel
theorem dX3_become_87 : decode cX3_become 87 = .ok (.iconst 0, 1) := by decide +kernel
theorem dX3_become_88 : decode cX3_become 88 = .ok (.bipush 6, 2) := by decide +kernel
theorem dX3_become_90 : decode cX3_become 90 = .ok (.invokestatic 56, 3) := by decide +kernel
theorem dX3_become_93 : decode cX3_become 93 = .ok (.aload_n 1, 1) := by decide +kernel
theorem dX3_become_94 : decode cX3_become 94 = .ok (.getfield 41, 3) := by decide +kernel
theorem dX3_become_97 : decode cX3_become 97 = .ok (.iconst 0, 1) := by decide +kernel
theorem dX3_become_98 : decode cX3_become 98 = .ok (.aload_n 0, 1) := by decide +kernel
theorem dX3_become_99 : decode cX3_become 99 = .ok (.getfield 41, 3) := by decide +kernel
theorem dX3_become_102 : decode cX3_become 102 = .ok (.iconst 0, 1) := by decide +kernel
theorem dX3_become_103 : decode cX3_become 103 = .ok (.bipush 6, 2) := by decide +kernel
theorem dX3_become_105 : decode cX3_become 105 = .ok (.invokestatic 56, 3) := by decide +kernel
theorem dX3_become_108 : decode cX3_become 108 = .ok (.aload_n 1, 1) := by decide +kernel
theorem dX3_become_109 : decode cX3_become 109 = .ok (.getfield 44, 3) := by decide +kernel
theorem dX3_become_112 : decode cX3_become 112 = .ok (.iconst 0, 1) := by decide +kernel
theorem dX3_become_113 : decode cX3_become 113 = .ok (.aload_n 0, 1) := by decide +kernel
theorem dX3_become_114 : decode cX3_become 114 = .ok (.getfield 44, 3) := by decide +kernel
theorem dX3_become_117 : decode cX3_become 117 = .ok (.iconst 0, 1) := by decide +kernel
theorem dX3_become_118 : decode cX3_become 118 = .ok (.bipush 6, 2) := by decide +kernel
theorem dX3_become_120 : decode cX3_become 120 = .ok (.invokestatic 56, 3) := by decide +kernel
theorem dX3_become_123 : decode cX3_become 123 = .ok (.aload_n 1, 1) := by decide +kernel
theorem dX3_become_124 : decode cX3_become 124 = .ok (.getfield 47, 3) := by decide +kernel
theorem dX3_become_127 : decode cX3_become 127 = .ok (.iconst 0, 1) := by decide +kernel
theorem dX3_become_128 : decode cX3_become 128 = .ok (.aload_n 0, 1) := by decide +kernel
theorem dX3_become_129 : decode cX3_become 129 = .ok (.getfield 47, 3) := by decide +kernel
theorem dX3_become_132 : decode cX3_become 132 = .ok (.iconst 0, 1) := by decide +kernel
theorem dX3_become_133 : decode cX3_become 133 = .ok (.bipush 36, 2) := by decide +kernel
theorem dX3_become_135 : decode cX3_become 135 = .ok (.invokestatic 56, 3) := by decide +kernel
theorem dX3_become_138 : decode cX3_become 138 = .ok (.aload_n 1, 1) := by decide +kernel
theorem dX3_become_139 : decode cX3_become 139 = .ok (.getfield 50, 3) := by decide +kernel
theorem dX3_become_142 : decode cX3_become 142 = .ok (.iconst 0, 1) := by decide +kernel
theorem dX3_become_143 : decode cX3_become 143 = .ok (.aload_n 0, 1) := by decide +kernel
theorem dX3_become_144 : decode cX3_become 144 = .ok (.getfield 50, 3) := by decide +kernel
theorem dX3_become_147 : decode cX3_become 147 = .ok (.iconst 0, 1) := by decide +kernel
theorem dX3_become_148 : decode cX3_become 148 = .ok (.bipush 36, 2) := by decide +kernel
theorem dX3_become_150 : decode cX3_become 150 = .ok (.invokestatic 56, 3) := by decide +kernel
theorem dX3_become_153 : decode cX3_become 153 = .ok (.aload_n 1, 1) := by decide +kernel
theorem dX3_become_154 : decode cX3_become 154 = .ok (.getfield 53, 3) := by decide +kernel
theorem dX3_become_157 : decode cX3_become 157 = .ok (.iconst 0, 1) := by decide +kernel
theorem dX3_become_158 : decode cX3_become 158 = .ok (.aload_n 0, 1) := by decide +kernel
theorem dX3_become_159 : decode cX3_become 159 = .ok (.getfield 53, 3) := by decide +kernel
theorem dX3_become_162 : decode cX3_become 162 = .ok (.iconst 0, 1) := by decide +kernel
theorem dX3_become_163 : decode cX3_become 163 = .ok (.bipush 36, 2) := by decide +kernel
theorem dX3_become_165 : decode cX3_become 165 = .ok (.invokestatic 56, 3) := by decide +kernel
theorem dX3_become_168 : decode cX3_become 168 = .ok (.return_, 1) := by decide +kernel
theorem dX3_placeOf_0 : decode cX3_placeOf 0 = .ok (.iload_n 1, 1) := by decide +kernel
theorem dX3_placeOf_1 : decode cX3_placeOf 1 = .ok (.bipush 6, 2) := by decide +kernel
theorem dX3_placeOf_3 : decode cX3_placeOf 3 = .ok (.imul, 1) := by decide +kernel
theorem dX3_placeOf_4 : decode cX3_placeOf 4 = .ok (.iload_n 2, 1) := by decide +kernel
theorem dX3_placeOf_5 : decode cX3_placeOf 5 = .ok (.iadd, 1) := by decide +kernel
theorem dX3_placeOf_6 : decode cX3_placeOf 6 = .ok (.ireturn, 1) := by decide +kernel
theorem dX3_everybody_0 : decode cX3_everybody 0 = .ok (.iconst 1, 1) := by decide +kernel
theorem dX3_everybody_1 : decode cX3_everybody 1 = .ok (.aload_n 0, 1) := by decide +kernel
theorem dX3_everybody_2 : decode cX3_everybody 2 = .ok (.getfield 28, 3) := by decide +kernel
theorem dX3_everybody_5 : decode cX3_everybody 5 = .ok (.ishl, 1) := by decide +kernel
theorem dX3_everybody_6 : decode cX3_everybody 6 = .ok (.iconst 1, 1) := by decide +kernel
theorem dX3_everybody_7 : decode cX3_everybody 7 = .ok (.isub, 1) := by decide +kernel
theorem dX3_everybody_8 : decode cX3_everybody 8 = .ok (.ireturn, 1) := by decide +kernel
theorem dX3_age_0 : decode cX3_age 0 = .ok (.aload_n 0, 1) := by decide +kernel
theorem dX3_age_1 : decode cX3_age 1 = .ok (.getfield 38, 3) := by decide +kernel
theorem dX3_age_4 : decode cX3_age 4 = .ok (.iload_n 1, 1) := by decide +kernel
theorem dX3_age_5 : decode cX3_age 5 = .ok (.iaload, 1) := by decide +kernel
theorem dX3_age_6 : decode cX3_age 6 = .ok (.aload_n 0, 1) := by decide +kernel
theorem dX3_age_7 : decode cX3_age 7 = .ok (.getfield 22, 3) := by decide +kernel
theorem dX3_age_10 : decode cX3_age 10 = .ok (.iadd, 1) := by decide +kernel
theorem dX3_age_11 : decode cX3_age 11 = .ok (.ireturn, 1) := by decide +kernel
theorem dX3_isAlive_0 : decode cX3_isAlive 0 = .ok (.aload_n 0, 1) := by decide +kernel
theorem dX3_isAlive_1 : decode cX3_isAlive 1 = .ok (.iload_n 1, 1) := by decide +kernel
theorem dX3_isAlive_2 : decode cX3_isAlive 2 = .ok (.invokevirtual 62, 3) := by decide +kernel
theorem dX3_isAlive_5 : decode cX3_isAlive 5 = .ok (.aload_n 0, 1) := by decide +kernel
theorem dX3_isAlive_6 : decode cX3_isAlive 6 = .ok (.getfield 41, 3) := by decide +kernel
theorem dX3_isAlive_9 : decode cX3_isAlive 9 = .ok (.iload_n 1, 1) := by decide +kernel
theorem dX3_isAlive_10 : decode cX3_isAlive 10 = .ok (.iaload, 1) := by decide +kernel
theorem dX3_isAlive_11 : decode cX3_isAlive 11 = .ok (.if_icmp .ge 7, 3) := by decide +kernel
theorem dX3_isAlive_14 : decode cX3_isAlive 14 = .ok (.iconst 1, 1) := by decide +kernel
theorem dX3_isAlive_15 : decode cX3_isAlive 15 = .ok (.goto 4, 3) := by decide +kernel
theorem dX3_isAlive_18 : decode cX3_isAlive 18 = .ok (.iconst 0, 1) := by decide +kernel
theorem dX3_isAlive_19 : decode cX3_isAlive 19 = .ok (.ireturn, 1) := by decide +kernel
theorem dX3_isTakable_0 : decode cX3_isTakable 0 = .ok (.aload_n 0, 1) := by decide +kernel
theorem dX3_isTakable_1 : decode cX3_isTakable 1 = .ok (.iload_n 1, 1) := by decide +kernel
theorem dX3_isTakable_2 : decode cX3_isTakable 2 = .ok (.invokevirtual 66, 3) := by decide +kernel
theorem dX3_isTakable_5 : decode cX3_isTakable 5 = .ok (.ifCond .eq 17, 3) := by decide +kernel
theorem dX3_isTakable_8 : decode cX3_isTakable 8 = .ok (.aload_n 0, 1) := by decide +kernel
theorem dX3_isTakable_9 : decode cX3_isTakable 9 = .ok (.iload_n 1, 1) := by decide +kernel
theorem dX3_isTakable_10 : decode cX3_isTakable 10 = .ok (.invokevirtual 62, 3) := by decide +kernel
theorem dX3_isTakable_13 : decode cX3_isTakable 13 = .ok (.bipush 60, 2) := by decide +kernel
theorem dX3_isTakable_15 : decode cX3_isTakable 15 = .ok (.if_icmp .gt 7, 3) := by decide +kernel
theorem dX3_isTakable_18 : decode cX3_isTakable 18 = .ok (.iconst 1, 1) := by decide +kernel
theorem dX3_isTakable_19 : decode cX3_isTakable 19 = .ok (.goto 4, 3) := by decide +kernel
theorem dX3_isTakable_22 : decode cX3_isTakable 22 = .ok (.iconst 0, 1) := by decide +kernel
theorem dX3_isTakable_23 : decode cX3_isTakable 23 = .ok (.ireturn, 1) := by decide +kernel
theorem dX3_living_0 : decode cX3_living 0 = .ok (.iconst 0, 1) := by decide +kernel
theorem dX3_living_1 : decode cX3_living 1 = .ok (.istore_n 1, 1) := by decide +kernel
theorem dX3_living_2 : decode cX3_living 2 = .ok (.iconst 0, 1) := by decide +kernel
theorem dX3_living_3 : decode cX3_living 3 = .ok (.istore_n 2, 1) := by decide +kernel
theorem dX3_living_4 : decode cX3_living 4 = .ok (.iload_n 2, 1) := by decide +kernel
theorem dX3_living_5 : decode cX3_living 5 = .ok (.aload_n 0, 1) := by decide +kernel
theorem dX3_living_6 : decode cX3_living 6 = .ok (.getfield 28, 3) := by decide +kernel
theorem dX3_living_9 : decode cX3_living 9 = .ok (.if_icmp .ge 23, 3) := by decide +kernel
theorem dX3_living_12 : decode cX3_living 12 = .ok (.aload_n 0, 1) := by decide +kernel
theorem dX3_living_13 : decode cX3_living 13 = .ok (.iload_n 2, 1) := by decide +kernel
theorem dX3_living_14 : decode cX3_living 14 = .ok (.invokevirtual 66, 3) := by decide +kernel
theorem dX3_living_17 : decode cX3_living 17 = .ok (.ifCond .eq 9, 3) := by decide +kernel
theorem dX3_living_20 : decode cX3_living 20 = .ok (.iload_n 1, 1) := by decide +kernel
theorem dX3_living_21 : decode cX3_living 21 = .ok (.iconst 1, 1) := by decide +kernel
theorem dX3_living_22 : decode cX3_living 22 = .ok (.iload_n 2, 1) := by decide +kernel
theorem dX3_living_23 : decode cX3_living 23 = .ok (.ishl, 1) := by decide +kernel
theorem dX3_living_24 : decode cX3_living 24 = .ok (.ior, 1) := by decide +kernel
theorem dX3_living_25 : decode cX3_living 25 = .ok (.istore_n 1, 1) := by decide +kernel
theorem dX3_living_26 : decode cX3_living 26 = .ok (.iinc 2 1, 3) := by decide +kernel
theorem dX3_living_29 : decode cX3_living 29 = .ok (.goto (-25), 3) := by decide +kernel
theorem dX3_living_32 : decode cX3_living 32 = .ok (.iload_n 1, 1) := by decide +kernel
theorem dX3_living_33 : decode cX3_living 33 = .ok (.ireturn, 1) := by decide +kernel
theorem dX3_takable_0 : decode cX3_takable 0 = .ok (.iconst 0, 1) := by decide +kernel
theorem dX3_takable_1 : decode cX3_takable 1 = .ok (.istore_n 1, 1) := by decide +kernel
theorem dX3_takable_2 : decode cX3_takable 2 = .ok (.iconst 0, 1) := by decide +kernel
theorem dX3_takable_3 : decode cX3_takable 3 = .ok (.istore_n 2, 1) := by decide +kernel
theorem dX3_takable_4 : decode cX3_takable 4 = .ok (.iload_n 2, 1) := by decide +kernel
theorem dX3_takable_5 : decode cX3_takable 5 = .ok (.aload_n 0, 1) := by decide +kernel
theorem dX3_takable_6 : decode cX3_takable 6 = .ok (.getfield 28, 3) := by decide +kernel
theorem dX3_takable_9 : decode cX3_takable 9 = .ok (.if_icmp .ge 23, 3) := by decide +kernel
theorem dX3_takable_12 : decode cX3_takable 12 = .ok (.aload_n 0, 1) := by decide +kernel
theorem dX3_takable_13 : decode cX3_takable 13 = .ok (.iload_n 2, 1) := by decide +kernel
theorem dX3_takable_14 : decode cX3_takable 14 = .ok (.invokevirtual 70, 3) := by decide +kernel
theorem dX3_takable_17 : decode cX3_takable 17 = .ok (.ifCond .eq 9, 3) := by decide +kernel
theorem dX3_takable_20 : decode cX3_takable 20 = .ok (.iload_n 1, 1) := by decide +kernel
theorem dX3_takable_21 : decode cX3_takable 21 = .ok (.iconst 1, 1) := by decide +kernel
theorem dX3_takable_22 : decode cX3_takable 22 = .ok (.iload_n 2, 1) := by decide +kernel
theorem dX3_takable_23 : decode cX3_takable 23 = .ok (.ishl, 1) := by decide +kernel
theorem dX3_takable_24 : decode cX3_takable 24 = .ok (.ior, 1) := by decide +kernel
theorem dX3_takable_25 : decode cX3_takable 25 = .ok (.istore_n 1, 1) := by decide +kernel
theorem dX3_takable_26 : decode cX3_takable 26 = .ok (.iinc 2 1, 3) := by decide +kernel
theorem dX3_takable_29 : decode cX3_takable 29 = .ok (.goto (-25), 3) := by decide +kernel
theorem dX3_takable_32 : decode cX3_takable 32 = .ok (.iload_n 1, 1) := by decide +kernel
theorem dX3_takable_33 : decode cX3_takable 33 = .ok (.ireturn, 1) := by decide +kernel
theorem dX3_bump_0 : decode cX3_bump 0 = .ok (.iconst 0, 1) := by decide +kernel
theorem dX3_bump_1 : decode cX3_bump 1 = .ok (.istore 4, 2) := by decide +kernel
theorem dX3_bump_3 : decode cX3_bump 3 = .ok (.iconst 0, 1) := by decide +kernel
theorem dX3_bump_4 : decode cX3_bump 4 = .ok (.istore 5, 2) := by decide +kernel
theorem dX3_bump_6 : decode cX3_bump 6 = .ok (.iload 5, 2) := by decide +kernel
theorem dX3_bump_8 : decode cX3_bump 8 = .ok (.aload_n 0, 1) := by decide +kernel
theorem dX3_bump_9 : decode cX3_bump 9 = .ok (.getfield 28, 3) := by decide +kernel
theorem dX3_bump_12 : decode cX3_bump 12 = .ok (.if_icmp .ge 72, 3) := by decide +kernel
theorem dX3_bump_15 : decode cX3_bump 15 = .ok (.iload_n 2, 1) := by decide +kernel
theorem dX3_bump_16 : decode cX3_bump 16 = .ok (.iload 5, 2) := by decide +kernel
theorem dX3_bump_18 : decode cX3_bump 18 = .ok (.ishr, 1) := by decide +kernel
theorem dX3_bump_19 : decode cX3_bump 19 = .ok (.iconst 1, 1) := by decide +kernel
theorem dX3_bump_20 : decode cX3_bump 20 = .ok (.iand, 1) := by decide +kernel
theorem dX3_bump_21 : decode cX3_bump 21 = .ok (.iconst 1, 1) := by decide +kernel
theorem dX3_bump_22 : decode cX3_bump 22 = .ok (.if_icmp .ne 56, 3) := by decide +kernel
theorem dX3_bump_25 : decode cX3_bump 25 = .ok (.aload_n 0, 1) := by decide +kernel
theorem dX3_bump_26 : decode cX3_bump 26 = .ok (.iload 5, 2) := by decide +kernel
theorem dX3_bump_28 : decode cX3_bump 28 = .ok (.invokevirtual 70, 3) := by decide +kernel
theorem dX3_bump_31 : decode cX3_bump 31 = .ok (.ifCond .eq 47, 3) := by decide +kernel
theorem dX3_bump_34 : decode cX3_bump 34 = .ok (.aload_n 0, 1) := by decide +kernel
theorem dX3_bump_35 : decode cX3_bump 35 = .ok (.iload 5, 2) := by decide +kernel
theorem dX3_bump_37 : decode cX3_bump 37 = .ok (.iload_n 1, 1) := by decide +kernel
theorem dX3_bump_38 : decode cX3_bump 38 = .ok (.invokevirtual 73, 3) := by decide +kernel
theorem dX3_bump_41 : decode cX3_bump 41 = .ok (.istore 6, 2) := by decide +kernel
theorem dX3_bump_43 : decode cX3_bump 43 = .ok (.aload_n 0, 1) := by decide +kernel
theorem dX3_bump_44 : decode cX3_bump 44 = .ok (.getfield 47, 3) := by decide +kernel
theorem dX3_bump_47 : decode cX3_bump 47 = .ok (.iload 6, 2) := by decide +kernel
theorem dX3_bump_49 : decode cX3_bump 49 = .ok (.aload_n 0, 1) := by decide +kernel
theorem dX3_bump_50 : decode cX3_bump 50 = .ok (.getfield 31, 3) := by decide +kernel
theorem dX3_bump_53 : decode cX3_bump 53 = .ok (.iload_n 1, 1) := by decide +kernel
theorem dX3_bump_54 : decode cX3_bump 54 = .ok (.iaload, 1) := by decide +kernel
theorem dX3_bump_55 : decode cX3_bump 55 = .ok (.iastore, 1) := by decide +kernel
theorem dX3_bump_56 : decode cX3_bump 56 = .ok (.aload_n 0, 1) := by decide +kernel
theorem dX3_bump_57 : decode cX3_bump 57 = .ok (.getfield 50, 3) := by decide +kernel
theorem dX3_bump_60 : decode cX3_bump 60 = .ok (.iload 6, 2) := by decide +kernel
theorem dX3_bump_62 : decode cX3_bump 62 = .ok (.iload_n 3, 1) := by decide +kernel
theorem dX3_bump_63 : decode cX3_bump 63 = .ok (.iastore, 1) := by decide +kernel
