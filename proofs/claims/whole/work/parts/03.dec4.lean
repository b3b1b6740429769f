theorem dX7_tries_38 : decode cX7_tries 38 = .ok (.iaload, 1) := by decide +kernel
theorem dX7_tries_39 : decode cX7_tries 39 = .ok (.iload_n 1, 1) := by decide +kernel
theorem dX7_tries_40 : decode cX7_tries 40 = .ok (.iadd, 1) := by decide +kernel
theorem dX7_tries_41 : decode cX7_tries 41 = .ok (.iastore, 1) := by decide +kernel
theorem dX7_tries_42 : decode cX7_tries 42 = .ok (.aload_n 0, 1) := by decide +kernel
theorem dX7_tries_43 : decode cX7_tries 43 = .ok (.getfield 46, 3) := by decide +kernel
theorem dX7_tries_46 : decode cX7_tries 46 = .ok (.iconst 1, 1) := by decide +kernel
theorem dX7_tries_47 : decode cX7_tries 47 = .ok (.aload_n 0, 1) := by decide +kernel
theorem dX7_tries_48 : decode cX7_tries 48 = .ok (.getfield 61, 3) := by decide +kernel
theorem dX7_tries_51 : decode cX7_tries 51 = .ok (.iconst 1, 1) := by decide +kernel
theorem dX7_tries_52 : decode cX7_tries 52 = .ok (.iaload, 1) := by decide +kernel
theorem dX7_tries_53 : decode cX7_tries 53 = .ok (.iload_n 2, 1) := by decide +kernel
theorem dX7_tries_54 : decode cX7_tries 54 = .ok (.iadd, 1) := by decide +kernel
theorem dX7_tries_55 : decode cX7_tries 55 = .ok (.iastore, 1) := by decide +kernel
theorem dX7_tries_56 : decode cX7_tries 56 = .ok (.aload_n 0, 1) := by decide +kernel
theorem dX7_tries_57 : decode cX7_tries 57 = .ok (.getfield 46, 3) := by decide +kernel
theorem dX7_tries_60 : decode cX7_tries 60 = .ok (.iconst 2, 1) := by decide +kernel
theorem dX7_tries_61 : decode cX7_tries 61 = .ok (.aload_n 0, 1) := by decide +kernel
theorem dX7_tries_62 : decode cX7_tries 62 = .ok (.getfield 61, 3) := by decide +kernel
theorem dX7_tries_65 : decode cX7_tries 65 = .ok (.iconst 2, 1) := by decide +kernel
theorem dX7_tries_66 : decode cX7_tries 66 = .ok (.iaload, 1) := by decide +kernel
theorem dX7_tries_67 : decode cX7_tries 67 = .ok (.iload_n 3, 1) := by decide +kernel
theorem dX7_tries_68 : decode cX7_tries 68 = .ok (.iadd, 1) := by decide +kernel
theorem dX7_tries_69 : decode cX7_tries 69 = .ok (.iastore, 1) := by decide +kernel
theorem dX7_tries_70 : decode cX7_tries 70 = .ok (.iload_n 1, 1) := by decide +kernel
theorem dX7_tries_71 : decode cX7_tries 71 = .ok (.invokestatic 213, 3) := by decide +kernel
theorem dX7_tries_74 : decode cX7_tries 74 = .ok (.iload_n 2, 1) := by decide +kernel
theorem dX7_tries_75 : decode cX7_tries 75 = .ok (.invokestatic 213, 3) := by decide +kernel
theorem dX7_tries_78 : decode cX7_tries 78 = .ok (.iadd, 1) := by decide +kernel
theorem dX7_tries_79 : decode cX7_tries 79 = .ok (.iload_n 3, 1) := by decide +kernel
theorem dX7_tries_80 : decode cX7_tries 80 = .ok (.invokestatic 213, 3) := by decide +kernel
theorem dX7_tries_83 : decode cX7_tries 83 = .ok (.iadd, 1) := by decide +kernel
theorem dX7_tries_84 : decode cX7_tries 84 = .ok (.istore 4, 2) := by decide +kernel
theorem dX7_tries_86 : decode cX7_tries 86 = .ok (.iload 4, 2) := by decide +kernel
theorem dX7_tries_88 : decode cX7_tries 88 = .ok (.aload_n 0, 1) := by decide +kernel
theorem dX7_tries_89 : decode cX7_tries 89 = .ok (.getfield 58, 3) := by decide +kernel
theorem dX7_tries_92 : decode cX7_tries 92 = .ok (.iconst 3, 1) := by decide +kernel
theorem dX7_tries_93 : decode cX7_tries 93 = .ok (.iaload, 1) := by decide +kernel
theorem dX7_tries_94 : decode cX7_tries 94 = .ok (.if_icmp .gt 14, 3) := by decide +kernel
theorem dX7_tries_97 : decode cX7_tries 97 = .ok (.aload_n 0, 1) := by decide +kernel
theorem dX7_tries_98 : decode cX7_tries 98 = .ok (.invokevirtual 181, 3) := by decide +kernel
theorem dX7_tries_101 : decode cX7_tries 101 = .ok (.invokestatic 184, 3) := by decide +kernel
theorem dX7_tries_104 : decode cX7_tries 104 = .ok (.iconst 2, 1) := by decide +kernel
theorem dX7_tries_105 : decode cX7_tries 105 = .ok (.if_icmp .ge 4, 3) := by decide +kernel
theorem dX7_tries_108 : decode cX7_tries 108 = .ok (.return_, 1) := by decide +kernel
theorem dX7_tries_109 : decode cX7_tries 109 = .ok (.iload 4, 2) := by decide +kernel
theorem dX7_tries_111 : decode cX7_tries 111 = .ok (.aload_n 0, 1) := by decide +kernel
theorem dX7_tries_112 : decode cX7_tries 112 = .ok (.getfield 58, 3) := by decide +kernel
theorem dX7_tries_115 : decode cX7_tries 115 = .ok (.iconst 3, 1) := by decide +kernel
theorem dX7_tries_116 : decode cX7_tries 116 = .ok (.iaload, 1) := by decide +kernel
theorem dX7_tries_117 : decode cX7_tries 117 = .ok (.if_icmp .ge 39, 3) := by decide +kernel
theorem dX7_tries_120 : decode cX7_tries 120 = .ok (.aload_n 0, 1) := by decide +kernel
theorem dX7_tries_121 : decode cX7_tries 121 = .ok (.getfield 58, 3) := by decide +kernel
theorem dX7_tries_124 : decode cX7_tries 124 = .ok (.iconst 0, 1) := by decide +kernel
theorem dX7_tries_125 : decode cX7_tries 125 = .ok (.iload_n 1, 1) := by decide +kernel
theorem dX7_tries_126 : decode cX7_tries 126 = .ok (.iastore, 1) := by decide +kernel
theorem dX7_tries_127 : decode cX7_tries 127 = .ok (.aload_n 0, 1) := by decide +kernel
theorem dX7_tries_128 : decode cX7_tries 128 = .ok (.getfield 58, 3) := by decide +kernel
theorem dX7_tries_131 : decode cX7_tries 131 = .ok (.iconst 1, 1) := by decide +kernel
theorem dX7_tries_132 : decode cX7_tries 132 = .ok (.iload_n 2, 1) := by decide +kernel
theorem dX7_tries_133 : decode cX7_tries 133 = .ok (.iastore, 1) := by decide +kernel
theorem dX7_tries_134 : decode cX7_tries 134 = .ok (.aload_n 0, 1) := by decide +kernel
theorem dX7_tries_135 : decode cX7_tries 135 = .ok (.getfield 58, 3) := by decide +kernel
theorem dX7_tries_138 : decode cX7_tries 138 = .ok (.iconst 2, 1) := by decide +kernel
theorem dX7_tries_139 : decode cX7_tries 139 = .ok (.iload_n 3, 1) := by decide +kernel
theorem dX7_tries_140 : decode cX7_tries 140 = .ok (.iastore, 1) := by decide +kernel
theorem dX7_tries_141 : decode cX7_tries 141 = .ok (.aload_n 0, 1) := by decide +kernel
theorem dX7_tries_142 : decode cX7_tries 142 = .ok (.getfield 58, 3) := by decide +kernel
theorem dX7_tries_145 : decode cX7_tries 145 = .ok (.iconst 3, 1) := by decide +kernel
theorem dX7_tries_146 : decode cX7_tries 146 = .ok (.iload 4, 2) := by decide +kernel
theorem dX7_tries_148 : decode cX7_tries 148 = .ok (.iastore, 1) := by decide +kernel
theorem dX7_tries_149 : decode cX7_tries 149 = .ok (.aload_n 0, 1) := by decide +kernel
theorem dX7_tries_150 : decode cX7_tries 150 = .ok (.getfield 58, 3) := by decide +kernel
theorem dX7_tries_153 : decode cX7_tries 153 = .ok (.iconst 4, 1) := by decide +kernel
theorem dX7_tries_154 : decode cX7_tries 154 = .ok (.iconst 0, 1) := by decide +kernel
theorem dX7_tries_155 : decode cX7_tries 155 = .ok (.iastore, 1) := by decide +kernel
theorem dX7_tries_156 : decode cX7_tries 156 = .ok (.aload_n 0, 1) := by decide +kernel
theorem dX7_tries_157 : decode cX7_tries 157 = .ok (.getfield 58, 3) := by decide +kernel
theorem dX7_tries_160 : decode cX7_tries 160 = .ok (.iconst 4, 1) := by decide +kernel
theorem dX7_tries_161 : decode cX7_tries 161 = .ok (.dup2, 1) := by decide +kernel
theorem dX7_tries_162 : decode cX7_tries 162 = .ok (.iaload, 1) := by decide +kernel
theorem dX7_tries_163 : decode cX7_tries 163 = .ok (.iconst 1, 1) := by decide +kernel
theorem dX7_tries_164 : decode cX7_tries 164 = .ok (.iadd, 1) := by decide +kernel
theorem dX7_tries_165 : decode cX7_tries 165 = .ok (.iastore, 1) := by decide +kernel
theorem dX7_tries_166 : decode cX7_tries 166 = .ok (.return_, 1) := by decide +kernel
theorem dX7_shift_0 : decode cX7_shift 0 = .ok (.iload_n 1, 1) := by decide +kernel
theorem dX7_shift_1 : decode cX7_shift 1 = .ok (.iconst 0, 1) := by decide +kernel
theorem dX7_shift_2 : decode cX7_shift 2 = .ok (.iconst 4, 1) := by decide +kernel
theorem dX7_shift_3 : decode cX7_shift 3 = .ok (.invokestatic 86, 3) := by decide +kernel
theorem dX7_shift_6 : decode cX7_shift 6 = .ok (.ifCond .ne 8, 3) := by decide +kernel
theorem dX7_shift_9 : decode cX7_shift 9 = .ok (.aload_n 0, 1) := by decide +kernel
theorem dX7_shift_10 : decode cX7_shift 10 = .ok (.invokevirtual 94, 3) := by decide +kernel
theorem dX7_shift_13 : decode cX7_shift 13 = .ok (.ireturn, 1) := by decide +kernel
theorem dX7_shift_14 : decode cX7_shift 14 = .ok (.aload_n 0, 1) := by decide +kernel
theorem dX7_shift_15 : decode cX7_shift 15 = .ok (.invokevirtual 117, 3) := by decide +kernel
theorem dX7_shift_18 : decode cX7_shift 18 = .ok (.iconst 0, 1) := by decide +kernel
theorem dX7_shift_19 : decode cX7_shift 19 = .ok (.istore_n 2, 1) := by decide +kernel
theorem dX7_shift_20 : decode cX7_shift 20 = .ok (.iload_n 2, 1) := by decide +kernel
theorem dX7_shift_21 : decode cX7_shift 21 = .ok (.iconst 3, 1) := by decide +kernel
theorem dX7_shift_22 : decode cX7_shift 22 = .ok (.if_icmp .ge 21, 3) := by decide +kernel
theorem dX7_shift_25 : decode cX7_shift 25 = .ok (.aload_n 0, 1) := by decide +kernel
theorem dX7_shift_26 : decode cX7_shift 26 = .ok (.getfield 61, 3) := by decide +kernel
theorem dX7_shift_29 : decode cX7_shift 29 = .ok (.iload_n 2, 1) := by decide +kernel
theorem dX7_shift_30 : decode cX7_shift 30 = .ok (.aload_n 0, 1) := by decide +kernel
theorem dX7_shift_31 : decode cX7_shift 31 = .ok (.getfield 46, 3) := by decide +kernel
theorem dX7_shift_34 : decode cX7_shift 34 = .ok (.iload_n 2, 1) := by decide +kernel
theorem dX7_shift_35 : decode cX7_shift 35 = .ok (.iaload, 1) := by decide +kernel
theorem dX7_shift_36 : decode cX7_shift 36 = .ok (.iastore, 1) := by decide +kernel
theorem dX7_shift_37 : decode cX7_shift 37 = .ok (.iinc 2 1, 3) := by decide +kernel
theorem dX7_shift_40 : decode cX7_shift 40 = .ok (.goto (-20), 3) := by decide +kernel
theorem dX7_shift_43 : decode cX7_shift 43 = .ok (.aload_n 0, 1) := by decide +kernel
theorem dX7_shift_44 : decode cX7_shift 44 = .ok (.getfield 58, 3) := by decide +kernel
theorem dX7_shift_47 : decode cX7_shift 47 = .ok (.iconst 3, 1) := by decide +kernel
theorem dX7_shift_48 : decode cX7_shift 48 = .ok (.ldc 216, 2) := by decide +kernel
theorem dX7_shift_50 : decode cX7_shift 50 = .ok (.iastore, 1) := by decide +kernel
theorem dX7_shift_51 : decode cX7_shift 51 = .ok (.bipush (-6), 2) := by decide +kernel
theorem dX7_shift_53 : decode cX7_shift 53 = .ok (.istore_n 2, 1) := by decide +kernel
theorem dX7_shift_54 : decode cX7_shift 54 = .ok (.iload_n 2, 1) := by decide +kernel
theorem dX7_shift_55 : decode cX7_shift 55 = .ok (.bipush 6, 2) := by decide +kernel
theorem dX7_shift_57 : decode cX7_shift 57 = .ok (.if_icmp .gt 49, 3) := by decide +kernel
theorem dX7_shift_60 : decode cX7_shift 60 = .ok (.bipush (-6), 2) := by decide +kernel
theorem dX7_shift_62 : decode cX7_shift 62 = .ok (.istore_n 3, 1) := by decide +kernel
theorem dX7_shift_63 : decode cX7_shift 63 = .ok (.iload_n 3, 1) := by decide +kernel
theorem dX7_shift_64 : decode cX7_shift 64 = .ok (.bipush 6, 2) := by decide +kernel
theorem dX7_shift_66 : decode cX7_shift 66 = .ok (.if_icmp .gt 34, 3) := by decide +kernel
theorem dX7_shift_69 : decode cX7_shift 69 = .ok (.bipush (-6), 2) := by decide +kernel
theorem dX7_shift_71 : decode cX7_shift 71 = .ok (.istore 4, 2) := by decide +kernel
theorem dX7_shift_73 : decode cX7_shift 73 = .ok (.iload 4, 2) := by decide +kernel
theorem dX7_shift_75 : decode cX7_shift 75 = .ok (.bipush 6, 2) := by decide +kernel
theorem dX7_shift_77 : decode cX7_shift 77 = .ok (.if_icmp .gt 17, 3) := by decide +kernel
theorem dX7_shift_80 : decode cX7_shift 80 = .ok (.aload_n 0, 1) := by decide +kernel
theorem dX7_shift_81 : decode cX7_shift 81 = .ok (.iload_n 2, 1) := by decide +kernel
theorem dX7_shift_82 : decode cX7_shift 82 = .ok (.iload_n 3, 1) := by decide +kernel
theorem dX7_shift_83 : decode cX7_shift 83 = .ok (.iload 4, 2) := by decide +kernel
theorem dX7_shift_85 : decode cX7_shift 85 = .ok (.invokevirtual 217, 3) := by decide +kernel
theorem dX7_shift_88 : decode cX7_shift 88 = .ok (.iinc 4 1, 3) := by decide +kernel
theorem dX7_shift_91 : decode cX7_shift 91 = .ok (.goto (-18), 3) := by decide +kernel
theorem dX7_shift_94 : decode cX7_shift 94 = .ok (.iinc 3 1, 3) := by decide +kernel
theorem dX7_shift_97 : decode cX7_shift 97 = .ok (.goto (-34), 3) := by decide +kernel
theorem dX7_shift_100 : decode cX7_shift 100 = .ok (.iinc 2 1, 3) := by decide +kernel
theorem dX7_shift_103 : decode cX7_shift 103 = .ok (.goto (-49), 3) := by decide +kernel
theorem dX7_shift_106 : decode cX7_shift 106 = .ok (.aload_n 0, 1) := by decide +kernel
theorem dX7_shift_107 : decode cX7_shift 107 = .ok (.getfield 58, 3) := by decide +kernel
theorem dX7_shift_110 : decode cX7_shift 110 = .ok (.iconst 3, 1) := by decide +kernel
theorem dX7_shift_111 : decode cX7_shift 111 = .ok (.iaload, 1) := by decide +kernel
theorem dX7_shift_112 : decode cX7_shift 112 = .ok (.ldc 216, 2) := by decide +kernel
theorem dX7_shift_114 : decode cX7_shift 114 = .ok (.if_icmp .ne 9, 3) := by decide +kernel
theorem dX7_shift_117 : decode cX7_shift 117 = .ok (.sipush (-1000), 3) := by decide +kernel
theorem dX7_shift_120 : decode cX7_shift 120 = .ok (.goto 9, 3) := by decide +kernel
theorem dX7_shift_123 : decode cX7_shift 123 = .ok (.aload_n 0, 1) := by decide +kernel
theorem dX7_shift_124 : decode cX7_shift 124 = .ok (.getfield 58, 3) := by decide +kernel
theorem dX7_shift_127 : decode cX7_shift 127 = .ok (.iload_n 1, 1) := by decide +kernel
theorem dX7_shift_128 : decode cX7_shift 128 = .ok (.iaload, 1) := by decide +kernel
theorem dX7_shift_129 : decode cX7_shift 129 = .ok (.ireturn, 1) := by decide +kernel
theorem dX7_comesWish_0 : decode cX7_comesWish 0 = .ok (.aload_n 0, 1) := by decide +kernel
theorem dX7_comesWish_1 : decode cX7_comesWish 1 = .ok (.getfield 28, 3) := by decide +kernel
theorem dX7_comesWish_4 : decode cX7_comesWish 4 = .ok (.aload_n 0, 1) := by decide +kernel
theorem dX7_comesWish_5 : decode cX7_comesWish 5 = .ok (.getfield 80, 3) := by decide +kernel
theorem dX7_comesWish_8 : decode cX7_comesWish 8 = .ok (.iload_n 1, 1) := by decide +kernel
theorem dX7_comesWish_9 : decode cX7_comesWish 9 = .ok (.iastore, 1) := by decide +kernel
theorem dX7_comesWish_10 : decode cX7_comesWish 10 = .ok (.aload_n 0, 1) := by decide +kernel
theorem dX7_comesWish_11 : decode cX7_comesWish 11 = .ok (.getfield 31, 3) := by decide +kernel
theorem dX7_comesWish_14 : decode cX7_comesWish 14 = .ok (.aload_n 0, 1) := by decide +kernel
theorem dX7_comesWish_15 : decode cX7_comesWish 15 = .ok (.getfield 80, 3) := by decide +kernel
theorem dX7_comesWish_18 : decode cX7_comesWish 18 = .ok (.iload_n 2, 1) := by decide +kernel
theorem dX7_comesWish_19 : decode cX7_comesWish 19 = .ok (.iastore, 1) := by decide +kernel
theorem dX7_comesWish_20 : decode cX7_comesWish 20 = .ok (.aload_n 0, 1) := by decide +kernel
theorem dX7_comesWish_21 : decode cX7_comesWish 21 = .ok (.getfield 34, 3) := by decide +kernel
theorem dX7_comesWish_24 : decode cX7_comesWish 24 = .ok (.aload_n 0, 1) := by decide +kernel
theorem dX7_comesWish_25 : decode cX7_comesWish 25 = .ok (.getfield 80, 3) := by decide +kernel
theorem dX7_comesWish_28 : decode cX7_comesWish 28 = .ok (.iload_n 3, 1) := by decide +kernel
theorem dX7_comesWish_29 : decode cX7_comesWish 29 = .ok (.iastore, 1) := by decide +kernel
theorem dX7_comesWish_30 : decode cX7_comesWish 30 = .ok (.aload_n 0, 1) := by decide +kernel
theorem dX7_comesWish_31 : decode cX7_comesWish 31 = .ok (.dup, 1) := by decide +kernel
theorem dX7_comesWish_32 : decode cX7_comesWish 32 = .ok (.getfield 80, 3) := by decide +kernel
theorem dX7_comesWish_35 : decode cX7_comesWish 35 = .ok (.iconst 1, 1) := by decide +kernel
theorem dX7_comesWish_36 : decode cX7_comesWish 36 = .ok (.iadd, 1) := by decide +kernel
theorem dX7_comesWish_37 : decode cX7_comesWish 37 = .ok (.putfield 80, 3) := by decide +kernel
theorem dX7_comesWish_40 : decode cX7_comesWish 40 = .ok (.return_, 1) := by decide +kernel
theorem dX7_goesWish_0 : decode cX7_goesWish 0 = .ok (.aload_n 0, 1) := by decide +kernel
theorem dX7_goesWish_1 : decode cX7_goesWish 1 = .ok (.dup, 1) := by decide +kernel
theorem dX7_goesWish_2 : decode cX7_goesWish 2 = .ok (.getfield 80, 3) := by decide +kernel
theorem dX7_goesWish_5 : decode cX7_goesWish 5 = .ok (.iconst 1, 1) := by decide +kernel
theorem dX7_goesWish_6 : decode cX7_goesWish 6 = .ok (.isub, 1) := by decide +kernel
theorem dX7_goesWish_7 : decode cX7_goesWish 7 = .ok (.putfield 80, 3) := by decide +kernel
theorem dX7_goesWish_10 : decode cX7_goesWish 10 = .ok (.iload_n 1, 1) := by decide +kernel
theorem dX7_goesWish_11 : decode cX7_goesWish 11 = .ok (.istore_n 2, 1) := by decide +kernel
theorem dX7_goesWish_12 : decode cX7_goesWish 12 = .ok (.iload_n 2, 1) := by decide +kernel
theorem dX7_goesWish_13 : decode cX7_goesWish 13 = .ok (.aload_n 0, 1) := by decide +kernel
theorem dX7_goesWish_14 : decode cX7_goesWish 14 = .ok (.getfield 80, 3) := by decide +kernel
theorem dX7_goesWish_17 : decode cX7_goesWish 17 = .ok (.if_icmp .ge 51, 3) := by decide +kernel
theorem dX7_goesWish_20 : decode cX7_goesWish 20 = .ok (.aload_n 0, 1) := by decide +kernel
theorem dX7_goesWish_21 : decode cX7_goesWish 21 = .ok (.getfield 28, 3) := by decide +kernel
theorem dX7_goesWish_24 : decode cX7_goesWish 24 = .ok (.iload_n 2, 1) := by decide +kernel
theorem dX7_goesWish_25 : decode cX7_goesWish 25 = .ok (.aload_n 0, 1) := by decide +kernel
theorem dX7_goesWish_26 : decode cX7_goesWish 26 = .ok (.getfield 28, 3) := by decide +kernel
theorem dX7_goesWish_29 : decode cX7_goesWish 29 = .ok (.iload_n 2, 1) := by decide +kernel
theorem dX7_goesWish_30 : decode cX7_goesWish 30 = .ok (.iconst 1, 1) := by decide +kernel
theorem dX7_goesWish_31 : decode cX7_goesWish 31 = .ok (.iadd, 1) := by decide +kernel
theorem dX7_goesWish_32 : decode cX7_goesWish 32 = .ok (.iaload, 1) := by decide +kernel
theorem dX7_goesWish_33 : decode cX7_goesWish 33 = .ok (.iastore, 1) := by decide +kernel
theorem dX7_goesWish_34 : decode cX7_goesWish 34 = .ok (.aload_n 0, 1) := by decide +kernel
theorem dX7_goesWish_35 : decode cX7_goesWish 35 = .ok (.getfield 31, 3) := by decide +kernel
theorem dX7_goesWish_38 : decode cX7_goesWish 38 = .ok (.iload_n 2, 1) := by decide +kernel
theorem dX7_goesWish_39 : decode cX7_goesWish 39 = .ok (.aload_n 0, 1) := by decide +kernel
theorem dX7_goesWish_40 : decode cX7_goesWish 40 = .ok (.getfield 31, 3) := by decide +kernel
theorem dX7_goesWish_43 : decode cX7_goesWish 43 = .ok (.iload_n 2, 1) := by decide +kernel
theorem dX7_goesWish_44 : decode cX7_goesWish 44 = .ok (.iconst 1, 1) := by decide +kernel
theorem dX7_goesWish_45 : decode cX7_goesWish 45 = .ok (.iadd, 1) := by decide +kernel
theorem dX7_goesWish_46 : decode cX7_goesWish 46 = .ok (.iaload, 1) := by decide +kernel
theorem dX7_goesWish_47 : decode cX7_goesWish 47 = .ok (.iastore, 1) := by decide +kernel
theorem dX7_goesWish_48 : decode cX7_goesWish 48 = .ok (.aload_n 0, 1) := by decide +kernel
theorem dX7_goesWish_49 : decode cX7_goesWish 49 = .ok (.getfield 34, 3) := by decide +kernel
theorem dX7_goesWish_52 : decode cX7_goesWish 52 = .ok (.iload_n 2, 1) := by decide +kernel
theorem dX7_goesWish_53 : decode cX7_goesWish 53 = .ok (.aload_n 0, 1) := by decide +kernel
theorem dX7_goesWish_54 : decode cX7_goesWish 54 = .ok (.getfield 34, 3) := by decide +kernel
theorem dX7_goesWish_57 : decode cX7_goesWish 57 = .ok (.iload_n 2, 1) := by decide +kernel
theorem dX7_goesWish_58 : decode cX7_goesWish 58 = .ok (.iconst 1, 1) := by decide +kernel
theorem dX7_goesWish_59 : decode cX7_goesWish 59 = .ok (.iadd, 1) := by decide +kernel
theorem dX7_goesWish_60 : decode cX7_goesWish 60 = .ok (.iaload, 1) := by decide +kernel
theorem dX7_goesWish_61 : decode cX7_goesWish 61 = .ok (.iastore, 1) := by decide +kernel
theorem dX7_goesWish_62 : decode cX7_goesWish 62 = .ok (.iinc 2 1, 3) := by decide +kernel
theorem dX7_goesWish_65 : decode cX7_goesWish 65 = .ok (.goto (-53), 3) := by decide +kernel
theorem dX7_goesWish_68 : decode cX7_goesWish 68 = .ok (.return_, 1) := by decide +kernel
theorem dX7_wish_0 : decode cX7_wish 0 = .ok (.iload_n 1, 1) := by decide +kernel
theorem dX7_wish_1 : decode cX7_wish 1 = .ok (.invokestatic 98, 3) := by decide +kernel
theorem dX7_wish_4 : decode cX7_wish 4 = .ok (.ifCond .eq 27, 3) := by decide +kernel
theorem dX7_wish_7 : decode cX7_wish 7 = .ok (.iload_n 2, 1) := by decide +kernel
theorem dX7_wish_8 : decode cX7_wish 8 = .ok (.iconst 0, 1) := by decide +kernel
theorem dX7_wish_9 : decode cX7_wish 9 = .ok (.sipush 999, 3) := by decide +kernel
theorem dX7_wish_12 : decode cX7_wish 12 = .ok (.invokestatic 86, 3) := by decide +kernel
theorem dX7_wish_15 : decode cX7_wish 15 = .ok (.ifCond .eq 16, 3) := by decide +kernel
theorem dX7_wish_18 : decode cX7_wish 18 = .ok (.iload_n 3, 1) := by decide +kernel
theorem dX7_wish_19 : decode cX7_wish 19 = .ok (.sipush (-500), 3) := by decide +kernel
theorem dX7_wish_22 : decode cX7_wish 22 = .ok (.sipush 500, 3) := by decide +kernel
theorem dX7_wish_25 : decode cX7_wish 25 = .ok (.invokestatic 86, 3) := by decide +kernel
theorem dX7_wish_28 : decode cX7_wish 28 = .ok (.ifCond .ne 8, 3) := by decide +kernel
theorem dX7_wish_31 : decode cX7_wish 31 = .ok (.aload_n 0, 1) := by decide +kernel
theorem dX7_wish_32 : decode cX7_wish 32 = .ok (.invokevirtual 94, 3) := by decide +kernel
theorem dX7_wish_35 : decode cX7_wish 35 = .ok (.ireturn, 1) := by decide +kernel
theorem dX7_wish_36 : decode cX7_wish 36 = .ok (.aload_n 0, 1) := by decide +kernel
theorem dX7_wish_37 : decode cX7_wish 37 = .ok (.getfield 80, 3) := by decide +kernel
theorem dX7_wish_40 : decode cX7_wish 40 = .ok (.bipush 12, 2) := by decide +kernel
theorem dX7_wish_42 : decode cX7_wish 42 = .ok (.if_icmp .ne 8, 3) := by decide +kernel
theorem dX7_wish_45 : decode cX7_wish 45 = .ok (.aload_n 0, 1) := by decide +kernel
theorem dX7_wish_46 : decode cX7_wish 46 = .ok (.invokevirtual 221, 3) := by decide +kernel
theorem dX7_wish_49 : decode cX7_wish 49 = .ok (.ireturn, 1) := by decide +kernel
theorem dX7_wish_50 : decode cX7_wish 50 = .ok (.aload_n 0, 1) := by decide +kernel
theorem dX7_wish_51 : decode cX7_wish 51 = .ok (.iload_n 1, 1) := by decide +kernel
theorem dX7_wish_52 : decode cX7_wish 52 = .ok (.iload_n 2, 1) := by decide +kernel
theorem dX7_wish_53 : decode cX7_wish 53 = .ok (.iload_n 3, 1) := by decide +kernel
theorem dX7_wish_54 : decode cX7_wish 54 = .ok (.invokevirtual 224, 3) := by decide +kernel
theorem dX7_wish_57 : decode cX7_wish 57 = .ok (.aload_n 0, 1) := by decide +kernel
theorem dX7_wish_58 : decode cX7_wish 58 = .ok (.getfield 80, 3) := by decide +kernel
theorem dX7_wish_61 : decode cX7_wish 61 = .ok (.ireturn, 1) := by decide +kernel
theorem dX7_unwish_0 : decode cX7_unwish 0 = .ok (.iload_n 1, 1) := by decide +kernel
theorem dX7_unwish_1 : decode cX7_unwish 1 = .ok (.invokestatic 98, 3) := by decide +kernel
theorem dX7_unwish_4 : decode cX7_unwish 4 = .ok (.ifCond .ne 8, 3) := by decide +kernel
theorem dX7_unwish_7 : decode cX7_unwish 7 = .ok (.aload_n 0, 1) := by decide +kernel
theorem dX7_unwish_8 : decode cX7_unwish 8 = .ok (.invokevirtual 94, 3) := by decide +kernel
theorem dX7_unwish_11 : decode cX7_unwish 11 = .ok (.ireturn, 1) := by decide +kernel
theorem dX7_unwish_12 : decode cX7_unwish 12 = .ok (.iconst 0, 1) := by decide +kernel
theorem dX7_unwish_13 : decode cX7_unwish 13 = .ok (.istore_n 2, 1) := by decide +kernel
theorem dX7_unwish_14 : decode cX7_unwish 14 = .ok (.aload_n 0, 1) := by decide +kernel
theorem dX7_unwish_15 : decode cX7_unwish 15 = .ok (.getfield 80, 3) := by decide +kernel
theorem dX7_unwish_18 : decode cX7_unwish 18 = .ok (.iconst 1, 1) := by decide +kernel
theorem dX7_unwish_19 : decode cX7_unwish 19 = .ok (.isub, 1) := by decide +kernel
theorem dX7_unwish_20 : decode cX7_unwish 20 = .ok (.istore_n 3, 1) := by decide +kernel
theorem dX7_unwish_21 : decode cX7_unwish 21 = .ok (.iload_n 3, 1) := by decide +kernel
theorem dX7_unwish_22 : decode cX7_unwish 22 = .ok (.ifCond .lt 27, 3) := by decide +kernel
theorem dX7_unwish_25 : decode cX7_unwish 25 = .ok (.aload_n 0, 1) := by decide +kernel
theorem dX7_unwish_26 : decode cX7_unwish 26 = .ok (.getfield 28, 3) := by decide +kernel
theorem dX7_unwish_29 : decode cX7_unwish 29 = .ok (.iload_n 3, 1) := by decide +kernel
theorem dX7_unwish_30 : decode cX7_unwish 30 = .ok (.iaload, 1) := by decide +kernel
theorem dX7_unwish_31 : decode cX7_unwish 31 = .ok (.iload_n 1, 1) := by decide +kernel
theorem dX7_unwish_32 : decode cX7_unwish 32 = .ok (.if_icmp .ne 11, 3) := by decide +kernel
theorem dX7_unwish_35 : decode cX7_unwish 35 = .ok (.aload_n 0, 1) := by decide +kernel
theorem dX7_unwish_36 : decode cX7_unwish 36 = .ok (.iload_n 3, 1) := by decide +kernel
theorem dX7_unwish_37 : decode cX7_unwish 37 = .ok (.invokevirtual 227, 3) := by decide +kernel
theorem dX7_unwish_40 : decode cX7_unwish 40 = .ok (.iinc 2 1, 3) := by decide +kernel
theorem dX7_unwish_43 : decode cX7_unwish 43 = .ok (.iinc 3 (-1), 3) := by decide +kernel
theorem dX7_unwish_46 : decode cX7_unwish 46 = .ok (.goto (-25), 3) := by decide +kernel
theorem dX7_unwish_49 : decode cX7_unwish 49 = .ok (.iload_n 2, 1) := by decide +kernel
theorem dX7_unwish_50 : decode cX7_unwish 50 = .ok (.ireturn, 1) := by decide +kernel
theorem dX7_wished_0 : decode cX7_wished 0 = .ok (.iload_n 1, 1) := by decide +kernel
theorem dX7_wished_1 : decode cX7_wished 1 = .ok (.ifCond .lt 12, 3) := by decide +kernel
theorem dX7_wished_4 : decode cX7_wished 4 = .ok (.iload_n 2, 1) := by decide +kernel
theorem dX7_wished_5 : decode cX7_wished 5 = .ok (.iconst 0, 1) := by decide +kernel
theorem dX7_wished_6 : decode cX7_wished 6 = .ok (.iconst 2, 1) := by decide +kernel
theorem dX7_wished_7 : decode cX7_wished 7 = .ok (.invokestatic 86, 3) := by decide +kernel
theorem dX7_wished_10 : decode cX7_wished 10 = .ok (.ifCond .ne 8, 3) := by decide +kernel
theorem dX7_wished_13 : decode cX7_wished 13 = .ok (.aload_n 0, 1) := by decide +kernel
theorem dX7_wished_14 : decode cX7_wished 14 = .ok (.invokevirtual 94, 3) := by decide +kernel
theorem dX7_wished_17 : decode cX7_wished 17 = .ok (.ireturn, 1) := by decide +kernel
theorem dX7_wished_18 : decode cX7_wished 18 = .ok (.iload_n 1, 1) := by decide +kernel
theorem dX7_wished_19 : decode cX7_wished 19 = .ok (.aload_n 0, 1) := by decide +kernel
theorem dX7_wished_20 : decode cX7_wished 20 = .ok (.getfield 80, 3) := by decide +kernel
theorem dX7_wished_23 : decode cX7_wished 23 = .ok (.if_icmp .lt 5, 3) := by decide +kernel
theorem dX7_wished_26 : decode cX7_wished 26 = .ok (.iconst (-1), 1) := by decide +kernel
theorem dX7_wished_27 : decode cX7_wished 27 = .ok (.ireturn, 1) := by decide +kernel
theorem dX7_wished_28 : decode cX7_wished 28 = .ok (.iload_n 2, 1) := by decide +kernel
theorem dX7_wished_29 : decode cX7_wished 29 = .ok (.ifCond .ne 12, 3) := by decide +kernel
theorem dX7_wished_32 : decode cX7_wished 32 = .ok (.aload_n 0, 1) := by decide +kernel
theorem dX7_wished_33 : decode cX7_wished 33 = .ok (.getfield 28, 3) := by decide +kernel
theorem dX7_wished_36 : decode cX7_wished 36 = .ok (.iload_n 1, 1) := by decide +kernel
theorem dX7_wished_37 : decode cX7_wished 37 = .ok (.iaload, 1) := by decide +kernel
theorem dX7_wished_38 : decode cX7_wished 38 = .ok (.goto 23, 3) := by decide +kernel
theorem dX7_wished_41 : decode cX7_wished 41 = .ok (.iload_n 2, 1) := by decide +kernel
theorem dX7_wished_42 : decode cX7_wished 42 = .ok (.iconst 1, 1) := by decide +kernel
theorem dX7_wished_43 : decode cX7_wished 43 = .ok (.if_icmp .ne 12, 3) := by decide +kernel
theorem dX7_wished_46 : decode cX7_wished 46 = .ok (.aload_n 0, 1) := by decide +kernel
theorem dX7_wished_47 : decode cX7_wished 47 = .ok (.getfield 31, 3) := by decide +kernel
theorem dX7_wished_50 : decode cX7_wished 50 = .ok (.iload_n 1, 1) := by decide +kernel
theorem dX7_wished_51 : decode cX7_wished 51 = .ok (.iaload, 1) := by decide +kernel
theorem dX7_wished_52 : decode cX7_wished 52 = .ok (.goto 9, 3) := by decide +kernel
theorem dX7_wished_55 : decode cX7_wished 55 = .ok (.aload_n 0, 1) := by decide +kernel
theorem dX7_wished_56 : decode cX7_wished 56 = .ok (.getfield 34, 3) := by decide +kernel
theorem dX7_wished_59 : decode cX7_wished 59 = .ok (.iload_n 1, 1) := by decide +kernel
theorem dX7_wished_60 : decode cX7_wished 60 = .ok (.iaload, 1) := by decide +kernel
theorem dX7_wished_61 : decode cX7_wished 61 = .ok (.ireturn, 1) := by decide +kernel
theorem dX7_comesTrue_0 : decode cX7_comesTrue 0 = .ok (.iconst 0, 1) := by decide +kernel
theorem dX7_comesTrue_1 : decode cX7_comesTrue 1 = .ok (.istore_n 1, 1) := by decide +kernel
theorem dX7_comesTrue_2 : decode cX7_comesTrue 2 = .ok (.iload_n 1, 1) := by decide +kernel
theorem dX7_comesTrue_3 : decode cX7_comesTrue 3 = .ok (.aload_n 0, 1) := by decide +kernel
theorem dX7_comesTrue_4 : decode cX7_comesTrue 4 = .ok (.getfield 80, 3) := by decide +kernel
theorem dX7_comesTrue_7 : decode cX7_comesTrue 7 = .ok (.if_icmp .ge 47, 3) := by decide +kernel
theorem dX7_comesTrue_10 : decode cX7_comesTrue 10 = .ok (.aload_n 0, 1) := by decide +kernel
theorem dX7_comesTrue_11 : decode cX7_comesTrue 11 = .ok (.getfield 31, 3) := by decide +kernel
theorem dX7_comesTrue_14 : decode cX7_comesTrue 14 = .ok (.iload_n 1, 1) := by decide +kernel
theorem dX7_comesTrue_15 : decode cX7_comesTrue 15 = .ok (.iaload, 1) := by decide +kernel
theorem dX7_comesTrue_16 : decode cX7_comesTrue 16 = .ok (.aload_n 0, 1) := by decide +kernel
theorem dX7_comesTrue_17 : decode cX7_comesTrue 17 = .ok (.getfield 76, 3) := by decide +kernel
theorem dX7_comesTrue_20 : decode cX7_comesTrue 20 = .ok (.if_icmp .gt 28, 3) := by decide +kernel
theorem dX7_comesTrue_23 : decode cX7_comesTrue 23 = .ok (.aload_n 0, 1) := by decide +kernel
theorem dX7_comesTrue_24 : decode cX7_comesTrue 24 = .ok (.getfield 22, 3) := by decide +kernel
theorem dX7_comesTrue_27 : decode cX7_comesTrue 27 = .ok (.aload_n 0, 1) := by decide +kernel
theorem dX7_comesTrue_28 : decode cX7_comesTrue 28 = .ok (.getfield 28, 3) := by decide +kernel
theorem dX7_comesTrue_31 : decode cX7_comesTrue 31 = .ok (.iload_n 1, 1) := by decide +kernel
theorem dX7_comesTrue_32 : decode cX7_comesTrue 32 = .ok (.iaload, 1) := by decide +kernel
theorem dX7_comesTrue_33 : decode cX7_comesTrue 33 = .ok (.aload_n 0, 1) := by decide +kernel
theorem dX7_comesTrue_34 : decode cX7_comesTrue 34 = .ok (.getfield 34, 3) := by decide +kernel
theorem dX7_comesTrue_37 : decode cX7_comesTrue 37 = .ok (.iload_n 1, 1) := by decide +kernel
theorem dX7_comesTrue_38 : decode cX7_comesTrue 38 = .ok (.iaload, 1) := by decide +kernel
theorem dX7_comesTrue_39 : decode cX7_comesTrue 39 = .ok (.iastore, 1) := by decide +kernel
theorem dX7_comesTrue_40 : decode cX7_comesTrue 40 = .ok (.aload_n 0, 1) := by decide +kernel
theorem dX7_comesTrue_41 : decode cX7_comesTrue 41 = .ok (.iload_n 1, 1) := by decide +kernel
theorem dX7_comesTrue_42 : decode cX7_comesTrue 42 = .ok (.invokevirtual 227, 3) := by decide +kernel
theorem dX7_comesTrue_45 : decode cX7_comesTrue 45 = .ok (.goto (-43), 3) := by decide +kernel
theorem dX7_comesTrue_48 : decode cX7_comesTrue 48 = .ok (.iinc 1 1, 3) := by decide +kernel
theorem dX7_comesTrue_51 : decode cX7_comesTrue 51 = .ok (.goto (-49), 3) := by decide +kernel
theorem dX7_comesTrue_54 : decode cX7_comesTrue 54 = .ok (.return_, 1) := by decide +kernel
theorem dX7_steers_0 : decode cX7_steers 0 = .ok (.aload_n 0, 1) := by decide +kernel
theorem dX7_steers_1 : decode cX7_steers 1 = .ok (.invokevirtual 117, 3) := by decide +kernel
theorem dX7_steers_4 : decode cX7_steers 4 = .ok (.aload_n 0, 1) := by decide +kernel
theorem dX7_steers_5 : decode cX7_steers 5 = .ok (.getfield 130, 3) := by decide +kernel
theorem dX7_steers_8 : decode cX7_steers 8 = .ok (.istore_n 1, 1) := by decide +kernel
theorem dX7_steers_9 : decode cX7_steers 9 = .ok (.iconst 0, 1) := by decide +kernel
theorem dX7_steers_10 : decode cX7_steers 10 = .ok (.istore_n 2, 1) := by decide +kernel
theorem dX7_steers_11 : decode cX7_steers 11 = .ok (.iload_n 2, 1) := by decide +kernel
theorem dX7_steers_12 : decode cX7_steers 12 = .ok (.iconst 3, 1) := by decide +kernel
theorem dX7_steers_13 : decode cX7_steers 13 = .ok (.if_icmp .ge 134, 3) := by decide +kernel
theorem dX7_steers_16 : decode cX7_steers 16 = .ok (.aload_n 0, 1) := by decide +kernel
theorem dX7_steers_17 : decode cX7_steers 17 = .ok (.getfield 22, 3) := by decide +kernel
theorem dX7_steers_20 : decode cX7_steers 20 = .ok (.iload_n 2, 1) := by decide +kernel
theorem dX7_steers_21 : decode cX7_steers 21 = .ok (.iaload, 1) := by decide +kernel
theorem dX7_steers_22 : decode cX7_steers 22 = .ok (.aload_n 0, 1) := by decide +kernel
theorem dX7_steers_23 : decode cX7_steers 23 = .ok (.getfield 16, 3) := by decide +kernel
theorem dX7_steers_26 : decode cX7_steers 26 = .ok (.iload_n 2, 1) := by decide +kernel
theorem dX7_steers_27 : decode cX7_steers 27 = .ok (.iaload, 1) := by decide +kernel
theorem dX7_steers_28 : decode cX7_steers 28 = .ok (.isub, 1) := by decide +kernel
theorem dX7_steers_29 : decode cX7_steers 29 = .ok (.istore_n 3, 1) := by decide +kernel
theorem dX7_steers_30 : decode cX7_steers 30 = .ok (.iload_n 3, 1) := by decide +kernel
theorem dX7_steers_31 : decode cX7_steers 31 = .ok (.ifCond .le 12, 3) := by decide +kernel
theorem dX7_steers_34 : decode cX7_steers 34 = .ok (.aload_n 0, 1) := by decide +kernel
theorem dX7_steers_35 : decode cX7_steers 35 = .ok (.getfield 25, 3) := by decide +kernel
theorem dX7_steers_38 : decode cX7_steers 38 = .ok (.iload_n 2, 1) := by decide +kernel
theorem dX7_steers_39 : decode cX7_steers 39 = .ok (.iaload, 1) := by decide +kernel
theorem dX7_steers_40 : decode cX7_steers 40 = .ok (.ifCond .gt 16, 3) := by decide +kernel
theorem dX7_steers_43 : decode cX7_steers 43 = .ok (.iload_n 3, 1) := by decide +kernel
theorem dX7_steers_44 : decode cX7_steers 44 = .ok (.ifCond .ge 16, 3) := by decide +kernel
theorem dX7_steers_47 : decode cX7_steers 47 = .ok (.aload_n 0, 1) := by decide +kernel
theorem dX7_steers_48 : decode cX7_steers 48 = .ok (.getfield 25, 3) := by decide +kernel
theorem dX7_steers_51 : decode cX7_steers 51 = .ok (.iload_n 2, 1) := by decide +kernel
theorem dX7_steers_52 : decode cX7_steers 52 = .ok (.iaload, 1) := by decide +kernel
theorem dX7_steers_53 : decode cX7_steers 53 = .ok (.ifCond .ge 7, 3) := by decide +kernel
theorem dX7_steers_56 : decode cX7_steers 56 = .ok (.iconst 1, 1) := by decide +kernel
theorem dX7_steers_57 : decode cX7_steers 57 = .ok (.goto 4, 3) := by decide +kernel
theorem dX7_steers_60 : decode cX7_steers 60 = .ok (.iconst 0, 1) := by decide +kernel
theorem dX7_steers_61 : decode cX7_steers 61 = .ok (.istore 4, 2) := by decide +kernel
theorem dX7_steers_63 : decode cX7_steers 63 = .ok (.aload_n 0, 1) := by decide +kernel
theorem dX7_steers_64 : decode cX7_steers 64 = .ok (.getfield 25, 3) := by decide +kernel
theorem dX7_steers_67 : decode cX7_steers 67 = .ok (.iload_n 2, 1) := by decide +kernel
theorem dX7_steers_68 : decode cX7_steers 68 = .ok (.iload_n 1, 1) := by decide +kernel
theorem dX7_steers_69 : decode cX7_steers 69 = .ok (.ifCond .eq 17, 3) := by decide +kernel
theorem dX7_steers_72 : decode cX7_steers 72 = .ok (.iload 4, 2) := by decide +kernel
theorem dX7_steers_74 : decode cX7_steers 74 = .ok (.ifCond .eq 12, 3) := by decide +kernel
theorem dX7_steers_77 : decode cX7_steers 77 = .ok (.aload_n 0, 1) := by decide +kernel
theorem dX7_steers_78 : decode cX7_steers 78 = .ok (.getfield 25, 3) := by decide +kernel
theorem dX7_steers_81 : decode cX7_steers 81 = .ok (.iload_n 2, 1) := by decide +kernel
theorem dX7_steers_82 : decode cX7_steers 82 = .ok (.iaload, 1) := by decide +kernel
theorem dX7_steers_83 : decode cX7_steers 83 = .ok (.goto 17, 3) := by decide +kernel
theorem dX7_steers_86 : decode cX7_steers 86 = .ok (.aload_n 0, 1) := by decide +kernel
theorem dX7_steers_87 : decode cX7_steers 87 = .ok (.getfield 25, 3) := by decide +kernel
theorem dX7_steers_90 : decode cX7_steers 90 = .ok (.iload_n 2, 1) := by decide +kernel
theorem dX7_steers_91 : decode cX7_steers 91 = .ok (.iaload, 1) := by decide +kernel
theorem dX7_steers_92 : decode cX7_steers 92 = .ok (.iload_n 3, 1) := by decide +kernel
theorem dX7_steers_93 : decode cX7_steers 93 = .ok (.iadd, 1) := by decide +kernel
theorem dX7_steers_94 : decode cX7_steers 94 = .ok (.sipush 5000, 3) := by decide +kernel
theorem dX7_steers_97 : decode cX7_steers 97 = .ok (.invokestatic 230, 3) := by decide +kernel
theorem dX7_steers_100 : decode cX7_steers 100 = .ok (.iastore, 1) := by decide +kernel
theorem dX7_steers_101 : decode cX7_steers 101 = .ok (.aload_n 0, 1) := by decide +kernel
theorem dX7_steers_102 : decode cX7_steers 102 = .ok (.getfield 19, 3) := by decide +kernel
theorem dX7_steers_105 : decode cX7_steers 105 = .ok (.iload_n 2, 1) := by decide +kernel
theorem dX7_steers_106 : decode cX7_steers 106 = .ok (.iload_n 3, 1) := by decide +kernel
theorem dX7_steers_107 : decode cX7_steers 107 = .ok (.aload_n 0, 1) := by decide +kernel
theorem dX7_steers_108 : decode cX7_steers 108 = .ok (.getfield 13, 3) := by decide +kernel
theorem dX7_steers_111 : decode cX7_steers 111 = .ok (.iconst 4, 1) := by decide +kernel
theorem dX7_steers_112 : decode cX7_steers 112 = .ok (.iaload, 1) := by decide +kernel
theorem dX7_steers_113 : decode cX7_steers 113 = .ok (.imul, 1) := by decide +kernel
theorem dX7_steers_114 : decode cX7_steers 114 = .ok (.bipush 16, 2) := by decide +kernel
theorem dX7_steers_116 : decode cX7_steers 116 = .ok (.idiv, 1) := by decide +kernel
theorem dX7_steers_117 : decode cX7_steers 117 = .ok (.aload_n 0, 1) := by decide +kernel
theorem dX7_steers_118 : decode cX7_steers 118 = .ok (.getfield 25, 3) := by decide +kernel
theorem dX7_steers_121 : decode cX7_steers 121 = .ok (.iload_n 2, 1) := by decide +kernel
theorem dX7_steers_122 : decode cX7_steers 122 = .ok (.iaload, 1) := by decide +kernel
theorem dX7_steers_123 : decode cX7_steers 123 = .ok (.aload_n 0, 1) := by decide +kernel
theorem dX7_steers_124 : decode cX7_steers 124 = .ok (.getfield 13, 3) := by decide +kernel
theorem dX7_steers_127 : decode cX7_steers 127 = .ok (.iconst 5, 1) := by decide +kernel
theorem dX7_steers_128 : decode cX7_steers 128 = .ok (.iaload, 1) := by decide +kernel
theorem dX7_steers_129 : decode cX7_steers 129 = .ok (.imul, 1) := by decide +kernel
theorem dX7_steers_130 : decode cX7_steers 130 = .ok (.bipush 64, 2) := by decide +kernel
theorem dX7_steers_132 : decode cX7_steers 132 = .ok (.idiv, 1) := by decide +kernel
theorem dX7_steers_133 : decode cX7_steers 133 = .ok (.iadd, 1) := by decide +kernel
theorem dX7_steers_134 : decode cX7_steers 134 = .ok (.sipush 200, 3) := by decide +kernel
theorem dX7_steers_137 : decode cX7_steers 137 = .ok (.invokestatic 230, 3) := by decide +kernel
theorem dX7_steers_140 : decode cX7_steers 140 = .ok (.iastore, 1) := by decide +kernel
theorem dX7_steers_141 : decode cX7_steers 141 = .ok (.iinc 2 1, 3) := by decide +kernel
theorem dX7_steers_144 : decode cX7_steers 144 = .ok (.goto (-133), 3) := by decide +kernel
theorem dX7_steers_147 : decode cX7_steers 147 = .ok (.return_, 1) := by decide +kernel
theorem dX7_goes_0 : decode cX7_goes 0 = .ok (.aload_n 0, 1) := by decide +kernel
theorem dX7_goes_1 : decode cX7_goes 1 = .ok (.invokevirtual 233, 3) := by decide +kernel
theorem dX7_goes_4 : decode cX7_goes 4 = .ok (.aload_n 0, 1) := by decide +kernel
theorem dX7_goes_5 : decode cX7_goes 5 = .ok (.getfield 13, 3) := by decide +kernel
theorem dX7_goes_8 : decode cX7_goes 8 = .ok (.bipush 6, 2) := by decide +kernel
theorem dX7_goes_10 : decode cX7_goes 10 = .ok (.iaload, 1) := by decide +kernel
theorem dX7_goes_11 : decode cX7_goes 11 = .ok (.iconst 1, 1) := by decide +kernel
theorem dX7_goes_12 : decode cX7_goes 12 = .ok (.if_icmp .ne 7, 3) := by decide +kernel
theorem dX7_goes_15 : decode cX7_goes 15 = .ok (.aload_n 0, 1) := by decide +kernel
theorem dX7_goes_16 : decode cX7_goes 16 = .ok (.invokevirtual 236, 3) := by decide +kernel
theorem dX7_goes_19 : decode cX7_goes 19 = .ok (.aload_n 0, 1) := by decide +kernel
theorem dX7_goes_20 : decode cX7_goes 20 = .ok (.invokevirtual 117, 3) := by decide +kernel
theorem dX7_goes_23 : decode cX7_goes 23 = .ok (.iconst 0, 1) := by decide +kernel
theorem dX7_goes_24 : decode cX7_goes 24 = .ok (.istore_n 1, 1) := by decide +kernel
theorem dX7_goes_25 : decode cX7_goes 25 = .ok (.iload_n 1, 1) := by decide +kernel
theorem dX7_goes_26 : decode cX7_goes 26 = .ok (.iconst 3, 1) := by decide +kernel
theorem dX7_goes_27 : decode cX7_goes 27 = .ok (.if_icmp .ge 20, 3) := by decide +kernel
theorem dX7_goes_30 : decode cX7_goes 30 = .ok (.aload_n 0, 1) := by decide +kernel
theorem dX7_goes_31 : decode cX7_goes 31 = .ok (.getfield 64, 3) := by decide +kernel
theorem dX7_goes_34 : decode cX7_goes 34 = .ok (.iload_n 1, 1) := by decide +kernel
theorem dX7_goes_35 : decode cX7_goes 35 = .ok (.aload_n 0, 1) := by decide +kernel
theorem dX7_goes_36 : decode cX7_goes 36 = .ok (.iload_n 1, 1) := by decide +kernel
theorem dX7_goes_37 : decode cX7_goes 37 = .ok (.invokevirtual 172, 3) := by decide +kernel
theorem dX7_goes_40 : decode cX7_goes 40 = .ok (.iastore, 1) := by decide +kernel
theorem dX7_goes_41 : decode cX7_goes 41 = .ok (.iinc 1 1, 3) := by decide +kernel
theorem dX7_goes_44 : decode cX7_goes 44 = .ok (.goto (-19), 3) := by decide +kernel
theorem dX7_goes_47 : decode cX7_goes 47 = .ok (.aload_n 0, 1) := by decide +kernel
theorem dX7_goes_48 : decode cX7_goes 48 = .ok (.getfield 64, 3) := by decide +kernel
theorem dX7_goes_51 : decode cX7_goes 51 = .ok (.iconst 0, 1) := by decide +kernel
theorem dX7_goes_52 : decode cX7_goes 52 = .ok (.iaload, 1) := by decide +kernel
theorem dX7_goes_53 : decode cX7_goes 53 = .ok (.aload_n 0, 1) := by decide +kernel
theorem dX7_goes_54 : decode cX7_goes 54 = .ok (.getfield 64, 3) := by decide +kernel
theorem dX7_goes_57 : decode cX7_goes 57 = .ok (.iconst 1, 1) := by decide +kernel
theorem dX7_goes_58 : decode cX7_goes 58 = .ok (.iaload, 1) := by decide +kernel
theorem dX7_goes_59 : decode cX7_goes 59 = .ok (.iadd, 1) := by decide +kernel
theorem dX7_goes_60 : decode cX7_goes 60 = .ok (.aload_n 0, 1) := by decide +kernel
theorem dX7_goes_61 : decode cX7_goes 61 = .ok (.getfield 64, 3) := by decide +kernel
theorem dX7_goes_64 : decode cX7_goes 64 = .ok (.iconst 2, 1) := by decide +kernel
theorem dX7_goes_65 : decode cX7_goes 65 = .ok (.iaload, 1) := by decide +kernel
theorem dX7_goes_66 : decode cX7_goes 66 = .ok (.iadd, 1) := by decide +kernel
theorem dX7_goes_67 : decode cX7_goes 67 = .ok (.istore_n 1, 1) := by decide +kernel
theorem dX7_goes_68 : decode cX7_goes 68 = .ok (.iconst 0, 1) := by decide +kernel
theorem dX7_goes_69 : decode cX7_goes 69 = .ok (.istore_n 2, 1) := by decide +kernel
theorem dX7_goes_70 : decode cX7_goes 70 = .ok (.iload_n 2, 1) := by decide +kernel
theorem dX7_goes_71 : decode cX7_goes 71 = .ok (.iconst 3, 1) := by decide +kernel
theorem dX7_goes_72 : decode cX7_goes 72 = .ok (.if_icmp .ge 48, 3) := by decide +kernel
theorem dX7_goes_75 : decode cX7_goes 75 = .ok (.aload_n 0, 1) := by decide +kernel
theorem dX7_goes_76 : decode cX7_goes 76 = .ok (.getfield 16, 3) := by decide +kernel
theorem dX7_goes_79 : decode cX7_goes 79 = .ok (.iload_n 2, 1) := by decide +kernel
theorem dX7_goes_80 : decode cX7_goes 80 = .ok (.iaload, 1) := by decide +kernel
theorem dX7_goes_81 : decode cX7_goes 81 = .ok (.iconst 3, 1) := by decide +kernel
theorem dX7_goes_82 : decode cX7_goes 82 = .ok (.aload_n 0, 1) := by decide +kernel
theorem dX7_goes_83 : decode cX7_goes 83 = .ok (.getfield 64, 3) := by decide +kernel
theorem dX7_goes_86 : decode cX7_goes 86 = .ok (.iload_n 2, 1) := by decide +kernel
theorem dX7_goes_87 : decode cX7_goes 87 = .ok (.iaload, 1) := by decide +kernel
theorem dX7_goes_88 : decode cX7_goes 88 = .ok (.imul, 1) := by decide +kernel
theorem dX7_goes_89 : decode cX7_goes 89 = .ok (.iload_n 1, 1) := by decide +kernel
theorem dX7_goes_90 : decode cX7_goes 90 = .ok (.isub, 1) := by decide +kernel
theorem dX7_goes_91 : decode cX7_goes 91 = .ok (.bipush 6, 2) := by decide +kernel
theorem dX7_goes_93 : decode cX7_goes 93 = .ok (.idiv, 1) := by decide +kernel
theorem dX7_goes_94 : decode cX7_goes 94 = .ok (.iadd, 1) := by decide +kernel
theorem dX7_goes_95 : decode cX7_goes 95 = .ok (.istore_n 3, 1) := by decide +kernel
theorem dX7_goes_96 : decode cX7_goes 96 = .ok (.aload_n 0, 1) := by decide +kernel
theorem dX7_goes_97 : decode cX7_goes 97 = .ok (.getfield 16, 3) := by decide +kernel
theorem dX7_goes_100 : decode cX7_goes 100 = .ok (.iload_n 2, 1) := by decide +kernel
theorem dX7_goes_101 : decode cX7_goes 101 = .ok (.iload_n 3, 1) := by decide +kernel
theorem dX7_goes_102 : decode cX7_goes 102 = .ok (.iload_n 3, 1) := by decide +kernel
theorem dX7_goes_103 : decode cX7_goes 103 = .ok (.bipush 8, 2) := by decide +kernel
theorem dX7_goes_105 : decode cX7_goes 105 = .ok (.idiv, 1) := by decide +kernel
theorem dX7_goes_106 : decode cX7_goes 106 = .ok (.isub, 1) := by decide +kernel
theorem dX7_goes_107 : decode cX7_goes 107 = .ok (.sipush 999, 3) := by decide +kernel
theorem dX7_goes_110 : decode cX7_goes 110 = .ok (.invokestatic 230, 3) := by decide +kernel
theorem dX7_goes_113 : decode cX7_goes 113 = .ok (.iastore, 1) := by decide +kernel
theorem dX7_goes_114 : decode cX7_goes 114 = .ok (.iinc 2 1, 3) := by decide +kernel
theorem dX7_goes_117 : decode cX7_goes 117 = .ok (.goto (-47), 3) := by decide +kernel
theorem dX7_goes_120 : decode cX7_goes 120 = .ok (.aload_n 0, 1) := by decide +kernel
theorem dX7_goes_121 : decode cX7_goes 121 = .ok (.dup, 1) := by decide +kernel
theorem dX7_goes_122 : decode cX7_goes 122 = .ok (.getfield 76, 3) := by decide +kernel
theorem dX7_goes_125 : decode cX7_goes 125 = .ok (.iconst 1, 1) := by decide +kernel
theorem dX7_goes_126 : decode cX7_goes 126 = .ok (.iadd, 1) := by decide +kernel
theorem dX7_goes_127 : decode cX7_goes 127 = .ok (.putfield 76, 3) := by decide +kernel
theorem dX7_goes_130 : decode cX7_goes 130 = .ok (.aload_n 0, 1) := by decide +kernel
theorem dX7_goes_131 : decode cX7_goes 131 = .ok (.getfield 130, 3) := by decide +kernel
theorem dX7_goes_134 : decode cX7_goes 134 = .ok (.ireturn, 1) := by decide +kernel
theorem dX7_remembers_0 : decode cX7_remembers 0 = .ok (.bipush 39, 2) := by decide +kernel
theorem dX7_remembers_2 : decode cX7_remembers 2 = .ok (.istore_n 2, 1) := by decide +kernel
theorem dX7_remembers_3 : decode cX7_remembers 3 = .ok (.iload_n 2, 1) := by decide +kernel
theorem dX7_remembers_4 : decode cX7_remembers 4 = .ok (.iconst 4, 1) := by decide +kernel
theorem dX7_remembers_5 : decode cX7_remembers 5 = .ok (.if_icmp .lt 23, 3) := by decide +kernel
theorem dX7_remembers_8 : decode cX7_remembers 8 = .ok (.aload_n 0, 1) := by decide +kernel
theorem dX7_remembers_9 : decode cX7_remembers 9 = .ok (.getfield 37, 3) := by decide +kernel
theorem dX7_remembers_12 : decode cX7_remembers 12 = .ok (.iload_n 2, 1) := by decide +kernel
theorem dX7_remembers_13 : decode cX7_remembers 13 = .ok (.aload_n 0, 1) := by decide +kernel
theorem dX7_remembers_14 : decode cX7_remembers 14 = .ok (.getfield 37, 3) := by decide +kernel
theorem dX7_remembers_17 : decode cX7_remembers 17 = .ok (.iload_n 2, 1) := by decide +kernel
theorem dX7_remembers_18 : decode cX7_remembers 18 = .ok (.iconst 4, 1) := by decide +kernel
theorem dX7_remembers_19 : decode cX7_remembers 19 = .ok (.isub, 1) := by decide +kernel
theorem dX7_remembers_20 : decode cX7_remembers 20 = .ok (.iaload, 1) := by decide +kernel
theorem dX7_remembers_21 : decode cX7_remembers 21 = .ok (.iastore, 1) := by decide +kernel
theorem dX7_remembers_22 : decode cX7_remembers 22 = .ok (.iinc 2 (-1), 3) := by decide +kernel
theorem dX7_remembers_25 : decode cX7_remembers 25 = .ok (.goto (-22), 3) := by decide +kernel
theorem dX7_remembers_28 : decode cX7_remembers 28 = .ok (.aload_n 0, 1) := by decide +kernel
theorem dX7_remembers_29 : decode cX7_remembers 29 = .ok (.getfield 37, 3) := by decide +kernel
theorem dX7_remembers_32 : decode cX7_remembers 32 = .ok (.iconst 0, 1) := by decide +kernel
theorem dX7_remembers_33 : decode cX7_remembers 33 = .ok (.aload_n 0, 1) := by decide +kernel
theorem dX7_remembers_34 : decode cX7_remembers 34 = .ok (.getfield 16, 3) := by decide +kernel
theorem dX7_remembers_37 : decode cX7_remembers 37 = .ok (.iconst 0, 1) := by decide +kernel
theorem dX7_remembers_38 : decode cX7_remembers 38 = .ok (.iaload, 1) := by decide +kernel
theorem dX7_remembers_39 : decode cX7_remembers 39 = .ok (.iastore, 1) := by decide +kernel
theorem dX7_remembers_40 : decode cX7_remembers 40 = .ok (.aload_n 0, 1) := by decide +kernel
theorem dX7_remembers_41 : decode cX7_remembers 41 = .ok (.getfield 37, 3) := by decide +kernel
theorem dX7_remembers_44 : decode cX7_remembers 44 = .ok (.iconst 1, 1) := by decide +kernel
theorem dX7_remembers_45 : decode cX7_remembers 45 = .ok (.aload_n 0, 1) := by decide +kernel
theorem dX7_remembers_46 : decode cX7_remembers 46 = .ok (.getfield 16, 3) := by decide +kernel
theorem dX7_remembers_49 : decode cX7_remembers 49 = .ok (.iconst 1, 1) := by decide +kernel
theorem dX7_remembers_50 : decode cX7_remembers 50 = .ok (.iaload, 1) := by decide +kernel
theorem dX7_remembers_51 : decode cX7_remembers 51 = .ok (.iastore, 1) := by decide +kernel
theorem dX7_remembers_52 : decode cX7_remembers 52 = .ok (.aload_n 0, 1) := by decide +kernel
theorem dX7_remembers_53 : decode cX7_remembers 53 = .ok (.getfield 37, 3) := by decide +kernel
theorem dX7_remembers_56 : decode cX7_remembers 56 = .ok (.iconst 2, 1) := by decide +kernel
theorem dX7_remembers_57 : decode cX7_remembers 57 = .ok (.aload_n 0, 1) := by decide +kernel
theorem dX7_remembers_58 : decode cX7_remembers 58 = .ok (.getfield 16, 3) := by decide +kernel
theorem dX7_remembers_61 : decode cX7_remembers 61 = .ok (.iconst 2, 1) := by decide +kernel
theorem dX7_remembers_62 : decode cX7_remembers 62 = .ok (.iaload, 1) := by decide +kernel
theorem dX7_remembers_63 : decode cX7_remembers 63 = .ok (.iastore, 1) := by decide +kernel
theorem dX7_remembers_64 : decode cX7_remembers 64 = .ok (.aload_n 0, 1) := by decide +kernel
theorem dX7_remembers_65 : decode cX7_remembers 65 = .ok (.getfield 37, 3) := by decide +kernel
theorem dX7_remembers_68 : decode cX7_remembers 68 = .ok (.iconst 3, 1) := by decide +kernel
theorem dX7_remembers_69 : decode cX7_remembers 69 = .ok (.iload_n 1, 1) := by decide +kernel
theorem dX7_remembers_70 : decode cX7_remembers 70 = .ok (.ifCond .eq 7, 3) := by decide +kernel
theorem dX7_remembers_73 : decode cX7_remembers 73 = .ok (.iconst 1, 1) := by decide +kernel
theorem dX7_remembers_74 : decode cX7_remembers 74 = .ok (.goto 4, 3) := by decide +kernel
theorem dX7_remembers_77 : decode cX7_remembers 77 = .ok (.iconst 0, 1) := by decide +kernel
theorem dX7_remembers_78 : decode cX7_remembers 78 = .ok (.iastore, 1) := by decide +kernel
theorem dX7_remembers_79 : decode cX7_remembers 79 = .ok (.aload_n 0, 1) := by decide +kernel
theorem dX7_remembers_80 : decode cX7_remembers 80 = .ok (.dup, 1) := by decide +kernel
theorem dX7_remembers_81 : decode cX7_remembers 81 = .ok (.getfield 83, 3) := by decide +kernel
theorem dX7_remembers_84 : decode cX7_remembers 84 = .ok (.aload_n 0, 1) := by decide +kernel
theorem dX7_remembers_85 : decode cX7_remembers 85 = .ok (.getfield 83, 3) := by decide +kernel
theorem dX7_remembers_88 : decode cX7_remembers 88 = .ok (.bipush 10, 2) := by decide +kernel
theorem dX7_remembers_90 : decode cX7_remembers 90 = .ok (.if_icmp .ge 7, 3) := by decide +kernel
theorem dX7_remembers_93 : decode cX7_remembers 93 = .ok (.iconst 1, 1) := by decide +kernel
theorem dX7_remembers_94 : decode cX7_remembers 94 = .ok (.goto 4, 3) := by decide +kernel
theorem dX7_remembers_97 : decode cX7_remembers 97 = .ok (.iconst 0, 1) := by decide +kernel
theorem dX7_remembers_98 : decode cX7_remembers 98 = .ok (.iadd, 1) := by decide +kernel
theorem dX7_remembers_99 : decode cX7_remembers 99 = .ok (.putfield 83, 3) := by decide +kernel
theorem dX7_remembers_102 : decode cX7_remembers 102 = .ok (.return_, 1) := by decide +kernel
theorem dX7_steps_0 : decode cX7_steps 0 = .ok (.iload_n 1, 1) := by decide +kernel
theorem dX7_steps_1 : decode cX7_steps 1 = .ok (.iconst 1, 1) := by decide +kernel
theorem dX7_steps_2 : decode cX7_steps 2 = .ok (.bipush 50, 2) := by decide +kernel
theorem dX7_steps_4 : decode cX7_steps 4 = .ok (.invokestatic 86, 3) := by decide +kernel
theorem dX7_steps_7 : decode cX7_steps 7 = .ok (.ifCond .ne 8, 3) := by decide +kernel
theorem dX7_steps_10 : decode cX7_steps 10 = .ok (.aload_n 0, 1) := by decide +kernel
theorem dX7_steps_11 : decode cX7_steps 11 = .ok (.invokevirtual 94, 3) := by decide +kernel
theorem dX7_steps_14 : decode cX7_steps 14 = .ok (.ireturn, 1) := by decide +kernel
theorem dX7_steps_15 : decode cX7_steps 15 = .ok (.iconst 0, 1) := by decide +kernel
theorem dX7_steps_16 : decode cX7_steps 16 = .ok (.istore_n 2, 1) := by decide +kernel
theorem dX7_steps_17 : decode cX7_steps 17 = .ok (.iconst 0, 1) := by decide +kernel
theorem dX7_steps_18 : decode cX7_steps 18 = .ok (.istore_n 3, 1) := by decide +kernel
theorem dX7_steps_19 : decode cX7_steps 19 = .ok (.iload_n 3, 1) := by decide +kernel
theorem dX7_steps_20 : decode cX7_steps 20 = .ok (.iload_n 1, 1) := by decide +kernel
theorem dX7_steps_21 : decode cX7_steps 21 = .ok (.if_icmp .ge 34, 3) := by decide +kernel
theorem dX7_steps_24 : decode cX7_steps 24 = .ok (.aload_n 0, 1) := by decide +kernel
theorem dX7_steps_25 : decode cX7_steps 25 = .ok (.invokevirtual 239, 3) := by decide +kernel
theorem dX7_steps_28 : decode cX7_steps 28 = .ok (.istore 4, 2) := by decide +kernel
theorem dX7_steps_30 : decode cX7_steps 30 = .ok (.aload_n 0, 1) := by decide +kernel
theorem dX7_steps_31 : decode cX7_steps 31 = .ok (.iload 4, 2) := by decide +kernel
theorem dX7_steps_33 : decode cX7_steps 33 = .ok (.invokevirtual 243, 3) := by decide +kernel
theorem dX7_steps_36 : decode cX7_steps 36 = .ok (.iload_n 2, 1) := by decide +kernel
theorem dX7_steps_37 : decode cX7_steps 37 = .ok (.iload 4, 2) := by decide +kernel
theorem dX7_steps_39 : decode cX7_steps 39 = .ok (.ifCond .eq 7, 3) := by decide +kernel
theorem dX7_steps_42 : decode cX7_steps 42 = .ok (.iconst 1, 1) := by decide +kernel
theorem dX7_steps_43 : decode cX7_steps 43 = .ok (.goto 4, 3) := by decide +kernel
theorem dX7_steps_46 : decode cX7_steps 46 = .ok (.iconst 0, 1) := by decide +kernel
theorem dX7_steps_47 : decode cX7_steps 47 = .ok (.iadd, 1) := by decide +kernel
theorem dX7_steps_48 : decode cX7_steps 48 = .ok (.istore_n 2, 1) := by decide +kernel
theorem dX7_steps_49 : decode cX7_steps 49 = .ok (.iinc 3 1, 3) := by decide +kernel
theorem dX7_steps_52 : decode cX7_steps 52 = .ok (.goto (-33), 3) := by decide +kernel
theorem dX7_steps_55 : decode cX7_steps 55 = .ok (.iload_n 2, 1) := by decide +kernel
theorem dX7_steps_56 : decode cX7_steps 56 = .ok (.ireturn, 1) := by decide +kernel
theorem dX7_lays_0 : decode cX7_lays 0 = .ok (.iconst 0, 1) := by decide +kernel
theorem dX7_lays_1 : decode cX7_lays 1 = .ok (.istore_n 1, 1) := by decide +kernel
theorem dX7_lays_2 : decode cX7_lays 2 = .ok (.iload_n 1, 1) := by decide +kernel
theorem dX7_lays_3 : decode cX7_lays 3 = .ok (.iconst 3, 1) := by decide +kernel
theorem dX7_lays_4 : decode cX7_lays 4 = .ok (.if_icmp .ge 65, 3) := by decide +kernel
theorem dX7_lays_7 : decode cX7_lays 7 = .ok (.aload_n 0, 1) := by decide +kernel
theorem dX7_lays_8 : decode cX7_lays 8 = .ok (.getfield 67, 3) := by decide +kernel
theorem dX7_lays_11 : decode cX7_lays 11 = .ok (.iload_n 1, 1) := by decide +kernel
theorem dX7_lays_12 : decode cX7_lays 12 = .ok (.aload_n 0, 1) := by decide +kernel
theorem dX7_lays_13 : decode cX7_lays 13 = .ok (.getfield 16, 3) := by decide +kernel
theorem dX7_lays_16 : decode cX7_lays 16 = .ok (.iload_n 1, 1) := by decide +kernel
theorem dX7_lays_17 : decode cX7_lays 17 = .ok (.iaload, 1) := by decide +kernel
theorem dX7_lays_18 : decode cX7_lays 18 = .ok (.iastore, 1) := by decide +kernel
theorem dX7_lays_19 : decode cX7_lays 19 = .ok (.aload_n 0, 1) := by decide +kernel
theorem dX7_lays_20 : decode cX7_lays 20 = .ok (.getfield 67, 3) := by decide +kernel
theorem dX7_lays_23 : decode cX7_lays 23 = .ok (.iconst 3, 1) := by decide +kernel
theorem dX7_lays_24 : decode cX7_lays 24 = .ok (.iload_n 1, 1) := by decide +kernel
theorem dX7_lays_25 : decode cX7_lays 25 = .ok (.iadd, 1) := by decide +kernel
theorem dX7_lays_26 : decode cX7_lays 26 = .ok (.aload_n 0, 1) := by decide +kernel
theorem dX7_lays_27 : decode cX7_lays 27 = .ok (.getfield 19, 3) := by decide +kernel
theorem dX7_lays_30 : decode cX7_lays 30 = .ok (.iload_n 1, 1) := by decide +kernel
theorem dX7_lays_31 : decode cX7_lays 31 = .ok (.iaload, 1) := by decide +kernel
theorem dX7_lays_32 : decode cX7_lays 32 = .ok (.iastore, 1) := by decide +kernel
theorem dX7_lays_33 : decode cX7_lays 33 = .ok (.aload_n 0, 1) := by decide +kernel
theorem dX7_lays_34 : decode cX7_lays 34 = .ok (.getfield 67, 3) := by decide +kernel
theorem dX7_lays_37 : decode cX7_lays 37 = .ok (.bipush 6, 2) := by decide +kernel
theorem dX7_lays_39 : decode cX7_lays 39 = .ok (.iload_n 1, 1) := by decide +kernel
theorem dX7_lays_40 : decode cX7_lays 40 = .ok (.iadd, 1) := by decide +kernel
theorem dX7_lays_41 : decode cX7_lays 41 = .ok (.aload_n 0, 1) := by decide +kernel
theorem dX7_lays_42 : decode cX7_lays 42 = .ok (.getfield 22, 3) := by decide +kernel
theorem dX7_lays_45 : decode cX7_lays 45 = .ok (.iload_n 1, 1) := by decide +kernel
theorem dX7_lays_46 : decode cX7_lays 46 = .ok (.iaload, 1) := by decide +kernel
theorem dX7_lays_47 : decode cX7_lays 47 = .ok (.iastore, 1) := by decide +kernel
theorem dX7_lays_48 : decode cX7_lays 48 = .ok (.aload_n 0, 1) := by decide +kernel
theorem dX7_lays_49 : decode cX7_lays 49 = .ok (.getfield 67, 3) := by decide +kernel
theorem dX7_lays_52 : decode cX7_lays 52 = .ok (.bipush 9, 2) := by decide +kernel
theorem dX7_lays_54 : decode cX7_lays 54 = .ok (.iload_n 1, 1) := by decide +kernel
theorem dX7_lays_55 : decode cX7_lays 55 = .ok (.iadd, 1) := by decide +kernel
theorem dX7_lays_56 : decode cX7_lays 56 = .ok (.aload_n 0, 1) := by decide +kernel
theorem dX7_lays_57 : decode cX7_lays 57 = .ok (.getfield 25, 3) := by decide +kernel
theorem dX7_lays_60 : decode cX7_lays 60 = .ok (.iload_n 1, 1) := by decide +kernel
theorem dX7_lays_61 : decode cX7_lays 61 = .ok (.iaload, 1) := by decide +kernel
theorem dX7_lays_62 : decode cX7_lays 62 = .ok (.iastore, 1) := by decide +kernel
theorem dX7_lays_63 : decode cX7_lays 63 = .ok (.iinc 1 1, 3) := by decide +kernel
theorem dX7_lays_66 : decode cX7_lays 66 = .ok (.goto (-64), 3) := by decide +kernel
theorem dX7_lays_69 : decode cX7_lays 69 = .ok (.aload_n 0, 1) := by decide +kernel
theorem dX7_lays_70 : decode cX7_lays 70 = .ok (.getfield 67, 3) := by decide +kernel
theorem dX7_lays_73 : decode cX7_lays 73 = .ok (.bipush 12, 2) := by decide +kernel
theorem dX7_lays_75 : decode cX7_lays 75 = .ok (.aload_n 0, 1) := by decide +kernel
theorem dX7_lays_76 : decode cX7_lays 76 = .ok (.getfield 76, 3) := by decide +kernel
theorem dX7_lays_79 : decode cX7_lays 79 = .ok (.iastore, 1) := by decide +kernel
theorem dX7_lays_80 : decode cX7_lays 80 = .ok (.aload_n 0, 1) := by decide +kernel
theorem dX7_lays_81 : decode cX7_lays 81 = .ok (.getfield 67, 3) := by decide +kernel
theorem dX7_lays_84 : decode cX7_lays 84 = .ok (.bipush 13, 2) := by decide +kernel
theorem dX7_lays_86 : decode cX7_lays 86 = .ok (.aload_n 0, 1) := by decide +kernel
theorem dX7_lays_87 : decode cX7_lays 87 = .ok (.getfield 80, 3) := by decide +kernel
theorem dX7_lays_90 : decode cX7_lays 90 = .ok (.iastore, 1) := by decide +kernel
theorem dX7_lays_91 : decode cX7_lays 91 = .ok (.iconst 0, 1) := by decide +kernel
theorem dX7_lays_92 : decode cX7_lays 92 = .ok (.istore_n 1, 1) := by decide +kernel
theorem dX7_lays_93 : decode cX7_lays 93 = .ok (.iload_n 1, 1) := by decide +kernel
theorem dX7_lays_94 : decode cX7_lays 94 = .ok (.bipush 12, 2) := by decide +kernel
theorem dX7_lays_96 : decode cX7_lays 96 = .ok (.if_icmp .ge 54, 3) := by decide +kernel
theorem dX7_lays_99 : decode cX7_lays 99 = .ok (.aload_n 0, 1) := by decide +kernel
theorem dX7_lays_100 : decode cX7_lays 100 = .ok (.getfield 67, 3) := by decide +kernel
theorem dX7_lays_103 : decode cX7_lays 103 = .ok (.bipush 14, 2) := by decide +kernel
theorem dX7_lays_105 : decode cX7_lays 105 = .ok (.iload_n 1, 1) := by decide +kernel
theorem dX7_lays_106 : decode cX7_lays 106 = .ok (.iadd, 1) := by decide +kernel
theorem dX7_lays_107 : decode cX7_lays 107 = .ok (.aload_n 0, 1) := by decide +kernel
theorem dX7_lays_108 : decode cX7_lays 108 = .ok (.getfield 28, 3) := by decide +kernel
theorem dX7_lays_111 : decode cX7_lays 111 = .ok (.iload_n 1, 1) := by decide +kernel
theorem dX7_lays_112 : decode cX7_lays 112 = .ok (.iaload, 1) := by decide +kernel
theorem dX7_lays_113 : decode cX7_lays 113 = .ok (.iastore, 1) := by decide +kernel
theorem dX7_lays_114 : decode cX7_lays 114 = .ok (.aload_n 0, 1) := by decide +kernel
theorem dX7_lays_115 : decode cX7_lays 115 = .ok (.getfield 67, 3) := by decide +kernel
theorem dX7_lays_118 : decode cX7_lays 118 = .ok (.bipush 26, 2) := by decide +kernel
theorem dX7_lays_120 : decode cX7_lays 120 = .ok (.iload_n 1, 1) := by decide +kernel
theorem dX7_lays_121 : decode cX7_lays 121 = .ok (.iadd, 1) := by decide +kernel
theorem dX7_lays_122 : decode cX7_lays 122 = .ok (.aload_n 0, 1) := by decide +kernel
theorem dX7_lays_123 : decode cX7_lays 123 = .ok (.getfield 31, 3) := by decide +kernel
theorem dX7_lays_126 : decode cX7_lays 126 = .ok (.iload_n 1, 1) := by decide +kernel
theorem dX7_lays_127 : decode cX7_lays 127 = .ok (.iaload, 1) := by decide +kernel
theorem dX7_lays_128 : decode cX7_lays 128 = .ok (.iastore, 1) := by decide +kernel
theorem dX7_lays_129 : decode cX7_lays 129 = .ok (.aload_n 0, 1) := by decide +kernel
theorem dX7_lays_130 : decode cX7_lays 130 = .ok (.getfield 67, 3) := by decide +kernel
theorem dX7_lays_133 : decode cX7_lays 133 = .ok (.bipush 38, 2) := by decide +kernel
theorem dX7_lays_135 : decode cX7_lays 135 = .ok (.iload_n 1, 1) := by decide +kernel
theorem dX7_lays_136 : decode cX7_lays 136 = .ok (.iadd, 1) := by decide +kernel
theorem dX7_lays_137 : decode cX7_lays 137 = .ok (.aload_n 0, 1) := by decide +kernel
theorem dX7_lays_138 : decode cX7_lays 138 = .ok (.getfield 34, 3) := by decide +kernel
theorem dX7_lays_141 : decode cX7_lays 141 = .ok (.iload_n 1, 1) := by decide +kernel
theorem dX7_lays_142 : decode cX7_lays 142 = .ok (.iaload, 1) := by decide +kernel
theorem dX7_lays_143 : decode cX7_lays 143 = .ok (.iastore, 1) := by decide +kernel
theorem dX7_lays_144 : decode cX7_lays 144 = .ok (.iinc 1 1, 3) := by decide +kernel
theorem dX7_lays_147 : decode cX7_lays 147 = .ok (.goto (-54), 3) := by decide +kernel
theorem dX7_lays_150 : decode cX7_lays 150 = .ok (.return_, 1) := by decide +kernel
theorem dX7_takes_0 : decode cX7_takes 0 = .ok (.iconst 0, 1) := by decide +kernel
theorem dX7_takes_1 : decode cX7_takes 1 = .ok (.istore_n 1, 1) := by decide +kernel
theorem dX7_takes_2 : decode cX7_takes 2 = .ok (.iload_n 1, 1) := by decide +kernel
theorem dX7_takes_3 : decode cX7_takes 3 = .ok (.iconst 3, 1) := by decide +kernel
theorem dX7_takes_4 : decode cX7_takes 4 = .ok (.if_icmp .ge 65, 3) := by decide +kernel
theorem dX7_takes_7 : decode cX7_takes 7 = .ok (.aload_n 0, 1) := by decide +kernel
theorem dX7_takes_8 : decode cX7_takes 8 = .ok (.getfield 16, 3) := by decide +kernel
theorem dX7_takes_11 : decode cX7_takes 11 = .ok (.iload_n 1, 1) := by decide +kernel
theorem dX7_takes_12 : decode cX7_takes 12 = .ok (.aload_n 0, 1) := by decide +kernel
theorem dX7_takes_13 : decode cX7_takes 13 = .ok (.getfield 67, 3) := by decide +kernel
theorem dX7_takes_16 : decode cX7_takes 16 = .ok (.iload_n 1, 1) := by decide +kernel
theorem dX7_takes_17 : decode cX7_takes 17 = .ok (.iaload, 1) := by decide +kernel
theorem dX7_takes_18 : decode cX7_takes 18 = .ok (.iastore, 1) := by decide +kernel
theorem dX7_takes_19 : decode cX7_takes 19 = .ok (.aload_n 0, 1) := by decide +kernel
theorem dX7_takes_20 : decode cX7_takes 20 = .ok (.getfield 19, 3) := by decide +kernel
theorem dX7_takes_23 : decode cX7_takes 23 = .ok (.iload_n 1, 1) := by decide +kernel
theorem dX7_takes_24 : decode cX7_takes 24 = .ok (.aload_n 0, 1) := by decide +kernel
theorem dX7_takes_25 : decode cX7_takes 25 = .ok (.getfield 67, 3) := by decide +kernel
theorem dX7_takes_28 : decode cX7_takes 28 = .ok (.iconst 3, 1) := by decide +kernel
theorem dX7_takes_29 : decode cX7_takes 29 = .ok (.iload_n 1, 1) := by decide +kernel
theorem dX7_takes_30 : decode cX7_takes 30 = .ok (.iadd, 1) := by decide +kernel
theorem dX7_takes_31 : decode cX7_takes 31 = .ok (.iaload, 1) := by decide +kernel
theorem dX7_takes_32 : decode cX7_takes 32 = .ok (.iastore, 1) := by decide +kernel
theorem dX7_takes_33 : decode cX7_takes 33 = .ok (.aload_n 0, 1) := by decide +kernel
theorem dX7_takes_34 : decode cX7_takes 34 = .ok (.getfield 22, 3) := by decide +kernel
theorem dX7_takes_37 : decode cX7_takes 37 = .ok (.iload_n 1, 1) := by decide +kernel
theorem dX7_takes_38 : decode cX7_takes 38 = .ok (.aload_n 0, 1) := by decide +kernel
theorem dX7_takes_39 : decode cX7_takes 39 = .ok (.getfield 67, 3) := by decide +kernel
theorem dX7_takes_42 : decode cX7_takes 42 = .ok (.bipush 6, 2) := by decide +kernel
theorem dX7_takes_44 : decode cX7_takes 44 = .ok (.iload_n 1, 1) := by decide +kernel
theorem dX7_takes_45 : decode cX7_takes 45 = .ok (.iadd, 1) := by decide +kernel
theorem dX7_takes_46 : decode cX7_takes 46 = .ok (.iaload, 1) := by decide +kernel
theorem dX7_takes_47 : decode cX7_takes 47 = .ok (.iastore, 1) := by decide +kernel
theorem dX7_takes_48 : decode cX7_takes 48 = .ok (.aload_n 0, 1) := by decide +kernel
theorem dX7_takes_49 : decode cX7_takes 49 = .ok (.getfield 25, 3) := by decide +kernel
theorem dX7_takes_52 : decode cX7_takes 52 = .ok (.iload_n 1, 1) := by decide +kernel
theorem dX7_takes_53 : decode cX7_takes 53 = .ok (.aload_n 0, 1) := by decide +kernel
theorem dX7_takes_54 : decode cX7_takes 54 = .ok (.getfield 67, 3) := by decide +kernel
theorem dX7_takes_57 : decode cX7_takes 57 = .ok (.bipush 9, 2) := by decide +kernel
theorem dX7_takes_59 : decode cX7_takes 59 = .ok (.iload_n 1, 1) := by decide +kernel
theorem dX7_takes_60 : decode cX7_takes 60 = .ok (.iadd, 1) := by decide +kernel
theorem dX7_takes_61 : decode cX7_takes 61 = .ok (.iaload, 1) := by decide +kernel
theorem dX7_takes_62 : decode cX7_takes 62 = .ok (.iastore, 1) := by decide +kernel
theorem dX7_takes_63 : decode cX7_takes 63 = .ok (.iinc 1 1, 3) := by decide +kernel
theorem dX7_takes_66 : decode cX7_takes 66 = .ok (.goto (-64), 3) := by decide +kernel
theorem dX7_takes_69 : decode cX7_takes 69 = .ok (.aload_n 0, 1) := by decide +kernel
theorem dX7_takes_70 : decode cX7_takes 70 = .ok (.aload_n 0, 1) := by decide +kernel
theorem dX7_takes_71 : decode cX7_takes 71 = .ok (.getfield 67, 3) := by decide +kernel
theorem dX7_takes_74 : decode cX7_takes 74 = .ok (.bipush 12, 2) := by decide +kernel
theorem dX7_takes_76 : decode cX7_takes 76 = .ok (.iaload, 1) := by decide +kernel
theorem dX7_takes_77 : decode cX7_takes 77 = .ok (.putfield 76, 3) := by decide +kernel
theorem dX7_takes_80 : decode cX7_takes 80 = .ok (.aload_n 0, 1) := by decide +kernel
theorem dX7_takes_81 : decode cX7_takes 81 = .ok (.aload_n 0, 1) := by decide +kernel
theorem dX7_takes_82 : decode cX7_takes 82 = .ok (.getfield 67, 3) := by decide +kernel
theorem dX7_takes_85 : decode cX7_takes 85 = .ok (.bipush 13, 2) := by decide +kernel
theorem dX7_takes_87 : decode cX7_takes 87 = .ok (.iaload, 1) := by decide +kernel
theorem dX7_takes_88 : decode cX7_takes 88 = .ok (.putfield 80, 3) := by decide +kernel
theorem dX7_takes_91 : decode cX7_takes 91 = .ok (.iconst 0, 1) := by decide +kernel
theorem dX7_takes_92 : decode cX7_takes 92 = .ok (.istore_n 1, 1) := by decide +kernel
theorem dX7_takes_93 : decode cX7_takes 93 = .ok (.iload_n 1, 1) := by decide +kernel
theorem dX7_takes_94 : decode cX7_takes 94 = .ok (.bipush 12, 2) := by decide +kernel
theorem dX7_takes_96 : decode cX7_takes 96 = .ok (.if_icmp .ge 54, 3) := by decide +kernel
theorem dX7_takes_99 : decode cX7_takes 99 = .ok (.aload_n 0, 1) := by decide +kernel
theorem dX7_takes_100 : decode cX7_takes 100 = .ok (.getfield 28, 3) := by decide +kernel
theorem dX7_takes_103 : decode cX7_takes 103 = .ok (.iload_n 1, 1) := by decide +kernel
theorem dX7_takes_104 : decode cX7_takes 104 = .ok (.aload_n 0, 1) := by decide +kernel
theorem dX7_takes_105 : decode cX7_takes 105 = .ok (.getfield 67, 3) := by decide +kernel
theorem dX7_takes_108 : decode cX7_takes 108 = .ok (.bipush 14, 2) := by decide +kernel
theorem dX7_takes_110 : decode cX7_takes 110 = .ok (.iload_n 1, 1) := by decide +kernel
theorem dX7_takes_111 : decode cX7_takes 111 = .ok (.iadd, 1) := by decide +kernel
theorem dX7_takes_112 : decode cX7_takes 112 = .ok (.iaload, 1) := by decide +kernel
theorem dX7_takes_113 : decode cX7_takes 113 = .ok (.iastore, 1) := by decide +kernel
theorem dX7_takes_114 : decode cX7_takes 114 = .ok (.aload_n 0, 1) := by decide +kernel
theorem dX7_takes_115 : decode cX7_takes 115 = .ok (.getfield 31, 3) := by decide +kernel
theorem dX7_takes_118 : decode cX7_takes 118 = .ok (.iload_n 1, 1) := by decide +kernel
theorem dX7_takes_119 : decode cX7_takes 119 = .ok (.aload_n 0, 1) := by decide +kernel
theorem dX7_takes_120 : decode cX7_takes 120 = .ok (.getfield 67, 3) := by decide +kernel
theorem dX7_takes_123 : decode cX7_takes 123 = .ok (.bipush 26, 2) := by decide +kernel
theorem dX7_takes_125 : decode cX7_takes 125 = .ok (.iload_n 1, 1) := by decide +kernel
theorem dX7_takes_126 : decode cX7_takes 126 = .ok (.iadd, 1) := by decide +kernel
theorem dX7_takes_127 : decode cX7_takes 127 = .ok (.iaload, 1) := by decide +kernel
theorem dX7_takes_128 : decode cX7_takes 128 = .ok (.iastore, 1) := by decide +kernel
theorem dX7_takes_129 : decode cX7_takes 129 = .ok (.aload_n 0, 1) := by decide +kernel
theorem dX7_takes_130 : decode cX7_takes 130 = .ok (.getfield 34, 3) := by decide +kernel
theorem dX7_takes_133 : decode cX7_takes 133 = .ok (.iload_n 1, 1) := by decide +kernel
theorem dX7_takes_134 : decode cX7_takes 134 = .ok (.aload_n 0, 1) := by decide +kernel
theorem dX7_takes_135 : decode cX7_takes 135 = .ok (.getfield 67, 3) := by decide +kernel
theorem dX7_takes_138 : decode cX7_takes 138 = .ok (.bipush 38, 2) := by decide +kernel
theorem dX7_takes_140 : decode cX7_takes 140 = .ok (.iload_n 1, 1) := by decide +kernel
theorem dX7_takes_141 : decode cX7_takes 141 = .ok (.iadd, 1) := by decide +kernel
theorem dX7_takes_142 : decode cX7_takes 142 = .ok (.iaload, 1) := by decide +kernel
theorem dX7_takes_143 : decode cX7_takes 143 = .ok (.iastore, 1) := by decide +kernel
theorem dX7_takes_144 : decode cX7_takes 144 = .ok (.iinc 1 1, 3) := by decide +kernel
theorem dX7_takes_147 : decode cX7_takes 147 = .ok (.goto (-54), 3) := by decide +kernel
theorem dX7_takes_150 : decode cX7_takes 150 = .ok (.return_, 1) := by decide +kernel
theorem dX7_isNear_0 : decode cX7_isNear 0 = .ok (.aload_n 0, 1) := by decide +kernel
theorem dX7_isNear_1 : decode cX7_isNear 1 = .ok (.getfield 80, 3) := by decide +kernel
theorem dX7_isNear_4 : decode cX7_isNear 4 = .ok (.ifCond .ne 7, 3) := by decide +kernel
theorem dX7_isNear_7 : decode cX7_isNear 7 = .ok (.iconst 1, 1) := by decide +kernel
theorem dX7_isNear_8 : decode cX7_isNear 8 = .ok (.goto 4, 3) := by decide +kernel
theorem dX7_isNear_11 : decode cX7_isNear 11 = .ok (.iconst 0, 1) := by decide +kernel
theorem dX7_isNear_12 : decode cX7_isNear 12 = .ok (.istore_n 2, 1) := by decide +kernel
theorem dX7_isNear_13 : decode cX7_isNear 13 = .ok (.iconst 0, 1) := by decide +kernel
theorem dX7_isNear_14 : decode cX7_isNear 14 = .ok (.istore_n 3, 1) := by decide +kernel
theorem dX7_isNear_15 : decode cX7_isNear 15 = .ok (.iload_n 3, 1) := by decide +kernel
theorem dX7_isNear_16 : decode cX7_isNear 16 = .ok (.iconst 3, 1) := by decide +kernel
theorem dX7_isNear_17 : decode cX7_isNear 17 = .ok (.if_icmp .ge 39, 3) := by decide +kernel
theorem dX7_isNear_20 : decode cX7_isNear 20 = .ok (.iload_n 2, 1) := by decide +kernel
theorem dX7_isNear_21 : decode cX7_isNear 21 = .ok (.ifCond .eq 27, 3) := by decide +kernel
theorem dX7_isNear_24 : decode cX7_isNear 24 = .ok (.aload_n 0, 1) := by decide +kernel
theorem dX7_isNear_25 : decode cX7_isNear 25 = .ok (.getfield 16, 3) := by decide +kernel
theorem dX7_isNear_28 : decode cX7_isNear 28 = .ok (.iload_n 3, 1) := by decide +kernel
theorem dX7_isNear_29 : decode cX7_isNear 29 = .ok (.iaload, 1) := by decide +kernel
theorem dX7_isNear_30 : decode cX7_isNear 30 = .ok (.aload_n 0, 1) := by decide +kernel
theorem dX7_isNear_31 : decode cX7_isNear 31 = .ok (.getfield 22, 3) := by decide +kernel
theorem dX7_isNear_34 : decode cX7_isNear 34 = .ok (.iload_n 3, 1) := by decide +kernel
theorem dX7_isNear_35 : decode cX7_isNear 35 = .ok (.iaload, 1) := by decide +kernel
theorem dX7_isNear_36 : decode cX7_isNear 36 = .ok (.isub, 1) := by decide +kernel
theorem dX7_isNear_37 : decode cX7_isNear 37 = .ok (.invokestatic 213, 3) := by decide +kernel
theorem dX7_isNear_40 : decode cX7_isNear 40 = .ok (.iload_n 1, 1) := by decide +kernel
theorem dX7_isNear_41 : decode cX7_isNear 41 = .ok (.if_icmp .gt 7, 3) := by decide +kernel
theorem dX7_isNear_44 : decode cX7_isNear 44 = .ok (.iconst 1, 1) := by decide +kernel
theorem dX7_isNear_45 : decode cX7_isNear 45 = .ok (.goto 4, 3) := by decide +kernel
theorem dX7_isNear_48 : decode cX7_isNear 48 = .ok (.iconst 0, 1) := by decide +kernel
theorem dX7_isNear_49 : decode cX7_isNear 49 = .ok (.istore_n 2, 1) := by decide +kernel
theorem dX7_isNear_50 : decode cX7_isNear 50 = .ok (.iinc 3 1, 3) := by decide +kernel
theorem dX7_isNear_53 : decode cX7_isNear 53 = .ok (.goto (-38), 3) := by decide +kernel
theorem dX7_isNear_56 : decode cX7_isNear 56 = .ok (.iload_n 2, 1) := by decide +kernel
theorem dX7_isNear_57 : decode cX7_isNear 57 = .ok (.ireturn, 1) := by decide +kernel
theorem dX7_settlesIn_0 : decode cX7_settlesIn 0 = .ok (.aload_n 0, 1) := by decide +kernel
theorem dX7_settlesIn_1 : decode cX7_settlesIn 1 = .ok (.invokevirtual 247, 3) := by decide +kernel
theorem dX7_settlesIn_4 : decode cX7_settlesIn 4 = .ok (.iconst 0, 1) := by decide +kernel
theorem dX7_settlesIn_5 : decode cX7_settlesIn 5 = .ok (.istore_n 2, 1) := by decide +kernel
theorem dX7_settlesIn_6 : decode cX7_settlesIn 6 = .ok (.iload_n 2, 1) := by decide +kernel
theorem dX7_settlesIn_7 : decode cX7_settlesIn 7 = .ok (.bipush 60, 2) := by decide +kernel
theorem dX7_settlesIn_9 : decode cX7_settlesIn 9 = .ok (.if_icmp .gt 22, 3) := by decide +kernel
theorem dX7_settlesIn_12 : decode cX7_settlesIn 12 = .ok (.aload_n 0, 1) := by decide +kernel
theorem dX7_settlesIn_13 : decode cX7_settlesIn 13 = .ok (.iload_n 1, 1) := by decide +kernel
theorem dX7_settlesIn_14 : decode cX7_settlesIn 14 = .ok (.invokevirtual 250, 3) := by decide +kernel
theorem dX7_settlesIn_17 : decode cX7_settlesIn 17 = .ok (.ifCond .ne 14, 3) := by decide +kernel
theorem dX7_settlesIn_20 : decode cX7_settlesIn 20 = .ok (.aload_n 0, 1) := by decide +kernel
theorem dX7_settlesIn_21 : decode cX7_settlesIn 21 = .ok (.invokevirtual 239, 3) := by decide +kernel
theorem dX7_settlesIn_24 : decode cX7_settlesIn 24 = .ok (.pop, 1) := by decide +kernel
theorem dX7_settlesIn_25 : decode cX7_settlesIn 25 = .ok (.iinc 2 1, 3) := by decide +kernel
theorem dX7_settlesIn_28 : decode cX7_settlesIn 28 = .ok (.goto (-22), 3) := by decide +kernel
theorem dX7_settlesIn_31 : decode cX7_settlesIn 31 = .ok (.aload_n 0, 1) := by decide +kernel
theorem dX7_settlesIn_32 : decode cX7_settlesIn 32 = .ok (.invokevirtual 253, 3) := by decide +kernel
theorem dX7_settlesIn_35 : decode cX7_settlesIn 35 = .ok (.iload_n 2, 1) := by decide +kernel
theorem dX7_settlesIn_36 : decode cX7_settlesIn 36 = .ok (.bipush 60, 2) := by decide +kernel
theorem dX7_settlesIn_38 : decode cX7_settlesIn 38 = .ok (.if_icmp .gt 7, 3) := by decide +kernel
theorem dX7_settlesIn_41 : decode cX7_settlesIn 41 = .ok (.iload_n 2, 1) := by decide +kernel
theorem dX7_settlesIn_42 : decode cX7_settlesIn 42 = .ok (.goto 4, 3) := by decide +kernel
theorem dX7_settlesIn_45 : decode cX7_settlesIn 45 = .ok (.iconst (-1), 1) := by decide +kernel
theorem dX7_settlesIn_46 : decode cX7_settlesIn 46 = .ok (.ireturn, 1) := by decide +kernel
theorem dX7_settles_0 : decode cX7_settles 0 = .ok (.iload_n 1, 1) := by decide +kernel
theorem dX7_settles_1 : decode cX7_settles 1 = .ok (.iconst 0, 1) := by decide +kernel
theorem dX7_settles_2 : decode cX7_settles 2 = .ok (.sipush 500, 3) := by decide +kernel
theorem dX7_settles_5 : decode cX7_settles 5 = .ok (.invokestatic 86, 3) := by decide +kernel
theorem dX7_settles_8 : decode cX7_settles 8 = .ok (.ifCond .eq 11, 3) := by decide +kernel
theorem dX7_settles_11 : decode cX7_settles 11 = .ok (.aload_n 0, 1) := by decide +kernel
theorem dX7_settles_12 : decode cX7_settles 12 = .ok (.iload_n 1, 1) := by decide +kernel
theorem dX7_settles_13 : decode cX7_settles 13 = .ok (.invokevirtual 256, 3) := by decide +kernel
theorem dX7_settles_16 : decode cX7_settles 16 = .ok (.goto 7, 3) := by decide +kernel
theorem dX7_settles_19 : decode cX7_settles 19 = .ok (.aload_n 0, 1) := by decide +kernel
theorem dX7_settles_20 : decode cX7_settles 20 = .ok (.invokevirtual 94, 3) := by decide +kernel
theorem dX7_settles_23 : decode cX7_settles 23 = .ok (.ireturn, 1) := by decide +kernel
theorem dX7_tunes_0 : decode cX7_tunes 0 = .ok (.iload_n 1, 1) := by decide +kernel
theorem dX7_tunes_1 : decode cX7_tunes 1 = .ok (.iconst 0, 1) := by decide +kernel
theorem dX7_tunes_2 : decode cX7_tunes 2 = .ok (.sipush 500, 3) := by decide +kernel
theorem dX7_tunes_5 : decode cX7_tunes 5 = .ok (.invokestatic 86, 3) := by decide +kernel
theorem dX7_tunes_8 : decode cX7_tunes 8 = .ok (.ifCond .ne 8, 3) := by decide +kernel
theorem dX7_tunes_11 : decode cX7_tunes 11 = .ok (.aload_n 0, 1) := by decide +kernel
theorem dX7_tunes_12 : decode cX7_tunes 12 = .ok (.invokevirtual 94, 3) := by decide +kernel
theorem dX7_tunes_15 : decode cX7_tunes 15 = .ok (.ireturn, 1) := by decide +kernel
theorem dX7_tunes_16 : decode cX7_tunes 16 = .ok (.aload_n 0, 1) := by decide +kernel
theorem dX7_tunes_17 : decode cX7_tunes 17 = .ok (.getfield 13, 3) := by decide +kernel
theorem dX7_tunes_20 : decode cX7_tunes 20 = .ok (.iconst 4, 1) := by decide +kernel
theorem dX7_tunes_21 : decode cX7_tunes 21 = .ok (.iaload, 1) := by decide +kernel
theorem dX7_tunes_22 : decode cX7_tunes 22 = .ok (.istore_n 2, 1) := by decide +kernel
theorem dX7_tunes_23 : decode cX7_tunes 23 = .ok (.iconst (-1), 1) := by decide +kernel
theorem dX7_tunes_24 : decode cX7_tunes 24 = .ok (.istore_n 3, 1) := by decide +kernel
theorem dX7_tunes_25 : decode cX7_tunes 25 = .ok (.ldc 216, 2) := by decide +kernel
theorem dX7_tunes_27 : decode cX7_tunes 27 = .ok (.istore 4, 2) := by decide +kernel
theorem dX7_tunes_29 : decode cX7_tunes 29 = .ok (.iconst 0, 1) := by decide +kernel
theorem dX7_tunes_30 : decode cX7_tunes 30 = .ok (.istore 5, 2) := by decide +kernel
theorem dX7_tunes_32 : decode cX7_tunes 32 = .ok (.iload 5, 2) := by decide +kernel
theorem dX7_tunes_34 : decode cX7_tunes 34 = .ok (.bipush 20, 2) := by decide +kernel
theorem dX7_tunes_36 : decode cX7_tunes 36 = .ok (.if_icmp .gt 44, 3) := by decide +kernel
theorem dX7_tunes_39 : decode cX7_tunes 39 = .ok (.aload_n 0, 1) := by decide +kernel
theorem dX7_tunes_40 : decode cX7_tunes 40 = .ok (.getfield 13, 3) := by decide +kernel
theorem dX7_tunes_43 : decode cX7_tunes 43 = .ok (.iconst 4, 1) := by decide +kernel
theorem dX7_tunes_44 : decode cX7_tunes 44 = .ok (.iload 5, 2) := by decide +kernel
theorem dX7_tunes_46 : decode cX7_tunes 46 = .ok (.iastore, 1) := by decide +kernel
theorem dX7_tunes_47 : decode cX7_tunes 47 = .ok (.aload_n 0, 1) := by decide +kernel
theorem dX7_tunes_48 : decode cX7_tunes 48 = .ok (.iload_n 1, 1) := by decide +kernel
theorem dX7_tunes_49 : decode cX7_tunes 49 = .ok (.invokevirtual 256, 3) := by decide +kernel
theorem dX7_tunes_52 : decode cX7_tunes 52 = .ok (.istore 6, 2) := by decide +kernel
theorem dX7_tunes_54 : decode cX7_tunes 54 = .ok (.iload 6, 2) := by decide +kernel
theorem dX7_tunes_56 : decode cX7_tunes 56 = .ok (.iconst (-1), 1) := by decide +kernel
theorem dX7_tunes_57 : decode cX7_tunes 57 = .ok (.if_icmp .eq 17, 3) := by decide +kernel
theorem dX7_tunes_60 : decode cX7_tunes 60 = .ok (.iload 6, 2) := by decide +kernel
theorem dX7_tunes_62 : decode cX7_tunes 62 = .ok (.iload 4, 2) := by decide +kernel
theorem dX7_tunes_64 : decode cX7_tunes 64 = .ok (.if_icmp .ge 10, 3) := by decide +kernel
theorem dX7_tunes_67 : decode cX7_tunes 67 = .ok (.iload 6, 2) := by decide +kernel
theorem dX7_tunes_69 : decode cX7_tunes 69 = .ok (.istore 4, 2) := by decide +kernel
theorem dX7_tunes_71 : decode cX7_tunes 71 = .ok (.iload 5, 2) := by decide +kernel
theorem dX7_tunes_73 : decode cX7_tunes 73 = .ok (.istore_n 3, 1) := by decide +kernel
theorem dX7_tunes_74 : decode cX7_tunes 74 = .ok (.iinc 5 1, 3) := by decide +kernel
theorem dX7_tunes_77 : decode cX7_tunes 77 = .ok (.goto (-45), 3) := by decide +kernel
theorem dX7_tunes_80 : decode cX7_tunes 80 = .ok (.aload_n 0, 1) := by decide +kernel
theorem dX7_tunes_81 : decode cX7_tunes 81 = .ok (.getfield 13, 3) := by decide +kernel
theorem dX7_tunes_84 : decode cX7_tunes 84 = .ok (.iconst 4, 1) := by decide +kernel
theorem dX7_tunes_85 : decode cX7_tunes 85 = .ok (.iload_n 2, 1) := by decide +kernel
theorem dX7_tunes_86 : decode cX7_tunes 86 = .ok (.iastore, 1) := by decide +kernel
theorem dX7_tunes_87 : decode cX7_tunes 87 = .ok (.iload_n 3, 1) := by decide +kernel
theorem dX7_tunes_88 : decode cX7_tunes 88 = .ok (.ireturn, 1) := by decide +kernel
theorem dX7_stateBy_0 : decode cX7_stateBy 0 = .ok (.iload_n 2, 1) := by decide +kernel
theorem dX7_stateBy_1 : decode cX7_stateBy 1 = .ok (.ifCond .ne 12, 3) := by decide +kernel
theorem dX7_stateBy_4 : decode cX7_stateBy 4 = .ok (.aload_n 0, 1) := by decide +kernel
theorem dX7_stateBy_5 : decode cX7_stateBy 5 = .ok (.getfield 16, 3) := by decide +kernel
theorem dX7_stateBy_8 : decode cX7_stateBy 8 = .ok (.iload_n 1, 1) := by decide +kernel
theorem dX7_stateBy_9 : decode cX7_stateBy 9 = .ok (.iaload, 1) := by decide +kernel
theorem dX7_stateBy_10 : decode cX7_stateBy 10 = .ok (.goto 37, 3) := by decide +kernel
theorem dX7_stateBy_13 : decode cX7_stateBy 13 = .ok (.iload_n 2, 1) := by decide +kernel
theorem dX7_stateBy_14 : decode cX7_stateBy 14 = .ok (.iconst 1, 1) := by decide +kernel
theorem dX7_stateBy_15 : decode cX7_stateBy 15 = .ok (.if_icmp .ne 12, 3) := by decide +kernel
theorem dX7_stateBy_18 : decode cX7_stateBy 18 = .ok (.aload_n 0, 1) := by decide +kernel
theorem dX7_stateBy_19 : decode cX7_stateBy 19 = .ok (.getfield 19, 3) := by decide +kernel
theorem dX7_stateBy_22 : decode cX7_stateBy 22 = .ok (.iload_n 1, 1) := by decide +kernel
theorem dX7_stateBy_23 : decode cX7_stateBy 23 = .ok (.iaload, 1) := by decide +kernel
theorem dX7_stateBy_24 : decode cX7_stateBy 24 = .ok (.goto 23, 3) := by decide +kernel
theorem dX7_stateBy_27 : decode cX7_stateBy 27 = .ok (.iload_n 2, 1) := by decide +kernel
theorem dX7_stateBy_28 : decode cX7_stateBy 28 = .ok (.iconst 2, 1) := by decide +kernel
theorem dX7_stateBy_29 : decode cX7_stateBy 29 = .ok (.if_icmp .ne 12, 3) := by decide +kernel
theorem dX7_stateBy_32 : decode cX7_stateBy 32 = .ok (.aload_n 0, 1) := by decide +kernel
theorem dX7_stateBy_33 : decode cX7_stateBy 33 = .ok (.getfield 22, 3) := by decide +kernel
theorem dX7_stateBy_36 : decode cX7_stateBy 36 = .ok (.iload_n 1, 1) := by decide +kernel
theorem dX7_stateBy_37 : decode cX7_stateBy 37 = .ok (.iaload, 1) := by decide +kernel
theorem dX7_stateBy_38 : decode cX7_stateBy 38 = .ok (.goto 9, 3) := by decide +kernel
theorem dX7_stateBy_41 : decode cX7_stateBy 41 = .ok (.aload_n 0, 1) := by decide +kernel
theorem dX7_stateBy_42 : decode cX7_stateBy 42 = .ok (.getfield 25, 3) := by decide +kernel
theorem dX7_stateBy_45 : decode cX7_stateBy 45 = .ok (.iload_n 1, 1) := by decide +kernel
theorem dX7_stateBy_46 : decode cX7_stateBy 46 = .ok (.iaload, 1) := by decide +kernel
theorem dX7_stateBy_47 : decode cX7_stateBy 47 = .ok (.ireturn, 1) := by decide +kernel
theorem dX7_state_0 : decode cX7_state 0 = .ok (.iload_n 1, 1) := by decide +kernel
theorem dX7_state_1 : decode cX7_state 1 = .ok (.invokestatic 98, 3) := by decide +kernel
theorem dX7_state_4 : decode cX7_state 4 = .ok (.ifCond .eq 21, 3) := by decide +kernel
theorem dX7_state_7 : decode cX7_state 7 = .ok (.iload_n 2, 1) := by decide +kernel
theorem dX7_state_8 : decode cX7_state 8 = .ok (.iconst 0, 1) := by decide +kernel
theorem dX7_state_9 : decode cX7_state 9 = .ok (.iconst 3, 1) := by decide +kernel
theorem dX7_state_10 : decode cX7_state 10 = .ok (.invokestatic 86, 3) := by decide +kernel
theorem dX7_state_13 : decode cX7_state 13 = .ok (.ifCond .eq 12, 3) := by decide +kernel
theorem dX7_state_16 : decode cX7_state 16 = .ok (.aload_n 0, 1) := by decide +kernel
theorem dX7_state_17 : decode cX7_state 17 = .ok (.iload_n 1, 1) := by decide +kernel
theorem dX7_state_18 : decode cX7_state 18 = .ok (.iload_n 2, 1) := by decide +kernel
theorem dX7_state_19 : decode cX7_state 19 = .ok (.invokevirtual 259, 3) := by decide +kernel
theorem dX7_state_22 : decode cX7_state 22 = .ok (.goto 7, 3) := by decide +kernel
theorem dX7_state_25 : decode cX7_state 25 = .ok (.aload_n 0, 1) := by decide +kernel
theorem dX7_state_26 : decode cX7_state 26 = .ok (.invokevirtual 94, 3) := by decide +kernel
theorem dX7_state_29 : decode cX7_state 29 = .ok (.ireturn, 1) := by decide +kernel
theorem dX7_memory_0 : decode cX7_memory 0 = .ok (.iload_n 1, 1) := by decide +kernel
theorem dX7_memory_1 : decode cX7_memory 1 = .ok (.ifCond .lt 12, 3) := by decide +kernel
theorem dX7_memory_4 : decode cX7_memory 4 = .ok (.iload_n 2, 1) := by decide +kernel
theorem dX7_memory_5 : decode cX7_memory 5 = .ok (.iconst 0, 1) := by decide +kernel
theorem dX7_memory_6 : decode cX7_memory 6 = .ok (.iconst 3, 1) := by decide +kernel
theorem dX7_memory_7 : decode cX7_memory 7 = .ok (.invokestatic 86, 3) := by decide +kernel
theorem dX7_memory_10 : decode cX7_memory 10 = .ok (.ifCond .ne 8, 3) := by decide +kernel
theorem dX7_memory_13 : decode cX7_memory 13 = .ok (.aload_n 0, 1) := by decide +kernel
theorem dX7_memory_14 : decode cX7_memory 14 = .ok (.invokevirtual 94, 3) := by decide +kernel
theorem dX7_memory_17 : decode cX7_memory 17 = .ok (.ireturn, 1) := by decide +kernel
theorem dX7_memory_18 : decode cX7_memory 18 = .ok (.iload_n 1, 1) := by decide +kernel
theorem dX7_memory_19 : decode cX7_memory 19 = .ok (.aload_n 0, 1) := by decide +kernel
theorem dX7_memory_20 : decode cX7_memory 20 = .ok (.getfield 83, 3) := by decide +kernel
theorem dX7_memory_23 : decode cX7_memory 23 = .ok (.if_icmp .ge 16, 3) := by decide +kernel
theorem dX7_memory_26 : decode cX7_memory 26 = .ok (.aload_n 0, 1) := by decide +kernel
theorem dX7_memory_27 : decode cX7_memory 27 = .ok (.getfield 37, 3) := by decide +kernel
theorem dX7_memory_30 : decode cX7_memory 30 = .ok (.iconst 4, 1) := by decide +kernel
theorem dX7_memory_31 : decode cX7_memory 31 = .ok (.iload_n 1, 1) := by decide +kernel
theorem dX7_memory_32 : decode cX7_memory 32 = .ok (.imul, 1) := by decide +kernel
theorem dX7_memory_33 : decode cX7_memory 33 = .ok (.iload_n 2, 1) := by decide +kernel
theorem dX7_memory_34 : decode cX7_memory 34 = .ok (.iadd, 1) := by decide +kernel
theorem dX7_memory_35 : decode cX7_memory 35 = .ok (.iaload, 1) := by decide +kernel
theorem dX7_memory_36 : decode cX7_memory 36 = .ok (.goto 6, 3) := by decide +kernel
theorem dX7_memory_39 : decode cX7_memory 39 = .ok (.sipush (-1000), 3) := by decide +kernel
theorem dX7_memory_42 : decode cX7_memory 42 = .ok (.ireturn, 1) := by decide +kernel
theorem dX7_over_0 : decode cX7_over 0 = .ok (.iload_n 1, 1) := by decide +kernel
theorem dX7_over_1 : decode cX7_over 1 = .ok (.invokestatic 98, 3) := by decide +kernel
theorem dX7_over_4 : decode cX7_over 4 = .ok (.ifCond .eq 12, 3) := by decide +kernel
theorem dX7_over_7 : decode cX7_over 7 = .ok (.iload_n 2, 1) := by decide +kernel
theorem dX7_over_8 : decode cX7_over 8 = .ok (.iconst 0, 1) := by decide +kernel
theorem dX7_over_9 : decode cX7_over 9 = .ok (.iconst 2, 1) := by decide +kernel
theorem dX7_over_10 : decode cX7_over 10 = .ok (.invokestatic 86, 3) := by decide +kernel
theorem dX7_over_13 : decode cX7_over 13 = .ok (.ifCond .ne 8, 3) := by decide +kernel
theorem dX7_over_16 : decode cX7_over 16 = .ok (.aload_n 0, 1) := by decide +kernel
theorem dX7_over_17 : decode cX7_over 17 = .ok (.invokevirtual 94, 3) := by decide +kernel
theorem dX7_over_20 : decode cX7_over 20 = .ok (.ireturn, 1) := by decide +kernel
theorem dX7_over_21 : decode cX7_over 21 = .ok (.aload_n 0, 1) := by decide +kernel
theorem dX7_over_22 : decode cX7_over 22 = .ok (.getfield 83, 3) := by decide +kernel
theorem dX7_over_25 : decode cX7_over 25 = .ok (.ifCond .ne 7, 3) := by decide +kernel
theorem dX7_over_28 : decode cX7_over 28 = .ok (.sipush (-1000), 3) := by decide +kernel
theorem dX7_over_31 : decode cX7_over 31 = .ok (.ireturn, 1) := by decide +kernel
theorem dX7_over_32 : decode cX7_over 32 = .ok (.iload_n 2, 1) := by decide +kernel
theorem dX7_over_33 : decode cX7_over 33 = .ok (.iconst 2, 1) := by decide +kernel
theorem dX7_over_34 : decode cX7_over 34 = .ok (.if_icmp .ne 7, 3) := by decide +kernel
theorem dX7_over_37 : decode cX7_over 37 = .ok (.iconst 0, 1) := by decide +kernel
theorem dX7_over_38 : decode cX7_over 38 = .ok (.goto 9, 3) := by decide +kernel
theorem dX7_over_41 : decode cX7_over 41 = .ok (.aload_n 0, 1) := by decide +kernel
theorem dX7_over_42 : decode cX7_over 42 = .ok (.getfield 37, 3) := by decide +kernel
theorem dX7_over_45 : decode cX7_over 45 = .ok (.iload_n 1, 1) := by decide +kernel
theorem dX7_over_46 : decode cX7_over 46 = .ok (.iaload, 1) := by decide +kernel
theorem dX7_over_47 : decode cX7_over 47 = .ok (.istore_n 3, 1) := by decide +kernel
theorem dX7_over_48 : decode cX7_over 48 = .ok (.iconst 0, 1) := by decide +kernel
theorem dX7_over_49 : decode cX7_over 49 = .ok (.istore 4, 2) := by decide +kernel
theorem dX7_over_51 : decode cX7_over 51 = .ok (.iload 4, 2) := by decide +kernel
theorem dX7_over_53 : decode cX7_over 53 = .ok (.aload_n 0, 1) := by decide +kernel
theorem dX7_over_54 : decode cX7_over 54 = .ok (.getfield 83, 3) := by decide +kernel
theorem dX7_over_57 : decode cX7_over 57 = .ok (.if_icmp .ge 75, 3) := by decide +kernel
theorem dX7_over_60 : decode cX7_over 60 = .ok (.aload_n 0, 1) := by decide +kernel
theorem dX7_over_61 : decode cX7_over 61 = .ok (.getfield 37, 3) := by decide +kernel
theorem dX7_over_64 : decode cX7_over 64 = .ok (.iconst 4, 1) := by decide +kernel
theorem dX7_over_65 : decode cX7_over 65 = .ok (.iload 4, 2) := by decide +kernel
theorem dX7_over_67 : decode cX7_over 67 = .ok (.imul, 1) := by decide +kernel
theorem dX7_over_68 : decode cX7_over 68 = .ok (.iload_n 1, 1) := by decide +kernel
theorem dX7_over_69 : decode cX7_over 69 = .ok (.iadd, 1) := by decide +kernel
theorem dX7_over_70 : decode cX7_over 70 = .ok (.iaload, 1) := by decide +kernel
theorem dX7_over_71 : decode cX7_over 71 = .ok (.istore 5, 2) := by decide +kernel
theorem dX7_over_73 : decode cX7_over 73 = .ok (.iload_n 2, 1) := by decide +kernel
theorem dX7_over_74 : decode cX7_over 74 = .ok (.ifCond .ne 18, 3) := by decide +kernel
theorem dX7_over_77 : decode cX7_over 77 = .ok (.iload 5, 2) := by decide +kernel
theorem dX7_over_79 : decode cX7_over 79 = .ok (.iload_n 3, 1) := by decide +kernel
theorem dX7_over_80 : decode cX7_over 80 = .ok (.if_icmp .le 8, 3) := by decide +kernel
theorem dX7_over_83 : decode cX7_over 83 = .ok (.iload 5, 2) := by decide +kernel
theorem dX7_over_85 : decode cX7_over 85 = .ok (.goto 40, 3) := by decide +kernel
theorem dX7_over_88 : decode cX7_over 88 = .ok (.iload_n 3, 1) := by decide +kernel
theorem dX7_over_89 : decode cX7_over 89 = .ok (.goto 36, 3) := by decide +kernel
theorem dX7_over_92 : decode cX7_over 92 = .ok (.iload_n 2, 1) := by decide +kernel
theorem dX7_over_93 : decode cX7_over 93 = .ok (.iconst 1, 1) := by decide +kernel
theorem dX7_over_94 : decode cX7_over 94 = .ok (.if_icmp .ne 18, 3) := by decide +kernel
theorem dX7_over_97 : decode cX7_over 97 = .ok (.iload 5, 2) := by decide +kernel
theorem dX7_over_99 : decode cX7_over 99 = .ok (.iload_n 3, 1) := by decide +kernel
theorem dX7_over_100 : decode cX7_over 100 = .ok (.if_icmp .ge 8, 3) := by decide +kernel
theorem dX7_over_103 : decode cX7_over 103 = .ok (.iload 5, 2) := by decide +kernel
theorem dX7_over_105 : decode cX7_over 105 = .ok (.goto 20, 3) := by decide +kernel
theorem dX7_over_108 : decode cX7_over 108 = .ok (.iload_n 3, 1) := by decide +kernel
theorem dX7_over_109 : decode cX7_over 109 = .ok (.goto 16, 3) := by decide +kernel
theorem dX7_over_112 : decode cX7_over 112 = .ok (.iload_n 3, 1) := by decide +kernel
theorem dX7_over_113 : decode cX7_over 113 = .ok (.aload_n 0, 1) := by decide +kernel
theorem dX7_over_114 : decode cX7_over 114 = .ok (.getfield 37, 3) := by decide +kernel
theorem dX7_over_117 : decode cX7_over 117 = .ok (.iconst 4, 1) := by decide +kernel
theorem dX7_over_118 : decode cX7_over 118 = .ok (.iload 4, 2) := by decide +kernel
theorem dX7_over_120 : decode cX7_over 120 = .ok (.imul, 1) := by decide +kernel
theorem dX7_over_121 : decode cX7_over 121 = .ok (.iconst 3, 1) := by decide +kernel
theorem dX7_over_122 : decode cX7_over 122 = .ok (.iadd, 1) := by decide +kernel
theorem dX7_over_123 : decode cX7_over 123 = .ok (.iaload, 1) := by decide +kernel
theorem dX7_over_124 : decode cX7_over 124 = .ok (.iadd, 1) := by decide +kernel
theorem dX7_over_125 : decode cX7_over 125 = .ok (.istore_n 3, 1) := by decide +kernel
theorem dX7_over_126 : decode cX7_over 126 = .ok (.iinc 4 1, 3) := by decide +kernel
theorem dX7_over_129 : decode cX7_over 129 = .ok (.goto (-78), 3) := by decide +kernel
theorem dX7_over_132 : decode cX7_over 132 = .ok (.iload_n 3, 1) := by decide +kernel
theorem dX7_over_133 : decode cX7_over 133 = .ok (.ireturn, 1) := by decide +kernel
theorem dX7_type_0 : decode cX7_type 0 = .ok (.iload_n 1, 1) := by decide +kernel
theorem dX7_type_1 : decode cX7_type 1 = .ok (.iconst 0, 1) := by decide +kernel
theorem dX7_type_2 : decode cX7_type 2 = .ok (.bipush 127, 2) := by decide +kernel
theorem dX7_type_4 : decode cX7_type 4 = .ok (.invokestatic 86, 3) := by decide +kernel
theorem dX7_type_7 : decode cX7_type 7 = .ok (.ifCond .ne 8, 3) := by decide +kernel
theorem dX7_type_10 : decode cX7_type 10 = .ok (.aload_n 0, 1) := by decide +kernel
theorem dX7_type_11 : decode cX7_type 11 = .ok (.invokevirtual 94, 3) := by decide +kernel
theorem dX7_type_14 : decode cX7_type 14 = .ok (.ireturn, 1) := by decide +kernel
theorem dX7_type_15 : decode cX7_type 15 = .ok (.aload_n 0, 1) := by decide +kernel
theorem dX7_type_16 : decode cX7_type 16 = .ok (.getfield 262, 3) := by decide +kernel
theorem dX7_type_19 : decode cX7_type 19 = .ok (.bipush 120, 2) := by decide +kernel
theorem dX7_type_21 : decode cX7_type 21 = .ok (.if_icmp .ne 8, 3) := by decide +kernel
theorem dX7_type_24 : decode cX7_type 24 = .ok (.aload_n 0, 1) := by decide +kernel
theorem dX7_type_25 : decode cX7_type 25 = .ok (.invokevirtual 221, 3) := by decide +kernel
theorem dX7_type_28 : decode cX7_type 28 = .ok (.ireturn, 1) := by decide +kernel
theorem dX7_type_29 : decode cX7_type 29 = .ok (.aload_n 0, 1) := by decide +kernel
theorem dX7_type_30 : decode cX7_type 30 = .ok (.getfield 70, 3) := by decide +kernel
theorem dX7_type_33 : decode cX7_type 33 = .ok (.aload_n 0, 1) := by decide +kernel
theorem dX7_type_34 : decode cX7_type 34 = .ok (.getfield 262, 3) := by decide +kernel
theorem dX7_type_37 : decode cX7_type 37 = .ok (.iload_n 1, 1) := by decide +kernel
theorem dX7_type_38 : decode cX7_type 38 = .ok (.iastore, 1) := by decide +kernel
theorem dX7_type_39 : decode cX7_type 39 = .ok (.aload_n 0, 1) := by decide +kernel
theorem dX7_type_40 : decode cX7_type 40 = .ok (.dup, 1) := by decide +kernel
theorem dX7_type_41 : decode cX7_type 41 = .ok (.getfield 262, 3) := by decide +kernel
theorem dX7_type_44 : decode cX7_type 44 = .ok (.iconst 1, 1) := by decide +kernel
theorem dX7_type_45 : decode cX7_type 45 = .ok (.iadd, 1) := by decide +kernel
theorem dX7_type_46 : decode cX7_type 46 = .ok (.putfield 262, 3) := by decide +kernel
theorem dX7_type_49 : decode cX7_type 49 = .ok (.aload_n 0, 1) := by decide +kernel
theorem dX7_type_50 : decode cX7_type 50 = .ok (.getfield 262, 3) := by decide +kernel
theorem dX7_type_53 : decode cX7_type 53 = .ok (.ireturn, 1) := by decide +kernel
theorem dX7_clear_0 : decode cX7_clear 0 = .ok (.aload_n 0, 1) := by decide +kernel
theorem dX7_clear_1 : decode cX7_clear 1 = .ok (.getfield 262, 3) := by decide +kernel
theorem dX7_clear_4 : decode cX7_clear 4 = .ok (.istore_n 1, 1) := by decide +kernel
theorem dX7_clear_5 : decode cX7_clear 5 = .ok (.aload_n 0, 1) := by decide +kernel
theorem dX7_clear_6 : decode cX7_clear 6 = .ok (.iconst 0, 1) := by decide +kernel
theorem dX7_clear_7 : decode cX7_clear 7 = .ok (.putfield 262, 3) := by decide +kernel
theorem dX7_clear_10 : decode cX7_clear 10 = .ok (.iload_n 1, 1) := by decide +kernel
theorem dX7_clear_11 : decode cX7_clear 11 = .ok (.ireturn, 1) := by decide +kernel
theorem dX7_here_0 : decode cX7_here 0 = .ok (.aload_n 0, 1) := by decide +kernel
theorem dX7_here_1 : decode cX7_here 1 = .ok (.getfield 265, 3) := by decide +kernel
theorem dX7_here_4 : decode cX7_here 4 = .ok (.aload_n 0, 1) := by decide +kernel
theorem dX7_here_5 : decode cX7_here 5 = .ok (.getfield 262, 3) := by decide +kernel
theorem dX7_here_8 : decode cX7_here 8 = .ok (.if_icmp .ge 15, 3) := by decide +kernel
theorem dX7_here_11 : decode cX7_here 11 = .ok (.aload_n 0, 1) := by decide +kernel
theorem dX7_here_12 : decode cX7_here 12 = .ok (.getfield 70, 3) := by decide +kernel
theorem dX7_here_15 : decode cX7_here 15 = .ok (.aload_n 0, 1) := by decide +kernel
theorem dX7_here_16 : decode cX7_here 16 = .ok (.getfield 265, 3) := by decide +kernel
theorem dX7_here_19 : decode cX7_here 19 = .ok (.iaload, 1) := by decide +kernel
theorem dX7_here_20 : decode cX7_here 20 = .ok (.goto 4, 3) := by decide +kernel
theorem dX7_here_23 : decode cX7_here 23 = .ok (.iconst (-1), 1) := by decide +kernel
theorem dX7_here_24 : decode cX7_here 24 = .ok (.ireturn, 1) := by decide +kernel
theorem dX7_skips_0 : decode cX7_skips 0 = .ok (.aload_n 0, 1) := by decide +kernel
theorem dX7_skips_1 : decode cX7_skips 1 = .ok (.invokevirtual 268, 3) := by decide +kernel
theorem dX7_skips_4 : decode cX7_skips 4 = .ok (.bipush 32, 2) := by decide +kernel
theorem dX7_skips_6 : decode cX7_skips 6 = .ok (.if_icmp .ne 16, 3) := by decide +kernel
theorem dX7_skips_9 : decode cX7_skips 9 = .ok (.aload_n 0, 1) := by decide +kernel
theorem dX7_skips_10 : decode cX7_skips 10 = .ok (.dup, 1) := by decide +kernel
theorem dX7_skips_11 : decode cX7_skips 11 = .ok (.getfield 265, 3) := by decide +kernel
theorem dX7_skips_14 : decode cX7_skips 14 = .ok (.iconst 1, 1) := by decide +kernel
theorem dX7_skips_15 : decode cX7_skips 15 = .ok (.iadd, 1) := by decide +kernel
theorem dX7_skips_16 : decode cX7_skips 16 = .ok (.putfield 265, 3) := by decide +kernel
theorem dX7_skips_19 : decode cX7_skips 19 = .ok (.goto (-19), 3) := by decide +kernel
theorem dX7_skips_22 : decode cX7_skips 22 = .ok (.aload_n 0, 1) := by decide +kernel
theorem dX7_skips_23 : decode cX7_skips 23 = .ok (.aload_n 0, 1) := by decide +kernel
theorem dX7_skips_24 : decode cX7_skips 24 = .ok (.getfield 265, 3) := by decide +kernel
theorem dX7_skips_27 : decode cX7_skips 27 = .ok (.putfield 271, 3) := by decide +kernel
theorem dX7_skips_30 : decode cX7_skips 30 = .ok (.return_, 1) := by decide +kernel
theorem dX7_number_0 : decode cX7_number 0 = .ok (.aload_n 0, 1) := by decide +kernel
theorem dX7_number_1 : decode cX7_number 1 = .ok (.invokevirtual 274, 3) := by decide +kernel
theorem dX7_number_4 : decode cX7_number 4 = .ok (.iconst 0, 1) := by decide +kernel
theorem dX7_number_5 : decode cX7_number 5 = .ok (.istore_n 2, 1) := by decide +kernel
theorem dX7_number_6 : decode cX7_number 6 = .ok (.iconst 0, 1) := by decide +kernel
theorem dX7_number_7 : decode cX7_number 7 = .ok (.istore_n 3, 1) := by decide +kernel
theorem dX7_number_8 : decode cX7_number 8 = .ok (.aload_n 0, 1) := by decide +kernel
theorem dX7_number_9 : decode cX7_number 9 = .ok (.invokevirtual 268, 3) := by decide +kernel
theorem dX7_number_12 : decode cX7_number 12 = .ok (.bipush 48, 2) := by decide +kernel
