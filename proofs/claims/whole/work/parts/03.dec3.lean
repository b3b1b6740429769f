theorem dX7_least_3 : decode cX7_least 3 = .ok (.aload_n 0, 1) := by decide +kernel
theorem dX7_least_4 : decode cX7_least 4 = .ok (.iconst 1, 1) := by decide +kernel
theorem dX7_least_5 : decode cX7_least 5 = .ok (.iaload, 1) := by decide +kernel
theorem dX7_least_6 : decode cX7_least 6 = .ok (.if_icmp .ge 9, 3) := by decide +kernel
theorem dX7_least_9 : decode cX7_least 9 = .ok (.aload_n 0, 1) := by decide +kernel
theorem dX7_least_10 : decode cX7_least 10 = .ok (.iconst 0, 1) := by decide +kernel
theorem dX7_least_11 : decode cX7_least 11 = .ok (.iaload, 1) := by decide +kernel
theorem dX7_least_12 : decode cX7_least 12 = .ok (.goto 6, 3) := by decide +kernel
theorem dX7_least_15 : decode cX7_least 15 = .ok (.aload_n 0, 1) := by decide +kernel
theorem dX7_least_16 : decode cX7_least 16 = .ok (.iconst 1, 1) := by decide +kernel
theorem dX7_least_17 : decode cX7_least 17 = .ok (.iaload, 1) := by decide +kernel
theorem dX7_least_18 : decode cX7_least 18 = .ok (.istore_n 1, 1) := by decide +kernel
theorem dX7_least_19 : decode cX7_least 19 = .ok (.iload_n 1, 1) := by decide +kernel
theorem dX7_least_20 : decode cX7_least 20 = .ok (.aload_n 0, 1) := by decide +kernel
theorem dX7_least_21 : decode cX7_least 21 = .ok (.iconst 2, 1) := by decide +kernel
theorem dX7_least_22 : decode cX7_least 22 = .ok (.iaload, 1) := by decide +kernel
theorem dX7_least_23 : decode cX7_least 23 = .ok (.if_icmp .ge 7, 3) := by decide +kernel
theorem dX7_least_26 : decode cX7_least 26 = .ok (.iload_n 1, 1) := by decide +kernel
theorem dX7_least_27 : decode cX7_least 27 = .ok (.goto 6, 3) := by decide +kernel
theorem dX7_least_30 : decode cX7_least 30 = .ok (.aload_n 0, 1) := by decide +kernel
theorem dX7_least_31 : decode cX7_least 31 = .ok (.iconst 2, 1) := by decide +kernel
theorem dX7_least_32 : decode cX7_least 32 = .ok (.iaload, 1) := by decide +kernel
theorem dX7_least_33 : decode cX7_least 33 = .ok (.ireturn, 1) := by decide +kernel
theorem dX7_setPlan_0 : decode cX7_setPlan 0 = .ok (.aload_n 0, 1) := by decide +kernel
theorem dX7_setPlan_1 : decode cX7_setPlan 1 = .ok (.getfield 13, 3) := by decide +kernel
theorem dX7_setPlan_4 : decode cX7_setPlan 4 = .ok (.iconst 0, 1) := by decide +kernel
theorem dX7_setPlan_5 : decode cX7_setPlan 5 = .ok (.iaload, 1) := by decide +kernel
theorem dX7_setPlan_6 : decode cX7_setPlan 6 = .ok (.istore_n 1, 1) := by decide +kernel
theorem dX7_setPlan_7 : decode cX7_setPlan 7 = .ok (.aload_n 0, 1) := by decide +kernel
theorem dX7_setPlan_8 : decode cX7_setPlan 8 = .ok (.aload_n 0, 1) := by decide +kernel
theorem dX7_setPlan_9 : decode cX7_setPlan 9 = .ok (.getfield 19, 3) := by decide +kernel
theorem dX7_setPlan_12 : decode cX7_setPlan 12 = .ok (.invokestatic 123, 3) := by decide +kernel
theorem dX7_setPlan_15 : decode cX7_setPlan 15 = .ok (.aload_n 0, 1) := by decide +kernel
theorem dX7_setPlan_16 : decode cX7_setPlan 16 = .ok (.getfield 19, 3) := by decide +kernel
theorem dX7_setPlan_19 : decode cX7_setPlan 19 = .ok (.invokestatic 127, 3) := by decide +kernel
theorem dX7_setPlan_22 : decode cX7_setPlan 22 = .ok (.isub, 1) := by decide +kernel
theorem dX7_setPlan_23 : decode cX7_setPlan 23 = .ok (.putfield 120, 3) := by decide +kernel
theorem dX7_setPlan_26 : decode cX7_setPlan 26 = .ok (.aload_n 0, 1) := by decide +kernel
theorem dX7_setPlan_27 : decode cX7_setPlan 27 = .ok (.aload_n 0, 1) := by decide +kernel
theorem dX7_setPlan_28 : decode cX7_setPlan 28 = .ok (.getfield 120, 3) := by decide +kernel
theorem dX7_setPlan_31 : decode cX7_setPlan 31 = .ok (.iload_n 1, 1) := by decide +kernel
theorem dX7_setPlan_32 : decode cX7_setPlan 32 = .ok (.if_icmp .le 7, 3) := by decide +kernel
theorem dX7_setPlan_35 : decode cX7_setPlan 35 = .ok (.iconst 1, 1) := by decide +kernel
theorem dX7_setPlan_36 : decode cX7_setPlan 36 = .ok (.goto 4, 3) := by decide +kernel
theorem dX7_setPlan_39 : decode cX7_setPlan 39 = .ok (.iconst 0, 1) := by decide +kernel
theorem dX7_setPlan_40 : decode cX7_setPlan 40 = .ok (.putfield 130, 3) := by decide +kernel
theorem dX7_setPlan_43 : decode cX7_setPlan 43 = .ok (.iconst 0, 1) := by decide +kernel
theorem dX7_setPlan_44 : decode cX7_setPlan 44 = .ok (.istore_n 2, 1) := by decide +kernel
theorem dX7_setPlan_45 : decode cX7_setPlan 45 = .ok (.iload_n 2, 1) := by decide +kernel
theorem dX7_setPlan_46 : decode cX7_setPlan 46 = .ok (.iconst 3, 1) := by decide +kernel
theorem dX7_setPlan_47 : decode cX7_setPlan 47 = .ok (.if_icmp .ge 44, 3) := by decide +kernel
theorem dX7_setPlan_50 : decode cX7_setPlan 50 = .ok (.aload_n 0, 1) := by decide +kernel
theorem dX7_setPlan_51 : decode cX7_setPlan 51 = .ok (.getfield 49, 3) := by decide +kernel
theorem dX7_setPlan_54 : decode cX7_setPlan 54 = .ok (.iload_n 2, 1) := by decide +kernel
theorem dX7_setPlan_55 : decode cX7_setPlan 55 = .ok (.aload_n 0, 1) := by decide +kernel
theorem dX7_setPlan_56 : decode cX7_setPlan 56 = .ok (.getfield 130, 3) := by decide +kernel
theorem dX7_setPlan_59 : decode cX7_setPlan 59 = .ok (.ifCond .eq 19, 3) := by decide +kernel
theorem dX7_setPlan_62 : decode cX7_setPlan 62 = .ok (.aload_n 0, 1) := by decide +kernel
theorem dX7_setPlan_63 : decode cX7_setPlan 63 = .ok (.getfield 19, 3) := by decide +kernel
theorem dX7_setPlan_66 : decode cX7_setPlan 66 = .ok (.iload_n 2, 1) := by decide +kernel
theorem dX7_setPlan_67 : decode cX7_setPlan 67 = .ok (.iaload, 1) := by decide +kernel
theorem dX7_setPlan_68 : decode cX7_setPlan 68 = .ok (.iload_n 1, 1) := by decide +kernel
theorem dX7_setPlan_69 : decode cX7_setPlan 69 = .ok (.imul, 1) := by decide +kernel
theorem dX7_setPlan_70 : decode cX7_setPlan 70 = .ok (.aload_n 0, 1) := by decide +kernel
theorem dX7_setPlan_71 : decode cX7_setPlan 71 = .ok (.getfield 120, 3) := by decide +kernel
theorem dX7_setPlan_74 : decode cX7_setPlan 74 = .ok (.idiv, 1) := by decide +kernel
theorem dX7_setPlan_75 : decode cX7_setPlan 75 = .ok (.goto 9, 3) := by decide +kernel
theorem dX7_setPlan_78 : decode cX7_setPlan 78 = .ok (.aload_n 0, 1) := by decide +kernel
theorem dX7_setPlan_79 : decode cX7_setPlan 79 = .ok (.getfield 19, 3) := by decide +kernel
theorem dX7_setPlan_82 : decode cX7_setPlan 82 = .ok (.iload_n 2, 1) := by decide +kernel
theorem dX7_setPlan_83 : decode cX7_setPlan 83 = .ok (.iaload, 1) := by decide +kernel
theorem dX7_setPlan_84 : decode cX7_setPlan 84 = .ok (.iastore, 1) := by decide +kernel
theorem dX7_setPlan_85 : decode cX7_setPlan 85 = .ok (.iinc 2 1, 3) := by decide +kernel
theorem dX7_setPlan_88 : decode cX7_setPlan 88 = .ok (.goto (-43), 3) := by decide +kernel
theorem dX7_setPlan_91 : decode cX7_setPlan 91 = .ok (.aload_n 0, 1) := by decide +kernel
theorem dX7_setPlan_92 : decode cX7_setPlan 92 = .ok (.getfield 49, 3) := by decide +kernel
theorem dX7_setPlan_95 : decode cX7_setPlan 95 = .ok (.invokestatic 123, 3) := by decide +kernel
theorem dX7_setPlan_98 : decode cX7_setPlan 98 = .ok (.aload_n 0, 1) := by decide +kernel
theorem dX7_setPlan_99 : decode cX7_setPlan 99 = .ok (.getfield 49, 3) := by decide +kernel
theorem dX7_setPlan_102 : decode cX7_setPlan 102 = .ok (.invokestatic 127, 3) := by decide +kernel
theorem dX7_setPlan_105 : decode cX7_setPlan 105 = .ok (.iadd, 1) := by decide +kernel
theorem dX7_setPlan_106 : decode cX7_setPlan 106 = .ok (.istore_n 2, 1) := by decide +kernel
theorem dX7_setPlan_107 : decode cX7_setPlan 107 = .ok (.iconst 0, 1) := by decide +kernel
theorem dX7_setPlan_108 : decode cX7_setPlan 108 = .ok (.istore_n 3, 1) := by decide +kernel
theorem dX7_setPlan_109 : decode cX7_setPlan 109 = .ok (.iload_n 3, 1) := by decide +kernel
theorem dX7_setPlan_110 : decode cX7_setPlan 110 = .ok (.iconst 3, 1) := by decide +kernel
theorem dX7_setPlan_111 : decode cX7_setPlan 111 = .ok (.if_icmp .ge 125, 3) := by decide +kernel
theorem dX7_setPlan_114 : decode cX7_setPlan 114 = .ok (.aload_n 0, 1) := by decide +kernel
theorem dX7_setPlan_115 : decode cX7_setPlan 115 = .ok (.getfield 40, 3) := by decide +kernel
theorem dX7_setPlan_118 : decode cX7_setPlan 118 = .ok (.iload_n 3, 1) := by decide +kernel
theorem dX7_setPlan_119 : decode cX7_setPlan 119 = .ok (.iload_n 1, 1) := by decide +kernel
theorem dX7_setPlan_120 : decode cX7_setPlan 120 = .ok (.iconst 2, 1) := by decide +kernel
theorem dX7_setPlan_121 : decode cX7_setPlan 121 = .ok (.aload_n 0, 1) := by decide +kernel
theorem dX7_setPlan_122 : decode cX7_setPlan 122 = .ok (.getfield 49, 3) := by decide +kernel
theorem dX7_setPlan_125 : decode cX7_setPlan 125 = .ok (.iload_n 3, 1) := by decide +kernel
theorem dX7_setPlan_126 : decode cX7_setPlan 126 = .ok (.iaload, 1) := by decide +kernel
theorem dX7_setPlan_127 : decode cX7_setPlan 127 = .ok (.imul, 1) := by decide +kernel
theorem dX7_setPlan_128 : decode cX7_setPlan 128 = .ok (.iadd, 1) := by decide +kernel
theorem dX7_setPlan_129 : decode cX7_setPlan 129 = .ok (.iload_n 2, 1) := by decide +kernel
theorem dX7_setPlan_130 : decode cX7_setPlan 130 = .ok (.isub, 1) := by decide +kernel
theorem dX7_setPlan_131 : decode cX7_setPlan 131 = .ok (.iconst 2, 1) := by decide +kernel
theorem dX7_setPlan_132 : decode cX7_setPlan 132 = .ok (.idiv, 1) := by decide +kernel
theorem dX7_setPlan_133 : decode cX7_setPlan 133 = .ok (.iload_n 1, 1) := by decide +kernel
theorem dX7_setPlan_134 : decode cX7_setPlan 134 = .ok (.invokestatic 134, 3) := by decide +kernel
theorem dX7_setPlan_137 : decode cX7_setPlan 137 = .ok (.iastore, 1) := by decide +kernel
theorem dX7_setPlan_138 : decode cX7_setPlan 138 = .ok (.aload_n 0, 1) := by decide +kernel
theorem dX7_setPlan_139 : decode cX7_setPlan 139 = .ok (.getfield 13, 3) := by decide +kernel
theorem dX7_setPlan_142 : decode cX7_setPlan 142 = .ok (.iconst 2, 1) := by decide +kernel
theorem dX7_setPlan_143 : decode cX7_setPlan 143 = .ok (.iaload, 1) := by decide +kernel
theorem dX7_setPlan_144 : decode cX7_setPlan 144 = .ok (.ifCond .eq 12, 3) := by decide +kernel
theorem dX7_setPlan_147 : decode cX7_setPlan 147 = .ok (.aload_n 0, 1) := by decide +kernel
theorem dX7_setPlan_148 : decode cX7_setPlan 148 = .ok (.getfield 16, 3) := by decide +kernel
theorem dX7_setPlan_151 : decode cX7_setPlan 151 = .ok (.iload_n 3, 1) := by decide +kernel
theorem dX7_setPlan_152 : decode cX7_setPlan 152 = .ok (.iaload, 1) := by decide +kernel
theorem dX7_setPlan_153 : decode cX7_setPlan 153 = .ok (.ifCond .ne 7, 3) := by decide +kernel
theorem dX7_setPlan_156 : decode cX7_setPlan 156 = .ok (.iconst 0, 1) := by decide +kernel
theorem dX7_setPlan_157 : decode cX7_setPlan 157 = .ok (.goto 28, 3) := by decide +kernel
theorem dX7_setPlan_160 : decode cX7_setPlan 160 = .ok (.aload_n 0, 1) := by decide +kernel
theorem dX7_setPlan_161 : decode cX7_setPlan 161 = .ok (.getfield 16, 3) := by decide +kernel
theorem dX7_setPlan_164 : decode cX7_setPlan 164 = .ok (.iload_n 3, 1) := by decide +kernel
theorem dX7_setPlan_165 : decode cX7_setPlan 165 = .ok (.iaload, 1) := by decide +kernel
theorem dX7_setPlan_166 : decode cX7_setPlan 166 = .ok (.ifCond .le 12, 3) := by decide +kernel
theorem dX7_setPlan_169 : decode cX7_setPlan 169 = .ok (.aload_n 0, 1) := by decide +kernel
theorem dX7_setPlan_170 : decode cX7_setPlan 170 = .ok (.getfield 13, 3) := by decide +kernel
theorem dX7_setPlan_173 : decode cX7_setPlan 173 = .ok (.iconst 1, 1) := by decide +kernel
theorem dX7_setPlan_174 : decode cX7_setPlan 174 = .ok (.iaload, 1) := by decide +kernel
theorem dX7_setPlan_175 : decode cX7_setPlan 175 = .ok (.goto 10, 3) := by decide +kernel
theorem dX7_setPlan_178 : decode cX7_setPlan 178 = .ok (.aload_n 0, 1) := by decide +kernel
theorem dX7_setPlan_179 : decode cX7_setPlan 179 = .ok (.getfield 13, 3) := by decide +kernel
theorem dX7_setPlan_182 : decode cX7_setPlan 182 = .ok (.iconst 1, 1) := by decide +kernel
theorem dX7_setPlan_183 : decode cX7_setPlan 183 = .ok (.iaload, 1) := by decide +kernel
theorem dX7_setPlan_184 : decode cX7_setPlan 184 = .ok (.ineg, 1) := by decide +kernel
theorem dX7_setPlan_185 : decode cX7_setPlan 185 = .ok (.istore 4, 2) := by decide +kernel
theorem dX7_setPlan_187 : decode cX7_setPlan 187 = .ok (.aload_n 0, 1) := by decide +kernel
theorem dX7_setPlan_188 : decode cX7_setPlan 188 = .ok (.getfield 43, 3) := by decide +kernel
theorem dX7_setPlan_191 : decode cX7_setPlan 191 = .ok (.iload_n 3, 1) := by decide +kernel
theorem dX7_setPlan_192 : decode cX7_setPlan 192 = .ok (.iload_n 1, 1) := by decide +kernel
theorem dX7_setPlan_193 : decode cX7_setPlan 193 = .ok (.iconst 2, 1) := by decide +kernel
theorem dX7_setPlan_194 : decode cX7_setPlan 194 = .ok (.aload_n 0, 1) := by decide +kernel
theorem dX7_setPlan_195 : decode cX7_setPlan 195 = .ok (.getfield 49, 3) := by decide +kernel
theorem dX7_setPlan_198 : decode cX7_setPlan 198 = .ok (.iload_n 3, 1) := by decide +kernel
theorem dX7_setPlan_199 : decode cX7_setPlan 199 = .ok (.iaload, 1) := by decide +kernel
theorem dX7_setPlan_200 : decode cX7_setPlan 200 = .ok (.imul, 1) := by decide +kernel
theorem dX7_setPlan_201 : decode cX7_setPlan 201 = .ok (.iadd, 1) := by decide +kernel
theorem dX7_setPlan_202 : decode cX7_setPlan 202 = .ok (.iload_n 2, 1) := by decide +kernel
theorem dX7_setPlan_203 : decode cX7_setPlan 203 = .ok (.isub, 1) := by decide +kernel
theorem dX7_setPlan_204 : decode cX7_setPlan 204 = .ok (.iconst 2, 1) := by decide +kernel
theorem dX7_setPlan_205 : decode cX7_setPlan 205 = .ok (.idiv, 1) := by decide +kernel
theorem dX7_setPlan_206 : decode cX7_setPlan 206 = .ok (.iload 4, 2) := by decide +kernel
theorem dX7_setPlan_208 : decode cX7_setPlan 208 = .ok (.iadd, 1) := by decide +kernel
theorem dX7_setPlan_209 : decode cX7_setPlan 209 = .ok (.iload_n 1, 1) := by decide +kernel
theorem dX7_setPlan_210 : decode cX7_setPlan 210 = .ok (.invokestatic 134, 3) := by decide +kernel
theorem dX7_setPlan_213 : decode cX7_setPlan 213 = .ok (.iastore, 1) := by decide +kernel
theorem dX7_setPlan_214 : decode cX7_setPlan 214 = .ok (.aload_n 0, 1) := by decide +kernel
theorem dX7_setPlan_215 : decode cX7_setPlan 215 = .ok (.getfield 46, 3) := by decide +kernel
theorem dX7_setPlan_218 : decode cX7_setPlan 218 = .ok (.iload_n 3, 1) := by decide +kernel
theorem dX7_setPlan_219 : decode cX7_setPlan 219 = .ok (.iload_n 1, 1) := by decide +kernel
theorem dX7_setPlan_220 : decode cX7_setPlan 220 = .ok (.aload_n 0, 1) := by decide +kernel
theorem dX7_setPlan_221 : decode cX7_setPlan 221 = .ok (.getfield 43, 3) := by decide +kernel
theorem dX7_setPlan_224 : decode cX7_setPlan 224 = .ok (.iload_n 3, 1) := by decide +kernel
theorem dX7_setPlan_225 : decode cX7_setPlan 225 = .ok (.iaload, 1) := by decide +kernel
theorem dX7_setPlan_226 : decode cX7_setPlan 226 = .ok (.isub, 1) := by decide +kernel
theorem dX7_setPlan_227 : decode cX7_setPlan 227 = .ok (.iconst 2, 1) := by decide +kernel
theorem dX7_setPlan_228 : decode cX7_setPlan 228 = .ok (.idiv, 1) := by decide +kernel
theorem dX7_setPlan_229 : decode cX7_setPlan 229 = .ok (.iastore, 1) := by decide +kernel
theorem dX7_setPlan_230 : decode cX7_setPlan 230 = .ok (.iinc 3 1, 3) := by decide +kernel
theorem dX7_setPlan_233 : decode cX7_setPlan 233 = .ok (.goto (-124), 3) := by decide +kernel
theorem dX7_setPlan_236 : decode cX7_setPlan 236 = .ok (.return_, 1) := by decide +kernel
theorem dX7_bound_0 : decode cX7_bound 0 = .ok (.iload_n 0, 1) := by decide +kernel
theorem dX7_bound_1 : decode cX7_bound 1 = .ok (.ifCond .ge 7, 3) := by decide +kernel
theorem dX7_bound_4 : decode cX7_bound 4 = .ok (.iconst 0, 1) := by decide +kernel
theorem dX7_bound_5 : decode cX7_bound 5 = .ok (.goto 13, 3) := by decide +kernel
theorem dX7_bound_8 : decode cX7_bound 8 = .ok (.iload_n 0, 1) := by decide +kernel
theorem dX7_bound_9 : decode cX7_bound 9 = .ok (.iload_n 1, 1) := by decide +kernel
theorem dX7_bound_10 : decode cX7_bound 10 = .ok (.if_icmp .le 7, 3) := by decide +kernel
theorem dX7_bound_13 : decode cX7_bound 13 = .ok (.iload_n 1, 1) := by decide +kernel
theorem dX7_bound_14 : decode cX7_bound 14 = .ok (.goto 4, 3) := by decide +kernel
theorem dX7_bound_17 : decode cX7_bound 17 = .ok (.iload_n 0, 1) := by decide +kernel
theorem dX7_bound_18 : decode cX7_bound 18 = .ok (.ireturn, 1) := by decide +kernel
theorem dX7_wanted_0 : decode cX7_wanted 0 = .ok (.iload_n 2, 1) := by decide +kernel
theorem dX7_wanted_1 : decode cX7_wanted 1 = .ok (.aload_n 0, 1) := by decide +kernel
theorem dX7_wanted_2 : decode cX7_wanted 2 = .ok (.getfield 46, 3) := by decide +kernel
theorem dX7_wanted_5 : decode cX7_wanted 5 = .ok (.iload_n 1, 1) := by decide +kernel
theorem dX7_wanted_6 : decode cX7_wanted 6 = .ok (.iaload, 1) := by decide +kernel
theorem dX7_wanted_7 : decode cX7_wanted 7 = .ok (.if_icmp .lt 24, 3) := by decide +kernel
theorem dX7_wanted_10 : decode cX7_wanted 10 = .ok (.iload_n 2, 1) := by decide +kernel
theorem dX7_wanted_11 : decode cX7_wanted 11 = .ok (.aload_n 0, 1) := by decide +kernel
theorem dX7_wanted_12 : decode cX7_wanted 12 = .ok (.getfield 46, 3) := by decide +kernel
theorem dX7_wanted_15 : decode cX7_wanted 15 = .ok (.iload_n 1, 1) := by decide +kernel
theorem dX7_wanted_16 : decode cX7_wanted 16 = .ok (.iaload, 1) := by decide +kernel
theorem dX7_wanted_17 : decode cX7_wanted 17 = .ok (.aload_n 0, 1) := by decide +kernel
theorem dX7_wanted_18 : decode cX7_wanted 18 = .ok (.getfield 43, 3) := by decide +kernel
theorem dX7_wanted_21 : decode cX7_wanted 21 = .ok (.iload_n 1, 1) := by decide +kernel
theorem dX7_wanted_22 : decode cX7_wanted 22 = .ok (.iaload, 1) := by decide +kernel
theorem dX7_wanted_23 : decode cX7_wanted 23 = .ok (.iadd, 1) := by decide +kernel
theorem dX7_wanted_24 : decode cX7_wanted 24 = .ok (.if_icmp .ge 7, 3) := by decide +kernel
theorem dX7_wanted_27 : decode cX7_wanted 27 = .ok (.iconst 1, 1) := by decide +kernel
theorem dX7_wanted_28 : decode cX7_wanted 28 = .ok (.goto 4, 3) := by decide +kernel
theorem dX7_wanted_31 : decode cX7_wanted 31 = .ok (.iconst 0, 1) := by decide +kernel
theorem dX7_wanted_32 : decode cX7_wanted 32 = .ok (.ireturn, 1) := by decide +kernel
theorem dX7_wantedAhead_0 : decode cX7_wantedAhead 0 = .ok (.iconst 0, 1) := by decide +kernel
theorem dX7_wantedAhead_1 : decode cX7_wantedAhead 1 = .ok (.istore_n 3, 1) := by decide +kernel
theorem dX7_wantedAhead_2 : decode cX7_wantedAhead 2 = .ok (.iconst 0, 1) := by decide +kernel
theorem dX7_wantedAhead_3 : decode cX7_wantedAhead 3 = .ok (.istore 4, 2) := by decide +kernel
theorem dX7_wantedAhead_5 : decode cX7_wantedAhead 5 = .ok (.iload 4, 2) := by decide +kernel
theorem dX7_wantedAhead_7 : decode cX7_wantedAhead 7 = .ok (.aload_n 0, 1) := by decide +kernel
theorem dX7_wantedAhead_8 : decode cX7_wantedAhead 8 = .ok (.getfield 13, 3) := by decide +kernel
theorem dX7_wantedAhead_11 : decode cX7_wantedAhead 11 = .ok (.iconst 1, 1) := by decide +kernel
theorem dX7_wantedAhead_12 : decode cX7_wantedAhead 12 = .ok (.iaload, 1) := by decide +kernel
theorem dX7_wantedAhead_13 : decode cX7_wantedAhead 13 = .ok (.if_icmp .gt 43, 3) := by decide +kernel
theorem dX7_wantedAhead_16 : decode cX7_wantedAhead 16 = .ok (.iload_n 3, 1) := by decide +kernel
theorem dX7_wantedAhead_17 : decode cX7_wantedAhead 17 = .ok (.aload_n 0, 1) := by decide +kernel
theorem dX7_wantedAhead_18 : decode cX7_wantedAhead 18 = .ok (.iload_n 1, 1) := by decide +kernel
theorem dX7_wantedAhead_19 : decode cX7_wantedAhead 19 = .ok (.iload_n 2, 1) := by decide +kernel
theorem dX7_wantedAhead_20 : decode cX7_wantedAhead 20 = .ok (.iload 4, 2) := by decide +kernel
theorem dX7_wantedAhead_22 : decode cX7_wantedAhead 22 = .ok (.isub, 1) := by decide +kernel
theorem dX7_wantedAhead_23 : decode cX7_wantedAhead 23 = .ok (.aload_n 0, 1) := by decide +kernel
theorem dX7_wantedAhead_24 : decode cX7_wantedAhead 24 = .ok (.getfield 13, 3) := by decide +kernel
theorem dX7_wantedAhead_27 : decode cX7_wantedAhead 27 = .ok (.iconst 0, 1) := by decide +kernel
theorem dX7_wantedAhead_28 : decode cX7_wantedAhead 28 = .ok (.iaload, 1) := by decide +kernel
theorem dX7_wantedAhead_29 : decode cX7_wantedAhead 29 = .ok (.iadd, 1) := by decide +kernel
theorem dX7_wantedAhead_30 : decode cX7_wantedAhead 30 = .ok (.aload_n 0, 1) := by decide +kernel
theorem dX7_wantedAhead_31 : decode cX7_wantedAhead 31 = .ok (.getfield 13, 3) := by decide +kernel
theorem dX7_wantedAhead_34 : decode cX7_wantedAhead 34 = .ok (.iconst 0, 1) := by decide +kernel
theorem dX7_wantedAhead_35 : decode cX7_wantedAhead 35 = .ok (.iaload, 1) := by decide +kernel
theorem dX7_wantedAhead_36 : decode cX7_wantedAhead 36 = .ok (.irem, 1) := by decide +kernel
theorem dX7_wantedAhead_37 : decode cX7_wantedAhead 37 = .ok (.invokevirtual 138, 3) := by decide +kernel
theorem dX7_wantedAhead_40 : decode cX7_wantedAhead 40 = .ok (.ifCond .eq 7, 3) := by decide +kernel
theorem dX7_wantedAhead_43 : decode cX7_wantedAhead 43 = .ok (.iconst 1, 1) := by decide +kernel
theorem dX7_wantedAhead_44 : decode cX7_wantedAhead 44 = .ok (.goto 4, 3) := by decide +kernel
theorem dX7_wantedAhead_47 : decode cX7_wantedAhead 47 = .ok (.iconst 0, 1) := by decide +kernel
theorem dX7_wantedAhead_48 : decode cX7_wantedAhead 48 = .ok (.iadd, 1) := by decide +kernel
theorem dX7_wantedAhead_49 : decode cX7_wantedAhead 49 = .ok (.istore_n 3, 1) := by decide +kernel
theorem dX7_wantedAhead_50 : decode cX7_wantedAhead 50 = .ok (.iinc 4 1, 3) := by decide +kernel
theorem dX7_wantedAhead_53 : decode cX7_wantedAhead 53 = .ok (.goto (-48), 3) := by decide +kernel
theorem dX7_wantedAhead_56 : decode cX7_wantedAhead 56 = .ok (.iload_n 3, 1) := by decide +kernel
theorem dX7_wantedAhead_57 : decode cX7_wantedAhead 57 = .ok (.ireturn, 1) := by decide +kernel
theorem dX7_upper_0 : decode cX7_upper 0 = .ok (.aload_n 0, 1) := by decide +kernel
theorem dX7_upper_1 : decode cX7_upper 1 = .ok (.iload_n 1, 1) := by decide +kernel
theorem dX7_upper_2 : decode cX7_upper 2 = .ok (.iload_n 2, 1) := by decide +kernel
theorem dX7_upper_3 : decode cX7_upper 3 = .ok (.invokevirtual 141, 3) := by decide +kernel
theorem dX7_upper_6 : decode cX7_upper 6 = .ok (.aload_n 0, 1) := by decide +kernel
theorem dX7_upper_7 : decode cX7_upper 7 = .ok (.getfield 13, 3) := by decide +kernel
theorem dX7_upper_10 : decode cX7_upper 10 = .ok (.iconst 1, 1) := by decide +kernel
theorem dX7_upper_11 : decode cX7_upper 11 = .ok (.iaload, 1) := by decide +kernel
theorem dX7_upper_12 : decode cX7_upper 12 = .ok (.iconst 1, 1) := by decide +kernel
theorem dX7_upper_13 : decode cX7_upper 13 = .ok (.iadd, 1) := by decide +kernel
theorem dX7_upper_14 : decode cX7_upper 14 = .ok (.if_icmp .ne 7, 3) := by decide +kernel
theorem dX7_upper_17 : decode cX7_upper 17 = .ok (.iconst 1, 1) := by decide +kernel
theorem dX7_upper_18 : decode cX7_upper 18 = .ok (.goto 4, 3) := by decide +kernel
theorem dX7_upper_21 : decode cX7_upper 21 = .ok (.iconst 0, 1) := by decide +kernel
theorem dX7_upper_22 : decode cX7_upper 22 = .ok (.ireturn, 1) := by decide +kernel
theorem dX7_lower_0 : decode cX7_lower 0 = .ok (.aload_n 0, 1) := by decide +kernel
theorem dX7_lower_1 : decode cX7_lower 1 = .ok (.iload_n 1, 1) := by decide +kernel
theorem dX7_lower_2 : decode cX7_lower 2 = .ok (.iload_n 2, 1) := by decide +kernel
theorem dX7_lower_3 : decode cX7_lower 3 = .ok (.invokevirtual 141, 3) := by decide +kernel
theorem dX7_lower_6 : decode cX7_lower 6 = .ok (.ifCond .ne 7, 3) := by decide +kernel
theorem dX7_lower_9 : decode cX7_lower 9 = .ok (.iconst 1, 1) := by decide +kernel
theorem dX7_lower_10 : decode cX7_lower 10 = .ok (.goto 4, 3) := by decide +kernel
theorem dX7_lower_13 : decode cX7_lower 13 = .ok (.iconst 0, 1) := by decide +kernel
theorem dX7_lower_14 : decode cX7_lower 14 = .ok (.ireturn, 1) := by decide +kernel
theorem dX7_gives_0 : decode cX7_gives 0 = .ok (.aload_n 0, 1) := by decide +kernel
theorem dX7_gives_1 : decode cX7_gives 1 = .ok (.iload_n 1, 1) := by decide +kernel
theorem dX7_gives_2 : decode cX7_gives 2 = .ok (.iload_n 2, 1) := by decide +kernel
theorem dX7_gives_3 : decode cX7_gives 3 = .ok (.invokevirtual 141, 3) := by decide +kernel
theorem dX7_gives_6 : decode cX7_gives 6 = .ok (.istore_n 3, 1) := by decide +kernel
theorem dX7_gives_7 : decode cX7_gives 7 = .ok (.iload_n 3, 1) := by decide +kernel
theorem dX7_gives_8 : decode cX7_gives 8 = .ok (.aload_n 0, 1) := by decide +kernel
theorem dX7_gives_9 : decode cX7_gives 9 = .ok (.getfield 13, 3) := by decide +kernel
theorem dX7_gives_12 : decode cX7_gives 12 = .ok (.iconst 1, 1) := by decide +kernel
theorem dX7_gives_13 : decode cX7_gives 13 = .ok (.iaload, 1) := by decide +kernel
theorem dX7_gives_14 : decode cX7_gives 14 = .ok (.iconst 1, 1) := by decide +kernel
theorem dX7_gives_15 : decode cX7_gives 15 = .ok (.iadd, 1) := by decide +kernel
theorem dX7_gives_16 : decode cX7_gives 16 = .ok (.if_icmp .ne 7, 3) := by decide +kernel
theorem dX7_gives_19 : decode cX7_gives 19 = .ok (.iconst 1, 1) := by decide +kernel
theorem dX7_gives_20 : decode cX7_gives 20 = .ok (.goto 25, 3) := by decide +kernel
theorem dX7_gives_23 : decode cX7_gives 23 = .ok (.iload_n 3, 1) := by decide +kernel
theorem dX7_gives_24 : decode cX7_gives 24 = .ok (.ifCond .ne 7, 3) := by decide +kernel
theorem dX7_gives_27 : decode cX7_gives 27 = .ok (.iconst 0, 1) := by decide +kernel
theorem dX7_gives_28 : decode cX7_gives 28 = .ok (.goto 17, 3) := by decide +kernel
theorem dX7_gives_31 : decode cX7_gives 31 = .ok (.aload_n 0, 1) := by decide +kernel
theorem dX7_gives_32 : decode cX7_gives 32 = .ok (.getfield 16, 3) := by decide +kernel
theorem dX7_gives_35 : decode cX7_gives 35 = .ok (.iload_n 1, 1) := by decide +kernel
theorem dX7_gives_36 : decode cX7_gives 36 = .ok (.iaload, 1) := by decide +kernel
theorem dX7_gives_37 : decode cX7_gives 37 = .ok (.ifCond .ge 7, 3) := by decide +kernel
theorem dX7_gives_40 : decode cX7_gives 40 = .ok (.iconst 1, 1) := by decide +kernel
theorem dX7_gives_41 : decode cX7_gives 41 = .ok (.goto 4, 3) := by decide +kernel
theorem dX7_gives_44 : decode cX7_gives 44 = .ok (.iconst 0, 1) := by decide +kernel
theorem dX7_gives_45 : decode cX7_gives 45 = .ok (.ireturn, 1) := by decide +kernel
theorem dX7_meanOf_0 : decode cX7_meanOf 0 = .ok (.iconst 0, 1) := by decide +kernel
theorem dX7_meanOf_1 : decode cX7_meanOf 1 = .ok (.istore_n 2, 1) := by decide +kernel
theorem dX7_meanOf_2 : decode cX7_meanOf 2 = .ok (.iconst 0, 1) := by decide +kernel
theorem dX7_meanOf_3 : decode cX7_meanOf 3 = .ok (.istore_n 3, 1) := by decide +kernel
theorem dX7_meanOf_4 : decode cX7_meanOf 4 = .ok (.iload_n 3, 1) := by decide +kernel
theorem dX7_meanOf_5 : decode cX7_meanOf 5 = .ok (.aload_n 0, 1) := by decide +kernel
theorem dX7_meanOf_6 : decode cX7_meanOf 6 = .ok (.getfield 13, 3) := by decide +kernel
theorem dX7_meanOf_9 : decode cX7_meanOf 9 = .ok (.iconst 0, 1) := by decide +kernel
theorem dX7_meanOf_10 : decode cX7_meanOf 10 = .ok (.iaload, 1) := by decide +kernel
theorem dX7_meanOf_11 : decode cX7_meanOf 11 = .ok (.if_icmp .ge 18, 3) := by decide +kernel
theorem dX7_meanOf_14 : decode cX7_meanOf 14 = .ok (.iload_n 2, 1) := by decide +kernel
theorem dX7_meanOf_15 : decode cX7_meanOf 15 = .ok (.aload_n 0, 1) := by decide +kernel
theorem dX7_meanOf_16 : decode cX7_meanOf 16 = .ok (.iload_n 1, 1) := by decide +kernel
theorem dX7_meanOf_17 : decode cX7_meanOf 17 = .ok (.iload_n 3, 1) := by decide +kernel
theorem dX7_meanOf_18 : decode cX7_meanOf 18 = .ok (.invokevirtual 144, 3) := by decide +kernel
theorem dX7_meanOf_21 : decode cX7_meanOf 21 = .ok (.iadd, 1) := by decide +kernel
theorem dX7_meanOf_22 : decode cX7_meanOf 22 = .ok (.istore_n 2, 1) := by decide +kernel
theorem dX7_meanOf_23 : decode cX7_meanOf 23 = .ok (.iinc 3 1, 3) := by decide +kernel
theorem dX7_meanOf_26 : decode cX7_meanOf 26 = .ok (.goto (-22), 3) := by decide +kernel
theorem dX7_meanOf_29 : decode cX7_meanOf 29 = .ok (.iload_n 2, 1) := by decide +kernel
theorem dX7_meanOf_30 : decode cX7_meanOf 30 = .ok (.ireturn, 1) := by decide +kernel
theorem dX7_patternAt_0 : decode cX7_patternAt 0 = .ok (.aload_n 0, 1) := by decide +kernel
theorem dX7_patternAt_1 : decode cX7_patternAt 1 = .ok (.iconst 0, 1) := by decide +kernel
theorem dX7_patternAt_2 : decode cX7_patternAt 2 = .ok (.iload_n 1, 1) := by decide +kernel
theorem dX7_patternAt_3 : decode cX7_patternAt 3 = .ok (.invokevirtual 138, 3) := by decide +kernel
theorem dX7_patternAt_6 : decode cX7_patternAt 6 = .ok (.ifCond .eq 7, 3) := by decide +kernel
theorem dX7_patternAt_9 : decode cX7_patternAt 9 = .ok (.iconst 1, 1) := by decide +kernel
theorem dX7_patternAt_10 : decode cX7_patternAt 10 = .ok (.goto 4, 3) := by decide +kernel
theorem dX7_patternAt_13 : decode cX7_patternAt 13 = .ok (.iconst 0, 1) := by decide +kernel
theorem dX7_patternAt_14 : decode cX7_patternAt 14 = .ok (.aload_n 0, 1) := by decide +kernel
theorem dX7_patternAt_15 : decode cX7_patternAt 15 = .ok (.iconst 1, 1) := by decide +kernel
theorem dX7_patternAt_16 : decode cX7_patternAt 16 = .ok (.iload_n 1, 1) := by decide +kernel
theorem dX7_patternAt_17 : decode cX7_patternAt 17 = .ok (.invokevirtual 138, 3) := by decide +kernel
theorem dX7_patternAt_20 : decode cX7_patternAt 20 = .ok (.ifCond .eq 7, 3) := by decide +kernel
theorem dX7_patternAt_23 : decode cX7_patternAt 23 = .ok (.iconst 2, 1) := by decide +kernel
theorem dX7_patternAt_24 : decode cX7_patternAt 24 = .ok (.goto 4, 3) := by decide +kernel
theorem dX7_patternAt_27 : decode cX7_patternAt 27 = .ok (.iconst 0, 1) := by decide +kernel
theorem dX7_patternAt_28 : decode cX7_patternAt 28 = .ok (.iadd, 1) := by decide +kernel
theorem dX7_patternAt_29 : decode cX7_patternAt 29 = .ok (.aload_n 0, 1) := by decide +kernel
theorem dX7_patternAt_30 : decode cX7_patternAt 30 = .ok (.iconst 2, 1) := by decide +kernel
theorem dX7_patternAt_31 : decode cX7_patternAt 31 = .ok (.iload_n 1, 1) := by decide +kernel
theorem dX7_patternAt_32 : decode cX7_patternAt 32 = .ok (.invokevirtual 138, 3) := by decide +kernel
theorem dX7_patternAt_35 : decode cX7_patternAt 35 = .ok (.ifCond .eq 7, 3) := by decide +kernel
theorem dX7_patternAt_38 : decode cX7_patternAt 38 = .ok (.iconst 4, 1) := by decide +kernel
theorem dX7_patternAt_39 : decode cX7_patternAt 39 = .ok (.goto 4, 3) := by decide +kernel
theorem dX7_patternAt_42 : decode cX7_patternAt 42 = .ok (.iconst 0, 1) := by decide +kernel
theorem dX7_patternAt_43 : decode cX7_patternAt 43 = .ok (.iadd, 1) := by decide +kernel
theorem dX7_patternAt_44 : decode cX7_patternAt 44 = .ok (.ireturn, 1) := by decide +kernel
theorem dX7_setRuns_0 : decode cX7_setRuns 0 = .ok (.aload_n 0, 1) := by decide +kernel
theorem dX7_setRuns_1 : decode cX7_setRuns 1 = .ok (.iconst 0, 1) := by decide +kernel
theorem dX7_setRuns_2 : decode cX7_setRuns 2 = .ok (.putfield 147, 3) := by decide +kernel
theorem dX7_setRuns_5 : decode cX7_setRuns 5 = .ok (.iconst 0, 1) := by decide +kernel
theorem dX7_setRuns_6 : decode cX7_setRuns 6 = .ok (.istore_n 1, 1) := by decide +kernel
theorem dX7_setRuns_7 : decode cX7_setRuns 7 = .ok (.iload_n 1, 1) := by decide +kernel
theorem dX7_setRuns_8 : decode cX7_setRuns 8 = .ok (.aload_n 0, 1) := by decide +kernel
theorem dX7_setRuns_9 : decode cX7_setRuns 9 = .ok (.getfield 13, 3) := by decide +kernel
theorem dX7_setRuns_12 : decode cX7_setRuns 12 = .ok (.iconst 0, 1) := by decide +kernel
theorem dX7_setRuns_13 : decode cX7_setRuns 13 = .ok (.iaload, 1) := by decide +kernel
theorem dX7_setRuns_14 : decode cX7_setRuns 14 = .ok (.if_icmp .ge 73, 3) := by decide +kernel
theorem dX7_setRuns_17 : decode cX7_setRuns 17 = .ok (.iload_n 1, 1) := by decide +kernel
theorem dX7_setRuns_18 : decode cX7_setRuns 18 = .ok (.ifCond .eq 18, 3) := by decide +kernel
theorem dX7_setRuns_21 : decode cX7_setRuns 21 = .ok (.aload_n 0, 1) := by decide +kernel
theorem dX7_setRuns_22 : decode cX7_setRuns 22 = .ok (.iload_n 1, 1) := by decide +kernel
theorem dX7_setRuns_23 : decode cX7_setRuns 23 = .ok (.invokevirtual 150, 3) := by decide +kernel
theorem dX7_setRuns_26 : decode cX7_setRuns 26 = .ok (.aload_n 0, 1) := by decide +kernel
theorem dX7_setRuns_27 : decode cX7_setRuns 27 = .ok (.iload_n 1, 1) := by decide +kernel
theorem dX7_setRuns_28 : decode cX7_setRuns 28 = .ok (.iconst 1, 1) := by decide +kernel
theorem dX7_setRuns_29 : decode cX7_setRuns 29 = .ok (.isub, 1) := by decide +kernel
theorem dX7_setRuns_30 : decode cX7_setRuns 30 = .ok (.invokevirtual 150, 3) := by decide +kernel
theorem dX7_setRuns_33 : decode cX7_setRuns 33 = .ok (.if_icmp .eq 33, 3) := by decide +kernel
theorem dX7_setRuns_36 : decode cX7_setRuns 36 = .ok (.aload_n 0, 1) := by decide +kernel
theorem dX7_setRuns_37 : decode cX7_setRuns 37 = .ok (.getfield 52, 3) := by decide +kernel
theorem dX7_setRuns_40 : decode cX7_setRuns 40 = .ok (.aload_n 0, 1) := by decide +kernel
theorem dX7_setRuns_41 : decode cX7_setRuns 41 = .ok (.getfield 147, 3) := by decide +kernel
theorem dX7_setRuns_44 : decode cX7_setRuns 44 = .ok (.iload_n 1, 1) := by decide +kernel
theorem dX7_setRuns_45 : decode cX7_setRuns 45 = .ok (.iastore, 1) := by decide +kernel
theorem dX7_setRuns_46 : decode cX7_setRuns 46 = .ok (.aload_n 0, 1) := by decide +kernel
theorem dX7_setRuns_47 : decode cX7_setRuns 47 = .ok (.getfield 55, 3) := by decide +kernel
theorem dX7_setRuns_50 : decode cX7_setRuns 50 = .ok (.aload_n 0, 1) := by decide +kernel
theorem dX7_setRuns_51 : decode cX7_setRuns 51 = .ok (.getfield 147, 3) := by decide +kernel
theorem dX7_setRuns_54 : decode cX7_setRuns 54 = .ok (.iconst 0, 1) := by decide +kernel
theorem dX7_setRuns_55 : decode cX7_setRuns 55 = .ok (.iastore, 1) := by decide +kernel
theorem dX7_setRuns_56 : decode cX7_setRuns 56 = .ok (.aload_n 0, 1) := by decide +kernel
theorem dX7_setRuns_57 : decode cX7_setRuns 57 = .ok (.dup, 1) := by decide +kernel
theorem dX7_setRuns_58 : decode cX7_setRuns 58 = .ok (.getfield 147, 3) := by decide +kernel
theorem dX7_setRuns_61 : decode cX7_setRuns 61 = .ok (.iconst 1, 1) := by decide +kernel
theorem dX7_setRuns_62 : decode cX7_setRuns 62 = .ok (.iadd, 1) := by decide +kernel
theorem dX7_setRuns_63 : decode cX7_setRuns 63 = .ok (.putfield 147, 3) := by decide +kernel
theorem dX7_setRuns_66 : decode cX7_setRuns 66 = .ok (.aload_n 0, 1) := by decide +kernel
theorem dX7_setRuns_67 : decode cX7_setRuns 67 = .ok (.getfield 55, 3) := by decide +kernel
theorem dX7_setRuns_70 : decode cX7_setRuns 70 = .ok (.aload_n 0, 1) := by decide +kernel
theorem dX7_setRuns_71 : decode cX7_setRuns 71 = .ok (.getfield 147, 3) := by decide +kernel
theorem dX7_setRuns_74 : decode cX7_setRuns 74 = .ok (.iconst 1, 1) := by decide +kernel
theorem dX7_setRuns_75 : decode cX7_setRuns 75 = .ok (.isub, 1) := by decide +kernel
theorem dX7_setRuns_76 : decode cX7_setRuns 76 = .ok (.dup2, 1) := by decide +kernel
theorem dX7_setRuns_77 : decode cX7_setRuns 77 = .ok (.iaload, 1) := by decide +kernel
theorem dX7_setRuns_78 : decode cX7_setRuns 78 = .ok (.iconst 1, 1) := by decide +kernel
theorem dX7_setRuns_79 : decode cX7_setRuns 79 = .ok (.iadd, 1) := by decide +kernel
theorem dX7_setRuns_80 : decode cX7_setRuns 80 = .ok (.iastore, 1) := by decide +kernel
theorem dX7_setRuns_81 : decode cX7_setRuns 81 = .ok (.iinc 1 1, 3) := by decide +kernel
theorem dX7_setRuns_84 : decode cX7_setRuns 84 = .ok (.goto (-77), 3) := by decide +kernel
theorem dX7_setRuns_87 : decode cX7_setRuns 87 = .ok (.return_, 1) := by decide +kernel
theorem dX7_tells_0 : decode cX7_tells 0 = .ok (.aload_n 0, 1) := by decide +kernel
theorem dX7_tells_1 : decode cX7_tells 1 = .ok (.aload_n 0, 1) := by decide +kernel
theorem dX7_tells_2 : decode cX7_tells 2 = .ok (.getfield 52, 3) := by decide +kernel
theorem dX7_tells_5 : decode cX7_tells 5 = .ok (.iload_n 1, 1) := by decide +kernel
theorem dX7_tells_6 : decode cX7_tells 6 = .ok (.iaload, 1) := by decide +kernel
theorem dX7_tells_7 : decode cX7_tells 7 = .ok (.invokevirtual 150, 3) := by decide +kernel
theorem dX7_tells_10 : decode cX7_tells 10 = .ok (.istore_n 2, 1) := by decide +kernel
theorem dX7_tells_11 : decode cX7_tells 11 = .ok (.aload_n 0, 1) := by decide +kernel
theorem dX7_tells_12 : decode cX7_tells 12 = .ok (.getfield 55, 3) := by decide +kernel
theorem dX7_tells_15 : decode cX7_tells 15 = .ok (.iload_n 1, 1) := by decide +kernel
theorem dX7_tells_16 : decode cX7_tells 16 = .ok (.iaload, 1) := by decide +kernel
theorem dX7_tells_17 : decode cX7_tells 17 = .ok (.aload_n 0, 1) := by decide +kernel
theorem dX7_tells_18 : decode cX7_tells 18 = .ok (.getfield 13, 3) := by decide +kernel
theorem dX7_tells_21 : decode cX7_tells 21 = .ok (.iconst 3, 1) := by decide +kernel
theorem dX7_tells_22 : decode cX7_tells 22 = .ok (.iaload, 1) := by decide +kernel
theorem dX7_tells_23 : decode cX7_tells 23 = .ok (.if_icmp .lt 13, 3) := by decide +kernel
theorem dX7_tells_26 : decode cX7_tells 26 = .ok (.iload_n 2, 1) := by decide +kernel
theorem dX7_tells_27 : decode cX7_tells 27 = .ok (.ifCond .eq 9, 3) := by decide +kernel
theorem dX7_tells_30 : decode cX7_tells 30 = .ok (.iload_n 2, 1) := by decide +kernel
theorem dX7_tells_31 : decode cX7_tells 31 = .ok (.bipush 7, 2) := by decide +kernel
theorem dX7_tells_33 : decode cX7_tells 33 = .ok (.if_icmp .ne 5, 3) := by decide +kernel
theorem dX7_tells_36 : decode cX7_tells 36 = .ok (.iconst (-1), 1) := by decide +kernel
theorem dX7_tells_37 : decode cX7_tells 37 = .ok (.ireturn, 1) := by decide +kernel
theorem dX7_tells_38 : decode cX7_tells 38 = .ok (.iload_n 2, 1) := by decide +kernel
theorem dX7_tells_39 : decode cX7_tells 39 = .ok (.iconst 1, 1) := by decide +kernel
theorem dX7_tells_40 : decode cX7_tells 40 = .ok (.if_icmp .eq 9, 3) := by decide +kernel
theorem dX7_tells_43 : decode cX7_tells 43 = .ok (.iload_n 2, 1) := by decide +kernel
theorem dX7_tells_44 : decode cX7_tells 44 = .ok (.bipush 6, 2) := by decide +kernel
theorem dX7_tells_46 : decode cX7_tells 46 = .ok (.if_icmp .ne 7, 3) := by decide +kernel
theorem dX7_tells_49 : decode cX7_tells 49 = .ok (.iconst 0, 1) := by decide +kernel
theorem dX7_tells_50 : decode cX7_tells 50 = .ok (.goto 18, 3) := by decide +kernel
theorem dX7_tells_53 : decode cX7_tells 53 = .ok (.iload_n 2, 1) := by decide +kernel
theorem dX7_tells_54 : decode cX7_tells 54 = .ok (.iconst 2, 1) := by decide +kernel
theorem dX7_tells_55 : decode cX7_tells 55 = .ok (.if_icmp .eq 8, 3) := by decide +kernel
theorem dX7_tells_58 : decode cX7_tells 58 = .ok (.iload_n 2, 1) := by decide +kernel
theorem dX7_tells_59 : decode cX7_tells 59 = .ok (.iconst 5, 1) := by decide +kernel
theorem dX7_tells_60 : decode cX7_tells 60 = .ok (.if_icmp .ne 7, 3) := by decide +kernel
theorem dX7_tells_63 : decode cX7_tells 63 = .ok (.iconst 1, 1) := by decide +kernel
theorem dX7_tells_64 : decode cX7_tells 64 = .ok (.goto 4, 3) := by decide +kernel
theorem dX7_tells_67 : decode cX7_tells 67 = .ok (.iconst 2, 1) := by decide +kernel
theorem dX7_tells_68 : decode cX7_tells 68 = .ok (.ireturn, 1) := by decide +kernel
theorem dX7_seenSet_0 : decode cX7_seenSet 0 = .ok (.aload_n 0, 1) := by decide +kernel
theorem dX7_seenSet_1 : decode cX7_seenSet 1 = .ok (.invokevirtual 154, 3) := by decide +kernel
theorem dX7_seenSet_4 : decode cX7_seenSet 4 = .ok (.iconst 0, 1) := by decide +kernel
theorem dX7_seenSet_5 : decode cX7_seenSet 5 = .ok (.istore_n 1, 1) := by decide +kernel
theorem dX7_seenSet_6 : decode cX7_seenSet 6 = .ok (.iconst 0, 1) := by decide +kernel
theorem dX7_seenSet_7 : decode cX7_seenSet 7 = .ok (.istore_n 2, 1) := by decide +kernel
theorem dX7_seenSet_8 : decode cX7_seenSet 8 = .ok (.iload_n 2, 1) := by decide +kernel
theorem dX7_seenSet_9 : decode cX7_seenSet 9 = .ok (.aload_n 0, 1) := by decide +kernel
theorem dX7_seenSet_10 : decode cX7_seenSet 10 = .ok (.getfield 147, 3) := by decide +kernel
theorem dX7_seenSet_13 : decode cX7_seenSet 13 = .ok (.if_icmp .ge 30, 3) := by decide +kernel
theorem dX7_seenSet_16 : decode cX7_seenSet 16 = .ok (.aload_n 0, 1) := by decide +kernel
theorem dX7_seenSet_17 : decode cX7_seenSet 17 = .ok (.iload_n 2, 1) := by decide +kernel
theorem dX7_seenSet_18 : decode cX7_seenSet 18 = .ok (.invokevirtual 157, 3) := by decide +kernel
theorem dX7_seenSet_21 : decode cX7_seenSet 21 = .ok (.istore_n 3, 1) := by decide +kernel
theorem dX7_seenSet_22 : decode cX7_seenSet 22 = .ok (.iload_n 1, 1) := by decide +kernel
theorem dX7_seenSet_23 : decode cX7_seenSet 23 = .ok (.iload_n 3, 1) := by decide +kernel
theorem dX7_seenSet_24 : decode cX7_seenSet 24 = .ok (.iconst (-1), 1) := by decide +kernel
theorem dX7_seenSet_25 : decode cX7_seenSet 25 = .ok (.if_icmp .ne 7, 3) := by decide +kernel
theorem dX7_seenSet_28 : decode cX7_seenSet 28 = .ok (.iconst 0, 1) := by decide +kernel
theorem dX7_seenSet_29 : decode cX7_seenSet 29 = .ok (.goto 6, 3) := by decide +kernel
theorem dX7_seenSet_32 : decode cX7_seenSet 32 = .ok (.iconst 1, 1) := by decide +kernel
theorem dX7_seenSet_33 : decode cX7_seenSet 33 = .ok (.iload_n 3, 1) := by decide +kernel
theorem dX7_seenSet_34 : decode cX7_seenSet 34 = .ok (.ishl, 1) := by decide +kernel
theorem dX7_seenSet_35 : decode cX7_seenSet 35 = .ok (.ior, 1) := by decide +kernel
theorem dX7_seenSet_36 : decode cX7_seenSet 36 = .ok (.istore_n 1, 1) := by decide +kernel
theorem dX7_seenSet_37 : decode cX7_seenSet 37 = .ok (.iinc 2 1, 3) := by decide +kernel
theorem dX7_seenSet_40 : decode cX7_seenSet 40 = .ok (.goto (-32), 3) := by decide +kernel
theorem dX7_seenSet_43 : decode cX7_seenSet 43 = .ok (.iload_n 1, 1) := by decide +kernel
theorem dX7_seenSet_44 : decode cX7_seenSet 44 = .ok (.ireturn, 1) := by decide +kernel
theorem dX7_bits_0 : decode cX7_bits 0 = .ok (.iload_n 0, 1) := by decide +kernel
theorem dX7_bits_1 : decode cX7_bits 1 = .ok (.iconst 1, 1) := by decide +kernel
theorem dX7_bits_2 : decode cX7_bits 2 = .ok (.iand, 1) := by decide +kernel
theorem dX7_bits_3 : decode cX7_bits 3 = .ok (.iload_n 0, 1) := by decide +kernel
theorem dX7_bits_4 : decode cX7_bits 4 = .ok (.iconst 1, 1) := by decide +kernel
theorem dX7_bits_5 : decode cX7_bits 5 = .ok (.ishr, 1) := by decide +kernel
theorem dX7_bits_6 : decode cX7_bits 6 = .ok (.iconst 1, 1) := by decide +kernel
theorem dX7_bits_7 : decode cX7_bits 7 = .ok (.iand, 1) := by decide +kernel
theorem dX7_bits_8 : decode cX7_bits 8 = .ok (.iadd, 1) := by decide +kernel
theorem dX7_bits_9 : decode cX7_bits 9 = .ok (.iload_n 0, 1) := by decide +kernel
theorem dX7_bits_10 : decode cX7_bits 10 = .ok (.iconst 2, 1) := by decide +kernel
theorem dX7_bits_11 : decode cX7_bits 11 = .ok (.ishr, 1) := by decide +kernel
theorem dX7_bits_12 : decode cX7_bits 12 = .ok (.iconst 1, 1) := by decide +kernel
theorem dX7_bits_13 : decode cX7_bits 13 = .ok (.iand, 1) := by decide +kernel
theorem dX7_bits_14 : decode cX7_bits 14 = .ok (.iadd, 1) := by decide +kernel
theorem dX7_bits_15 : decode cX7_bits 15 = .ok (.ireturn, 1) := by decide +kernel
theorem dX7_ticksOf_0 : decode cX7_ticksOf 0 = .ok (.iconst 0, 1) := by decide +kernel
theorem dX7_ticksOf_1 : decode cX7_ticksOf 1 = .ok (.istore_n 2, 1) := by decide +kernel
theorem dX7_ticksOf_2 : decode cX7_ticksOf 2 = .ok (.iconst 0, 1) := by decide +kernel
theorem dX7_ticksOf_3 : decode cX7_ticksOf 3 = .ok (.istore_n 3, 1) := by decide +kernel
theorem dX7_ticksOf_4 : decode cX7_ticksOf 4 = .ok (.iload_n 3, 1) := by decide +kernel
theorem dX7_ticksOf_5 : decode cX7_ticksOf 5 = .ok (.aload_n 0, 1) := by decide +kernel
theorem dX7_ticksOf_6 : decode cX7_ticksOf 6 = .ok (.getfield 13, 3) := by decide +kernel
theorem dX7_ticksOf_9 : decode cX7_ticksOf 9 = .ok (.iconst 0, 1) := by decide +kernel
theorem dX7_ticksOf_10 : decode cX7_ticksOf 10 = .ok (.iaload, 1) := by decide +kernel
theorem dX7_ticksOf_11 : decode cX7_ticksOf 11 = .ok (.if_icmp .ge 26, 3) := by decide +kernel
theorem dX7_ticksOf_14 : decode cX7_ticksOf 14 = .ok (.iload_n 2, 1) := by decide +kernel
theorem dX7_ticksOf_15 : decode cX7_ticksOf 15 = .ok (.aload_n 0, 1) := by decide +kernel
theorem dX7_ticksOf_16 : decode cX7_ticksOf 16 = .ok (.iload_n 3, 1) := by decide +kernel
theorem dX7_ticksOf_17 : decode cX7_ticksOf 17 = .ok (.invokevirtual 150, 3) := by decide +kernel
theorem dX7_ticksOf_20 : decode cX7_ticksOf 20 = .ok (.iload_n 1, 1) := by decide +kernel
theorem dX7_ticksOf_21 : decode cX7_ticksOf 21 = .ok (.if_icmp .ne 7, 3) := by decide +kernel
theorem dX7_ticksOf_24 : decode cX7_ticksOf 24 = .ok (.iconst 1, 1) := by decide +kernel
theorem dX7_ticksOf_25 : decode cX7_ticksOf 25 = .ok (.goto 4, 3) := by decide +kernel
theorem dX7_ticksOf_28 : decode cX7_ticksOf 28 = .ok (.iconst 0, 1) := by decide +kernel
theorem dX7_ticksOf_29 : decode cX7_ticksOf 29 = .ok (.iadd, 1) := by decide +kernel
theorem dX7_ticksOf_30 : decode cX7_ticksOf 30 = .ok (.istore_n 2, 1) := by decide +kernel
theorem dX7_ticksOf_31 : decode cX7_ticksOf 31 = .ok (.iinc 3 1, 3) := by decide +kernel
theorem dX7_ticksOf_34 : decode cX7_ticksOf 34 = .ok (.goto (-30), 3) := by decide +kernel
theorem dX7_ticksOf_37 : decode cX7_ticksOf 37 = .ok (.iload_n 2, 1) := by decide +kernel
theorem dX7_ticksOf_38 : decode cX7_ticksOf 38 = .ok (.ireturn, 1) := by decide +kernel
theorem dX7_plansBy_0 : decode cX7_plansBy 0 = .ok (.aload_n 0, 1) := by decide +kernel
theorem dX7_plansBy_1 : decode cX7_plansBy 1 = .ok (.invokevirtual 117, 3) := by decide +kernel
theorem dX7_plansBy_4 : decode cX7_plansBy 4 = .ok (.iload_n 1, 1) := by decide +kernel
theorem dX7_plansBy_5 : decode cX7_plansBy 5 = .ok (.tableswitch 62 0 3 #[31, 36, 49, 55], 31) := by decide +kernel
theorem dX7_plansBy_36 : decode cX7_plansBy 36 = .ok (.aload_n 0, 1) := by decide +kernel
theorem dX7_plansBy_37 : decode cX7_plansBy 37 = .ok (.getfield 120, 3) := by decide +kernel
theorem dX7_plansBy_40 : decode cX7_plansBy 40 = .ok (.ireturn, 1) := by decide +kernel
theorem dX7_plansBy_41 : decode cX7_plansBy 41 = .ok (.aload_n 0, 1) := by decide +kernel
theorem dX7_plansBy_42 : decode cX7_plansBy 42 = .ok (.getfield 130, 3) := by decide +kernel
theorem dX7_plansBy_45 : decode cX7_plansBy 45 = .ok (.ifCond .eq 7, 3) := by decide +kernel
theorem dX7_plansBy_48 : decode cX7_plansBy 48 = .ok (.iconst 1, 1) := by decide +kernel
theorem dX7_plansBy_49 : decode cX7_plansBy 49 = .ok (.goto 4, 3) := by decide +kernel
theorem dX7_plansBy_52 : decode cX7_plansBy 52 = .ok (.iconst 0, 1) := by decide +kernel
theorem dX7_plansBy_53 : decode cX7_plansBy 53 = .ok (.ireturn, 1) := by decide +kernel
theorem dX7_plansBy_54 : decode cX7_plansBy 54 = .ok (.aload_n 0, 1) := by decide +kernel
theorem dX7_plansBy_55 : decode cX7_plansBy 55 = .ok (.iconst 0, 1) := by decide +kernel
theorem dX7_plansBy_56 : decode cX7_plansBy 56 = .ok (.invokevirtual 160, 3) := by decide +kernel
theorem dX7_plansBy_59 : decode cX7_plansBy 59 = .ok (.ireturn, 1) := by decide +kernel
theorem dX7_plansBy_60 : decode cX7_plansBy 60 = .ok (.aload_n 0, 1) := by decide +kernel
theorem dX7_plansBy_61 : decode cX7_plansBy 61 = .ok (.bipush 7, 2) := by decide +kernel
theorem dX7_plansBy_63 : decode cX7_plansBy 63 = .ok (.invokevirtual 160, 3) := by decide +kernel
theorem dX7_plansBy_66 : decode cX7_plansBy 66 = .ok (.ireturn, 1) := by decide +kernel
theorem dX7_plansBy_67 : decode cX7_plansBy 67 = .ok (.aload_n 0, 1) := by decide +kernel
theorem dX7_plansBy_68 : decode cX7_plansBy 68 = .ok (.invokevirtual 154, 3) := by decide +kernel
theorem dX7_plansBy_71 : decode cX7_plansBy 71 = .ok (.aload_n 0, 1) := by decide +kernel
theorem dX7_plansBy_72 : decode cX7_plansBy 72 = .ok (.getfield 147, 3) := by decide +kernel
theorem dX7_plansBy_75 : decode cX7_plansBy 75 = .ok (.ireturn, 1) := by decide +kernel
theorem dX7_plan_0 : decode cX7_plan 0 = .ok (.iload_n 1, 1) := by decide +kernel
theorem dX7_plan_1 : decode cX7_plan 1 = .ok (.iconst 0, 1) := by decide +kernel
theorem dX7_plan_2 : decode cX7_plan 2 = .ok (.iconst 4, 1) := by decide +kernel
theorem dX7_plan_3 : decode cX7_plan 3 = .ok (.invokestatic 86, 3) := by decide +kernel
theorem dX7_plan_6 : decode cX7_plan 6 = .ok (.ifCond .eq 11, 3) := by decide +kernel
theorem dX7_plan_9 : decode cX7_plan 9 = .ok (.aload_n 0, 1) := by decide +kernel
theorem dX7_plan_10 : decode cX7_plan 10 = .ok (.iload_n 1, 1) := by decide +kernel
theorem dX7_plan_11 : decode cX7_plan 11 = .ok (.invokevirtual 163, 3) := by decide +kernel
theorem dX7_plan_14 : decode cX7_plan 14 = .ok (.goto 7, 3) := by decide +kernel
theorem dX7_plan_17 : decode cX7_plan 17 = .ok (.aload_n 0, 1) := by decide +kernel
theorem dX7_plan_18 : decode cX7_plan 18 = .ok (.invokevirtual 94, 3) := by decide +kernel
theorem dX7_plan_21 : decode cX7_plan 21 = .ok (.ireturn, 1) := by decide +kernel
theorem dX7_gateMany_0 : decode cX7_gateMany 0 = .ok (.iconst 0, 1) := by decide +kernel
theorem dX7_gateMany_1 : decode cX7_gateMany 1 = .ok (.istore_n 3, 1) := by decide +kernel
theorem dX7_gateMany_2 : decode cX7_gateMany 2 = .ok (.aload_n 0, 1) := by decide +kernel
theorem dX7_gateMany_3 : decode cX7_gateMany 3 = .ok (.getfield 13, 3) := by decide +kernel
theorem dX7_gateMany_6 : decode cX7_gateMany 6 = .ok (.iconst 0, 1) := by decide +kernel
theorem dX7_gateMany_7 : decode cX7_gateMany 7 = .ok (.iaload, 1) := by decide +kernel
theorem dX7_gateMany_8 : decode cX7_gateMany 8 = .ok (.istore 4, 2) := by decide +kernel
theorem dX7_gateMany_10 : decode cX7_gateMany 10 = .ok (.iconst 0, 1) := by decide +kernel
theorem dX7_gateMany_11 : decode cX7_gateMany 11 = .ok (.istore 5, 2) := by decide +kernel
theorem dX7_gateMany_13 : decode cX7_gateMany 13 = .ok (.iload 5, 2) := by decide +kernel
theorem dX7_gateMany_15 : decode cX7_gateMany 15 = .ok (.iload 4, 2) := by decide +kernel
theorem dX7_gateMany_17 : decode cX7_gateMany 17 = .ok (.if_icmp .ge 112, 3) := by decide +kernel
theorem dX7_gateMany_20 : decode cX7_gateMany 20 = .ok (.aload_n 0, 1) := by decide +kernel
theorem dX7_gateMany_21 : decode cX7_gateMany 21 = .ok (.iload_n 1, 1) := by decide +kernel
theorem dX7_gateMany_22 : decode cX7_gateMany 22 = .ok (.iload 5, 2) := by decide +kernel
theorem dX7_gateMany_24 : decode cX7_gateMany 24 = .ok (.invokevirtual 166, 3) := by decide +kernel
theorem dX7_gateMany_27 : decode cX7_gateMany 27 = .ok (.istore 6, 2) := by decide +kernel
theorem dX7_gateMany_29 : decode cX7_gateMany 29 = .ok (.aload_n 0, 1) := by decide +kernel
theorem dX7_gateMany_30 : decode cX7_gateMany 30 = .ok (.iload_n 1, 1) := by decide +kernel
theorem dX7_gateMany_31 : decode cX7_gateMany 31 = .ok (.iload 5, 2) := by decide +kernel
theorem dX7_gateMany_33 : decode cX7_gateMany 33 = .ok (.invokevirtual 169, 3) := by decide +kernel
theorem dX7_gateMany_36 : decode cX7_gateMany 36 = .ok (.istore 7, 2) := by decide +kernel
theorem dX7_gateMany_38 : decode cX7_gateMany 38 = .ok (.iload_n 2, 1) := by decide +kernel
theorem dX7_gateMany_39 : decode cX7_gateMany 39 = .ok (.ifCond .ne 8, 3) := by decide +kernel
theorem dX7_gateMany_42 : decode cX7_gateMany 42 = .ok (.iload 6, 2) := by decide +kernel
theorem dX7_gateMany_44 : decode cX7_gateMany 44 = .ok (.goto 64, 3) := by decide +kernel
theorem dX7_gateMany_47 : decode cX7_gateMany 47 = .ok (.iload_n 2, 1) := by decide +kernel
theorem dX7_gateMany_48 : decode cX7_gateMany 48 = .ok (.iconst 1, 1) := by decide +kernel
theorem dX7_gateMany_49 : decode cX7_gateMany 49 = .ok (.if_icmp .ne 8, 3) := by decide +kernel
theorem dX7_gateMany_52 : decode cX7_gateMany 52 = .ok (.iload 7, 2) := by decide +kernel
theorem dX7_gateMany_54 : decode cX7_gateMany 54 = .ok (.goto 54, 3) := by decide +kernel
theorem dX7_gateMany_57 : decode cX7_gateMany 57 = .ok (.iload_n 2, 1) := by decide +kernel
theorem dX7_gateMany_58 : decode cX7_gateMany 58 = .ok (.iconst 2, 1) := by decide +kernel
theorem dX7_gateMany_59 : decode cX7_gateMany 59 = .ok (.if_icmp .ne 21, 3) := by decide +kernel
theorem dX7_gateMany_62 : decode cX7_gateMany 62 = .ok (.iload 6, 2) := by decide +kernel
theorem dX7_gateMany_64 : decode cX7_gateMany 64 = .ok (.ifCond .ne 12, 3) := by decide +kernel
theorem dX7_gateMany_67 : decode cX7_gateMany 67 = .ok (.iload 7, 2) := by decide +kernel
theorem dX7_gateMany_69 : decode cX7_gateMany 69 = .ok (.ifCond .ne 7, 3) := by decide +kernel
theorem dX7_gateMany_72 : decode cX7_gateMany 72 = .ok (.iconst 1, 1) := by decide +kernel
theorem dX7_gateMany_73 : decode cX7_gateMany 73 = .ok (.goto 35, 3) := by decide +kernel
theorem dX7_gateMany_76 : decode cX7_gateMany 76 = .ok (.iconst 0, 1) := by decide +kernel
theorem dX7_gateMany_77 : decode cX7_gateMany 77 = .ok (.goto 31, 3) := by decide +kernel
theorem dX7_gateMany_80 : decode cX7_gateMany 80 = .ok (.iload 6, 2) := by decide +kernel
theorem dX7_gateMany_82 : decode cX7_gateMany 82 = .ok (.ifCond .eq 25, 3) := by decide +kernel
theorem dX7_gateMany_85 : decode cX7_gateMany 85 = .ok (.aload_n 0, 1) := by decide +kernel
theorem dX7_gateMany_86 : decode cX7_gateMany 86 = .ok (.iload_n 1, 1) := by decide +kernel
theorem dX7_gateMany_87 : decode cX7_gateMany 87 = .ok (.iload 5, 2) := by decide +kernel
theorem dX7_gateMany_89 : decode cX7_gateMany 89 = .ok (.iload 4, 2) := by decide +kernel
theorem dX7_gateMany_91 : decode cX7_gateMany 91 = .ok (.iadd, 1) := by decide +kernel
theorem dX7_gateMany_92 : decode cX7_gateMany 92 = .ok (.iconst 1, 1) := by decide +kernel
theorem dX7_gateMany_93 : decode cX7_gateMany 93 = .ok (.isub, 1) := by decide +kernel
theorem dX7_gateMany_94 : decode cX7_gateMany 94 = .ok (.iload 4, 2) := by decide +kernel
theorem dX7_gateMany_96 : decode cX7_gateMany 96 = .ok (.irem, 1) := by decide +kernel
theorem dX7_gateMany_97 : decode cX7_gateMany 97 = .ok (.invokevirtual 166, 3) := by decide +kernel
theorem dX7_gateMany_100 : decode cX7_gateMany 100 = .ok (.ifCond .ne 7, 3) := by decide +kernel
theorem dX7_gateMany_103 : decode cX7_gateMany 103 = .ok (.iconst 1, 1) := by decide +kernel
theorem dX7_gateMany_104 : decode cX7_gateMany 104 = .ok (.goto 4, 3) := by decide +kernel
theorem dX7_gateMany_107 : decode cX7_gateMany 107 = .ok (.iconst 0, 1) := by decide +kernel
theorem dX7_gateMany_108 : decode cX7_gateMany 108 = .ok (.istore 8, 2) := by decide +kernel
theorem dX7_gateMany_110 : decode cX7_gateMany 110 = .ok (.iload_n 3, 1) := by decide +kernel
theorem dX7_gateMany_111 : decode cX7_gateMany 111 = .ok (.iload 8, 2) := by decide +kernel
theorem dX7_gateMany_113 : decode cX7_gateMany 113 = .ok (.ifCond .eq 7, 3) := by decide +kernel
theorem dX7_gateMany_116 : decode cX7_gateMany 116 = .ok (.iconst 1, 1) := by decide +kernel
theorem dX7_gateMany_117 : decode cX7_gateMany 117 = .ok (.goto 4, 3) := by decide +kernel
theorem dX7_gateMany_120 : decode cX7_gateMany 120 = .ok (.iconst 0, 1) := by decide +kernel
theorem dX7_gateMany_121 : decode cX7_gateMany 121 = .ok (.iadd, 1) := by decide +kernel
theorem dX7_gateMany_122 : decode cX7_gateMany 122 = .ok (.istore_n 3, 1) := by decide +kernel
theorem dX7_gateMany_123 : decode cX7_gateMany 123 = .ok (.iinc 5 1, 3) := by decide +kernel
theorem dX7_gateMany_126 : decode cX7_gateMany 126 = .ok (.goto (-113), 3) := by decide +kernel
theorem dX7_gateMany_129 : decode cX7_gateMany 129 = .ok (.iload_n 3, 1) := by decide +kernel
theorem dX7_gateMany_130 : decode cX7_gateMany 130 = .ok (.ireturn, 1) := by decide +kernel
theorem dX7_ofBy_0 : decode cX7_ofBy 0 = .ok (.aload_n 0, 1) := by decide +kernel
theorem dX7_ofBy_1 : decode cX7_ofBy 1 = .ok (.invokevirtual 117, 3) := by decide +kernel
theorem dX7_ofBy_4 : decode cX7_ofBy 4 = .ok (.iload_n 2, 1) := by decide +kernel
theorem dX7_ofBy_5 : decode cX7_ofBy 5 = .ok (.ifCond .ne 12, 3) := by decide +kernel
theorem dX7_ofBy_8 : decode cX7_ofBy 8 = .ok (.aload_n 0, 1) := by decide +kernel
theorem dX7_ofBy_9 : decode cX7_ofBy 9 = .ok (.getfield 43, 3) := by decide +kernel
theorem dX7_ofBy_12 : decode cX7_ofBy 12 = .ok (.iload_n 1, 1) := by decide +kernel
theorem dX7_ofBy_13 : decode cX7_ofBy 13 = .ok (.iaload, 1) := by decide +kernel
theorem dX7_ofBy_14 : decode cX7_ofBy 14 = .ok (.goto 38, 3) := by decide +kernel
theorem dX7_ofBy_17 : decode cX7_ofBy 17 = .ok (.iload_n 2, 1) := by decide +kernel
theorem dX7_ofBy_18 : decode cX7_ofBy 18 = .ok (.iconst 1, 1) := by decide +kernel
theorem dX7_ofBy_19 : decode cX7_ofBy 19 = .ok (.if_icmp .ne 12, 3) := by decide +kernel
theorem dX7_ofBy_22 : decode cX7_ofBy 22 = .ok (.aload_n 0, 1) := by decide +kernel
theorem dX7_ofBy_23 : decode cX7_ofBy 23 = .ok (.getfield 46, 3) := by decide +kernel
theorem dX7_ofBy_26 : decode cX7_ofBy 26 = .ok (.iload_n 1, 1) := by decide +kernel
theorem dX7_ofBy_27 : decode cX7_ofBy 27 = .ok (.iaload, 1) := by decide +kernel
theorem dX7_ofBy_28 : decode cX7_ofBy 28 = .ok (.goto 24, 3) := by decide +kernel
theorem dX7_ofBy_31 : decode cX7_ofBy 31 = .ok (.iload_n 2, 1) := by decide +kernel
theorem dX7_ofBy_32 : decode cX7_ofBy 32 = .ok (.iconst 2, 1) := by decide +kernel
theorem dX7_ofBy_33 : decode cX7_ofBy 33 = .ok (.if_icmp .ne 11, 3) := by decide +kernel
theorem dX7_ofBy_36 : decode cX7_ofBy 36 = .ok (.aload_n 0, 1) := by decide +kernel
theorem dX7_ofBy_37 : decode cX7_ofBy 37 = .ok (.iload_n 1, 1) := by decide +kernel
theorem dX7_ofBy_38 : decode cX7_ofBy 38 = .ok (.invokevirtual 172, 3) := by decide +kernel
theorem dX7_ofBy_41 : decode cX7_ofBy 41 = .ok (.goto 11, 3) := by decide +kernel
theorem dX7_ofBy_44 : decode cX7_ofBy 44 = .ok (.aload_n 0, 1) := by decide +kernel
theorem dX7_ofBy_45 : decode cX7_ofBy 45 = .ok (.iload_n 1, 1) := by decide +kernel
theorem dX7_ofBy_46 : decode cX7_ofBy 46 = .ok (.iload_n 2, 1) := by decide +kernel
theorem dX7_ofBy_47 : decode cX7_ofBy 47 = .ok (.iconst 3, 1) := by decide +kernel
theorem dX7_ofBy_48 : decode cX7_ofBy 48 = .ok (.isub, 1) := by decide +kernel
theorem dX7_ofBy_49 : decode cX7_ofBy 49 = .ok (.invokevirtual 175, 3) := by decide +kernel
theorem dX7_ofBy_52 : decode cX7_ofBy 52 = .ok (.ireturn, 1) := by decide +kernel
theorem dX7_of_0 : decode cX7_of 0 = .ok (.iload_n 1, 1) := by decide +kernel
theorem dX7_of_1 : decode cX7_of 1 = .ok (.invokestatic 98, 3) := by decide +kernel
theorem dX7_of_4 : decode cX7_of 4 = .ok (.ifCond .eq 22, 3) := by decide +kernel
theorem dX7_of_7 : decode cX7_of 7 = .ok (.iload_n 2, 1) := by decide +kernel
theorem dX7_of_8 : decode cX7_of 8 = .ok (.iconst 0, 1) := by decide +kernel
theorem dX7_of_9 : decode cX7_of 9 = .ok (.bipush 6, 2) := by decide +kernel
theorem dX7_of_11 : decode cX7_of 11 = .ok (.invokestatic 86, 3) := by decide +kernel
theorem dX7_of_14 : decode cX7_of 14 = .ok (.ifCond .eq 12, 3) := by decide +kernel
theorem dX7_of_17 : decode cX7_of 17 = .ok (.aload_n 0, 1) := by decide +kernel
theorem dX7_of_18 : decode cX7_of 18 = .ok (.iload_n 1, 1) := by decide +kernel
theorem dX7_of_19 : decode cX7_of 19 = .ok (.iload_n 2, 1) := by decide +kernel
theorem dX7_of_20 : decode cX7_of 20 = .ok (.invokevirtual 178, 3) := by decide +kernel
theorem dX7_of_23 : decode cX7_of 23 = .ok (.goto 7, 3) := by decide +kernel
theorem dX7_of_26 : decode cX7_of 26 = .ok (.aload_n 0, 1) := by decide +kernel
theorem dX7_of_27 : decode cX7_of 27 = .ok (.invokevirtual 94, 3) := by decide +kernel
theorem dX7_of_30 : decode cX7_of 30 = .ok (.ireturn, 1) := by decide +kernel
theorem dX7_at_0 : decode cX7_at 0 = .ok (.iload_n 1, 1) := by decide +kernel
theorem dX7_at_1 : decode cX7_at 1 = .ok (.invokestatic 98, 3) := by decide +kernel
theorem dX7_at_4 : decode cX7_at 4 = .ok (.ifCond .eq 28, 3) := by decide +kernel
theorem dX7_at_7 : decode cX7_at 7 = .ok (.iload_n 2, 1) := by decide +kernel
theorem dX7_at_8 : decode cX7_at 8 = .ok (.iconst 0, 1) := by decide +kernel
theorem dX7_at_9 : decode cX7_at 9 = .ok (.aload_n 0, 1) := by decide +kernel
theorem dX7_at_10 : decode cX7_at 10 = .ok (.getfield 13, 3) := by decide +kernel
theorem dX7_at_13 : decode cX7_at 13 = .ok (.iconst 0, 1) := by decide +kernel
theorem dX7_at_14 : decode cX7_at 14 = .ok (.iaload, 1) := by decide +kernel
theorem dX7_at_15 : decode cX7_at 15 = .ok (.iconst 1, 1) := by decide +kernel
theorem dX7_at_16 : decode cX7_at 16 = .ok (.isub, 1) := by decide +kernel
theorem dX7_at_17 : decode cX7_at 17 = .ok (.invokestatic 86, 3) := by decide +kernel
theorem dX7_at_20 : decode cX7_at 20 = .ok (.ifCond .eq 12, 3) := by decide +kernel
theorem dX7_at_23 : decode cX7_at 23 = .ok (.iload_n 3, 1) := by decide +kernel
theorem dX7_at_24 : decode cX7_at 24 = .ok (.iconst 0, 1) := by decide +kernel
theorem dX7_at_25 : decode cX7_at 25 = .ok (.iconst 3, 1) := by decide +kernel
theorem dX7_at_26 : decode cX7_at 26 = .ok (.invokestatic 86, 3) := by decide +kernel
theorem dX7_at_29 : decode cX7_at 29 = .ok (.ifCond .ne 8, 3) := by decide +kernel
theorem dX7_at_32 : decode cX7_at 32 = .ok (.aload_n 0, 1) := by decide +kernel
theorem dX7_at_33 : decode cX7_at 33 = .ok (.invokevirtual 94, 3) := by decide +kernel
theorem dX7_at_36 : decode cX7_at 36 = .ok (.ireturn, 1) := by decide +kernel
theorem dX7_at_37 : decode cX7_at 37 = .ok (.aload_n 0, 1) := by decide +kernel
theorem dX7_at_38 : decode cX7_at 38 = .ok (.invokevirtual 117, 3) := by decide +kernel
theorem dX7_at_41 : decode cX7_at 41 = .ok (.iload_n 3, 1) := by decide +kernel
theorem dX7_at_42 : decode cX7_at 42 = .ok (.ifCond .ne 12, 3) := by decide +kernel
theorem dX7_at_45 : decode cX7_at 45 = .ok (.aload_n 0, 1) := by decide +kernel
theorem dX7_at_46 : decode cX7_at 46 = .ok (.iload_n 1, 1) := by decide +kernel
theorem dX7_at_47 : decode cX7_at 47 = .ok (.iload_n 2, 1) := by decide +kernel
theorem dX7_at_48 : decode cX7_at 48 = .ok (.invokevirtual 138, 3) := by decide +kernel
theorem dX7_at_51 : decode cX7_at 51 = .ok (.goto 46, 3) := by decide +kernel
theorem dX7_at_54 : decode cX7_at 54 = .ok (.iload_n 3, 1) := by decide +kernel
theorem dX7_at_55 : decode cX7_at 55 = .ok (.iconst 1, 1) := by decide +kernel
theorem dX7_at_56 : decode cX7_at 56 = .ok (.if_icmp .ne 12, 3) := by decide +kernel
theorem dX7_at_59 : decode cX7_at 59 = .ok (.aload_n 0, 1) := by decide +kernel
theorem dX7_at_60 : decode cX7_at 60 = .ok (.iload_n 1, 1) := by decide +kernel
theorem dX7_at_61 : decode cX7_at 61 = .ok (.iload_n 2, 1) := by decide +kernel
theorem dX7_at_62 : decode cX7_at 62 = .ok (.invokevirtual 166, 3) := by decide +kernel
theorem dX7_at_65 : decode cX7_at 65 = .ok (.goto 32, 3) := by decide +kernel
theorem dX7_at_68 : decode cX7_at 68 = .ok (.iload_n 3, 1) := by decide +kernel
theorem dX7_at_69 : decode cX7_at 69 = .ok (.iconst 2, 1) := by decide +kernel
theorem dX7_at_70 : decode cX7_at 70 = .ok (.if_icmp .ne 12, 3) := by decide +kernel
theorem dX7_at_73 : decode cX7_at 73 = .ok (.aload_n 0, 1) := by decide +kernel
theorem dX7_at_74 : decode cX7_at 74 = .ok (.iload_n 1, 1) := by decide +kernel
theorem dX7_at_75 : decode cX7_at 75 = .ok (.iload_n 2, 1) := by decide +kernel
theorem dX7_at_76 : decode cX7_at 76 = .ok (.invokevirtual 169, 3) := by decide +kernel
theorem dX7_at_79 : decode cX7_at 79 = .ok (.goto 18, 3) := by decide +kernel
theorem dX7_at_82 : decode cX7_at 82 = .ok (.aload_n 0, 1) := by decide +kernel
theorem dX7_at_83 : decode cX7_at 83 = .ok (.iload_n 1, 1) := by decide +kernel
theorem dX7_at_84 : decode cX7_at 84 = .ok (.iload_n 2, 1) := by decide +kernel
theorem dX7_at_85 : decode cX7_at 85 = .ok (.invokevirtual 144, 3) := by decide +kernel
theorem dX7_at_88 : decode cX7_at 88 = .ok (.iconst 1, 1) := by decide +kernel
theorem dX7_at_89 : decode cX7_at 89 = .ok (.if_icmp .ne 7, 3) := by decide +kernel
theorem dX7_at_92 : decode cX7_at 92 = .ok (.iconst 1, 1) := by decide +kernel
theorem dX7_at_93 : decode cX7_at 93 = .ok (.goto 4, 3) := by decide +kernel
theorem dX7_at_96 : decode cX7_at 96 = .ok (.iconst 0, 1) := by decide +kernel
theorem dX7_at_97 : decode cX7_at 97 = .ok (.istore 4, 2) := by decide +kernel
theorem dX7_at_99 : decode cX7_at 99 = .ok (.iload 4, 2) := by decide +kernel
theorem dX7_at_101 : decode cX7_at 101 = .ok (.ifCond .eq 7, 3) := by decide +kernel
theorem dX7_at_104 : decode cX7_at 104 = .ok (.iconst 1, 1) := by decide +kernel
theorem dX7_at_105 : decode cX7_at 105 = .ok (.goto 4, 3) := by decide +kernel
theorem dX7_at_108 : decode cX7_at 108 = .ok (.iconst 0, 1) := by decide +kernel
theorem dX7_at_109 : decode cX7_at 109 = .ok (.ireturn, 1) := by decide +kernel
theorem dX7_run_0 : decode cX7_run 0 = .ok (.iload_n 1, 1) := by decide +kernel
theorem dX7_run_1 : decode cX7_run 1 = .ok (.ifCond .lt 12, 3) := by decide +kernel
theorem dX7_run_4 : decode cX7_run 4 = .ok (.iload_n 2, 1) := by decide +kernel
theorem dX7_run_5 : decode cX7_run 5 = .ok (.iconst 0, 1) := by decide +kernel
theorem dX7_run_6 : decode cX7_run 6 = .ok (.iconst 3, 1) := by decide +kernel
theorem dX7_run_7 : decode cX7_run 7 = .ok (.invokestatic 86, 3) := by decide +kernel
theorem dX7_run_10 : decode cX7_run 10 = .ok (.ifCond .ne 8, 3) := by decide +kernel
theorem dX7_run_13 : decode cX7_run 13 = .ok (.aload_n 0, 1) := by decide +kernel
theorem dX7_run_14 : decode cX7_run 14 = .ok (.invokevirtual 94, 3) := by decide +kernel
theorem dX7_run_17 : decode cX7_run 17 = .ok (.ireturn, 1) := by decide +kernel
theorem dX7_run_18 : decode cX7_run 18 = .ok (.aload_n 0, 1) := by decide +kernel
theorem dX7_run_19 : decode cX7_run 19 = .ok (.invokevirtual 117, 3) := by decide +kernel
theorem dX7_run_22 : decode cX7_run 22 = .ok (.aload_n 0, 1) := by decide +kernel
theorem dX7_run_23 : decode cX7_run 23 = .ok (.invokevirtual 154, 3) := by decide +kernel
theorem dX7_run_26 : decode cX7_run 26 = .ok (.iload_n 1, 1) := by decide +kernel
theorem dX7_run_27 : decode cX7_run 27 = .ok (.aload_n 0, 1) := by decide +kernel
theorem dX7_run_28 : decode cX7_run 28 = .ok (.getfield 147, 3) := by decide +kernel
theorem dX7_run_31 : decode cX7_run 31 = .ok (.if_icmp .lt 5, 3) := by decide +kernel
theorem dX7_run_34 : decode cX7_run 34 = .ok (.iconst (-1), 1) := by decide +kernel
theorem dX7_run_35 : decode cX7_run 35 = .ok (.ireturn, 1) := by decide +kernel
theorem dX7_run_36 : decode cX7_run 36 = .ok (.iload_n 2, 1) := by decide +kernel
theorem dX7_run_37 : decode cX7_run 37 = .ok (.ifCond .ne 12, 3) := by decide +kernel
theorem dX7_run_40 : decode cX7_run 40 = .ok (.aload_n 0, 1) := by decide +kernel
theorem dX7_run_41 : decode cX7_run 41 = .ok (.getfield 52, 3) := by decide +kernel
theorem dX7_run_44 : decode cX7_run 44 = .ok (.iload_n 1, 1) := by decide +kernel
theorem dX7_run_45 : decode cX7_run 45 = .ok (.iaload, 1) := by decide +kernel
theorem dX7_run_46 : decode cX7_run 46 = .ok (.goto 40, 3) := by decide +kernel
theorem dX7_run_49 : decode cX7_run 49 = .ok (.iload_n 2, 1) := by decide +kernel
theorem dX7_run_50 : decode cX7_run 50 = .ok (.iconst 1, 1) := by decide +kernel
theorem dX7_run_51 : decode cX7_run 51 = .ok (.if_icmp .ne 12, 3) := by decide +kernel
theorem dX7_run_54 : decode cX7_run 54 = .ok (.aload_n 0, 1) := by decide +kernel
theorem dX7_run_55 : decode cX7_run 55 = .ok (.getfield 55, 3) := by decide +kernel
theorem dX7_run_58 : decode cX7_run 58 = .ok (.iload_n 1, 1) := by decide +kernel
theorem dX7_run_59 : decode cX7_run 59 = .ok (.iaload, 1) := by decide +kernel
theorem dX7_run_60 : decode cX7_run 60 = .ok (.goto 26, 3) := by decide +kernel
theorem dX7_run_63 : decode cX7_run 63 = .ok (.iload_n 2, 1) := by decide +kernel
theorem dX7_run_64 : decode cX7_run 64 = .ok (.iconst 2, 1) := by decide +kernel
theorem dX7_run_65 : decode cX7_run 65 = .ok (.if_icmp .ne 16, 3) := by decide +kernel
theorem dX7_run_68 : decode cX7_run 68 = .ok (.aload_n 0, 1) := by decide +kernel
theorem dX7_run_69 : decode cX7_run 69 = .ok (.aload_n 0, 1) := by decide +kernel
theorem dX7_run_70 : decode cX7_run 70 = .ok (.getfield 52, 3) := by decide +kernel
theorem dX7_run_73 : decode cX7_run 73 = .ok (.iload_n 1, 1) := by decide +kernel
theorem dX7_run_74 : decode cX7_run 74 = .ok (.iaload, 1) := by decide +kernel
theorem dX7_run_75 : decode cX7_run 75 = .ok (.invokevirtual 150, 3) := by decide +kernel
theorem dX7_run_78 : decode cX7_run 78 = .ok (.goto 8, 3) := by decide +kernel
theorem dX7_run_81 : decode cX7_run 81 = .ok (.aload_n 0, 1) := by decide +kernel
theorem dX7_run_82 : decode cX7_run 82 = .ok (.iload_n 1, 1) := by decide +kernel
theorem dX7_run_83 : decode cX7_run 83 = .ok (.invokevirtual 157, 3) := by decide +kernel
theorem dX7_run_86 : decode cX7_run 86 = .ok (.ireturn, 1) := by decide +kernel
theorem dX7_seen_0 : decode cX7_seen 0 = .ok (.iload_n 1, 1) := by decide +kernel
theorem dX7_seen_1 : decode cX7_seen 1 = .ok (.iconst 0, 1) := by decide +kernel
theorem dX7_seen_2 : decode cX7_seen 2 = .ok (.iconst 1, 1) := by decide +kernel
theorem dX7_seen_3 : decode cX7_seen 3 = .ok (.invokestatic 86, 3) := by decide +kernel
theorem dX7_seen_6 : decode cX7_seen 6 = .ok (.ifCond .ne 8, 3) := by decide +kernel
theorem dX7_seen_9 : decode cX7_seen 9 = .ok (.aload_n 0, 1) := by decide +kernel
theorem dX7_seen_10 : decode cX7_seen 10 = .ok (.invokevirtual 94, 3) := by decide +kernel
theorem dX7_seen_13 : decode cX7_seen 13 = .ok (.ireturn, 1) := by decide +kernel
theorem dX7_seen_14 : decode cX7_seen 14 = .ok (.aload_n 0, 1) := by decide +kernel
theorem dX7_seen_15 : decode cX7_seen 15 = .ok (.invokevirtual 117, 3) := by decide +kernel
theorem dX7_seen_18 : decode cX7_seen 18 = .ok (.aload_n 0, 1) := by decide +kernel
theorem dX7_seen_19 : decode cX7_seen 19 = .ok (.invokevirtual 181, 3) := by decide +kernel
theorem dX7_seen_22 : decode cX7_seen 22 = .ok (.istore_n 2, 1) := by decide +kernel
theorem dX7_seen_23 : decode cX7_seen 23 = .ok (.iload_n 1, 1) := by decide +kernel
theorem dX7_seen_24 : decode cX7_seen 24 = .ok (.ifCond .ne 7, 3) := by decide +kernel
theorem dX7_seen_27 : decode cX7_seen 27 = .ok (.iload_n 2, 1) := by decide +kernel
theorem dX7_seen_28 : decode cX7_seen 28 = .ok (.goto 7, 3) := by decide +kernel
theorem dX7_seen_31 : decode cX7_seen 31 = .ok (.iload_n 2, 1) := by decide +kernel
theorem dX7_seen_32 : decode cX7_seen 32 = .ok (.invokestatic 184, 3) := by decide +kernel
theorem dX7_seen_35 : decode cX7_seen 35 = .ok (.ireturn, 1) := by decide +kernel
theorem dX7_told_0 : decode cX7_told 0 = .ok (.iload_n 1, 1) := by decide +kernel
theorem dX7_told_1 : decode cX7_told 1 = .ok (.invokestatic 98, 3) := by decide +kernel
theorem dX7_told_4 : decode cX7_told 4 = .ok (.ifCond .ne 8, 3) := by decide +kernel
theorem dX7_told_7 : decode cX7_told 7 = .ok (.aload_n 0, 1) := by decide +kernel
theorem dX7_told_8 : decode cX7_told 8 = .ok (.invokevirtual 94, 3) := by decide +kernel
theorem dX7_told_11 : decode cX7_told 11 = .ok (.ireturn, 1) := by decide +kernel
theorem dX7_told_12 : decode cX7_told 12 = .ok (.aload_n 0, 1) := by decide +kernel
theorem dX7_told_13 : decode cX7_told 13 = .ok (.invokevirtual 117, 3) := by decide +kernel
theorem dX7_told_16 : decode cX7_told 16 = .ok (.aload_n 0, 1) := by decide +kernel
theorem dX7_told_17 : decode cX7_told 17 = .ok (.invokevirtual 181, 3) := by decide +kernel
theorem dX7_told_20 : decode cX7_told 20 = .ok (.istore_n 2, 1) := by decide +kernel
theorem dX7_told_21 : decode cX7_told 21 = .ok (.iload_n 2, 1) := by decide +kernel
theorem dX7_told_22 : decode cX7_told 22 = .ok (.iload_n 1, 1) := by decide +kernel
theorem dX7_told_23 : decode cX7_told 23 = .ok (.ishr, 1) := by decide +kernel
theorem dX7_told_24 : decode cX7_told 24 = .ok (.iconst 1, 1) := by decide +kernel
theorem dX7_told_25 : decode cX7_told 25 = .ok (.iand, 1) := by decide +kernel
theorem dX7_told_26 : decode cX7_told 26 = .ok (.iconst 1, 1) := by decide +kernel
theorem dX7_told_27 : decode cX7_told 27 = .ok (.if_icmp .ne 10, 3) := by decide +kernel
theorem dX7_told_30 : decode cX7_told 30 = .ok (.aload_n 0, 1) := by decide +kernel
theorem dX7_told_31 : decode cX7_told 31 = .ok (.getfield 16, 3) := by decide +kernel
theorem dX7_told_34 : decode cX7_told 34 = .ok (.iload_n 1, 1) := by decide +kernel
theorem dX7_told_35 : decode cX7_told 35 = .ok (.iaload, 1) := by decide +kernel
theorem dX7_told_36 : decode cX7_told 36 = .ok (.ireturn, 1) := by decide +kernel
theorem dX7_told_37 : decode cX7_told 37 = .ok (.iload_n 2, 1) := by decide +kernel
theorem dX7_told_38 : decode cX7_told 38 = .ok (.invokestatic 184, 3) := by decide +kernel
theorem dX7_told_41 : decode cX7_told 41 = .ok (.iconst 2, 1) := by decide +kernel
theorem dX7_told_42 : decode cX7_told 42 = .ok (.if_icmp .ne 28, 3) := by decide +kernel
theorem dX7_told_45 : decode cX7_told 45 = .ok (.aload_n 0, 1) := by decide +kernel
theorem dX7_told_46 : decode cX7_told 46 = .ok (.getfield 16, 3) := by decide +kernel
theorem dX7_told_49 : decode cX7_told 49 = .ok (.iload_n 1, 1) := by decide +kernel
theorem dX7_told_50 : decode cX7_told 50 = .ok (.iconst 1, 1) := by decide +kernel
theorem dX7_told_51 : decode cX7_told 51 = .ok (.iadd, 1) := by decide +kernel
theorem dX7_told_52 : decode cX7_told 52 = .ok (.iconst 3, 1) := by decide +kernel
theorem dX7_told_53 : decode cX7_told 53 = .ok (.irem, 1) := by decide +kernel
theorem dX7_told_54 : decode cX7_told 54 = .ok (.iaload, 1) := by decide +kernel
theorem dX7_told_55 : decode cX7_told 55 = .ok (.ineg, 1) := by decide +kernel
theorem dX7_told_56 : decode cX7_told 56 = .ok (.aload_n 0, 1) := by decide +kernel
theorem dX7_told_57 : decode cX7_told 57 = .ok (.getfield 16, 3) := by decide +kernel
theorem dX7_told_60 : decode cX7_told 60 = .ok (.iload_n 1, 1) := by decide +kernel
theorem dX7_told_61 : decode cX7_told 61 = .ok (.iconst 2, 1) := by decide +kernel
theorem dX7_told_62 : decode cX7_told 62 = .ok (.iadd, 1) := by decide +kernel
theorem dX7_told_63 : decode cX7_told 63 = .ok (.iconst 3, 1) := by decide +kernel
theorem dX7_told_64 : decode cX7_told 64 = .ok (.irem, 1) := by decide +kernel
theorem dX7_told_65 : decode cX7_told 65 = .ok (.iaload, 1) := by decide +kernel
theorem dX7_told_66 : decode cX7_told 66 = .ok (.isub, 1) := by decide +kernel
theorem dX7_told_67 : decode cX7_told 67 = .ok (.goto 6, 3) := by decide +kernel
theorem dX7_told_70 : decode cX7_told 70 = .ok (.sipush (-1000), 3) := by decide +kernel
theorem dX7_told_73 : decode cX7_told 73 = .ok (.ireturn, 1) := by decide +kernel
theorem dX7_both_0 : decode cX7_both 0 = .ok (.aload_n 0, 1) := by decide +kernel
theorem dX7_both_1 : decode cX7_both 1 = .ok (.invokevirtual 117, 3) := by decide +kernel
theorem dX7_both_4 : decode cX7_both 4 = .ok (.iconst 0, 1) := by decide +kernel
theorem dX7_both_5 : decode cX7_both 5 = .ok (.istore_n 1, 1) := by decide +kernel
theorem dX7_both_6 : decode cX7_both 6 = .ok (.iconst 0, 1) := by decide +kernel
theorem dX7_both_7 : decode cX7_both 7 = .ok (.istore_n 2, 1) := by decide +kernel
theorem dX7_both_8 : decode cX7_both 8 = .ok (.iload_n 2, 1) := by decide +kernel
theorem dX7_both_9 : decode cX7_both 9 = .ok (.iconst 3, 1) := by decide +kernel
theorem dX7_both_10 : decode cX7_both 10 = .ok (.if_icmp .ge 53, 3) := by decide +kernel
theorem dX7_both_13 : decode cX7_both 13 = .ok (.iconst 0, 1) := by decide +kernel
theorem dX7_both_14 : decode cX7_both 14 = .ok (.istore_n 3, 1) := by decide +kernel
theorem dX7_both_15 : decode cX7_both 15 = .ok (.iload_n 3, 1) := by decide +kernel
theorem dX7_both_16 : decode cX7_both 16 = .ok (.aload_n 0, 1) := by decide +kernel
theorem dX7_both_17 : decode cX7_both 17 = .ok (.getfield 13, 3) := by decide +kernel
theorem dX7_both_20 : decode cX7_both 20 = .ok (.iconst 0, 1) := by decide +kernel
theorem dX7_both_21 : decode cX7_both 21 = .ok (.iaload, 1) := by decide +kernel
theorem dX7_both_22 : decode cX7_both 22 = .ok (.if_icmp .ge 35, 3) := by decide +kernel
theorem dX7_both_25 : decode cX7_both 25 = .ok (.iload_n 1, 1) := by decide +kernel
theorem dX7_both_26 : decode cX7_both 26 = .ok (.aload_n 0, 1) := by decide +kernel
theorem dX7_both_27 : decode cX7_both 27 = .ok (.iload_n 2, 1) := by decide +kernel
theorem dX7_both_28 : decode cX7_both 28 = .ok (.iload_n 3, 1) := by decide +kernel
theorem dX7_both_29 : decode cX7_both 29 = .ok (.invokevirtual 166, 3) := by decide +kernel
theorem dX7_both_32 : decode cX7_both 32 = .ok (.ifCond .eq 16, 3) := by decide +kernel
theorem dX7_both_35 : decode cX7_both 35 = .ok (.aload_n 0, 1) := by decide +kernel
theorem dX7_both_36 : decode cX7_both 36 = .ok (.iload_n 2, 1) := by decide +kernel
theorem dX7_both_37 : decode cX7_both 37 = .ok (.iload_n 3, 1) := by decide +kernel
theorem dX7_both_38 : decode cX7_both 38 = .ok (.invokevirtual 169, 3) := by decide +kernel
theorem dX7_both_41 : decode cX7_both 41 = .ok (.ifCond .eq 7, 3) := by decide +kernel
theorem dX7_both_44 : decode cX7_both 44 = .ok (.iconst 1, 1) := by decide +kernel
theorem dX7_both_45 : decode cX7_both 45 = .ok (.goto 4, 3) := by decide +kernel
theorem dX7_both_48 : decode cX7_both 48 = .ok (.iconst 0, 1) := by decide +kernel
theorem dX7_both_49 : decode cX7_both 49 = .ok (.ior, 1) := by decide +kernel
theorem dX7_both_50 : decode cX7_both 50 = .ok (.istore_n 1, 1) := by decide +kernel
theorem dX7_both_51 : decode cX7_both 51 = .ok (.iinc 3 1, 3) := by decide +kernel
theorem dX7_both_54 : decode cX7_both 54 = .ok (.goto (-39), 3) := by decide +kernel
theorem dX7_both_57 : decode cX7_both 57 = .ok (.iinc 2 1, 3) := by decide +kernel
theorem dX7_both_60 : decode cX7_both 60 = .ok (.goto (-52), 3) := by decide +kernel
theorem dX7_both_63 : decode cX7_both 63 = .ok (.iload_n 1, 1) := by decide +kernel
theorem dX7_both_64 : decode cX7_both 64 = .ok (.ireturn, 1) := by decide +kernel
theorem dX7_off_0 : decode cX7_off 0 = .ok (.iload_n 1, 1) := by decide +kernel
theorem dX7_off_1 : decode cX7_off 1 = .ok (.invokestatic 98, 3) := by decide +kernel
theorem dX7_off_4 : decode cX7_off 4 = .ok (.ifCond .ne 8, 3) := by decide +kernel
theorem dX7_off_7 : decode cX7_off 7 = .ok (.aload_n 0, 1) := by decide +kernel
theorem dX7_off_8 : decode cX7_off 8 = .ok (.invokevirtual 94, 3) := by decide +kernel
theorem dX7_off_11 : decode cX7_off 11 = .ok (.ireturn, 1) := by decide +kernel
theorem dX7_off_12 : decode cX7_off 12 = .ok (.aload_n 0, 1) := by decide +kernel
theorem dX7_off_13 : decode cX7_off 13 = .ok (.invokevirtual 117, 3) := by decide +kernel
theorem dX7_off_16 : decode cX7_off 16 = .ok (.aload_n 0, 1) := by decide +kernel
theorem dX7_off_17 : decode cX7_off 17 = .ok (.iload_n 1, 1) := by decide +kernel
theorem dX7_off_18 : decode cX7_off 18 = .ok (.invokevirtual 172, 3) := by decide +kernel
theorem dX7_off_21 : decode cX7_off 21 = .ok (.aload_n 0, 1) := by decide +kernel
theorem dX7_off_22 : decode cX7_off 22 = .ok (.getfield 40, 3) := by decide +kernel
theorem dX7_off_25 : decode cX7_off 25 = .ok (.iload_n 1, 1) := by decide +kernel
theorem dX7_off_26 : decode cX7_off 26 = .ok (.iaload, 1) := by decide +kernel
theorem dX7_off_27 : decode cX7_off 27 = .ok (.isub, 1) := by decide +kernel
theorem dX7_off_28 : decode cX7_off 28 = .ok (.ireturn, 1) := by decide +kernel
theorem dX7_dies_0 : decode cX7_dies 0 = .ok (.iload_n 1, 1) := by decide +kernel
theorem dX7_dies_1 : decode cX7_dies 1 = .ok (.invokestatic 98, 3) := by decide +kernel
theorem dX7_dies_4 : decode cX7_dies 4 = .ok (.ifCond .ne 8, 3) := by decide +kernel
theorem dX7_dies_7 : decode cX7_dies 7 = .ok (.aload_n 0, 1) := by decide +kernel
theorem dX7_dies_8 : decode cX7_dies 8 = .ok (.invokevirtual 94, 3) := by decide +kernel
theorem dX7_dies_11 : decode cX7_dies 11 = .ok (.ireturn, 1) := by decide +kernel
theorem dX7_dies_12 : decode cX7_dies 12 = .ok (.aload_n 0, 1) := by decide +kernel
theorem dX7_dies_13 : decode cX7_dies 13 = .ok (.getfield 13, 3) := by decide +kernel
theorem dX7_dies_16 : decode cX7_dies 16 = .ok (.iconst 1, 1) := by decide +kernel
theorem dX7_dies_17 : decode cX7_dies 17 = .ok (.iaload, 1) := by decide +kernel
theorem dX7_dies_18 : decode cX7_dies 18 = .ok (.istore_n 2, 1) := by decide +kernel
theorem dX7_dies_19 : decode cX7_dies 19 = .ok (.iconst (-1), 1) := by decide +kernel
theorem dX7_dies_20 : decode cX7_dies 20 = .ok (.istore_n 3, 1) := by decide +kernel
theorem dX7_dies_21 : decode cX7_dies 21 = .ok (.iconst 5, 1) := by decide +kernel
theorem dX7_dies_22 : decode cX7_dies 22 = .ok (.istore 4, 2) := by decide +kernel
theorem dX7_dies_24 : decode cX7_dies 24 = .ok (.iload 4, 2) := by decide +kernel
theorem dX7_dies_26 : decode cX7_dies 26 = .ok (.ifCond .lt 63, 3) := by decide +kernel
theorem dX7_dies_29 : decode cX7_dies 29 = .ok (.aload_n 0, 1) := by decide +kernel
theorem dX7_dies_30 : decode cX7_dies 30 = .ok (.getfield 13, 3) := by decide +kernel
theorem dX7_dies_33 : decode cX7_dies 33 = .ok (.iconst 1, 1) := by decide +kernel
theorem dX7_dies_34 : decode cX7_dies 34 = .ok (.iload 4, 2) := by decide +kernel
theorem dX7_dies_36 : decode cX7_dies 36 = .ok (.iastore, 1) := by decide +kernel
theorem dX7_dies_37 : decode cX7_dies 37 = .ok (.aload_n 0, 1) := by decide +kernel
theorem dX7_dies_38 : decode cX7_dies 38 = .ok (.invokevirtual 117, 3) := by decide +kernel
theorem dX7_dies_41 : decode cX7_dies 41 = .ok (.aload_n 0, 1) := by decide +kernel
theorem dX7_dies_42 : decode cX7_dies 42 = .ok (.iload_n 1, 1) := by decide +kernel
theorem dX7_dies_43 : decode cX7_dies 43 = .ok (.iconst 0, 1) := by decide +kernel
theorem dX7_dies_44 : decode cX7_dies 44 = .ok (.invokevirtual 175, 3) := by decide +kernel
theorem dX7_dies_47 : decode cX7_dies 47 = .ok (.ifCond .ne 7, 3) := by decide +kernel
theorem dX7_dies_50 : decode cX7_dies 50 = .ok (.iconst 1, 1) := by decide +kernel
theorem dX7_dies_51 : decode cX7_dies 51 = .ok (.goto 4, 3) := by decide +kernel
theorem dX7_dies_54 : decode cX7_dies 54 = .ok (.iconst 0, 1) := by decide +kernel
theorem dX7_dies_55 : decode cX7_dies 55 = .ok (.istore 5, 2) := by decide +kernel
theorem dX7_dies_57 : decode cX7_dies 57 = .ok (.iload 5, 2) := by decide +kernel
theorem dX7_dies_59 : decode cX7_dies 59 = .ok (.ifCond .eq 22, 3) := by decide +kernel
theorem dX7_dies_62 : decode cX7_dies 62 = .ok (.iload 4, 2) := by decide +kernel
theorem dX7_dies_64 : decode cX7_dies 64 = .ok (.iconst 5, 1) := by decide +kernel
theorem dX7_dies_65 : decode cX7_dies 65 = .ok (.if_icmp .eq 11, 3) := by decide +kernel
theorem dX7_dies_68 : decode cX7_dies 68 = .ok (.iload_n 3, 1) := by decide +kernel
theorem dX7_dies_69 : decode cX7_dies 69 = .ok (.iload 4, 2) := by decide +kernel
theorem dX7_dies_71 : decode cX7_dies 71 = .ok (.iconst 1, 1) := by decide +kernel
theorem dX7_dies_72 : decode cX7_dies 72 = .ok (.iadd, 1) := by decide +kernel
theorem dX7_dies_73 : decode cX7_dies 73 = .ok (.if_icmp .ne 8, 3) := by decide +kernel
theorem dX7_dies_76 : decode cX7_dies 76 = .ok (.iload 4, 2) := by decide +kernel
theorem dX7_dies_78 : decode cX7_dies 78 = .ok (.goto 4, 3) := by decide +kernel
theorem dX7_dies_81 : decode cX7_dies 81 = .ok (.iload_n 3, 1) := by decide +kernel
theorem dX7_dies_82 : decode cX7_dies 82 = .ok (.istore_n 3, 1) := by decide +kernel
theorem dX7_dies_83 : decode cX7_dies 83 = .ok (.iinc 4 (-1), 3) := by decide +kernel
theorem dX7_dies_86 : decode cX7_dies 86 = .ok (.goto (-62), 3) := by decide +kernel
theorem dX7_dies_89 : decode cX7_dies 89 = .ok (.aload_n 0, 1) := by decide +kernel
theorem dX7_dies_90 : decode cX7_dies 90 = .ok (.getfield 13, 3) := by decide +kernel
theorem dX7_dies_93 : decode cX7_dies 93 = .ok (.iconst 1, 1) := by decide +kernel
theorem dX7_dies_94 : decode cX7_dies 94 = .ok (.iload_n 2, 1) := by decide +kernel
theorem dX7_dies_95 : decode cX7_dies 95 = .ok (.iastore, 1) := by decide +kernel
theorem dX7_dies_96 : decode cX7_dies 96 = .ok (.iload_n 3, 1) := by decide +kernel
theorem dX7_dies_97 : decode cX7_dies 97 = .ok (.ireturn, 1) := by decide +kernel
theorem dX7_comesEvent_0 : decode cX7_comesEvent 0 = .ok (.iload 5, 2) := by decide +kernel
theorem dX7_comesEvent_2 : decode cX7_comesEvent 2 = .ok (.iload 6, 2) := by decide +kernel
theorem dX7_comesEvent_4 : decode cX7_comesEvent 4 = .ok (.if_icmp .eq 51, 3) := by decide +kernel
theorem dX7_comesEvent_7 : decode cX7_comesEvent 7 = .ok (.aload_n 0, 1) := by decide +kernel
theorem dX7_comesEvent_8 : decode cX7_comesEvent 8 = .ok (.getfield 187, 3) := by decide +kernel
theorem dX7_comesEvent_11 : decode cX7_comesEvent 11 = .ok (.iload_n 1, 1) := by decide +kernel
theorem dX7_comesEvent_12 : decode cX7_comesEvent 12 = .ok (.if_icmp .ne 33, 3) := by decide +kernel
theorem dX7_comesEvent_15 : decode cX7_comesEvent 15 = .ok (.aload_n 0, 1) := by decide +kernel
theorem dX7_comesEvent_16 : decode cX7_comesEvent 16 = .ok (.iload_n 2, 1) := by decide +kernel
theorem dX7_comesEvent_17 : decode cX7_comesEvent 17 = .ok (.putfield 190, 3) := by decide +kernel
theorem dX7_comesEvent_20 : decode cX7_comesEvent 20 = .ok (.aload_n 0, 1) := by decide +kernel
theorem dX7_comesEvent_21 : decode cX7_comesEvent 21 = .ok (.iload_n 3, 1) := by decide +kernel
theorem dX7_comesEvent_22 : decode cX7_comesEvent 22 = .ok (.putfield 193, 3) := by decide +kernel
theorem dX7_comesEvent_25 : decode cX7_comesEvent 25 = .ok (.aload_n 0, 1) := by decide +kernel
theorem dX7_comesEvent_26 : decode cX7_comesEvent 26 = .ok (.iload 4, 2) := by decide +kernel
theorem dX7_comesEvent_28 : decode cX7_comesEvent 28 = .ok (.putfield 196, 3) := by decide +kernel
theorem dX7_comesEvent_31 : decode cX7_comesEvent 31 = .ok (.aload_n 0, 1) := by decide +kernel
theorem dX7_comesEvent_32 : decode cX7_comesEvent 32 = .ok (.iload 5, 2) := by decide +kernel
theorem dX7_comesEvent_34 : decode cX7_comesEvent 34 = .ok (.ifCond .eq 7, 3) := by decide +kernel
theorem dX7_comesEvent_37 : decode cX7_comesEvent 37 = .ok (.iconst 1, 1) := by decide +kernel
theorem dX7_comesEvent_38 : decode cX7_comesEvent 38 = .ok (.goto 4, 3) := by decide +kernel
theorem dX7_comesEvent_41 : decode cX7_comesEvent 41 = .ok (.iconst 0, 1) := by decide +kernel
theorem dX7_comesEvent_42 : decode cX7_comesEvent 42 = .ok (.putfield 199, 3) := by decide +kernel
theorem dX7_comesEvent_45 : decode cX7_comesEvent 45 = .ok (.aload_n 0, 1) := by decide +kernel
theorem dX7_comesEvent_46 : decode cX7_comesEvent 46 = .ok (.dup, 1) := by decide +kernel
theorem dX7_comesEvent_47 : decode cX7_comesEvent 47 = .ok (.getfield 187, 3) := by decide +kernel
theorem dX7_comesEvent_50 : decode cX7_comesEvent 50 = .ok (.iconst 1, 1) := by decide +kernel
theorem dX7_comesEvent_51 : decode cX7_comesEvent 51 = .ok (.iadd, 1) := by decide +kernel
theorem dX7_comesEvent_52 : decode cX7_comesEvent 52 = .ok (.putfield 187, 3) := by decide +kernel
theorem dX7_comesEvent_55 : decode cX7_comesEvent 55 = .ok (.return_, 1) := by decide +kernel
theorem dX7_setEvents_0 : decode cX7_setEvents 0 = .ok (.aload_n 0, 1) := by decide +kernel
theorem dX7_setEvents_1 : decode cX7_setEvents 1 = .ok (.invokevirtual 117, 3) := by decide +kernel
theorem dX7_setEvents_4 : decode cX7_setEvents 4 = .ok (.aload_n 0, 1) := by decide +kernel
theorem dX7_setEvents_5 : decode cX7_setEvents 5 = .ok (.iconst 0, 1) := by decide +kernel
theorem dX7_setEvents_6 : decode cX7_setEvents 6 = .ok (.putfield 187, 3) := by decide +kernel
theorem dX7_setEvents_9 : decode cX7_setEvents 9 = .ok (.iconst 0, 1) := by decide +kernel
theorem dX7_setEvents_10 : decode cX7_setEvents 10 = .ok (.istore_n 2, 1) := by decide +kernel
theorem dX7_setEvents_11 : decode cX7_setEvents 11 = .ok (.iload_n 2, 1) := by decide +kernel
theorem dX7_setEvents_12 : decode cX7_setEvents 12 = .ok (.aload_n 0, 1) := by decide +kernel
theorem dX7_setEvents_13 : decode cX7_setEvents 13 = .ok (.getfield 13, 3) := by decide +kernel
theorem dX7_setEvents_16 : decode cX7_setEvents 16 = .ok (.iconst 0, 1) := by decide +kernel
theorem dX7_setEvents_17 : decode cX7_setEvents 17 = .ok (.iaload, 1) := by decide +kernel
theorem dX7_setEvents_18 : decode cX7_setEvents 18 = .ok (.if_icmp .ge 88, 3) := by decide +kernel
theorem dX7_setEvents_21 : decode cX7_setEvents 21 = .ok (.iload_n 2, 1) := by decide +kernel
theorem dX7_setEvents_22 : decode cX7_setEvents 22 = .ok (.aload_n 0, 1) := by decide +kernel
theorem dX7_setEvents_23 : decode cX7_setEvents 23 = .ok (.getfield 13, 3) := by decide +kernel
theorem dX7_setEvents_26 : decode cX7_setEvents 26 = .ok (.iconst 0, 1) := by decide +kernel
theorem dX7_setEvents_27 : decode cX7_setEvents 27 = .ok (.iaload, 1) := by decide +kernel
theorem dX7_setEvents_28 : decode cX7_setEvents 28 = .ok (.iadd, 1) := by decide +kernel
theorem dX7_setEvents_29 : decode cX7_setEvents 29 = .ok (.iconst 1, 1) := by decide +kernel
theorem dX7_setEvents_30 : decode cX7_setEvents 30 = .ok (.isub, 1) := by decide +kernel
theorem dX7_setEvents_31 : decode cX7_setEvents 31 = .ok (.aload_n 0, 1) := by decide +kernel
theorem dX7_setEvents_32 : decode cX7_setEvents 32 = .ok (.getfield 13, 3) := by decide +kernel
theorem dX7_setEvents_35 : decode cX7_setEvents 35 = .ok (.iconst 0, 1) := by decide +kernel
theorem dX7_setEvents_36 : decode cX7_setEvents 36 = .ok (.iaload, 1) := by decide +kernel
theorem dX7_setEvents_37 : decode cX7_setEvents 37 = .ok (.irem, 1) := by decide +kernel
theorem dX7_setEvents_38 : decode cX7_setEvents 38 = .ok (.istore_n 3, 1) := by decide +kernel
theorem dX7_setEvents_39 : decode cX7_setEvents 39 = .ok (.iconst 0, 1) := by decide +kernel
theorem dX7_setEvents_40 : decode cX7_setEvents 40 = .ok (.istore 4, 2) := by decide +kernel
theorem dX7_setEvents_42 : decode cX7_setEvents 42 = .ok (.iload 4, 2) := by decide +kernel
theorem dX7_setEvents_44 : decode cX7_setEvents 44 = .ok (.iconst 3, 1) := by decide +kernel
theorem dX7_setEvents_45 : decode cX7_setEvents 45 = .ok (.if_icmp .ge 55, 3) := by decide +kernel
theorem dX7_setEvents_48 : decode cX7_setEvents 48 = .ok (.aload_n 0, 1) := by decide +kernel
theorem dX7_setEvents_49 : decode cX7_setEvents 49 = .ok (.iload_n 1, 1) := by decide +kernel
theorem dX7_setEvents_50 : decode cX7_setEvents 50 = .ok (.iload_n 2, 1) := by decide +kernel
theorem dX7_setEvents_51 : decode cX7_setEvents 51 = .ok (.iload 4, 2) := by decide +kernel
theorem dX7_setEvents_53 : decode cX7_setEvents 53 = .ok (.iconst 0, 1) := by decide +kernel
theorem dX7_setEvents_54 : decode cX7_setEvents 54 = .ok (.aload_n 0, 1) := by decide +kernel
theorem dX7_setEvents_55 : decode cX7_setEvents 55 = .ok (.iload 4, 2) := by decide +kernel
theorem dX7_setEvents_57 : decode cX7_setEvents 57 = .ok (.iload_n 2, 1) := by decide +kernel
theorem dX7_setEvents_58 : decode cX7_setEvents 58 = .ok (.invokevirtual 166, 3) := by decide +kernel
theorem dX7_setEvents_61 : decode cX7_setEvents 61 = .ok (.aload_n 0, 1) := by decide +kernel
theorem dX7_setEvents_62 : decode cX7_setEvents 62 = .ok (.iload 4, 2) := by decide +kernel
theorem dX7_setEvents_64 : decode cX7_setEvents 64 = .ok (.iload_n 3, 1) := by decide +kernel
theorem dX7_setEvents_65 : decode cX7_setEvents 65 = .ok (.invokevirtual 166, 3) := by decide +kernel
theorem dX7_setEvents_68 : decode cX7_setEvents 68 = .ok (.invokevirtual 202, 3) := by decide +kernel
theorem dX7_setEvents_71 : decode cX7_setEvents 71 = .ok (.aload_n 0, 1) := by decide +kernel
theorem dX7_setEvents_72 : decode cX7_setEvents 72 = .ok (.iload_n 1, 1) := by decide +kernel
theorem dX7_setEvents_73 : decode cX7_setEvents 73 = .ok (.iload_n 2, 1) := by decide +kernel
theorem dX7_setEvents_74 : decode cX7_setEvents 74 = .ok (.iload 4, 2) := by decide +kernel
theorem dX7_setEvents_76 : decode cX7_setEvents 76 = .ok (.iconst 1, 1) := by decide +kernel
theorem dX7_setEvents_77 : decode cX7_setEvents 77 = .ok (.aload_n 0, 1) := by decide +kernel
theorem dX7_setEvents_78 : decode cX7_setEvents 78 = .ok (.iload 4, 2) := by decide +kernel
theorem dX7_setEvents_80 : decode cX7_setEvents 80 = .ok (.iload_n 2, 1) := by decide +kernel
theorem dX7_setEvents_81 : decode cX7_setEvents 81 = .ok (.invokevirtual 169, 3) := by decide +kernel
theorem dX7_setEvents_84 : decode cX7_setEvents 84 = .ok (.aload_n 0, 1) := by decide +kernel
theorem dX7_setEvents_85 : decode cX7_setEvents 85 = .ok (.iload 4, 2) := by decide +kernel
theorem dX7_setEvents_87 : decode cX7_setEvents 87 = .ok (.iload_n 3, 1) := by decide +kernel
theorem dX7_setEvents_88 : decode cX7_setEvents 88 = .ok (.invokevirtual 169, 3) := by decide +kernel
theorem dX7_setEvents_91 : decode cX7_setEvents 91 = .ok (.invokevirtual 202, 3) := by decide +kernel
theorem dX7_setEvents_94 : decode cX7_setEvents 94 = .ok (.iinc 4 1, 3) := by decide +kernel
theorem dX7_setEvents_97 : decode cX7_setEvents 97 = .ok (.goto (-55), 3) := by decide +kernel
theorem dX7_setEvents_100 : decode cX7_setEvents 100 = .ok (.iinc 2 1, 3) := by decide +kernel
theorem dX7_setEvents_103 : decode cX7_setEvents 103 = .ok (.goto (-92), 3) := by decide +kernel
theorem dX7_setEvents_106 : decode cX7_setEvents 106 = .ok (.return_, 1) := by decide +kernel
theorem dX7_event_0 : decode cX7_event 0 = .ok (.iload_n 1, 1) := by decide +kernel
theorem dX7_event_1 : decode cX7_event 1 = .ok (.ifCond .lt 12, 3) := by decide +kernel
theorem dX7_event_4 : decode cX7_event 4 = .ok (.iload_n 2, 1) := by decide +kernel
theorem dX7_event_5 : decode cX7_event 5 = .ok (.iconst 0, 1) := by decide +kernel
theorem dX7_event_6 : decode cX7_event 6 = .ok (.iconst 3, 1) := by decide +kernel
theorem dX7_event_7 : decode cX7_event 7 = .ok (.invokestatic 86, 3) := by decide +kernel
theorem dX7_event_10 : decode cX7_event 10 = .ok (.ifCond .ne 8, 3) := by decide +kernel
theorem dX7_event_13 : decode cX7_event 13 = .ok (.aload_n 0, 1) := by decide +kernel
theorem dX7_event_14 : decode cX7_event 14 = .ok (.invokevirtual 94, 3) := by decide +kernel
theorem dX7_event_17 : decode cX7_event 17 = .ok (.ireturn, 1) := by decide +kernel
theorem dX7_event_18 : decode cX7_event 18 = .ok (.aload_n 0, 1) := by decide +kernel
theorem dX7_event_19 : decode cX7_event 19 = .ok (.iload_n 1, 1) := by decide +kernel
theorem dX7_event_20 : decode cX7_event 20 = .ok (.invokevirtual 206, 3) := by decide +kernel
theorem dX7_event_23 : decode cX7_event 23 = .ok (.iload_n 1, 1) := by decide +kernel
theorem dX7_event_24 : decode cX7_event 24 = .ok (.aload_n 0, 1) := by decide +kernel
theorem dX7_event_25 : decode cX7_event 25 = .ok (.getfield 187, 3) := by decide +kernel
theorem dX7_event_28 : decode cX7_event 28 = .ok (.if_icmp .lt 5, 3) := by decide +kernel
theorem dX7_event_31 : decode cX7_event 31 = .ok (.iconst (-1), 1) := by decide +kernel
theorem dX7_event_32 : decode cX7_event 32 = .ok (.ireturn, 1) := by decide +kernel
theorem dX7_event_33 : decode cX7_event 33 = .ok (.iload_n 2, 1) := by decide +kernel
theorem dX7_event_34 : decode cX7_event 34 = .ok (.ifCond .ne 10, 3) := by decide +kernel
theorem dX7_event_37 : decode cX7_event 37 = .ok (.aload_n 0, 1) := by decide +kernel
theorem dX7_event_38 : decode cX7_event 38 = .ok (.getfield 190, 3) := by decide +kernel
theorem dX7_event_41 : decode cX7_event 41 = .ok (.goto 31, 3) := by decide +kernel
theorem dX7_event_44 : decode cX7_event 44 = .ok (.iload_n 2, 1) := by decide +kernel
theorem dX7_event_45 : decode cX7_event 45 = .ok (.iconst 1, 1) := by decide +kernel
theorem dX7_event_46 : decode cX7_event 46 = .ok (.if_icmp .ne 10, 3) := by decide +kernel
theorem dX7_event_49 : decode cX7_event 49 = .ok (.aload_n 0, 1) := by decide +kernel
theorem dX7_event_50 : decode cX7_event 50 = .ok (.getfield 193, 3) := by decide +kernel
theorem dX7_event_53 : decode cX7_event 53 = .ok (.goto 19, 3) := by decide +kernel
theorem dX7_event_56 : decode cX7_event 56 = .ok (.iload_n 2, 1) := by decide +kernel
theorem dX7_event_57 : decode cX7_event 57 = .ok (.iconst 2, 1) := by decide +kernel
theorem dX7_event_58 : decode cX7_event 58 = .ok (.if_icmp .ne 10, 3) := by decide +kernel
theorem dX7_event_61 : decode cX7_event 61 = .ok (.aload_n 0, 1) := by decide +kernel
theorem dX7_event_62 : decode cX7_event 62 = .ok (.getfield 196, 3) := by decide +kernel
theorem dX7_event_65 : decode cX7_event 65 = .ok (.goto 7, 3) := by decide +kernel
theorem dX7_event_68 : decode cX7_event 68 = .ok (.aload_n 0, 1) := by decide +kernel
theorem dX7_event_69 : decode cX7_event 69 = .ok (.getfield 199, 3) := by decide +kernel
theorem dX7_event_72 : decode cX7_event 72 = .ok (.ireturn, 1) := by decide +kernel
theorem dX7_events_0 : decode cX7_events 0 = .ok (.aload_n 0, 1) := by decide +kernel
theorem dX7_events_1 : decode cX7_events 1 = .ok (.iconst (-1), 1) := by decide +kernel
theorem dX7_events_2 : decode cX7_events 2 = .ok (.invokevirtual 206, 3) := by decide +kernel
theorem dX7_events_5 : decode cX7_events 5 = .ok (.aload_n 0, 1) := by decide +kernel
theorem dX7_events_6 : decode cX7_events 6 = .ok (.getfield 187, 3) := by decide +kernel
theorem dX7_events_9 : decode cX7_events 9 = .ok (.ireturn, 1) := by decide +kernel
theorem dX7_mayShift_0 : decode cX7_mayShift 0 = .ok (.aload_n 0, 1) := by decide +kernel
theorem dX7_mayShift_1 : decode cX7_mayShift 1 = .ok (.getfield 43, 3) := by decide +kernel
theorem dX7_mayShift_4 : decode cX7_mayShift 4 = .ok (.iload_n 1, 1) := by decide +kernel
theorem dX7_mayShift_5 : decode cX7_mayShift 5 = .ok (.iaload, 1) := by decide +kernel
theorem dX7_mayShift_6 : decode cX7_mayShift 6 = .ok (.ifCond .ne 15, 3) := by decide +kernel
theorem dX7_mayShift_9 : decode cX7_mayShift 9 = .ok (.iload_n 2, 1) := by decide +kernel
theorem dX7_mayShift_10 : decode cX7_mayShift 10 = .ok (.ifCond .ne 7, 3) := by decide +kernel
theorem dX7_mayShift_13 : decode cX7_mayShift 13 = .ok (.iconst 1, 1) := by decide +kernel
theorem dX7_mayShift_14 : decode cX7_mayShift 14 = .ok (.goto 47, 3) := by decide +kernel
theorem dX7_mayShift_17 : decode cX7_mayShift 17 = .ok (.iconst 0, 1) := by decide +kernel
theorem dX7_mayShift_18 : decode cX7_mayShift 18 = .ok (.goto 43, 3) := by decide +kernel
theorem dX7_mayShift_21 : decode cX7_mayShift 21 = .ok (.aload_n 0, 1) := by decide +kernel
theorem dX7_mayShift_22 : decode cX7_mayShift 22 = .ok (.getfield 61, 3) := by decide +kernel
theorem dX7_mayShift_25 : decode cX7_mayShift 25 = .ok (.iload_n 1, 1) := by decide +kernel
theorem dX7_mayShift_26 : decode cX7_mayShift 26 = .ok (.iaload, 1) := by decide +kernel
theorem dX7_mayShift_27 : decode cX7_mayShift 27 = .ok (.iload_n 2, 1) := by decide +kernel
theorem dX7_mayShift_28 : decode cX7_mayShift 28 = .ok (.iadd, 1) := by decide +kernel
theorem dX7_mayShift_29 : decode cX7_mayShift 29 = .ok (.ifCond .lt 31, 3) := by decide +kernel
theorem dX7_mayShift_32 : decode cX7_mayShift 32 = .ok (.aload_n 0, 1) := by decide +kernel
theorem dX7_mayShift_33 : decode cX7_mayShift 33 = .ok (.getfield 61, 3) := by decide +kernel
theorem dX7_mayShift_36 : decode cX7_mayShift 36 = .ok (.iload_n 1, 1) := by decide +kernel
theorem dX7_mayShift_37 : decode cX7_mayShift 37 = .ok (.iaload, 1) := by decide +kernel
theorem dX7_mayShift_38 : decode cX7_mayShift 38 = .ok (.iload_n 2, 1) := by decide +kernel
theorem dX7_mayShift_39 : decode cX7_mayShift 39 = .ok (.iadd, 1) := by decide +kernel
theorem dX7_mayShift_40 : decode cX7_mayShift 40 = .ok (.aload_n 0, 1) := by decide +kernel
theorem dX7_mayShift_41 : decode cX7_mayShift 41 = .ok (.getfield 43, 3) := by decide +kernel
theorem dX7_mayShift_44 : decode cX7_mayShift 44 = .ok (.iload_n 1, 1) := by decide +kernel
theorem dX7_mayShift_45 : decode cX7_mayShift 45 = .ok (.iaload, 1) := by decide +kernel
theorem dX7_mayShift_46 : decode cX7_mayShift 46 = .ok (.iadd, 1) := by decide +kernel
theorem dX7_mayShift_47 : decode cX7_mayShift 47 = .ok (.aload_n 0, 1) := by decide +kernel
theorem dX7_mayShift_48 : decode cX7_mayShift 48 = .ok (.getfield 13, 3) := by decide +kernel
theorem dX7_mayShift_51 : decode cX7_mayShift 51 = .ok (.iconst 0, 1) := by decide +kernel
theorem dX7_mayShift_52 : decode cX7_mayShift 52 = .ok (.iaload, 1) := by decide +kernel
theorem dX7_mayShift_53 : decode cX7_mayShift 53 = .ok (.if_icmp .gt 7, 3) := by decide +kernel
theorem dX7_mayShift_56 : decode cX7_mayShift 56 = .ok (.iconst 1, 1) := by decide +kernel
theorem dX7_mayShift_57 : decode cX7_mayShift 57 = .ok (.goto 4, 3) := by decide +kernel
theorem dX7_mayShift_60 : decode cX7_mayShift 60 = .ok (.iconst 0, 1) := by decide +kernel
theorem dX7_mayShift_61 : decode cX7_mayShift 61 = .ok (.ireturn, 1) := by decide +kernel
theorem dX7_tries_0 : decode cX7_tries 0 = .ok (.aload_n 0, 1) := by decide +kernel
theorem dX7_tries_1 : decode cX7_tries 1 = .ok (.iconst 0, 1) := by decide +kernel
theorem dX7_tries_2 : decode cX7_tries 2 = .ok (.iload_n 1, 1) := by decide +kernel
theorem dX7_tries_3 : decode cX7_tries 3 = .ok (.invokevirtual 210, 3) := by decide +kernel
theorem dX7_tries_6 : decode cX7_tries 6 = .ok (.ifCond .eq 21, 3) := by decide +kernel
theorem dX7_tries_9 : decode cX7_tries 9 = .ok (.aload_n 0, 1) := by decide +kernel
theorem dX7_tries_10 : decode cX7_tries 10 = .ok (.iconst 1, 1) := by decide +kernel
theorem dX7_tries_11 : decode cX7_tries 11 = .ok (.iload_n 2, 1) := by decide +kernel
theorem dX7_tries_12 : decode cX7_tries 12 = .ok (.invokevirtual 210, 3) := by decide +kernel
theorem dX7_tries_15 : decode cX7_tries 15 = .ok (.ifCond .eq 12, 3) := by decide +kernel
theorem dX7_tries_18 : decode cX7_tries 18 = .ok (.aload_n 0, 1) := by decide +kernel
theorem dX7_tries_19 : decode cX7_tries 19 = .ok (.iconst 2, 1) := by decide +kernel
theorem dX7_tries_20 : decode cX7_tries 20 = .ok (.iload_n 3, 1) := by decide +kernel
theorem dX7_tries_21 : decode cX7_tries 21 = .ok (.invokevirtual 210, 3) := by decide +kernel
theorem dX7_tries_24 : decode cX7_tries 24 = .ok (.ifCond .ne 4, 3) := by decide +kernel
theorem dX7_tries_27 : decode cX7_tries 27 = .ok (.return_, 1) := by decide +kernel
theorem dX7_tries_28 : decode cX7_tries 28 = .ok (.aload_n 0, 1) := by decide +kernel
theorem dX7_tries_29 : decode cX7_tries 29 = .ok (.getfield 46, 3) := by decide +kernel
theorem dX7_tries_32 : decode cX7_tries 32 = .ok (.iconst 0, 1) := by decide +kernel
theorem dX7_tries_33 : decode cX7_tries 33 = .ok (.aload_n 0, 1) := by decide +kernel
theorem dX7_tries_34 : decode cX7_tries 34 = .ok (.getfield 61, 3) := by decide +kernel
theorem dX7_tries_37 : decode cX7_tries 37 = .ok (.iconst 0, 1) := by decide +kernel
