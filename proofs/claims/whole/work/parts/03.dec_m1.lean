theorem dX12_weight_49 : decode cX12_weight 49 = .ok (.imul, 1) := by decide +kernel
theorem dX12_weight_50 : decode cX12_weight 50 = .ok (.iload_n 2, 1) := by decide +kernel
theorem dX12_weight_51 : decode cX12_weight 51 = .ok (.iadd, 1) := by decide +kernel
theorem dX12_weight_52 : decode cX12_weight 52 = .ok (.iaload, 1) := by decide +kernel
theorem dX12_weight_53 : decode cX12_weight 53 = .ok (.istore 4, 2) := by decide +kernel
theorem dX12_weight_55 : decode cX12_weight 55 = .ok (.iload 4, 2) := by decide +kernel
theorem dX12_weight_57 : decode cX12_weight 57 = .ok (.iconst (-1), 1) := by decide +kernel
theorem dX12_weight_58 : decode cX12_weight 58 = .ok (.if_icmp .eq 34, 3) := by decide +kernel
theorem dX12_weight_61 : decode cX12_weight 61 = .ok (.aload_n 0, 1) := by decide +kernel
theorem dX12_weight_62 : decode cX12_weight 62 = .ok (.getfield 82, 3) := by decide +kernel
theorem dX12_weight_65 : decode cX12_weight 65 = .ok (.iload 4, 2) := by decide +kernel
theorem dX12_weight_67 : decode cX12_weight 67 = .ok (.iaload, 1) := by decide +kernel
theorem dX12_weight_68 : decode cX12_weight 68 = .ok (.iload_n 3, 1) := by decide +kernel
theorem dX12_weight_69 : decode cX12_weight 69 = .ok (.if_icmp .ne 11, 3) := by decide +kernel
theorem dX12_weight_72 : decode cX12_weight 72 = .ok (.aload_n 0, 1) := by decide +kernel
theorem dX12_weight_73 : decode cX12_weight 73 = .ok (.getfield 85, 3) := by decide +kernel
theorem dX12_weight_76 : decode cX12_weight 76 = .ok (.iload 4, 2) := by decide +kernel
theorem dX12_weight_78 : decode cX12_weight 78 = .ok (.iaload, 1) := by decide +kernel
theorem dX12_weight_79 : decode cX12_weight 79 = .ok (.ireturn, 1) := by decide +kernel
theorem dX12_weight_80 : decode cX12_weight 80 = .ok (.aload_n 0, 1) := by decide +kernel
theorem dX12_weight_81 : decode cX12_weight 81 = .ok (.getfield 88, 3) := by decide +kernel
theorem dX12_weight_84 : decode cX12_weight 84 = .ok (.iload 4, 2) := by decide +kernel
theorem dX12_weight_86 : decode cX12_weight 86 = .ok (.iaload, 1) := by decide +kernel
theorem dX12_weight_87 : decode cX12_weight 87 = .ok (.istore 4, 2) := by decide +kernel
theorem dX12_weight_89 : decode cX12_weight 89 = .ok (.goto (-34), 3) := by decide +kernel
theorem dX12_weight_92 : decode cX12_weight 92 = .ok (.aload_n 0, 1) := by decide +kernel
theorem dX12_weight_93 : decode cX12_weight 93 = .ok (.iconst 2, 1) := by decide +kernel
theorem dX12_weight_94 : decode cX12_weight 94 = .ok (.putfield 127, 3) := by decide +kernel
theorem dX12_weight_97 : decode cX12_weight 97 = .ok (.iconst 0, 1) := by decide +kernel
theorem dX12_weight_98 : decode cX12_weight 98 = .ok (.ireturn, 1) := by decide +kernel
theorem dX12_findSoon_0 : decode cX12_findSoon 0 = .ok (.aload_n 0, 1) := by decide +kernel
theorem dX12_findSoon_1 : decode cX12_findSoon 1 = .ok (.invokevirtual 193, 3) := by decide +kernel
theorem dX12_findSoon_4 : decode cX12_findSoon 4 = .ok (.aload_n 0, 1) := by decide +kernel
theorem dX12_findSoon_5 : decode cX12_findSoon 5 = .ok (.iconst 0, 1) := by decide +kernel
theorem dX12_findSoon_6 : decode cX12_findSoon 6 = .ok (.putfield 312, 3) := by decide +kernel
theorem dX12_findSoon_9 : decode cX12_findSoon 9 = .ok (.iconst 0, 1) := by decide +kernel
theorem dX12_findSoon_10 : decode cX12_findSoon 10 = .ok (.istore_n 1, 1) := by decide +kernel
theorem dX12_findSoon_11 : decode cX12_findSoon 11 = .ok (.iload_n 1, 1) := by decide +kernel
theorem dX12_findSoon_12 : decode cX12_findSoon 12 = .ok (.aload_n 0, 1) := by decide +kernel
theorem dX12_findSoon_13 : decode cX12_findSoon 13 = .ok (.getfield 196, 3) := by decide +kernel
theorem dX12_findSoon_16 : decode cX12_findSoon 16 = .ok (.if_icmp .ge 107, 3) := by decide +kernel
theorem dX12_findSoon_19 : decode cX12_findSoon 19 = .ok (.aload_n 0, 1) := by decide +kernel
theorem dX12_findSoon_20 : decode cX12_findSoon 20 = .ok (.getfield 94, 3) := by decide +kernel
theorem dX12_findSoon_23 : decode cX12_findSoon 23 = .ok (.iload_n 1, 1) := by decide +kernel
theorem dX12_findSoon_24 : decode cX12_findSoon 24 = .ok (.iconst 0, 1) := by decide +kernel
theorem dX12_findSoon_25 : decode cX12_findSoon 25 = .ok (.iastore, 1) := by decide +kernel
theorem dX12_findSoon_26 : decode cX12_findSoon 26 = .ok (.iconst 0, 1) := by decide +kernel
theorem dX12_findSoon_27 : decode cX12_findSoon 27 = .ok (.istore_n 2, 1) := by decide +kernel
theorem dX12_findSoon_28 : decode cX12_findSoon 28 = .ok (.iload_n 2, 1) := by decide +kernel
theorem dX12_findSoon_29 : decode cX12_findSoon 29 = .ok (.aload_n 0, 1) := by decide +kernel
theorem dX12_findSoon_30 : decode cX12_findSoon 30 = .ok (.getfield 273, 3) := by decide +kernel
theorem dX12_findSoon_33 : decode cX12_findSoon 33 = .ok (.if_icmp .ge 61, 3) := by decide +kernel
theorem dX12_findSoon_36 : decode cX12_findSoon 36 = .ok (.aload_n 0, 1) := by decide +kernel
theorem dX12_findSoon_37 : decode cX12_findSoon 37 = .ok (.getfield 79, 3) := by decide +kernel
theorem dX12_findSoon_40 : decode cX12_findSoon 40 = .ok (.iload_n 2, 1) := by decide +kernel
theorem dX12_findSoon_41 : decode cX12_findSoon 41 = .ok (.iaload, 1) := by decide +kernel
theorem dX12_findSoon_42 : decode cX12_findSoon 42 = .ok (.iload_n 1, 1) := by decide +kernel
theorem dX12_findSoon_43 : decode cX12_findSoon 43 = .ok (.if_icmp .ne 45, 3) := by decide +kernel
theorem dX12_findSoon_46 : decode cX12_findSoon 46 = .ok (.aload_n 0, 1) := by decide +kernel
theorem dX12_findSoon_47 : decode cX12_findSoon 47 = .ok (.getfield 82, 3) := by decide +kernel
theorem dX12_findSoon_50 : decode cX12_findSoon 50 = .ok (.iload_n 2, 1) := by decide +kernel
theorem dX12_findSoon_51 : decode cX12_findSoon 51 = .ok (.iaload, 1) := by decide +kernel
theorem dX12_findSoon_52 : decode cX12_findSoon 52 = .ok (.ifCond .ne 36, 3) := by decide +kernel
theorem dX12_findSoon_55 : decode cX12_findSoon 55 = .ok (.aload_n 0, 1) := by decide +kernel
theorem dX12_findSoon_56 : decode cX12_findSoon 56 = .ok (.getfield 94, 3) := by decide +kernel
theorem dX12_findSoon_59 : decode cX12_findSoon 59 = .ok (.iload_n 1, 1) := by decide +kernel
theorem dX12_findSoon_60 : decode cX12_findSoon 60 = .ok (.aload_n 0, 1) := by decide +kernel
theorem dX12_findSoon_61 : decode cX12_findSoon 61 = .ok (.getfield 94, 3) := by decide +kernel
theorem dX12_findSoon_64 : decode cX12_findSoon 64 = .ok (.iload_n 1, 1) := by decide +kernel
theorem dX12_findSoon_65 : decode cX12_findSoon 65 = .ok (.iaload, 1) := by decide +kernel
theorem dX12_findSoon_66 : decode cX12_findSoon 66 = .ok (.aload_n 0, 1) := by decide +kernel
theorem dX12_findSoon_67 : decode cX12_findSoon 67 = .ok (.getfield 94, 3) := by decide +kernel
theorem dX12_findSoon_70 : decode cX12_findSoon 70 = .ok (.aload_n 0, 1) := by decide +kernel
theorem dX12_findSoon_71 : decode cX12_findSoon 71 = .ok (.getfield 76, 3) := by decide +kernel
theorem dX12_findSoon_74 : decode cX12_findSoon 74 = .ok (.iload_n 2, 1) := by decide +kernel
theorem dX12_findSoon_75 : decode cX12_findSoon 75 = .ok (.iaload, 1) := by decide +kernel
theorem dX12_findSoon_76 : decode cX12_findSoon 76 = .ok (.iaload, 1) := by decide +kernel
theorem dX12_findSoon_77 : decode cX12_findSoon 77 = .ok (.aload_n 0, 1) := by decide +kernel
theorem dX12_findSoon_78 : decode cX12_findSoon 78 = .ok (.getfield 85, 3) := by decide +kernel
theorem dX12_findSoon_81 : decode cX12_findSoon 81 = .ok (.iload_n 2, 1) := by decide +kernel
theorem dX12_findSoon_82 : decode cX12_findSoon 82 = .ok (.iaload, 1) := by decide +kernel
theorem dX12_findSoon_83 : decode cX12_findSoon 83 = .ok (.iadd, 1) := by decide +kernel
theorem dX12_findSoon_84 : decode cX12_findSoon 84 = .ok (.invokestatic 298, 3) := by decide +kernel
theorem dX12_findSoon_87 : decode cX12_findSoon 87 = .ok (.iastore, 1) := by decide +kernel
theorem dX12_findSoon_88 : decode cX12_findSoon 88 = .ok (.iinc 2 1, 3) := by decide +kernel
theorem dX12_findSoon_91 : decode cX12_findSoon 91 = .ok (.goto (-63), 3) := by decide +kernel
theorem dX12_findSoon_94 : decode cX12_findSoon 94 = .ok (.aload_n 0, 1) := by decide +kernel
theorem dX12_findSoon_95 : decode cX12_findSoon 95 = .ok (.aload_n 0, 1) := by decide +kernel
theorem dX12_findSoon_96 : decode cX12_findSoon 96 = .ok (.getfield 312, 3) := by decide +kernel
theorem dX12_findSoon_99 : decode cX12_findSoon 99 = .ok (.aload_n 0, 1) := by decide +kernel
theorem dX12_findSoon_100 : decode cX12_findSoon 100 = .ok (.getfield 94, 3) := by decide +kernel
theorem dX12_findSoon_103 : decode cX12_findSoon 103 = .ok (.iload_n 1, 1) := by decide +kernel
theorem dX12_findSoon_104 : decode cX12_findSoon 104 = .ok (.iaload, 1) := by decide +kernel
theorem dX12_findSoon_105 : decode cX12_findSoon 105 = .ok (.aload_n 0, 1) := by decide +kernel
theorem dX12_findSoon_106 : decode cX12_findSoon 106 = .ok (.iload_n 1, 1) := by decide +kernel
theorem dX12_findSoon_107 : decode cX12_findSoon 107 = .ok (.invokevirtual 282, 3) := by decide +kernel
theorem dX12_findSoon_110 : decode cX12_findSoon 110 = .ok (.iadd, 1) := by decide +kernel
theorem dX12_findSoon_111 : decode cX12_findSoon 111 = .ok (.invokestatic 298, 3) := by decide +kernel
theorem dX12_findSoon_114 : decode cX12_findSoon 114 = .ok (.putfield 312, 3) := by decide +kernel
theorem dX12_findSoon_117 : decode cX12_findSoon 117 = .ok (.iinc 1 1, 3) := by decide +kernel
theorem dX12_findSoon_120 : decode cX12_findSoon 120 = .ok (.goto (-109), 3) := by decide +kernel
theorem dX12_findSoon_123 : decode cX12_findSoon 123 = .ok (.aload_n 0, 1) := by decide +kernel
theorem dX12_findSoon_124 : decode cX12_findSoon 124 = .ok (.getfield 196, 3) := by decide +kernel
theorem dX12_findSoon_127 : decode cX12_findSoon 127 = .ok (.iconst 1, 1) := by decide +kernel
theorem dX12_findSoon_128 : decode cX12_findSoon 128 = .ok (.isub, 1) := by decide +kernel
theorem dX12_findSoon_129 : decode cX12_findSoon 129 = .ok (.istore_n 1, 1) := by decide +kernel
theorem dX12_findSoon_130 : decode cX12_findSoon 130 = .ok (.iload_n 1, 1) := by decide +kernel
theorem dX12_findSoon_131 : decode cX12_findSoon 131 = .ok (.ifCond .lt 93, 3) := by decide +kernel
theorem dX12_findSoon_134 : decode cX12_findSoon 134 = .ok (.aload_n 0, 1) := by decide +kernel
theorem dX12_findSoon_135 : decode cX12_findSoon 135 = .ok (.getfield 97, 3) := by decide +kernel
theorem dX12_findSoon_138 : decode cX12_findSoon 138 = .ok (.iload_n 1, 1) := by decide +kernel
theorem dX12_findSoon_139 : decode cX12_findSoon 139 = .ok (.aload_n 0, 1) := by decide +kernel
theorem dX12_findSoon_140 : decode cX12_findSoon 140 = .ok (.getfield 312, 3) := by decide +kernel
theorem dX12_findSoon_143 : decode cX12_findSoon 143 = .ok (.aload_n 0, 1) := by decide +kernel
theorem dX12_findSoon_144 : decode cX12_findSoon 144 = .ok (.iload_n 1, 1) := by decide +kernel
theorem dX12_findSoon_145 : decode cX12_findSoon 145 = .ok (.invokevirtual 282, 3) := by decide +kernel
theorem dX12_findSoon_148 : decode cX12_findSoon 148 = .ok (.isub, 1) := by decide +kernel
theorem dX12_findSoon_149 : decode cX12_findSoon 149 = .ok (.iastore, 1) := by decide +kernel
theorem dX12_findSoon_150 : decode cX12_findSoon 150 = .ok (.iconst 0, 1) := by decide +kernel
theorem dX12_findSoon_151 : decode cX12_findSoon 151 = .ok (.istore_n 2, 1) := by decide +kernel
theorem dX12_findSoon_152 : decode cX12_findSoon 152 = .ok (.iload_n 2, 1) := by decide +kernel
theorem dX12_findSoon_153 : decode cX12_findSoon 153 = .ok (.aload_n 0, 1) := by decide +kernel
theorem dX12_findSoon_154 : decode cX12_findSoon 154 = .ok (.getfield 273, 3) := by decide +kernel
theorem dX12_findSoon_157 : decode cX12_findSoon 157 = .ok (.if_icmp .ge 61, 3) := by decide +kernel
theorem dX12_findSoon_160 : decode cX12_findSoon 160 = .ok (.aload_n 0, 1) := by decide +kernel
theorem dX12_findSoon_161 : decode cX12_findSoon 161 = .ok (.getfield 76, 3) := by decide +kernel
theorem dX12_findSoon_164 : decode cX12_findSoon 164 = .ok (.iload_n 2, 1) := by decide +kernel
theorem dX12_findSoon_165 : decode cX12_findSoon 165 = .ok (.iaload, 1) := by decide +kernel
theorem dX12_findSoon_166 : decode cX12_findSoon 166 = .ok (.iload_n 1, 1) := by decide +kernel
theorem dX12_findSoon_167 : decode cX12_findSoon 167 = .ok (.if_icmp .ne 45, 3) := by decide +kernel
theorem dX12_findSoon_170 : decode cX12_findSoon 170 = .ok (.aload_n 0, 1) := by decide +kernel
theorem dX12_findSoon_171 : decode cX12_findSoon 171 = .ok (.getfield 82, 3) := by decide +kernel
theorem dX12_findSoon_174 : decode cX12_findSoon 174 = .ok (.iload_n 2, 1) := by decide +kernel
theorem dX12_findSoon_175 : decode cX12_findSoon 175 = .ok (.iaload, 1) := by decide +kernel
theorem dX12_findSoon_176 : decode cX12_findSoon 176 = .ok (.ifCond .ne 36, 3) := by decide +kernel
theorem dX12_findSoon_179 : decode cX12_findSoon 179 = .ok (.aload_n 0, 1) := by decide +kernel
theorem dX12_findSoon_180 : decode cX12_findSoon 180 = .ok (.getfield 97, 3) := by decide +kernel
theorem dX12_findSoon_183 : decode cX12_findSoon 183 = .ok (.iload_n 1, 1) := by decide +kernel
theorem dX12_findSoon_184 : decode cX12_findSoon 184 = .ok (.aload_n 0, 1) := by decide +kernel
theorem dX12_findSoon_185 : decode cX12_findSoon 185 = .ok (.getfield 97, 3) := by decide +kernel
theorem dX12_findSoon_188 : decode cX12_findSoon 188 = .ok (.iload_n 1, 1) := by decide +kernel
theorem dX12_findSoon_189 : decode cX12_findSoon 189 = .ok (.iaload, 1) := by decide +kernel
theorem dX12_findSoon_190 : decode cX12_findSoon 190 = .ok (.aload_n 0, 1) := by decide +kernel
theorem dX12_findSoon_191 : decode cX12_findSoon 191 = .ok (.getfield 97, 3) := by decide +kernel
theorem dX12_findSoon_194 : decode cX12_findSoon 194 = .ok (.aload_n 0, 1) := by decide +kernel
theorem dX12_findSoon_195 : decode cX12_findSoon 195 = .ok (.getfield 79, 3) := by decide +kernel
theorem dX12_findSoon_198 : decode cX12_findSoon 198 = .ok (.iload_n 2, 1) := by decide +kernel
theorem dX12_findSoon_199 : decode cX12_findSoon 199 = .ok (.iaload, 1) := by decide +kernel
theorem dX12_findSoon_200 : decode cX12_findSoon 200 = .ok (.iaload, 1) := by decide +kernel
theorem dX12_findSoon_201 : decode cX12_findSoon 201 = .ok (.aload_n 0, 1) := by decide +kernel
theorem dX12_findSoon_202 : decode cX12_findSoon 202 = .ok (.getfield 85, 3) := by decide +kernel
theorem dX12_findSoon_205 : decode cX12_findSoon 205 = .ok (.iload_n 2, 1) := by decide +kernel
theorem dX12_findSoon_206 : decode cX12_findSoon 206 = .ok (.iaload, 1) := by decide +kernel
theorem dX12_findSoon_207 : decode cX12_findSoon 207 = .ok (.isub, 1) := by decide +kernel
theorem dX12_findSoon_208 : decode cX12_findSoon 208 = .ok (.invokestatic 246, 3) := by decide +kernel
theorem dX12_findSoon_211 : decode cX12_findSoon 211 = .ok (.iastore, 1) := by decide +kernel
theorem dX12_findSoon_212 : decode cX12_findSoon 212 = .ok (.iinc 2 1, 3) := by decide +kernel
theorem dX12_findSoon_215 : decode cX12_findSoon 215 = .ok (.goto (-63), 3) := by decide +kernel
theorem dX12_findSoon_218 : decode cX12_findSoon 218 = .ok (.iinc 1 (-1), 3) := by decide +kernel
theorem dX12_findSoon_221 : decode cX12_findSoon 221 = .ok (.goto (-91), 3) := by decide +kernel
theorem dX12_findSoon_224 : decode cX12_findSoon 224 = .ok (.return_, 1) := by decide +kernel
theorem dX12_canBegin_0 : decode cX12_canBegin 0 = .ok (.aload_n 0, 1) := by decide +kernel
theorem dX12_canBegin_1 : decode cX12_canBegin 1 = .ok (.getfield 100, 3) := by decide +kernel
theorem dX12_canBegin_4 : decode cX12_canBegin 4 = .ok (.iload_n 1, 1) := by decide +kernel
theorem dX12_canBegin_5 : decode cX12_canBegin 5 = .ok (.iaload, 1) := by decide +kernel
theorem dX12_canBegin_6 : decode cX12_canBegin 6 = .ok (.iconst (-1), 1) := by decide +kernel
theorem dX12_canBegin_7 : decode cX12_canBegin 7 = .ok (.if_icmp .ne 7, 3) := by decide +kernel
theorem dX12_canBegin_10 : decode cX12_canBegin 10 = .ok (.iconst 1, 1) := by decide +kernel
theorem dX12_canBegin_11 : decode cX12_canBegin 11 = .ok (.goto 4, 3) := by decide +kernel
theorem dX12_canBegin_14 : decode cX12_canBegin 14 = .ok (.iconst 0, 1) := by decide +kernel
theorem dX12_canBegin_15 : decode cX12_canBegin 15 = .ok (.istore_n 3, 1) := by decide +kernel
theorem dX12_canBegin_16 : decode cX12_canBegin 16 = .ok (.iconst 0, 1) := by decide +kernel
theorem dX12_canBegin_17 : decode cX12_canBegin 17 = .ok (.istore 4, 2) := by decide +kernel
theorem dX12_canBegin_19 : decode cX12_canBegin 19 = .ok (.iload 4, 2) := by decide +kernel
theorem dX12_canBegin_21 : decode cX12_canBegin 21 = .ok (.aload_n 0, 1) := by decide +kernel
theorem dX12_canBegin_22 : decode cX12_canBegin 22 = .ok (.getfield 273, 3) := by decide +kernel
theorem dX12_canBegin_25 : decode cX12_canBegin 25 = .ok (.if_icmp .ge 79, 3) := by decide +kernel
theorem dX12_canBegin_28 : decode cX12_canBegin 28 = .ok (.iload_n 3, 1) := by decide +kernel
theorem dX12_canBegin_29 : decode cX12_canBegin 29 = .ok (.ifCond .eq 75, 3) := by decide +kernel
theorem dX12_canBegin_32 : decode cX12_canBegin 32 = .ok (.aload_n 0, 1) := by decide +kernel
theorem dX12_canBegin_33 : decode cX12_canBegin 33 = .ok (.getfield 76, 3) := by decide +kernel
theorem dX12_canBegin_36 : decode cX12_canBegin 36 = .ok (.iload 4, 2) := by decide +kernel
theorem dX12_canBegin_38 : decode cX12_canBegin 38 = .ok (.iaload, 1) := by decide +kernel
theorem dX12_canBegin_39 : decode cX12_canBegin 39 = .ok (.istore 5, 2) := by decide +kernel
theorem dX12_canBegin_41 : decode cX12_canBegin 41 = .ok (.aload_n 0, 1) := by decide +kernel
theorem dX12_canBegin_42 : decode cX12_canBegin 42 = .ok (.getfield 79, 3) := by decide +kernel
theorem dX12_canBegin_45 : decode cX12_canBegin 45 = .ok (.iload 4, 2) := by decide +kernel
theorem dX12_canBegin_47 : decode cX12_canBegin 47 = .ok (.iaload, 1) := by decide +kernel
theorem dX12_canBegin_48 : decode cX12_canBegin 48 = .ok (.iload_n 1, 1) := by decide +kernel
theorem dX12_canBegin_49 : decode cX12_canBegin 49 = .ok (.if_icmp .ne 43, 3) := by decide +kernel
theorem dX12_canBegin_52 : decode cX12_canBegin 52 = .ok (.aload_n 0, 1) := by decide +kernel
theorem dX12_canBegin_53 : decode cX12_canBegin 53 = .ok (.getfield 82, 3) := by decide +kernel
theorem dX12_canBegin_56 : decode cX12_canBegin 56 = .ok (.iload 4, 2) := by decide +kernel
theorem dX12_canBegin_58 : decode cX12_canBegin 58 = .ok (.iaload, 1) := by decide +kernel
theorem dX12_canBegin_59 : decode cX12_canBegin 59 = .ok (.ifCond .ne 33, 3) := by decide +kernel
theorem dX12_canBegin_62 : decode cX12_canBegin 62 = .ok (.aload_n 0, 1) := by decide +kernel
theorem dX12_canBegin_63 : decode cX12_canBegin 63 = .ok (.getfield 100, 3) := by decide +kernel
theorem dX12_canBegin_66 : decode cX12_canBegin 66 = .ok (.iload 5, 2) := by decide +kernel
theorem dX12_canBegin_68 : decode cX12_canBegin 68 = .ok (.iaload, 1) := by decide +kernel
theorem dX12_canBegin_69 : decode cX12_canBegin 69 = .ok (.iconst (-1), 1) := by decide +kernel
theorem dX12_canBegin_70 : decode cX12_canBegin 70 = .ok (.if_icmp .eq 26, 3) := by decide +kernel
theorem dX12_canBegin_73 : decode cX12_canBegin 73 = .ok (.aload_n 0, 1) := by decide +kernel
theorem dX12_canBegin_74 : decode cX12_canBegin 74 = .ok (.getfield 100, 3) := by decide +kernel
theorem dX12_canBegin_77 : decode cX12_canBegin 77 = .ok (.iload 5, 2) := by decide +kernel
theorem dX12_canBegin_79 : decode cX12_canBegin 79 = .ok (.iaload, 1) := by decide +kernel
theorem dX12_canBegin_80 : decode cX12_canBegin 80 = .ok (.aload_n 0, 1) := by decide +kernel
theorem dX12_canBegin_81 : decode cX12_canBegin 81 = .ok (.getfield 85, 3) := by decide +kernel
theorem dX12_canBegin_84 : decode cX12_canBegin 84 = .ok (.iload 4, 2) := by decide +kernel
theorem dX12_canBegin_86 : decode cX12_canBegin 86 = .ok (.iaload, 1) := by decide +kernel
theorem dX12_canBegin_87 : decode cX12_canBegin 87 = .ok (.iadd, 1) := by decide +kernel
theorem dX12_canBegin_88 : decode cX12_canBegin 88 = .ok (.iload_n 2, 1) := by decide +kernel
theorem dX12_canBegin_89 : decode cX12_canBegin 89 = .ok (.if_icmp .gt 7, 3) := by decide +kernel
theorem dX12_canBegin_92 : decode cX12_canBegin 92 = .ok (.iconst 1, 1) := by decide +kernel
theorem dX12_canBegin_93 : decode cX12_canBegin 93 = .ok (.goto 4, 3) := by decide +kernel
theorem dX12_canBegin_96 : decode cX12_canBegin 96 = .ok (.iconst 0, 1) := by decide +kernel
theorem dX12_canBegin_97 : decode cX12_canBegin 97 = .ok (.istore_n 3, 1) := by decide +kernel
theorem dX12_canBegin_98 : decode cX12_canBegin 98 = .ok (.iinc 4 1, 3) := by decide +kernel
theorem dX12_canBegin_101 : decode cX12_canBegin 101 = .ok (.goto (-82), 3) := by decide +kernel
theorem dX12_canBegin_104 : decode cX12_canBegin 104 = .ok (.iconst 0, 1) := by decide +kernel
theorem dX12_canBegin_105 : decode cX12_canBegin 105 = .ok (.istore 4, 2) := by decide +kernel
theorem dX12_canBegin_107 : decode cX12_canBegin 107 = .ok (.iconst 0, 1) := by decide +kernel
theorem dX12_canBegin_108 : decode cX12_canBegin 108 = .ok (.istore 5, 2) := by decide +kernel
theorem dX12_canBegin_110 : decode cX12_canBegin 110 = .ok (.iload 5, 2) := by decide +kernel
theorem dX12_canBegin_112 : decode cX12_canBegin 112 = .ok (.aload_n 0, 1) := by decide +kernel
theorem dX12_canBegin_113 : decode cX12_canBegin 113 = .ok (.getfield 196, 3) := by decide +kernel
theorem dX12_canBegin_116 : decode cX12_canBegin 116 = .ok (.if_icmp .ge 50, 3) := by decide +kernel
theorem dX12_canBegin_119 : decode cX12_canBegin 119 = .ok (.iload_n 3, 1) := by decide +kernel
theorem dX12_canBegin_120 : decode cX12_canBegin 120 = .ok (.ifCond .eq 46, 3) := by decide +kernel
theorem dX12_canBegin_123 : decode cX12_canBegin 123 = .ok (.iload 4, 2) := by decide +kernel
theorem dX12_canBegin_125 : decode cX12_canBegin 125 = .ok (.aload_n 0, 1) := by decide +kernel
theorem dX12_canBegin_126 : decode cX12_canBegin 126 = .ok (.getfield 57, 3) := by decide +kernel
theorem dX12_canBegin_129 : decode cX12_canBegin 129 = .ok (.iload 5, 2) := by decide +kernel
theorem dX12_canBegin_131 : decode cX12_canBegin 131 = .ok (.iaload, 1) := by decide +kernel
theorem dX12_canBegin_132 : decode cX12_canBegin 132 = .ok (.aload_n 0, 1) := by decide +kernel
theorem dX12_canBegin_133 : decode cX12_canBegin 133 = .ok (.getfield 57, 3) := by decide +kernel
theorem dX12_canBegin_136 : decode cX12_canBegin 136 = .ok (.iload_n 1, 1) := by decide +kernel
theorem dX12_canBegin_137 : decode cX12_canBegin 137 = .ok (.iaload, 1) := by decide +kernel
theorem dX12_canBegin_138 : decode cX12_canBegin 138 = .ok (.if_icmp .ne 18, 3) := by decide +kernel
theorem dX12_canBegin_141 : decode cX12_canBegin 141 = .ok (.aload_n 0, 1) := by decide +kernel
theorem dX12_canBegin_142 : decode cX12_canBegin 142 = .ok (.getfield 100, 3) := by decide +kernel
theorem dX12_canBegin_145 : decode cX12_canBegin 145 = .ok (.iload 5, 2) := by decide +kernel
theorem dX12_canBegin_147 : decode cX12_canBegin 147 = .ok (.iaload, 1) := by decide +kernel
theorem dX12_canBegin_148 : decode cX12_canBegin 148 = .ok (.iload_n 2, 1) := by decide +kernel
theorem dX12_canBegin_149 : decode cX12_canBegin 149 = .ok (.if_icmp .ne 7, 3) := by decide +kernel
theorem dX12_canBegin_152 : decode cX12_canBegin 152 = .ok (.iconst 1, 1) := by decide +kernel
theorem dX12_canBegin_153 : decode cX12_canBegin 153 = .ok (.goto 4, 3) := by decide +kernel
theorem dX12_canBegin_156 : decode cX12_canBegin 156 = .ok (.iconst 0, 1) := by decide +kernel
theorem dX12_canBegin_157 : decode cX12_canBegin 157 = .ok (.iadd, 1) := by decide +kernel
theorem dX12_canBegin_158 : decode cX12_canBegin 158 = .ok (.istore 4, 2) := by decide +kernel
theorem dX12_canBegin_160 : decode cX12_canBegin 160 = .ok (.iinc 5 1, 3) := by decide +kernel
theorem dX12_canBegin_163 : decode cX12_canBegin 163 = .ok (.goto (-53), 3) := by decide +kernel
theorem dX12_canBegin_166 : decode cX12_canBegin 166 = .ok (.iload_n 3, 1) := by decide +kernel
theorem dX12_canBegin_167 : decode cX12_canBegin 167 = .ok (.ifCond .eq 23, 3) := by decide +kernel
theorem dX12_canBegin_170 : decode cX12_canBegin 170 = .ok (.iload 4, 2) := by decide +kernel
theorem dX12_canBegin_172 : decode cX12_canBegin 172 = .ok (.aload_n 0, 1) := by decide +kernel
theorem dX12_canBegin_173 : decode cX12_canBegin 173 = .ok (.getfield 36, 3) := by decide +kernel
theorem dX12_canBegin_176 : decode cX12_canBegin 176 = .ok (.aload_n 0, 1) := by decide +kernel
theorem dX12_canBegin_177 : decode cX12_canBegin 177 = .ok (.getfield 57, 3) := by decide +kernel
theorem dX12_canBegin_180 : decode cX12_canBegin 180 = .ok (.iload_n 1, 1) := by decide +kernel
theorem dX12_canBegin_181 : decode cX12_canBegin 181 = .ok (.iaload, 1) := by decide +kernel
theorem dX12_canBegin_182 : decode cX12_canBegin 182 = .ok (.iaload, 1) := by decide +kernel
theorem dX12_canBegin_183 : decode cX12_canBegin 183 = .ok (.if_icmp .ge 7, 3) := by decide +kernel
theorem dX12_canBegin_186 : decode cX12_canBegin 186 = .ok (.iconst 1, 1) := by decide +kernel
theorem dX12_canBegin_187 : decode cX12_canBegin 187 = .ok (.goto 4, 3) := by decide +kernel
theorem dX12_canBegin_190 : decode cX12_canBegin 190 = .ok (.iconst 0, 1) := by decide +kernel
theorem dX12_canBegin_191 : decode cX12_canBegin 191 = .ok (.ireturn, 1) := by decide +kernel
theorem dX12_list_0 : decode cX12_list 0 = .ok (.aload_n 0, 1) := by decide +kernel
theorem dX12_list_1 : decode cX12_list 1 = .ok (.invokevirtual 315, 3) := by decide +kernel
theorem dX12_list_4 : decode cX12_list 4 = .ok (.iconst 0, 1) := by decide +kernel
theorem dX12_list_5 : decode cX12_list 5 = .ok (.istore_n 1, 1) := by decide +kernel
theorem dX12_list_6 : decode cX12_list 6 = .ok (.iload_n 1, 1) := by decide +kernel
theorem dX12_list_7 : decode cX12_list 7 = .ok (.aload_n 0, 1) := by decide +kernel
theorem dX12_list_8 : decode cX12_list 8 = .ok (.getfield 196, 3) := by decide +kernel
theorem dX12_list_11 : decode cX12_list 11 = .ok (.if_icmp .ge 16, 3) := by decide +kernel
theorem dX12_list_14 : decode cX12_list 14 = .ok (.aload_n 0, 1) := by decide +kernel
theorem dX12_list_15 : decode cX12_list 15 = .ok (.getfield 100, 3) := by decide +kernel
theorem dX12_list_18 : decode cX12_list 18 = .ok (.iload_n 1, 1) := by decide +kernel
theorem dX12_list_19 : decode cX12_list 19 = .ok (.iconst (-1), 1) := by decide +kernel
theorem dX12_list_20 : decode cX12_list 20 = .ok (.iastore, 1) := by decide +kernel
theorem dX12_list_21 : decode cX12_list 21 = .ok (.iinc 1 1, 3) := by decide +kernel
theorem dX12_list_24 : decode cX12_list 24 = .ok (.goto (-18), 3) := by decide +kernel
theorem dX12_list_27 : decode cX12_list 27 = .ok (.aload_n 0, 1) := by decide +kernel
theorem dX12_list_28 : decode cX12_list 28 = .ok (.getfield 196, 3) := by decide +kernel
theorem dX12_list_31 : decode cX12_list 31 = .ok (.istore_n 1, 1) := by decide +kernel
theorem dX12_list_32 : decode cX12_list 32 = .ok (.iconst 0, 1) := by decide +kernel
theorem dX12_list_33 : decode cX12_list 33 = .ok (.istore_n 2, 1) := by decide +kernel
theorem dX12_list_34 : decode cX12_list 34 = .ok (.iload_n 1, 1) := by decide +kernel
theorem dX12_list_35 : decode cX12_list 35 = .ok (.ifCond .le 92, 3) := by decide +kernel
theorem dX12_list_38 : decode cX12_list 38 = .ok (.iconst 0, 1) := by decide +kernel
theorem dX12_list_39 : decode cX12_list 39 = .ok (.istore_n 3, 1) := by decide +kernel
theorem dX12_list_40 : decode cX12_list 40 = .ok (.iload_n 3, 1) := by decide +kernel
theorem dX12_list_41 : decode cX12_list 41 = .ok (.iconst (-1), 1) := by decide +kernel
theorem dX12_list_42 : decode cX12_list 42 = .ok (.if_icmp .eq 79, 3) := by decide +kernel
theorem dX12_list_45 : decode cX12_list 45 = .ok (.iconst (-1), 1) := by decide +kernel
theorem dX12_list_46 : decode cX12_list 46 = .ok (.istore_n 3, 1) := by decide +kernel
theorem dX12_list_47 : decode cX12_list 47 = .ok (.iconst 0, 1) := by decide +kernel
theorem dX12_list_48 : decode cX12_list 48 = .ok (.istore 4, 2) := by decide +kernel
theorem dX12_list_50 : decode cX12_list 50 = .ok (.iload 4, 2) := by decide +kernel
theorem dX12_list_52 : decode cX12_list 52 = .ok (.aload_n 0, 1) := by decide +kernel
theorem dX12_list_53 : decode cX12_list 53 = .ok (.getfield 196, 3) := by decide +kernel
theorem dX12_list_56 : decode cX12_list 56 = .ok (.if_icmp .ge 47, 3) := by decide +kernel
theorem dX12_list_59 : decode cX12_list 59 = .ok (.aload_n 0, 1) := by decide +kernel
theorem dX12_list_60 : decode cX12_list 60 = .ok (.iload 4, 2) := by decide +kernel
theorem dX12_list_62 : decode cX12_list 62 = .ok (.iload_n 2, 1) := by decide +kernel
theorem dX12_list_63 : decode cX12_list 63 = .ok (.invokevirtual 318, 3) := by decide +kernel
theorem dX12_list_66 : decode cX12_list 66 = .ok (.ifCond .eq 29, 3) := by decide +kernel
theorem dX12_list_69 : decode cX12_list 69 = .ok (.iload_n 3, 1) := by decide +kernel
theorem dX12_list_70 : decode cX12_list 70 = .ok (.iconst (-1), 1) := by decide +kernel
theorem dX12_list_71 : decode cX12_list 71 = .ok (.if_icmp .eq 19, 3) := by decide +kernel
theorem dX12_list_74 : decode cX12_list 74 = .ok (.aload_n 0, 1) := by decide +kernel
theorem dX12_list_75 : decode cX12_list 75 = .ok (.getfield 97, 3) := by decide +kernel
theorem dX12_list_78 : decode cX12_list 78 = .ok (.iload 4, 2) := by decide +kernel
theorem dX12_list_80 : decode cX12_list 80 = .ok (.iaload, 1) := by decide +kernel
theorem dX12_list_81 : decode cX12_list 81 = .ok (.aload_n 0, 1) := by decide +kernel
theorem dX12_list_82 : decode cX12_list 82 = .ok (.getfield 97, 3) := by decide +kernel
theorem dX12_list_85 : decode cX12_list 85 = .ok (.iload_n 3, 1) := by decide +kernel
theorem dX12_list_86 : decode cX12_list 86 = .ok (.iaload, 1) := by decide +kernel
theorem dX12_list_87 : decode cX12_list 87 = .ok (.if_icmp .ge 8, 3) := by decide +kernel
theorem dX12_list_90 : decode cX12_list 90 = .ok (.iload 4, 2) := by decide +kernel
theorem dX12_list_92 : decode cX12_list 92 = .ok (.goto 4, 3) := by decide +kernel
theorem dX12_list_95 : decode cX12_list 95 = .ok (.iload_n 3, 1) := by decide +kernel
theorem dX12_list_96 : decode cX12_list 96 = .ok (.istore_n 3, 1) := by decide +kernel
theorem dX12_list_97 : decode cX12_list 97 = .ok (.iinc 4 1, 3) := by decide +kernel
theorem dX12_list_100 : decode cX12_list 100 = .ok (.goto (-50), 3) := by decide +kernel
theorem dX12_list_103 : decode cX12_list 103 = .ok (.iload_n 3, 1) := by decide +kernel
theorem dX12_list_104 : decode cX12_list 104 = .ok (.iconst (-1), 1) := by decide +kernel
theorem dX12_list_105 : decode cX12_list 105 = .ok (.if_icmp .eq (-65), 3) := by decide +kernel
theorem dX12_list_108 : decode cX12_list 108 = .ok (.aload_n 0, 1) := by decide +kernel
theorem dX12_list_109 : decode cX12_list 109 = .ok (.getfield 100, 3) := by decide +kernel
theorem dX12_list_112 : decode cX12_list 112 = .ok (.iload_n 3, 1) := by decide +kernel
theorem dX12_list_113 : decode cX12_list 113 = .ok (.iload_n 2, 1) := by decide +kernel
theorem dX12_list_114 : decode cX12_list 114 = .ok (.iastore, 1) := by decide +kernel
theorem dX12_list_115 : decode cX12_list 115 = .ok (.iinc 1 (-1), 3) := by decide +kernel
theorem dX12_list_118 : decode cX12_list 118 = .ok (.goto (-78), 3) := by decide +kernel
theorem dX12_list_121 : decode cX12_list 121 = .ok (.iinc 2 1, 3) := by decide +kernel
theorem dX12_list_124 : decode cX12_list 124 = .ok (.goto (-90), 3) := by decide +kernel
theorem dX12_list_127 : decode cX12_list 127 = .ok (.aload_n 0, 1) := by decide +kernel
theorem dX12_list_128 : decode cX12_list 128 = .ok (.iconst 0, 1) := by decide +kernel
theorem dX12_list_129 : decode cX12_list 129 = .ok (.putfield 312, 3) := by decide +kernel
theorem dX12_list_132 : decode cX12_list 132 = .ok (.iconst 0, 1) := by decide +kernel
theorem dX12_list_133 : decode cX12_list 133 = .ok (.istore_n 2, 1) := by decide +kernel
theorem dX12_list_134 : decode cX12_list 134 = .ok (.iload_n 2, 1) := by decide +kernel
theorem dX12_list_135 : decode cX12_list 135 = .ok (.aload_n 0, 1) := by decide +kernel
theorem dX12_list_136 : decode cX12_list 136 = .ok (.getfield 196, 3) := by decide +kernel
theorem dX12_list_139 : decode cX12_list 139 = .ok (.if_icmp .ge 32, 3) := by decide +kernel
theorem dX12_list_142 : decode cX12_list 142 = .ok (.aload_n 0, 1) := by decide +kernel
theorem dX12_list_143 : decode cX12_list 143 = .ok (.aload_n 0, 1) := by decide +kernel
theorem dX12_list_144 : decode cX12_list 144 = .ok (.getfield 312, 3) := by decide +kernel
theorem dX12_list_147 : decode cX12_list 147 = .ok (.aload_n 0, 1) := by decide +kernel
theorem dX12_list_148 : decode cX12_list 148 = .ok (.getfield 100, 3) := by decide +kernel
theorem dX12_list_151 : decode cX12_list 151 = .ok (.iload_n 2, 1) := by decide +kernel
theorem dX12_list_152 : decode cX12_list 152 = .ok (.iaload, 1) := by decide +kernel
theorem dX12_list_153 : decode cX12_list 153 = .ok (.aload_n 0, 1) := by decide +kernel
theorem dX12_list_154 : decode cX12_list 154 = .ok (.iload_n 2, 1) := by decide +kernel
theorem dX12_list_155 : decode cX12_list 155 = .ok (.invokevirtual 282, 3) := by decide +kernel
theorem dX12_list_158 : decode cX12_list 158 = .ok (.iadd, 1) := by decide +kernel
theorem dX12_list_159 : decode cX12_list 159 = .ok (.invokestatic 298, 3) := by decide +kernel
theorem dX12_list_162 : decode cX12_list 162 = .ok (.putfield 312, 3) := by decide +kernel
theorem dX12_list_165 : decode cX12_list 165 = .ok (.iinc 2 1, 3) := by decide +kernel
theorem dX12_list_168 : decode cX12_list 168 = .ok (.goto (-34), 3) := by decide +kernel
theorem dX12_list_171 : decode cX12_list 171 = .ok (.return_, 1) := by decide +kernel
theorem dX12_soon_0 : decode cX12_soon 0 = .ok (.aload_n 0, 1) := by decide +kernel
theorem dX12_soon_1 : decode cX12_soon 1 = .ok (.iconst 0, 1) := by decide +kernel
theorem dX12_soon_2 : decode cX12_soon 2 = .ok (.putfield 127, 3) := by decide +kernel
theorem dX12_soon_5 : decode cX12_soon 5 = .ok (.aload_n 0, 1) := by decide +kernel
theorem dX12_soon_6 : decode cX12_soon 6 = .ok (.invokevirtual 315, 3) := by decide +kernel
theorem dX12_soon_9 : decode cX12_soon 9 = .ok (.aload_n 0, 1) := by decide +kernel
theorem dX12_soon_10 : decode cX12_soon 10 = .ok (.aload_n 0, 1) := by decide +kernel
theorem dX12_soon_11 : decode cX12_soon 11 = .ok (.iload_n 1, 1) := by decide +kernel
theorem dX12_soon_12 : decode cX12_soon 12 = .ok (.invokevirtual 305, 3) := by decide +kernel
theorem dX12_soon_15 : decode cX12_soon 15 = .ok (.iconst 1, 1) := by decide +kernel
theorem dX12_soon_16 : decode cX12_soon 16 = .ok (.invokevirtual 142, 3) := by decide +kernel
theorem dX12_soon_19 : decode cX12_soon 19 = .ok (.ifCond .eq 7, 3) := by decide +kernel
theorem dX12_soon_22 : decode cX12_soon 22 = .ok (.iconst 0, 1) := by decide +kernel
theorem dX12_soon_23 : decode cX12_soon 23 = .ok (.goto 9, 3) := by decide +kernel
theorem dX12_soon_26 : decode cX12_soon 26 = .ok (.aload_n 0, 1) := by decide +kernel
theorem dX12_soon_27 : decode cX12_soon 27 = .ok (.getfield 94, 3) := by decide +kernel
theorem dX12_soon_30 : decode cX12_soon 30 = .ok (.iload_n 1, 1) := by decide +kernel
theorem dX12_soon_31 : decode cX12_soon 31 = .ok (.iaload, 1) := by decide +kernel
theorem dX12_soon_32 : decode cX12_soon 32 = .ok (.ireturn, 1) := by decide +kernel
theorem dX12_late_0 : decode cX12_late 0 = .ok (.aload_n 0, 1) := by decide +kernel
theorem dX12_late_1 : decode cX12_late 1 = .ok (.iconst 0, 1) := by decide +kernel
theorem dX12_late_2 : decode cX12_late 2 = .ok (.putfield 127, 3) := by decide +kernel
theorem dX12_late_5 : decode cX12_late 5 = .ok (.aload_n 0, 1) := by decide +kernel
theorem dX12_late_6 : decode cX12_late 6 = .ok (.invokevirtual 315, 3) := by decide +kernel
theorem dX12_late_9 : decode cX12_late 9 = .ok (.aload_n 0, 1) := by decide +kernel
theorem dX12_late_10 : decode cX12_late 10 = .ok (.aload_n 0, 1) := by decide +kernel
theorem dX12_late_11 : decode cX12_late 11 = .ok (.iload_n 1, 1) := by decide +kernel
theorem dX12_late_12 : decode cX12_late 12 = .ok (.invokevirtual 305, 3) := by decide +kernel
theorem dX12_late_15 : decode cX12_late 15 = .ok (.iconst 1, 1) := by decide +kernel
theorem dX12_late_16 : decode cX12_late 16 = .ok (.invokevirtual 142, 3) := by decide +kernel
theorem dX12_late_19 : decode cX12_late 19 = .ok (.ifCond .eq 7, 3) := by decide +kernel
theorem dX12_late_22 : decode cX12_late 22 = .ok (.iconst 0, 1) := by decide +kernel
theorem dX12_late_23 : decode cX12_late 23 = .ok (.goto 9, 3) := by decide +kernel
theorem dX12_late_26 : decode cX12_late 26 = .ok (.aload_n 0, 1) := by decide +kernel
theorem dX12_late_27 : decode cX12_late 27 = .ok (.getfield 97, 3) := by decide +kernel
theorem dX12_late_30 : decode cX12_late 30 = .ok (.iload_n 1, 1) := by decide +kernel
theorem dX12_late_31 : decode cX12_late 31 = .ok (.iaload, 1) := by decide +kernel
theorem dX12_late_32 : decode cX12_late 32 = .ok (.ireturn, 1) := by decide +kernel
theorem dX12_step_0 : decode cX12_step 0 = .ok (.aload_n 0, 1) := by decide +kernel
theorem dX12_step_1 : decode cX12_step 1 = .ok (.iconst 0, 1) := by decide +kernel
theorem dX12_step_2 : decode cX12_step 2 = .ok (.putfield 127, 3) := by decide +kernel
theorem dX12_step_5 : decode cX12_step 5 = .ok (.aload_n 0, 1) := by decide +kernel
theorem dX12_step_6 : decode cX12_step 6 = .ok (.invokevirtual 322, 3) := by decide +kernel
theorem dX12_step_9 : decode cX12_step 9 = .ok (.aload_n 0, 1) := by decide +kernel
theorem dX12_step_10 : decode cX12_step 10 = .ok (.aload_n 0, 1) := by decide +kernel
theorem dX12_step_11 : decode cX12_step 11 = .ok (.iload_n 1, 1) := by decide +kernel
theorem dX12_step_12 : decode cX12_step 12 = .ok (.invokevirtual 305, 3) := by decide +kernel
theorem dX12_step_15 : decode cX12_step 15 = .ok (.iconst 1, 1) := by decide +kernel
theorem dX12_step_16 : decode cX12_step 16 = .ok (.invokevirtual 142, 3) := by decide +kernel
theorem dX12_step_19 : decode cX12_step 19 = .ok (.ifCond .eq 7, 3) := by decide +kernel
theorem dX12_step_22 : decode cX12_step 22 = .ok (.iconst 0, 1) := by decide +kernel
theorem dX12_step_23 : decode cX12_step 23 = .ok (.goto 9, 3) := by decide +kernel
theorem dX12_step_26 : decode cX12_step 26 = .ok (.aload_n 0, 1) := by decide +kernel
theorem dX12_step_27 : decode cX12_step 27 = .ok (.getfield 100, 3) := by decide +kernel
theorem dX12_step_30 : decode cX12_step 30 = .ok (.iload_n 1, 1) := by decide +kernel
theorem dX12_step_31 : decode cX12_step 31 = .ok (.iaload, 1) := by decide +kernel
theorem dX12_step_32 : decode cX12_step 32 = .ok (.ireturn, 1) := by decide +kernel
theorem dX12_length_0 : decode cX12_length 0 = .ok (.aload_n 0, 1) := by decide +kernel
theorem dX12_length_1 : decode cX12_length 1 = .ok (.iconst 0, 1) := by decide +kernel
theorem dX12_length_2 : decode cX12_length 2 = .ok (.putfield 127, 3) := by decide +kernel
theorem dX12_length_5 : decode cX12_length 5 = .ok (.aload_n 0, 1) := by decide +kernel
theorem dX12_length_6 : decode cX12_length 6 = .ok (.invokevirtual 322, 3) := by decide +kernel
theorem dX12_length_9 : decode cX12_length 9 = .ok (.aload_n 0, 1) := by decide +kernel
theorem dX12_length_10 : decode cX12_length 10 = .ok (.getfield 312, 3) := by decide +kernel
theorem dX12_length_13 : decode cX12_length 13 = .ok (.ireturn, 1) := by decide +kernel
theorem dX12_inStep_0 : decode cX12_inStep 0 = .ok (.aload_n 0, 1) := by decide +kernel
theorem dX12_inStep_1 : decode cX12_inStep 1 = .ok (.iconst 0, 1) := by decide +kernel
theorem dX12_inStep_2 : decode cX12_inStep 2 = .ok (.putfield 127, 3) := by decide +kernel
theorem dX12_inStep_5 : decode cX12_inStep 5 = .ok (.aload_n 0, 1) := by decide +kernel
theorem dX12_inStep_6 : decode cX12_inStep 6 = .ok (.invokevirtual 322, 3) := by decide +kernel
theorem dX12_inStep_9 : decode cX12_inStep 9 = .ok (.iconst 0, 1) := by decide +kernel
theorem dX12_inStep_10 : decode cX12_inStep 10 = .ok (.istore_n 2, 1) := by decide +kernel
theorem dX12_inStep_11 : decode cX12_inStep 11 = .ok (.iconst 0, 1) := by decide +kernel
theorem dX12_inStep_12 : decode cX12_inStep 12 = .ok (.istore_n 3, 1) := by decide +kernel
theorem dX12_inStep_13 : decode cX12_inStep 13 = .ok (.iload_n 3, 1) := by decide +kernel
theorem dX12_inStep_14 : decode cX12_inStep 14 = .ok (.aload_n 0, 1) := by decide +kernel
theorem dX12_inStep_15 : decode cX12_inStep 15 = .ok (.getfield 196, 3) := by decide +kernel
theorem dX12_inStep_18 : decode cX12_inStep 18 = .ok (.if_icmp .ge 27, 3) := by decide +kernel
theorem dX12_inStep_21 : decode cX12_inStep 21 = .ok (.iload_n 2, 1) := by decide +kernel
theorem dX12_inStep_22 : decode cX12_inStep 22 = .ok (.aload_n 0, 1) := by decide +kernel
theorem dX12_inStep_23 : decode cX12_inStep 23 = .ok (.getfield 100, 3) := by decide +kernel
theorem dX12_inStep_26 : decode cX12_inStep 26 = .ok (.iload_n 3, 1) := by decide +kernel
theorem dX12_inStep_27 : decode cX12_inStep 27 = .ok (.iaload, 1) := by decide +kernel
theorem dX12_inStep_28 : decode cX12_inStep 28 = .ok (.iload_n 1, 1) := by decide +kernel
theorem dX12_inStep_29 : decode cX12_inStep 29 = .ok (.if_icmp .ne 7, 3) := by decide +kernel
theorem dX12_inStep_32 : decode cX12_inStep 32 = .ok (.iconst 1, 1) := by decide +kernel
theorem dX12_inStep_33 : decode cX12_inStep 33 = .ok (.goto 4, 3) := by decide +kernel
theorem dX12_inStep_36 : decode cX12_inStep 36 = .ok (.iconst 0, 1) := by decide +kernel
theorem dX12_inStep_37 : decode cX12_inStep 37 = .ok (.iadd, 1) := by decide +kernel
theorem dX12_inStep_38 : decode cX12_inStep 38 = .ok (.istore_n 2, 1) := by decide +kernel
theorem dX12_inStep_39 : decode cX12_inStep 39 = .ok (.iinc 3 1, 3) := by decide +kernel
theorem dX12_inStep_42 : decode cX12_inStep 42 = .ok (.goto (-29), 3) := by decide +kernel
theorem dX12_inStep_45 : decode cX12_inStep 45 = .ok (.iload_n 2, 1) := by decide +kernel
theorem dX12_inStep_46 : decode cX12_inStep 46 = .ok (.ireturn, 1) := by decide +kernel
theorem dX12_lastUse_0 : decode cX12_lastUse 0 = .ok (.iconst (-1), 1) := by decide +kernel
theorem dX12_lastUse_1 : decode cX12_lastUse 1 = .ok (.istore_n 2, 1) := by decide +kernel
theorem dX12_lastUse_2 : decode cX12_lastUse 2 = .ok (.iconst 0, 1) := by decide +kernel
theorem dX12_lastUse_3 : decode cX12_lastUse 3 = .ok (.istore_n 3, 1) := by decide +kernel
theorem dX12_lastUse_4 : decode cX12_lastUse 4 = .ok (.iload_n 3, 1) := by decide +kernel
theorem dX12_lastUse_5 : decode cX12_lastUse 5 = .ok (.aload_n 0, 1) := by decide +kernel
theorem dX12_lastUse_6 : decode cX12_lastUse 6 = .ok (.getfield 196, 3) := by decide +kernel
theorem dX12_lastUse_9 : decode cX12_lastUse 9 = .ok (.if_icmp .ge 210, 3) := by decide +kernel
theorem dX12_lastUse_12 : decode cX12_lastUse 12 = .ok (.aload_n 0, 1) := by decide +kernel
theorem dX12_lastUse_13 : decode cX12_lastUse 13 = .ok (.getfield 63, 3) := by decide +kernel
theorem dX12_lastUse_16 : decode cX12_lastUse 16 = .ok (.iload_n 1, 1) := by decide +kernel
theorem dX12_lastUse_17 : decode cX12_lastUse 17 = .ok (.iaload, 1) := by decide +kernel
theorem dX12_lastUse_18 : decode cX12_lastUse 18 = .ok (.iconst (-1), 1) := by decide +kernel
theorem dX12_lastUse_19 : decode cX12_lastUse 19 = .ok (.if_icmp .eq 26, 3) := by decide +kernel
theorem dX12_lastUse_22 : decode cX12_lastUse 22 = .ok (.aload_n 0, 1) := by decide +kernel
theorem dX12_lastUse_23 : decode cX12_lastUse 23 = .ok (.getfield 60, 3) := by decide +kernel
theorem dX12_lastUse_26 : decode cX12_lastUse 26 = .ok (.iload_n 3, 1) := by decide +kernel
theorem dX12_lastUse_27 : decode cX12_lastUse 27 = .ok (.iaload, 1) := by decide +kernel
theorem dX12_lastUse_28 : decode cX12_lastUse 28 = .ok (.aload_n 0, 1) := by decide +kernel
theorem dX12_lastUse_29 : decode cX12_lastUse 29 = .ok (.getfield 63, 3) := by decide +kernel
theorem dX12_lastUse_32 : decode cX12_lastUse 32 = .ok (.iload_n 1, 1) := by decide +kernel
theorem dX12_lastUse_33 : decode cX12_lastUse 33 = .ok (.iaload, 1) := by decide +kernel
theorem dX12_lastUse_34 : decode cX12_lastUse 34 = .ok (.ishr, 1) := by decide +kernel
theorem dX12_lastUse_35 : decode cX12_lastUse 35 = .ok (.iconst 1, 1) := by decide +kernel
theorem dX12_lastUse_36 : decode cX12_lastUse 36 = .ok (.iand, 1) := by decide +kernel
theorem dX12_lastUse_37 : decode cX12_lastUse 37 = .ok (.iconst 1, 1) := by decide +kernel
theorem dX12_lastUse_38 : decode cX12_lastUse 38 = .ok (.if_icmp .ne 7, 3) := by decide +kernel
theorem dX12_lastUse_41 : decode cX12_lastUse 41 = .ok (.iconst 1, 1) := by decide +kernel
theorem dX12_lastUse_42 : decode cX12_lastUse 42 = .ok (.goto 4, 3) := by decide +kernel
theorem dX12_lastUse_45 : decode cX12_lastUse 45 = .ok (.iconst 0, 1) := by decide +kernel
theorem dX12_lastUse_46 : decode cX12_lastUse 46 = .ok (.istore 4, 2) := by decide +kernel
theorem dX12_lastUse_48 : decode cX12_lastUse 48 = .ok (.iconst (-1), 1) := by decide +kernel
theorem dX12_lastUse_49 : decode cX12_lastUse 49 = .ok (.istore 5, 2) := by decide +kernel
theorem dX12_lastUse_51 : decode cX12_lastUse 51 = .ok (.iconst (-1), 1) := by decide +kernel
theorem dX12_lastUse_52 : decode cX12_lastUse 52 = .ok (.istore 6, 2) := by decide +kernel
theorem dX12_lastUse_54 : decode cX12_lastUse 54 = .ok (.iconst 0, 1) := by decide +kernel
theorem dX12_lastUse_55 : decode cX12_lastUse 55 = .ok (.istore 7, 2) := by decide +kernel
theorem dX12_lastUse_57 : decode cX12_lastUse 57 = .ok (.iload 7, 2) := by decide +kernel
theorem dX12_lastUse_59 : decode cX12_lastUse 59 = .ok (.aload_n 0, 1) := by decide +kernel
theorem dX12_lastUse_60 : decode cX12_lastUse 60 = .ok (.getfield 196, 3) := by decide +kernel
theorem dX12_lastUse_63 : decode cX12_lastUse 63 = .ok (.if_icmp .ge 70, 3) := by decide +kernel
theorem dX12_lastUse_66 : decode cX12_lastUse 66 = .ok (.iload 4, 2) := by decide +kernel
theorem dX12_lastUse_68 : decode cX12_lastUse 68 = .ok (.ifCond .eq 65, 3) := by decide +kernel
theorem dX12_lastUse_71 : decode cX12_lastUse 71 = .ok (.aload_n 0, 1) := by decide +kernel
theorem dX12_lastUse_72 : decode cX12_lastUse 72 = .ok (.getfield 63, 3) := by decide +kernel
theorem dX12_lastUse_75 : decode cX12_lastUse 75 = .ok (.iload 7, 2) := by decide +kernel
theorem dX12_lastUse_77 : decode cX12_lastUse 77 = .ok (.iaload, 1) := by decide +kernel
theorem dX12_lastUse_78 : decode cX12_lastUse 78 = .ok (.aload_n 0, 1) := by decide +kernel
theorem dX12_lastUse_79 : decode cX12_lastUse 79 = .ok (.getfield 63, 3) := by decide +kernel
theorem dX12_lastUse_82 : decode cX12_lastUse 82 = .ok (.iload_n 1, 1) := by decide +kernel
theorem dX12_lastUse_83 : decode cX12_lastUse 83 = .ok (.iaload, 1) := by decide +kernel
theorem dX12_lastUse_84 : decode cX12_lastUse 84 = .ok (.if_icmp .ne 14, 3) := by decide +kernel
theorem dX12_lastUse_87 : decode cX12_lastUse 87 = .ok (.iload 7, 2) := by decide +kernel
theorem dX12_lastUse_89 : decode cX12_lastUse 89 = .ok (.iload_n 3, 1) := by decide +kernel
theorem dX12_lastUse_90 : decode cX12_lastUse 90 = .ok (.if_icmp .ge 8, 3) := by decide +kernel
theorem dX12_lastUse_93 : decode cX12_lastUse 93 = .ok (.iload 7, 2) := by decide +kernel
theorem dX12_lastUse_95 : decode cX12_lastUse 95 = .ok (.goto 5, 3) := by decide +kernel
theorem dX12_lastUse_98 : decode cX12_lastUse 98 = .ok (.iload 5, 2) := by decide +kernel
theorem dX12_lastUse_100 : decode cX12_lastUse 100 = .ok (.istore 5, 2) := by decide +kernel
theorem dX12_lastUse_102 : decode cX12_lastUse 102 = .ok (.aload_n 0, 1) := by decide +kernel
theorem dX12_lastUse_103 : decode cX12_lastUse 103 = .ok (.getfield 63, 3) := by decide +kernel
theorem dX12_lastUse_106 : decode cX12_lastUse 106 = .ok (.iload 7, 2) := by decide +kernel
theorem dX12_lastUse_108 : decode cX12_lastUse 108 = .ok (.iaload, 1) := by decide +kernel
theorem dX12_lastUse_109 : decode cX12_lastUse 109 = .ok (.aload_n 0, 1) := by decide +kernel
theorem dX12_lastUse_110 : decode cX12_lastUse 110 = .ok (.getfield 63, 3) := by decide +kernel
theorem dX12_lastUse_113 : decode cX12_lastUse 113 = .ok (.iload_n 1, 1) := by decide +kernel
theorem dX12_lastUse_114 : decode cX12_lastUse 114 = .ok (.iaload, 1) := by decide +kernel
theorem dX12_lastUse_115 : decode cX12_lastUse 115 = .ok (.if_icmp .ne 8, 3) := by decide +kernel
theorem dX12_lastUse_118 : decode cX12_lastUse 118 = .ok (.iload 7, 2) := by decide +kernel
theorem dX12_lastUse_120 : decode cX12_lastUse 120 = .ok (.goto 5, 3) := by decide +kernel
theorem dX12_lastUse_123 : decode cX12_lastUse 123 = .ok (.iload 6, 2) := by decide +kernel
theorem dX12_lastUse_125 : decode cX12_lastUse 125 = .ok (.istore 6, 2) := by decide +kernel
theorem dX12_lastUse_127 : decode cX12_lastUse 127 = .ok (.iinc 7 1, 3) := by decide +kernel
theorem dX12_lastUse_130 : decode cX12_lastUse 130 = .ok (.goto (-73), 3) := by decide +kernel
theorem dX12_lastUse_133 : decode cX12_lastUse 133 = .ok (.iload 4, 2) := by decide +kernel
theorem dX12_lastUse_135 : decode cX12_lastUse 135 = .ok (.ifCond .eq 13, 3) := by decide +kernel
theorem dX12_lastUse_138 : decode cX12_lastUse 138 = .ok (.iload 5, 2) := by decide +kernel
theorem dX12_lastUse_140 : decode cX12_lastUse 140 = .ok (.iload_n 1, 1) := by decide +kernel
theorem dX12_lastUse_141 : decode cX12_lastUse 141 = .ok (.if_icmp .ne 7, 3) := by decide +kernel
theorem dX12_lastUse_144 : decode cX12_lastUse 144 = .ok (.iconst 1, 1) := by decide +kernel
theorem dX12_lastUse_145 : decode cX12_lastUse 145 = .ok (.goto 4, 3) := by decide +kernel
theorem dX12_lastUse_148 : decode cX12_lastUse 148 = .ok (.iconst 0, 1) := by decide +kernel
theorem dX12_lastUse_149 : decode cX12_lastUse 149 = .ok (.istore 7, 2) := by decide +kernel
theorem dX12_lastUse_151 : decode cX12_lastUse 151 = .ok (.iload 4, 2) := by decide +kernel
theorem dX12_lastUse_153 : decode cX12_lastUse 153 = .ok (.ifCond .eq 19, 3) := by decide +kernel
theorem dX12_lastUse_156 : decode cX12_lastUse 156 = .ok (.iload 5, 2) := by decide +kernel
theorem dX12_lastUse_158 : decode cX12_lastUse 158 = .ok (.iconst (-1), 1) := by decide +kernel
theorem dX12_lastUse_159 : decode cX12_lastUse 159 = .ok (.if_icmp .ne 13, 3) := by decide +kernel
theorem dX12_lastUse_162 : decode cX12_lastUse 162 = .ok (.iload 6, 2) := by decide +kernel
theorem dX12_lastUse_164 : decode cX12_lastUse 164 = .ok (.iload_n 1, 1) := by decide +kernel
theorem dX12_lastUse_165 : decode cX12_lastUse 165 = .ok (.if_icmp .ne 7, 3) := by decide +kernel
theorem dX12_lastUse_168 : decode cX12_lastUse 168 = .ok (.iconst 1, 1) := by decide +kernel
theorem dX12_lastUse_169 : decode cX12_lastUse 169 = .ok (.goto 4, 3) := by decide +kernel
theorem dX12_lastUse_172 : decode cX12_lastUse 172 = .ok (.iconst 0, 1) := by decide +kernel
theorem dX12_lastUse_173 : decode cX12_lastUse 173 = .ok (.istore 8, 2) := by decide +kernel
theorem dX12_lastUse_175 : decode cX12_lastUse 175 = .ok (.iload 7, 2) := by decide +kernel
theorem dX12_lastUse_177 : decode cX12_lastUse 177 = .ok (.ifCond .eq 16, 3) := by decide +kernel
theorem dX12_lastUse_180 : decode cX12_lastUse 180 = .ok (.iload_n 2, 1) := by decide +kernel
theorem dX12_lastUse_181 : decode cX12_lastUse 181 = .ok (.aload_n 0, 1) := by decide +kernel
theorem dX12_lastUse_182 : decode cX12_lastUse 182 = .ok (.getfield 100, 3) := by decide +kernel
theorem dX12_lastUse_185 : decode cX12_lastUse 185 = .ok (.iload_n 3, 1) := by decide +kernel
theorem dX12_lastUse_186 : decode cX12_lastUse 186 = .ok (.iaload, 1) := by decide +kernel
theorem dX12_lastUse_187 : decode cX12_lastUse 187 = .ok (.invokestatic 298, 3) := by decide +kernel
theorem dX12_lastUse_190 : decode cX12_lastUse 190 = .ok (.goto 22, 3) := by decide +kernel
theorem dX12_lastUse_193 : decode cX12_lastUse 193 = .ok (.iload 8, 2) := by decide +kernel
theorem dX12_lastUse_195 : decode cX12_lastUse 195 = .ok (.ifCond .eq 16, 3) := by decide +kernel
theorem dX12_lastUse_198 : decode cX12_lastUse 198 = .ok (.iload_n 2, 1) := by decide +kernel
theorem dX12_lastUse_199 : decode cX12_lastUse 199 = .ok (.aload_n 0, 1) := by decide +kernel
theorem dX12_lastUse_200 : decode cX12_lastUse 200 = .ok (.getfield 312, 3) := by decide +kernel
theorem dX12_lastUse_203 : decode cX12_lastUse 203 = .ok (.iconst 1, 1) := by decide +kernel
theorem dX12_lastUse_204 : decode cX12_lastUse 204 = .ok (.isub, 1) := by decide +kernel
theorem dX12_lastUse_205 : decode cX12_lastUse 205 = .ok (.invokestatic 298, 3) := by decide +kernel
theorem dX12_lastUse_208 : decode cX12_lastUse 208 = .ok (.goto 4, 3) := by decide +kernel
theorem dX12_lastUse_211 : decode cX12_lastUse 211 = .ok (.iload_n 2, 1) := by decide +kernel
theorem dX12_lastUse_212 : decode cX12_lastUse 212 = .ok (.istore_n 2, 1) := by decide +kernel
theorem dX12_lastUse_213 : decode cX12_lastUse 213 = .ok (.iinc 3 1, 3) := by decide +kernel
theorem dX12_lastUse_216 : decode cX12_lastUse 216 = .ok (.goto (-212), 3) := by decide +kernel
theorem dX12_lastUse_219 : decode cX12_lastUse 219 = .ok (.iload_n 2, 1) := by decide +kernel
theorem dX12_lastUse_220 : decode cX12_lastUse 220 = .ok (.ireturn, 1) := by decide +kernel
theorem dX12_waiting_0 : decode cX12_waiting 0 = .ok (.aload_n 0, 1) := by decide +kernel
theorem dX12_waiting_1 : decode cX12_waiting 1 = .ok (.iconst 0, 1) := by decide +kernel
theorem dX12_waiting_2 : decode cX12_waiting 2 = .ok (.putfield 127, 3) := by decide +kernel
theorem dX12_waiting_5 : decode cX12_waiting 5 = .ok (.aload_n 0, 1) := by decide +kernel
theorem dX12_waiting_6 : decode cX12_waiting 6 = .ok (.invokevirtual 322, 3) := by decide +kernel
theorem dX12_waiting_9 : decode cX12_waiting 9 = .ok (.iconst 0, 1) := by decide +kernel
theorem dX12_waiting_10 : decode cX12_waiting 10 = .ok (.istore_n 1, 1) := by decide +kernel
theorem dX12_waiting_11 : decode cX12_waiting 11 = .ok (.iconst 0, 1) := by decide +kernel
theorem dX12_waiting_12 : decode cX12_waiting 12 = .ok (.istore_n 2, 1) := by decide +kernel
theorem dX12_waiting_13 : decode cX12_waiting 13 = .ok (.iload_n 2, 1) := by decide +kernel
theorem dX12_waiting_14 : decode cX12_waiting 14 = .ok (.aload_n 0, 1) := by decide +kernel
theorem dX12_waiting_15 : decode cX12_waiting 15 = .ok (.getfield 312, 3) := by decide +kernel
theorem dX12_waiting_18 : decode cX12_waiting 18 = .ok (.if_icmp .ge 71, 3) := by decide +kernel
theorem dX12_waiting_21 : decode cX12_waiting 21 = .ok (.iconst 0, 1) := by decide +kernel
theorem dX12_waiting_22 : decode cX12_waiting 22 = .ok (.istore_n 3, 1) := by decide +kernel
theorem dX12_waiting_23 : decode cX12_waiting 23 = .ok (.iconst 0, 1) := by decide +kernel
theorem dX12_waiting_24 : decode cX12_waiting 24 = .ok (.istore 4, 2) := by decide +kernel
theorem dX12_waiting_26 : decode cX12_waiting 26 = .ok (.iload 4, 2) := by decide +kernel
theorem dX12_waiting_28 : decode cX12_waiting 28 = .ok (.aload_n 0, 1) := by decide +kernel
theorem dX12_waiting_29 : decode cX12_waiting 29 = .ok (.getfield 196, 3) := by decide +kernel
theorem dX12_waiting_32 : decode cX12_waiting 32 = .ok (.if_icmp .ge 45, 3) := by decide +kernel
theorem dX12_waiting_35 : decode cX12_waiting 35 = .ok (.iload_n 3, 1) := by decide +kernel
theorem dX12_waiting_36 : decode cX12_waiting 36 = .ok (.aload_n 0, 1) := by decide +kernel
theorem dX12_waiting_37 : decode cX12_waiting 37 = .ok (.getfield 100, 3) := by decide +kernel
theorem dX12_waiting_40 : decode cX12_waiting 40 = .ok (.iload 4, 2) := by decide +kernel
theorem dX12_waiting_42 : decode cX12_waiting 42 = .ok (.iaload, 1) := by decide +kernel
theorem dX12_waiting_43 : decode cX12_waiting 43 = .ok (.aload_n 0, 1) := by decide +kernel
theorem dX12_waiting_44 : decode cX12_waiting 44 = .ok (.iload 4, 2) := by decide +kernel
theorem dX12_waiting_46 : decode cX12_waiting 46 = .ok (.invokevirtual 282, 3) := by decide +kernel
theorem dX12_waiting_49 : decode cX12_waiting 49 = .ok (.iadd, 1) := by decide +kernel
theorem dX12_waiting_50 : decode cX12_waiting 50 = .ok (.iload_n 2, 1) := by decide +kernel
theorem dX12_waiting_51 : decode cX12_waiting 51 = .ok (.if_icmp .gt 17, 3) := by decide +kernel
theorem dX12_waiting_54 : decode cX12_waiting 54 = .ok (.iload_n 2, 1) := by decide +kernel
theorem dX12_waiting_55 : decode cX12_waiting 55 = .ok (.aload_n 0, 1) := by decide +kernel
theorem dX12_waiting_56 : decode cX12_waiting 56 = .ok (.iload 4, 2) := by decide +kernel
theorem dX12_waiting_58 : decode cX12_waiting 58 = .ok (.invokevirtual 325, 3) := by decide +kernel
theorem dX12_waiting_61 : decode cX12_waiting 61 = .ok (.if_icmp .gt 7, 3) := by decide +kernel
theorem dX12_waiting_64 : decode cX12_waiting 64 = .ok (.iconst 1, 1) := by decide +kernel
theorem dX12_waiting_65 : decode cX12_waiting 65 = .ok (.goto 4, 3) := by decide +kernel
theorem dX12_waiting_68 : decode cX12_waiting 68 = .ok (.iconst 0, 1) := by decide +kernel
theorem dX12_waiting_69 : decode cX12_waiting 69 = .ok (.iadd, 1) := by decide +kernel
theorem dX12_waiting_70 : decode cX12_waiting 70 = .ok (.istore_n 3, 1) := by decide +kernel
theorem dX12_waiting_71 : decode cX12_waiting 71 = .ok (.iinc 4 1, 3) := by decide +kernel
theorem dX12_waiting_74 : decode cX12_waiting 74 = .ok (.goto (-48), 3) := by decide +kernel
theorem dX12_waiting_77 : decode cX12_waiting 77 = .ok (.iload_n 1, 1) := by decide +kernel
theorem dX12_waiting_78 : decode cX12_waiting 78 = .ok (.iload_n 3, 1) := by decide +kernel
theorem dX12_waiting_79 : decode cX12_waiting 79 = .ok (.invokestatic 298, 3) := by decide +kernel
theorem dX12_waiting_82 : decode cX12_waiting 82 = .ok (.istore_n 1, 1) := by decide +kernel
theorem dX12_waiting_83 : decode cX12_waiting 83 = .ok (.iinc 2 1, 3) := by decide +kernel
theorem dX12_waiting_86 : decode cX12_waiting 86 = .ok (.goto (-73), 3) := by decide +kernel
theorem dX12_waiting_89 : decode cX12_waiting 89 = .ok (.iload_n 1, 1) := by decide +kernel
theorem dX12_waiting_90 : decode cX12_waiting 90 = .ok (.ireturn, 1) := by decide +kernel
theorem dX12_hasRing_0 : decode cX12_hasRing 0 = .ok (.iconst 0, 1) := by decide +kernel
theorem dX12_hasRing_1 : decode cX12_hasRing 1 = .ok (.istore_n 2, 1) := by decide +kernel
theorem dX12_hasRing_2 : decode cX12_hasRing 2 = .ok (.iload_n 2, 1) := by decide +kernel
theorem dX12_hasRing_3 : decode cX12_hasRing 3 = .ok (.aload_n 0, 1) := by decide +kernel
theorem dX12_hasRing_4 : decode cX12_hasRing 4 = .ok (.getfield 196, 3) := by decide +kernel
theorem dX12_hasRing_7 : decode cX12_hasRing 7 = .ok (.if_icmp .ge 16, 3) := by decide +kernel
theorem dX12_hasRing_10 : decode cX12_hasRing 10 = .ok (.aload_n 0, 1) := by decide +kernel
theorem dX12_hasRing_11 : decode cX12_hasRing 11 = .ok (.getfield 106, 3) := by decide +kernel
theorem dX12_hasRing_14 : decode cX12_hasRing 14 = .ok (.iload_n 2, 1) := by decide +kernel
theorem dX12_hasRing_15 : decode cX12_hasRing 15 = .ok (.iconst 0, 1) := by decide +kernel
theorem dX12_hasRing_16 : decode cX12_hasRing 16 = .ok (.iastore, 1) := by decide +kernel
theorem dX12_hasRing_17 : decode cX12_hasRing 17 = .ok (.iinc 2 1, 3) := by decide +kernel
theorem dX12_hasRing_20 : decode cX12_hasRing 20 = .ok (.goto (-18), 3) := by decide +kernel
theorem dX12_hasRing_23 : decode cX12_hasRing 23 = .ok (.iconst 1, 1) := by decide +kernel
theorem dX12_hasRing_24 : decode cX12_hasRing 24 = .ok (.istore_n 2, 1) := by decide +kernel
theorem dX12_hasRing_25 : decode cX12_hasRing 25 = .ok (.iconst 0, 1) := by decide +kernel
theorem dX12_hasRing_26 : decode cX12_hasRing 26 = .ok (.istore_n 3, 1) := by decide +kernel
theorem dX12_hasRing_27 : decode cX12_hasRing 27 = .ok (.iload_n 3, 1) := by decide +kernel
theorem dX12_hasRing_28 : decode cX12_hasRing 28 = .ok (.aload_n 0, 1) := by decide +kernel
theorem dX12_hasRing_29 : decode cX12_hasRing 29 = .ok (.getfield 196, 3) := by decide +kernel
theorem dX12_hasRing_32 : decode cX12_hasRing 32 = .ok (.if_icmp .gt 98, 3) := by decide +kernel
theorem dX12_hasRing_35 : decode cX12_hasRing 35 = .ok (.iload_n 2, 1) := by decide +kernel
theorem dX12_hasRing_36 : decode cX12_hasRing 36 = .ok (.ifCond .eq 94, 3) := by decide +kernel
theorem dX12_hasRing_39 : decode cX12_hasRing 39 = .ok (.iconst 0, 1) := by decide +kernel
theorem dX12_hasRing_40 : decode cX12_hasRing 40 = .ok (.istore_n 2, 1) := by decide +kernel
theorem dX12_hasRing_41 : decode cX12_hasRing 41 = .ok (.iconst 0, 1) := by decide +kernel
theorem dX12_hasRing_42 : decode cX12_hasRing 42 = .ok (.istore 4, 2) := by decide +kernel
theorem dX12_hasRing_44 : decode cX12_hasRing 44 = .ok (.iload 4, 2) := by decide +kernel
theorem dX12_hasRing_46 : decode cX12_hasRing 46 = .ok (.aload_n 0, 1) := by decide +kernel
theorem dX12_hasRing_47 : decode cX12_hasRing 47 = .ok (.getfield 273, 3) := by decide +kernel
theorem dX12_hasRing_50 : decode cX12_hasRing 50 = .ok (.if_icmp .ge 74, 3) := by decide +kernel
theorem dX12_hasRing_53 : decode cX12_hasRing 53 = .ok (.aload_n 0, 1) := by decide +kernel
theorem dX12_hasRing_54 : decode cX12_hasRing 54 = .ok (.getfield 106, 3) := by decide +kernel
theorem dX12_hasRing_57 : decode cX12_hasRing 57 = .ok (.aload_n 0, 1) := by decide +kernel
theorem dX12_hasRing_58 : decode cX12_hasRing 58 = .ok (.getfield 76, 3) := by decide +kernel
theorem dX12_hasRing_61 : decode cX12_hasRing 61 = .ok (.iload 4, 2) := by decide +kernel
theorem dX12_hasRing_63 : decode cX12_hasRing 63 = .ok (.iaload, 1) := by decide +kernel
theorem dX12_hasRing_64 : decode cX12_hasRing 64 = .ok (.iaload, 1) := by decide +kernel
theorem dX12_hasRing_65 : decode cX12_hasRing 65 = .ok (.aload_n 0, 1) := by decide +kernel
theorem dX12_hasRing_66 : decode cX12_hasRing 66 = .ok (.getfield 85, 3) := by decide +kernel
theorem dX12_hasRing_69 : decode cX12_hasRing 69 = .ok (.iload 4, 2) := by decide +kernel
theorem dX12_hasRing_71 : decode cX12_hasRing 71 = .ok (.iaload, 1) := by decide +kernel
theorem dX12_hasRing_72 : decode cX12_hasRing 72 = .ok (.iadd, 1) := by decide +kernel
theorem dX12_hasRing_73 : decode cX12_hasRing 73 = .ok (.iload_n 1, 1) := by decide +kernel
theorem dX12_hasRing_74 : decode cX12_hasRing 74 = .ok (.aload_n 0, 1) := by decide +kernel
theorem dX12_hasRing_75 : decode cX12_hasRing 75 = .ok (.getfield 82, 3) := by decide +kernel
theorem dX12_hasRing_78 : decode cX12_hasRing 78 = .ok (.iload 4, 2) := by decide +kernel
theorem dX12_hasRing_80 : decode cX12_hasRing 80 = .ok (.iaload, 1) := by decide +kernel
theorem dX12_hasRing_81 : decode cX12_hasRing 81 = .ok (.imul, 1) := by decide +kernel
theorem dX12_hasRing_82 : decode cX12_hasRing 82 = .ok (.isub, 1) := by decide +kernel
theorem dX12_hasRing_83 : decode cX12_hasRing 83 = .ok (.istore 5, 2) := by decide +kernel
theorem dX12_hasRing_85 : decode cX12_hasRing 85 = .ok (.iload 5, 2) := by decide +kernel
theorem dX12_hasRing_87 : decode cX12_hasRing 87 = .ok (.aload_n 0, 1) := by decide +kernel
theorem dX12_hasRing_88 : decode cX12_hasRing 88 = .ok (.getfield 106, 3) := by decide +kernel
theorem dX12_hasRing_91 : decode cX12_hasRing 91 = .ok (.aload_n 0, 1) := by decide +kernel
theorem dX12_hasRing_92 : decode cX12_hasRing 92 = .ok (.getfield 79, 3) := by decide +kernel
theorem dX12_hasRing_95 : decode cX12_hasRing 95 = .ok (.iload 4, 2) := by decide +kernel
theorem dX12_hasRing_97 : decode cX12_hasRing 97 = .ok (.iaload, 1) := by decide +kernel
theorem dX12_hasRing_98 : decode cX12_hasRing 98 = .ok (.iaload, 1) := by decide +kernel
theorem dX12_hasRing_99 : decode cX12_hasRing 99 = .ok (.if_icmp .le 19, 3) := by decide +kernel
theorem dX12_hasRing_102 : decode cX12_hasRing 102 = .ok (.aload_n 0, 1) := by decide +kernel
theorem dX12_hasRing_103 : decode cX12_hasRing 103 = .ok (.getfield 106, 3) := by decide +kernel
theorem dX12_hasRing_106 : decode cX12_hasRing 106 = .ok (.aload_n 0, 1) := by decide +kernel
theorem dX12_hasRing_107 : decode cX12_hasRing 107 = .ok (.getfield 79, 3) := by decide +kernel
theorem dX12_hasRing_110 : decode cX12_hasRing 110 = .ok (.iload 4, 2) := by decide +kernel
theorem dX12_hasRing_112 : decode cX12_hasRing 112 = .ok (.iaload, 1) := by decide +kernel
theorem dX12_hasRing_113 : decode cX12_hasRing 113 = .ok (.iload 5, 2) := by decide +kernel
theorem dX12_hasRing_115 : decode cX12_hasRing 115 = .ok (.iastore, 1) := by decide +kernel
theorem dX12_hasRing_116 : decode cX12_hasRing 116 = .ok (.iconst 1, 1) := by decide +kernel
theorem dX12_hasRing_117 : decode cX12_hasRing 117 = .ok (.istore_n 2, 1) := by decide +kernel
theorem dX12_hasRing_118 : decode cX12_hasRing 118 = .ok (.iinc 4 1, 3) := by decide +kernel
theorem dX12_hasRing_121 : decode cX12_hasRing 121 = .ok (.goto (-77), 3) := by decide +kernel
theorem dX12_hasRing_124 : decode cX12_hasRing 124 = .ok (.iinc 3 1, 3) := by decide +kernel
theorem dX12_hasRing_127 : decode cX12_hasRing 127 = .ok (.goto (-100), 3) := by decide +kernel
theorem dX12_hasRing_130 : decode cX12_hasRing 130 = .ok (.iload_n 2, 1) := by decide +kernel
theorem dX12_hasRing_131 : decode cX12_hasRing 131 = .ok (.ireturn, 1) := by decide +kernel
theorem dX12_rings_0 : decode cX12_rings 0 = .ok (.iconst 1, 1) := by decide +kernel
theorem dX12_rings_1 : decode cX12_rings 1 = .ok (.istore_n 1, 1) := by decide +kernel
theorem dX12_rings_2 : decode cX12_rings 2 = .ok (.aload_n 0, 1) := by decide +kernel
theorem dX12_rings_3 : decode cX12_rings 3 = .ok (.iload_n 1, 1) := by decide +kernel
theorem dX12_rings_4 : decode cX12_rings 4 = .ok (.invokevirtual 328, 3) := by decide +kernel
theorem dX12_rings_7 : decode cX12_rings 7 = .ok (.ifCond .eq 9, 3) := by decide +kernel
theorem dX12_rings_10 : decode cX12_rings 10 = .ok (.iinc 1 1, 3) := by decide +kernel
theorem dX12_rings_13 : decode cX12_rings 13 = .ok (.goto (-11), 3) := by decide +kernel
theorem dX12_rings_16 : decode cX12_rings 16 = .ok (.iload_n 1, 1) := by decide +kernel
theorem dX12_rings_17 : decode cX12_rings 17 = .ok (.ireturn, 1) := by decide +kernel
theorem dX12_needs_0 : decode cX12_needs 0 = .ok (.iconst 0, 1) := by decide +kernel
theorem dX12_needs_1 : decode cX12_needs 1 = .ok (.istore_n 2, 1) := by decide +kernel
theorem dX12_needs_2 : decode cX12_needs 2 = .ok (.iconst 0, 1) := by decide +kernel
theorem dX12_needs_3 : decode cX12_needs 3 = .ok (.istore_n 3, 1) := by decide +kernel
theorem dX12_needs_4 : decode cX12_needs 4 = .ok (.iload_n 3, 1) := by decide +kernel
theorem dX12_needs_5 : decode cX12_needs 5 = .ok (.aload_n 0, 1) := by decide +kernel
theorem dX12_needs_6 : decode cX12_needs 6 = .ok (.getfield 196, 3) := by decide +kernel
theorem dX12_needs_9 : decode cX12_needs 9 = .ok (.if_icmp .ge 27, 3) := by decide +kernel
theorem dX12_needs_12 : decode cX12_needs 12 = .ok (.iload_n 2, 1) := by decide +kernel
theorem dX12_needs_13 : decode cX12_needs 13 = .ok (.aload_n 0, 1) := by decide +kernel
theorem dX12_needs_14 : decode cX12_needs 14 = .ok (.getfield 57, 3) := by decide +kernel
theorem dX12_needs_17 : decode cX12_needs 17 = .ok (.iload_n 3, 1) := by decide +kernel
theorem dX12_needs_18 : decode cX12_needs 18 = .ok (.iaload, 1) := by decide +kernel
theorem dX12_needs_19 : decode cX12_needs 19 = .ok (.iload_n 1, 1) := by decide +kernel
theorem dX12_needs_20 : decode cX12_needs 20 = .ok (.if_icmp .ne 7, 3) := by decide +kernel
theorem dX12_needs_23 : decode cX12_needs 23 = .ok (.iconst 1, 1) := by decide +kernel
theorem dX12_needs_24 : decode cX12_needs 24 = .ok (.goto 4, 3) := by decide +kernel
theorem dX12_needs_27 : decode cX12_needs 27 = .ok (.iconst 0, 1) := by decide +kernel
theorem dX12_needs_28 : decode cX12_needs 28 = .ok (.iadd, 1) := by decide +kernel
theorem dX12_needs_29 : decode cX12_needs 29 = .ok (.istore_n 2, 1) := by decide +kernel
theorem dX12_needs_30 : decode cX12_needs 30 = .ok (.iinc 3 1, 3) := by decide +kernel
theorem dX12_needs_33 : decode cX12_needs 33 = .ok (.goto (-29), 3) := by decide +kernel
theorem dX12_needs_36 : decode cX12_needs 36 = .ok (.iload_n 2, 1) := by decide +kernel
theorem dX12_needs_37 : decode cX12_needs 37 = .ok (.aload_n 0, 1) := by decide +kernel
theorem dX12_needs_38 : decode cX12_needs 38 = .ok (.getfield 36, 3) := by decide +kernel
theorem dX12_needs_41 : decode cX12_needs 41 = .ok (.iload_n 1, 1) := by decide +kernel
theorem dX12_needs_42 : decode cX12_needs 42 = .ok (.iaload, 1) := by decide +kernel
theorem dX12_needs_43 : decode cX12_needs 43 = .ok (.iadd, 1) := by decide +kernel
theorem dX12_needs_44 : decode cX12_needs 44 = .ok (.iconst 1, 1) := by decide +kernel
theorem dX12_needs_45 : decode cX12_needs 45 = .ok (.isub, 1) := by decide +kernel
theorem dX12_needs_46 : decode cX12_needs 46 = .ok (.aload_n 0, 1) := by decide +kernel
theorem dX12_needs_47 : decode cX12_needs 47 = .ok (.getfield 36, 3) := by decide +kernel
theorem dX12_needs_50 : decode cX12_needs 50 = .ok (.iload_n 1, 1) := by decide +kernel
theorem dX12_needs_51 : decode cX12_needs 51 = .ok (.iaload, 1) := by decide +kernel
theorem dX12_needs_52 : decode cX12_needs 52 = .ok (.idiv, 1) := by decide +kernel
theorem dX12_needs_53 : decode cX12_needs 53 = .ok (.ireturn, 1) := by decide +kernel
theorem dX12_byAllUnits_0 : decode cX12_byAllUnits 0 = .ok (.iconst 1, 1) := by decide +kernel
theorem dX12_byAllUnits_1 : decode cX12_byAllUnits 1 = .ok (.istore_n 1, 1) := by decide +kernel
theorem dX12_byAllUnits_2 : decode cX12_byAllUnits 2 = .ok (.iconst 0, 1) := by decide +kernel
theorem dX12_byAllUnits_3 : decode cX12_byAllUnits 3 = .ok (.istore_n 2, 1) := by decide +kernel
theorem dX12_byAllUnits_4 : decode cX12_byAllUnits 4 = .ok (.iload_n 2, 1) := by decide +kernel
theorem dX12_byAllUnits_5 : decode cX12_byAllUnits 5 = .ok (.bipush 7, 2) := by decide +kernel
theorem dX12_byAllUnits_7 : decode cX12_byAllUnits 7 = .ok (.if_icmp .ge 19, 3) := by decide +kernel
theorem dX12_byAllUnits_10 : decode cX12_byAllUnits 10 = .ok (.iload_n 1, 1) := by decide +kernel
theorem dX12_byAllUnits_11 : decode cX12_byAllUnits 11 = .ok (.aload_n 0, 1) := by decide +kernel
theorem dX12_byAllUnits_12 : decode cX12_byAllUnits 12 = .ok (.iload_n 2, 1) := by decide +kernel
theorem dX12_byAllUnits_13 : decode cX12_byAllUnits 13 = .ok (.invokevirtual 331, 3) := by decide +kernel
theorem dX12_byAllUnits_16 : decode cX12_byAllUnits 16 = .ok (.invokestatic 298, 3) := by decide +kernel
theorem dX12_byAllUnits_19 : decode cX12_byAllUnits 19 = .ok (.istore_n 1, 1) := by decide +kernel
theorem dX12_byAllUnits_20 : decode cX12_byAllUnits 20 = .ok (.iinc 2 1, 3) := by decide +kernel
theorem dX12_byAllUnits_23 : decode cX12_byAllUnits 23 = .ok (.goto (-19), 3) := by decide +kernel
theorem dX12_byAllUnits_26 : decode cX12_byAllUnits 26 = .ok (.iload_n 1, 1) := by decide +kernel
theorem dX12_byAllUnits_27 : decode cX12_byAllUnits 27 = .ok (.ireturn, 1) := by decide +kernel
theorem dX12_isFree_0 : decode cX12_isFree 0 = .ok (.iconst 0, 1) := by decide +kernel
theorem dX12_isFree_1 : decode cX12_isFree 1 = .ok (.istore 4, 2) := by decide +kernel
theorem dX12_isFree_3 : decode cX12_isFree 3 = .ok (.iconst 1, 1) := by decide +kernel
theorem dX12_isFree_4 : decode cX12_isFree 4 = .ok (.istore 5, 2) := by decide +kernel
theorem dX12_isFree_6 : decode cX12_isFree 6 = .ok (.iconst 0, 1) := by decide +kernel
theorem dX12_isFree_7 : decode cX12_isFree 7 = .ok (.istore 6, 2) := by decide +kernel
theorem dX12_isFree_9 : decode cX12_isFree 9 = .ok (.iload 6, 2) := by decide +kernel
theorem dX12_isFree_11 : decode cX12_isFree 11 = .ok (.iload_n 1, 1) := by decide +kernel
theorem dX12_isFree_12 : decode cX12_isFree 12 = .ok (.if_icmp .ge 50, 3) := by decide +kernel
theorem dX12_isFree_15 : decode cX12_isFree 15 = .ok (.iload 4, 2) := by decide +kernel
theorem dX12_isFree_17 : decode cX12_isFree 17 = .ok (.aload_n 0, 1) := by decide +kernel
theorem dX12_isFree_18 : decode cX12_isFree 18 = .ok (.getfield 57, 3) := by decide +kernel
theorem dX12_isFree_21 : decode cX12_isFree 21 = .ok (.iload 6, 2) := by decide +kernel
theorem dX12_isFree_23 : decode cX12_isFree 23 = .ok (.iaload, 1) := by decide +kernel
theorem dX12_isFree_24 : decode cX12_isFree 24 = .ok (.aload_n 0, 1) := by decide +kernel
theorem dX12_isFree_25 : decode cX12_isFree 25 = .ok (.getfield 57, 3) := by decide +kernel
theorem dX12_isFree_28 : decode cX12_isFree 28 = .ok (.iload_n 1, 1) := by decide +kernel
theorem dX12_isFree_29 : decode cX12_isFree 29 = .ok (.iaload, 1) := by decide +kernel
theorem dX12_isFree_30 : decode cX12_isFree 30 = .ok (.if_icmp .ne 22, 3) := by decide +kernel
theorem dX12_isFree_33 : decode cX12_isFree 33 = .ok (.aload_n 0, 1) := by decide +kernel
theorem dX12_isFree_34 : decode cX12_isFree 34 = .ok (.getfield 103, 3) := by decide +kernel
theorem dX12_isFree_37 : decode cX12_isFree 37 = .ok (.iload 6, 2) := by decide +kernel
theorem dX12_isFree_39 : decode cX12_isFree 39 = .ok (.iaload, 1) := by decide +kernel
theorem dX12_isFree_40 : decode cX12_isFree 40 = .ok (.iload_n 3, 1) := by decide +kernel
theorem dX12_isFree_41 : decode cX12_isFree 41 = .ok (.irem, 1) := by decide +kernel
theorem dX12_isFree_42 : decode cX12_isFree 42 = .ok (.iload_n 2, 1) := by decide +kernel
theorem dX12_isFree_43 : decode cX12_isFree 43 = .ok (.iload_n 3, 1) := by decide +kernel
theorem dX12_isFree_44 : decode cX12_isFree 44 = .ok (.irem, 1) := by decide +kernel
theorem dX12_isFree_45 : decode cX12_isFree 45 = .ok (.if_icmp .ne 7, 3) := by decide +kernel
theorem dX12_isFree_48 : decode cX12_isFree 48 = .ok (.iconst 1, 1) := by decide +kernel
theorem dX12_isFree_49 : decode cX12_isFree 49 = .ok (.goto 4, 3) := by decide +kernel
theorem dX12_isFree_52 : decode cX12_isFree 52 = .ok (.iconst 0, 1) := by decide +kernel
theorem dX12_isFree_53 : decode cX12_isFree 53 = .ok (.iadd, 1) := by decide +kernel
theorem dX12_isFree_54 : decode cX12_isFree 54 = .ok (.istore 4, 2) := by decide +kernel
theorem dX12_isFree_56 : decode cX12_isFree 56 = .ok (.iinc 6 1, 3) := by decide +kernel
theorem dX12_isFree_59 : decode cX12_isFree 59 = .ok (.goto (-50), 3) := by decide +kernel
theorem dX12_isFree_62 : decode cX12_isFree 62 = .ok (.iconst 0, 1) := by decide +kernel
theorem dX12_isFree_63 : decode cX12_isFree 63 = .ok (.istore 6, 2) := by decide +kernel
theorem dX12_isFree_65 : decode cX12_isFree 65 = .ok (.iload 6, 2) := by decide +kernel
theorem dX12_isFree_67 : decode cX12_isFree 67 = .ok (.aload_n 0, 1) := by decide +kernel
theorem dX12_isFree_68 : decode cX12_isFree 68 = .ok (.getfield 273, 3) := by decide +kernel
theorem dX12_isFree_71 : decode cX12_isFree 71 = .ok (.if_icmp .ge 89, 3) := by decide +kernel
theorem dX12_isFree_74 : decode cX12_isFree 74 = .ok (.aload_n 0, 1) := by decide +kernel
theorem dX12_isFree_75 : decode cX12_isFree 75 = .ok (.getfield 76, 3) := by decide +kernel
theorem dX12_isFree_78 : decode cX12_isFree 78 = .ok (.iload 6, 2) := by decide +kernel
theorem dX12_isFree_80 : decode cX12_isFree 80 = .ok (.iaload, 1) := by decide +kernel
theorem dX12_isFree_81 : decode cX12_isFree 81 = .ok (.iload_n 1, 1) := by decide +kernel
theorem dX12_isFree_82 : decode cX12_isFree 82 = .ok (.if_icmp .ne 18, 3) := by decide +kernel
theorem dX12_isFree_85 : decode cX12_isFree 85 = .ok (.aload_n 0, 1) := by decide +kernel
theorem dX12_isFree_86 : decode cX12_isFree 86 = .ok (.getfield 79, 3) := by decide +kernel
theorem dX12_isFree_89 : decode cX12_isFree 89 = .ok (.iload 6, 2) := by decide +kernel
theorem dX12_isFree_91 : decode cX12_isFree 91 = .ok (.iaload, 1) := by decide +kernel
theorem dX12_isFree_92 : decode cX12_isFree 92 = .ok (.iload_n 1, 1) := by decide +kernel
theorem dX12_isFree_93 : decode cX12_isFree 93 = .ok (.if_icmp .ge 7, 3) := by decide +kernel
theorem dX12_isFree_96 : decode cX12_isFree 96 = .ok (.iconst 1, 1) := by decide +kernel
theorem dX12_isFree_97 : decode cX12_isFree 97 = .ok (.goto 4, 3) := by decide +kernel
theorem dX12_isFree_100 : decode cX12_isFree 100 = .ok (.iconst 0, 1) := by decide +kernel
theorem dX12_isFree_101 : decode cX12_isFree 101 = .ok (.istore 7, 2) := by decide +kernel
theorem dX12_isFree_103 : decode cX12_isFree 103 = .ok (.iload 5, 2) := by decide +kernel
theorem dX12_isFree_105 : decode cX12_isFree 105 = .ok (.ifCond .eq 46, 3) := by decide +kernel
theorem dX12_isFree_108 : decode cX12_isFree 108 = .ok (.iload 7, 2) := by decide +kernel
theorem dX12_isFree_110 : decode cX12_isFree 110 = .ok (.ifCond .eq 37, 3) := by decide +kernel
theorem dX12_isFree_113 : decode cX12_isFree 113 = .ok (.iload_n 2, 1) := by decide +kernel
theorem dX12_isFree_114 : decode cX12_isFree 114 = .ok (.aload_n 0, 1) := by decide +kernel
theorem dX12_isFree_115 : decode cX12_isFree 115 = .ok (.getfield 85, 3) := by decide +kernel
theorem dX12_isFree_118 : decode cX12_isFree 118 = .ok (.iload 6, 2) := by decide +kernel
theorem dX12_isFree_120 : decode cX12_isFree 120 = .ok (.iaload, 1) := by decide +kernel
theorem dX12_isFree_121 : decode cX12_isFree 121 = .ok (.iadd, 1) := by decide +kernel
theorem dX12_isFree_122 : decode cX12_isFree 122 = .ok (.iload_n 3, 1) := by decide +kernel
theorem dX12_isFree_123 : decode cX12_isFree 123 = .ok (.aload_n 0, 1) := by decide +kernel
theorem dX12_isFree_124 : decode cX12_isFree 124 = .ok (.getfield 82, 3) := by decide +kernel
theorem dX12_isFree_127 : decode cX12_isFree 127 = .ok (.iload 6, 2) := by decide +kernel
theorem dX12_isFree_129 : decode cX12_isFree 129 = .ok (.iaload, 1) := by decide +kernel
theorem dX12_isFree_130 : decode cX12_isFree 130 = .ok (.imul, 1) := by decide +kernel
theorem dX12_isFree_131 : decode cX12_isFree 131 = .ok (.isub, 1) := by decide +kernel
theorem dX12_isFree_132 : decode cX12_isFree 132 = .ok (.aload_n 0, 1) := by decide +kernel
theorem dX12_isFree_133 : decode cX12_isFree 133 = .ok (.getfield 103, 3) := by decide +kernel
theorem dX12_isFree_136 : decode cX12_isFree 136 = .ok (.aload_n 0, 1) := by decide +kernel
theorem dX12_isFree_137 : decode cX12_isFree 137 = .ok (.getfield 79, 3) := by decide +kernel
theorem dX12_isFree_140 : decode cX12_isFree 140 = .ok (.iload 6, 2) := by decide +kernel
theorem dX12_isFree_142 : decode cX12_isFree 142 = .ok (.iaload, 1) := by decide +kernel
theorem dX12_isFree_143 : decode cX12_isFree 143 = .ok (.iaload, 1) := by decide +kernel
theorem dX12_isFree_144 : decode cX12_isFree 144 = .ok (.if_icmp .gt 7, 3) := by decide +kernel
theorem dX12_isFree_147 : decode cX12_isFree 147 = .ok (.iconst 1, 1) := by decide +kernel
theorem dX12_isFree_148 : decode cX12_isFree 148 = .ok (.goto 4, 3) := by decide +kernel
theorem dX12_isFree_151 : decode cX12_isFree 151 = .ok (.iconst 0, 1) := by decide +kernel
theorem dX12_isFree_152 : decode cX12_isFree 152 = .ok (.istore 5, 2) := by decide +kernel
theorem dX12_isFree_154 : decode cX12_isFree 154 = .ok (.iinc 6 1, 3) := by decide +kernel
theorem dX12_isFree_157 : decode cX12_isFree 157 = .ok (.goto (-92), 3) := by decide +kernel
theorem dX12_isFree_160 : decode cX12_isFree 160 = .ok (.iload 5, 2) := by decide +kernel
theorem dX12_isFree_162 : decode cX12_isFree 162 = .ok (.ifCond .eq 23, 3) := by decide +kernel
theorem dX12_isFree_165 : decode cX12_isFree 165 = .ok (.iload 4, 2) := by decide +kernel
theorem dX12_isFree_167 : decode cX12_isFree 167 = .ok (.aload_n 0, 1) := by decide +kernel
theorem dX12_isFree_168 : decode cX12_isFree 168 = .ok (.getfield 36, 3) := by decide +kernel
theorem dX12_isFree_171 : decode cX12_isFree 171 = .ok (.aload_n 0, 1) := by decide +kernel
theorem dX12_isFree_172 : decode cX12_isFree 172 = .ok (.getfield 57, 3) := by decide +kernel
theorem dX12_isFree_175 : decode cX12_isFree 175 = .ok (.iload_n 1, 1) := by decide +kernel
theorem dX12_isFree_176 : decode cX12_isFree 176 = .ok (.iaload, 1) := by decide +kernel
theorem dX12_isFree_177 : decode cX12_isFree 177 = .ok (.iaload, 1) := by decide +kernel
theorem dX12_isFree_178 : decode cX12_isFree 178 = .ok (.if_icmp .ge 7, 3) := by decide +kernel
theorem dX12_isFree_181 : decode cX12_isFree 181 = .ok (.iconst 1, 1) := by decide +kernel
theorem dX12_isFree_182 : decode cX12_isFree 182 = .ok (.goto 4, 3) := by decide +kernel
theorem dX12_isFree_185 : decode cX12_isFree 185 = .ok (.iconst 0, 1) := by decide +kernel
theorem dX12_isFree_186 : decode cX12_isFree 186 = .ok (.ireturn, 1) := by decide +kernel
theorem dX12_canPlace_0 : decode cX12_canPlace 0 = .ok (.iconst 0, 1) := by decide +kernel
theorem dX12_canPlace_1 : decode cX12_canPlace 1 = .ok (.istore_n 2, 1) := by decide +kernel
theorem dX12_canPlace_2 : decode cX12_canPlace 2 = .ok (.iload_n 2, 1) := by decide +kernel
theorem dX12_canPlace_3 : decode cX12_canPlace 3 = .ok (.aload_n 0, 1) := by decide +kernel
theorem dX12_canPlace_4 : decode cX12_canPlace 4 = .ok (.getfield 196, 3) := by decide +kernel
theorem dX12_canPlace_7 : decode cX12_canPlace 7 = .ok (.if_icmp .ge 148, 3) := by decide +kernel
theorem dX12_canPlace_10 : decode cX12_canPlace 10 = .ok (.iconst 0, 1) := by decide +kernel
theorem dX12_canPlace_11 : decode cX12_canPlace 11 = .ok (.istore_n 3, 1) := by decide +kernel
theorem dX12_canPlace_12 : decode cX12_canPlace 12 = .ok (.iconst 0, 1) := by decide +kernel
theorem dX12_canPlace_13 : decode cX12_canPlace 13 = .ok (.istore 4, 2) := by decide +kernel
theorem dX12_canPlace_15 : decode cX12_canPlace 15 = .ok (.iload 4, 2) := by decide +kernel
theorem dX12_canPlace_17 : decode cX12_canPlace 17 = .ok (.aload_n 0, 1) := by decide +kernel
theorem dX12_canPlace_18 : decode cX12_canPlace 18 = .ok (.getfield 273, 3) := by decide +kernel
theorem dX12_canPlace_21 : decode cX12_canPlace 21 = .ok (.if_icmp .ge 82, 3) := by decide +kernel
theorem dX12_canPlace_24 : decode cX12_canPlace 24 = .ok (.aload_n 0, 1) := by decide +kernel
theorem dX12_canPlace_25 : decode cX12_canPlace 25 = .ok (.getfield 79, 3) := by decide +kernel
theorem dX12_canPlace_28 : decode cX12_canPlace 28 = .ok (.iload 4, 2) := by decide +kernel
theorem dX12_canPlace_30 : decode cX12_canPlace 30 = .ok (.iaload, 1) := by decide +kernel
theorem dX12_canPlace_31 : decode cX12_canPlace 31 = .ok (.iload_n 2, 1) := by decide +kernel
theorem dX12_canPlace_32 : decode cX12_canPlace 32 = .ok (.if_icmp .ne 18, 3) := by decide +kernel
theorem dX12_canPlace_35 : decode cX12_canPlace 35 = .ok (.aload_n 0, 1) := by decide +kernel
theorem dX12_canPlace_36 : decode cX12_canPlace 36 = .ok (.getfield 76, 3) := by decide +kernel
theorem dX12_canPlace_39 : decode cX12_canPlace 39 = .ok (.iload 4, 2) := by decide +kernel
theorem dX12_canPlace_41 : decode cX12_canPlace 41 = .ok (.iaload, 1) := by decide +kernel
theorem dX12_canPlace_42 : decode cX12_canPlace 42 = .ok (.iload_n 2, 1) := by decide +kernel
theorem dX12_canPlace_43 : decode cX12_canPlace 43 = .ok (.if_icmp .ge 7, 3) := by decide +kernel
theorem dX12_canPlace_46 : decode cX12_canPlace 46 = .ok (.iconst 1, 1) := by decide +kernel
theorem dX12_canPlace_47 : decode cX12_canPlace 47 = .ok (.goto 4, 3) := by decide +kernel
theorem dX12_canPlace_50 : decode cX12_canPlace 50 = .ok (.iconst 0, 1) := by decide +kernel
theorem dX12_canPlace_51 : decode cX12_canPlace 51 = .ok (.istore 5, 2) := by decide +kernel
theorem dX12_canPlace_53 : decode cX12_canPlace 53 = .ok (.iload 5, 2) := by decide +kernel
theorem dX12_canPlace_55 : decode cX12_canPlace 55 = .ok (.ifCond .eq 40, 3) := by decide +kernel
theorem dX12_canPlace_58 : decode cX12_canPlace 58 = .ok (.iload_n 3, 1) := by decide +kernel
theorem dX12_canPlace_59 : decode cX12_canPlace 59 = .ok (.aload_n 0, 1) := by decide +kernel
theorem dX12_canPlace_60 : decode cX12_canPlace 60 = .ok (.getfield 103, 3) := by decide +kernel
theorem dX12_canPlace_63 : decode cX12_canPlace 63 = .ok (.aload_n 0, 1) := by decide +kernel
theorem dX12_canPlace_64 : decode cX12_canPlace 64 = .ok (.getfield 76, 3) := by decide +kernel
theorem dX12_canPlace_67 : decode cX12_canPlace 67 = .ok (.iload 4, 2) := by decide +kernel
theorem dX12_canPlace_69 : decode cX12_canPlace 69 = .ok (.iaload, 1) := by decide +kernel
theorem dX12_canPlace_70 : decode cX12_canPlace 70 = .ok (.iaload, 1) := by decide +kernel
theorem dX12_canPlace_71 : decode cX12_canPlace 71 = .ok (.aload_n 0, 1) := by decide +kernel
theorem dX12_canPlace_72 : decode cX12_canPlace 72 = .ok (.getfield 85, 3) := by decide +kernel
theorem dX12_canPlace_75 : decode cX12_canPlace 75 = .ok (.iload 4, 2) := by decide +kernel
theorem dX12_canPlace_77 : decode cX12_canPlace 77 = .ok (.iaload, 1) := by decide +kernel
theorem dX12_canPlace_78 : decode cX12_canPlace 78 = .ok (.iadd, 1) := by decide +kernel
theorem dX12_canPlace_79 : decode cX12_canPlace 79 = .ok (.iload_n 1, 1) := by decide +kernel
theorem dX12_canPlace_80 : decode cX12_canPlace 80 = .ok (.aload_n 0, 1) := by decide +kernel
theorem dX12_canPlace_81 : decode cX12_canPlace 81 = .ok (.getfield 82, 3) := by decide +kernel
theorem dX12_canPlace_84 : decode cX12_canPlace 84 = .ok (.iload 4, 2) := by decide +kernel
theorem dX12_canPlace_86 : decode cX12_canPlace 86 = .ok (.iaload, 1) := by decide +kernel
theorem dX12_canPlace_87 : decode cX12_canPlace 87 = .ok (.imul, 1) := by decide +kernel
theorem dX12_canPlace_88 : decode cX12_canPlace 88 = .ok (.isub, 1) := by decide +kernel
theorem dX12_canPlace_89 : decode cX12_canPlace 89 = .ok (.invokestatic 298, 3) := by decide +kernel
theorem dX12_canPlace_92 : decode cX12_canPlace 92 = .ok (.goto 4, 3) := by decide +kernel
theorem dX12_canPlace_95 : decode cX12_canPlace 95 = .ok (.iload_n 3, 1) := by decide +kernel
theorem dX12_canPlace_96 : decode cX12_canPlace 96 = .ok (.istore_n 3, 1) := by decide +kernel
theorem dX12_canPlace_97 : decode cX12_canPlace 97 = .ok (.iinc 4 1, 3) := by decide +kernel
theorem dX12_canPlace_100 : decode cX12_canPlace 100 = .ok (.goto (-85), 3) := by decide +kernel
theorem dX12_canPlace_103 : decode cX12_canPlace 103 = .ok (.iload_n 3, 1) := by decide +kernel
theorem dX12_canPlace_104 : decode cX12_canPlace 104 = .ok (.istore 4, 2) := by decide +kernel
theorem dX12_canPlace_106 : decode cX12_canPlace 106 = .ok (.iload 4, 2) := by decide +kernel
theorem dX12_canPlace_108 : decode cX12_canPlace 108 = .ok (.iload_n 3, 1) := by decide +kernel
theorem dX12_canPlace_109 : decode cX12_canPlace 109 = .ok (.iload_n 1, 1) := by decide +kernel
theorem dX12_canPlace_110 : decode cX12_canPlace 110 = .ok (.iadd, 1) := by decide +kernel
theorem dX12_canPlace_111 : decode cX12_canPlace 111 = .ok (.if_icmp .ge 20, 3) := by decide +kernel
theorem dX12_canPlace_114 : decode cX12_canPlace 114 = .ok (.aload_n 0, 1) := by decide +kernel
theorem dX12_canPlace_115 : decode cX12_canPlace 115 = .ok (.iload_n 2, 1) := by decide +kernel
theorem dX12_canPlace_116 : decode cX12_canPlace 116 = .ok (.iload 4, 2) := by decide +kernel
theorem dX12_canPlace_118 : decode cX12_canPlace 118 = .ok (.iload_n 1, 1) := by decide +kernel
theorem dX12_canPlace_119 : decode cX12_canPlace 119 = .ok (.invokevirtual 334, 3) := by decide +kernel
theorem dX12_canPlace_122 : decode cX12_canPlace 122 = .ok (.ifCond .ne 9, 3) := by decide +kernel
theorem dX12_canPlace_125 : decode cX12_canPlace 125 = .ok (.iinc 4 1, 3) := by decide +kernel
theorem dX12_canPlace_128 : decode cX12_canPlace 128 = .ok (.goto (-22), 3) := by decide +kernel
theorem dX12_canPlace_131 : decode cX12_canPlace 131 = .ok (.iload 4, 2) := by decide +kernel
theorem dX12_canPlace_133 : decode cX12_canPlace 133 = .ok (.iload_n 3, 1) := by decide +kernel
theorem dX12_canPlace_134 : decode cX12_canPlace 134 = .ok (.iload_n 1, 1) := by decide +kernel
theorem dX12_canPlace_135 : decode cX12_canPlace 135 = .ok (.iadd, 1) := by decide +kernel
theorem dX12_canPlace_136 : decode cX12_canPlace 136 = .ok (.if_icmp .ne 5, 3) := by decide +kernel
theorem dX12_canPlace_139 : decode cX12_canPlace 139 = .ok (.iconst 0, 1) := by decide +kernel
theorem dX12_canPlace_140 : decode cX12_canPlace 140 = .ok (.ireturn, 1) := by decide +kernel
theorem dX12_canPlace_141 : decode cX12_canPlace 141 = .ok (.aload_n 0, 1) := by decide +kernel
theorem dX12_canPlace_142 : decode cX12_canPlace 142 = .ok (.getfield 103, 3) := by decide +kernel
theorem dX12_canPlace_145 : decode cX12_canPlace 145 = .ok (.iload_n 2, 1) := by decide +kernel
theorem dX12_canPlace_146 : decode cX12_canPlace 146 = .ok (.iload 4, 2) := by decide +kernel
theorem dX12_canPlace_148 : decode cX12_canPlace 148 = .ok (.iastore, 1) := by decide +kernel
theorem dX12_canPlace_149 : decode cX12_canPlace 149 = .ok (.iinc 2 1, 3) := by decide +kernel
theorem dX12_canPlace_152 : decode cX12_canPlace 152 = .ok (.goto (-150), 3) := by decide +kernel
theorem dX12_canPlace_155 : decode cX12_canPlace 155 = .ok (.iconst 1, 1) := by decide +kernel
theorem dX12_canPlace_156 : decode cX12_canPlace 156 = .ok (.ireturn, 1) := by decide +kernel
theorem dX12_placeAll_0 : decode cX12_placeAll 0 = .ok (.aload_n 0, 1) := by decide +kernel
theorem dX12_placeAll_1 : decode cX12_placeAll 1 = .ok (.invokevirtual 193, 3) := by decide +kernel
theorem dX12_placeAll_4 : decode cX12_placeAll 4 = .ok (.aload_n 0, 1) := by decide +kernel
theorem dX12_placeAll_5 : decode cX12_placeAll 5 = .ok (.invokevirtual 337, 3) := by decide +kernel
theorem dX12_placeAll_8 : decode cX12_placeAll 8 = .ok (.aload_n 0, 1) := by decide +kernel
theorem dX12_placeAll_9 : decode cX12_placeAll 9 = .ok (.invokevirtual 340, 3) := by decide +kernel
theorem dX12_placeAll_12 : decode cX12_placeAll 12 = .ok (.invokestatic 298, 3) := by decide +kernel
theorem dX12_placeAll_15 : decode cX12_placeAll 15 = .ok (.istore_n 1, 1) := by decide +kernel
theorem dX12_placeAll_16 : decode cX12_placeAll 16 = .ok (.aload_n 0, 1) := by decide +kernel
theorem dX12_placeAll_17 : decode cX12_placeAll 17 = .ok (.iload_n 1, 1) := by decide +kernel
theorem dX12_placeAll_18 : decode cX12_placeAll 18 = .ok (.invokevirtual 343, 3) := by decide +kernel
theorem dX12_placeAll_21 : decode cX12_placeAll 21 = .ok (.ifCond .ne 9, 3) := by decide +kernel
theorem dX12_placeAll_24 : decode cX12_placeAll 24 = .ok (.iinc 1 1, 3) := by decide +kernel
theorem dX12_placeAll_27 : decode cX12_placeAll 27 = .ok (.goto (-11), 3) := by decide +kernel
theorem dX12_placeAll_30 : decode cX12_placeAll 30 = .ok (.iload_n 1, 1) := by decide +kernel
theorem dX12_placeAll_31 : decode cX12_placeAll 31 = .ok (.ireturn, 1) := by decide +kernel
theorem dX12_byRings_0 : decode cX12_byRings 0 = .ok (.aload_n 0, 1) := by decide +kernel
theorem dX12_byRings_1 : decode cX12_byRings 1 = .ok (.iconst 0, 1) := by decide +kernel
theorem dX12_byRings_2 : decode cX12_byRings 2 = .ok (.putfield 127, 3) := by decide +kernel
theorem dX12_byRings_5 : decode cX12_byRings 5 = .ok (.aload_n 0, 1) := by decide +kernel
theorem dX12_byRings_6 : decode cX12_byRings 6 = .ok (.invokevirtual 193, 3) := by decide +kernel
theorem dX12_byRings_9 : decode cX12_byRings 9 = .ok (.aload_n 0, 1) := by decide +kernel
theorem dX12_byRings_10 : decode cX12_byRings 10 = .ok (.invokevirtual 337, 3) := by decide +kernel
theorem dX12_byRings_13 : decode cX12_byRings 13 = .ok (.ireturn, 1) := by decide +kernel
theorem dX12_byUnits_0 : decode cX12_byUnits 0 = .ok (.aload_n 0, 1) := by decide +kernel
theorem dX12_byUnits_1 : decode cX12_byUnits 1 = .ok (.iconst 0, 1) := by decide +kernel
theorem dX12_byUnits_2 : decode cX12_byUnits 2 = .ok (.putfield 127, 3) := by decide +kernel
theorem dX12_byUnits_5 : decode cX12_byUnits 5 = .ok (.aload_n 0, 1) := by decide +kernel
theorem dX12_byUnits_6 : decode cX12_byUnits 6 = .ok (.invokevirtual 193, 3) := by decide +kernel
theorem dX12_byUnits_9 : decode cX12_byUnits 9 = .ok (.aload_n 0, 1) := by decide +kernel
theorem dX12_byUnits_10 : decode cX12_byUnits 10 = .ok (.invokevirtual 340, 3) := by decide +kernel
theorem dX12_byUnits_13 : decode cX12_byUnits 13 = .ok (.ireturn, 1) := by decide +kernel
theorem dX12_interval_0 : decode cX12_interval 0 = .ok (.aload_n 0, 1) := by decide +kernel
theorem dX12_interval_1 : decode cX12_interval 1 = .ok (.iconst 0, 1) := by decide +kernel
theorem dX12_interval_2 : decode cX12_interval 2 = .ok (.putfield 127, 3) := by decide +kernel
theorem dX12_interval_5 : decode cX12_interval 5 = .ok (.aload_n 0, 1) := by decide +kernel
theorem dX12_interval_6 : decode cX12_interval 6 = .ok (.invokevirtual 346, 3) := by decide +kernel
theorem dX12_interval_9 : decode cX12_interval 9 = .ok (.ireturn, 1) := by decide +kernel
theorem dX12_binds_0 : decode cX12_binds 0 = .ok (.aload_n 0, 1) := by decide +kernel
theorem dX12_binds_1 : decode cX12_binds 1 = .ok (.iconst 0, 1) := by decide +kernel
theorem dX12_binds_2 : decode cX12_binds 2 = .ok (.putfield 127, 3) := by decide +kernel
theorem dX12_binds_5 : decode cX12_binds 5 = .ok (.aload_n 0, 1) := by decide +kernel
theorem dX12_binds_6 : decode cX12_binds 6 = .ok (.invokevirtual 346, 3) := by decide +kernel
theorem dX12_binds_9 : decode cX12_binds 9 = .ok (.istore_n 1, 1) := by decide +kernel
theorem dX12_binds_10 : decode cX12_binds 10 = .ok (.aload_n 0, 1) := by decide +kernel
theorem dX12_binds_11 : decode cX12_binds 11 = .ok (.invokevirtual 340, 3) := by decide +kernel
theorem dX12_binds_14 : decode cX12_binds 14 = .ok (.istore_n 2, 1) := by decide +kernel
theorem dX12_binds_15 : decode cX12_binds 15 = .ok (.aload_n 0, 1) := by decide +kernel
theorem dX12_binds_16 : decode cX12_binds 16 = .ok (.getfield 196, 3) := by decide +kernel
theorem dX12_binds_19 : decode cX12_binds 19 = .ok (.ifCond .ne 6, 3) := by decide +kernel
theorem dX12_binds_22 : decode cX12_binds 22 = .ok (.bipush 45, 2) := by decide +kernel
theorem dX12_binds_24 : decode cX12_binds 24 = .ok (.ireturn, 1) := by decide +kernel
theorem dX12_binds_25 : decode cX12_binds 25 = .ok (.iload_n 1, 1) := by decide +kernel
theorem dX12_binds_26 : decode cX12_binds 26 = .ok (.aload_n 0, 1) := by decide +kernel
theorem dX12_binds_27 : decode cX12_binds 27 = .ok (.invokevirtual 337, 3) := by decide +kernel
theorem dX12_binds_30 : decode cX12_binds 30 = .ok (.if_icmp .ne 11, 3) := by decide +kernel
theorem dX12_binds_33 : decode cX12_binds 33 = .ok (.iload_n 2, 1) := by decide +kernel
theorem dX12_binds_34 : decode cX12_binds 34 = .ok (.iload_n 1, 1) := by decide +kernel
theorem dX12_binds_35 : decode cX12_binds 35 = .ok (.if_icmp .ge 6, 3) := by decide +kernel
theorem dX12_binds_38 : decode cX12_binds 38 = .ok (.bipush 114, 2) := by decide +kernel
theorem dX12_binds_40 : decode cX12_binds 40 = .ok (.ireturn, 1) := by decide +kernel
theorem dX12_binds_41 : decode cX12_binds 41 = .ok (.iconst 0, 1) := by decide +kernel
theorem dX12_binds_42 : decode cX12_binds 42 = .ok (.istore_n 3, 1) := by decide +kernel
theorem dX12_binds_43 : decode cX12_binds 43 = .ok (.iload_n 3, 1) := by decide +kernel
theorem dX12_binds_44 : decode cX12_binds 44 = .ok (.bipush 7, 2) := by decide +kernel
theorem dX12_binds_46 : decode cX12_binds 46 = .ok (.if_icmp .ge 25, 3) := by decide +kernel
theorem dX12_binds_49 : decode cX12_binds 49 = .ok (.aload_n 0, 1) := by decide +kernel
theorem dX12_binds_50 : decode cX12_binds 50 = .ok (.iload_n 3, 1) := by decide +kernel
theorem dX12_binds_51 : decode cX12_binds 51 = .ok (.invokevirtual 331, 3) := by decide +kernel
theorem dX12_binds_54 : decode cX12_binds 54 = .ok (.iload_n 1, 1) := by decide +kernel
theorem dX12_binds_55 : decode cX12_binds 55 = .ok (.if_icmp .ne 10, 3) := by decide +kernel
theorem dX12_binds_58 : decode cX12_binds 58 = .ok (.ldc 211, 2) := by decide +kernel
theorem dX12_binds_60 : decode cX12_binds 60 = .ok (.iload_n 3, 1) := by decide +kernel
theorem dX12_binds_61 : decode cX12_binds 61 = .ok (.invokevirtual 308, 3) := by decide +kernel
theorem dX12_binds_64 : decode cX12_binds 64 = .ok (.ireturn, 1) := by decide +kernel
theorem dX12_binds_65 : decode cX12_binds 65 = .ok (.iinc 3 1, 3) := by decide +kernel
theorem dX12_binds_68 : decode cX12_binds 68 = .ok (.goto (-25), 3) := by decide +kernel
theorem dX12_binds_71 : decode cX12_binds 71 = .ok (.bipush 45, 2) := by decide +kernel
theorem dX12_binds_73 : decode cX12_binds 73 = .ok (.ireturn, 1) := by decide +kernel
theorem dX12_place_0 : decode cX12_place 0 = .ok (.aload_n 0, 1) := by decide +kernel
theorem dX12_place_1 : decode cX12_place 1 = .ok (.iconst 0, 1) := by decide +kernel
theorem dX12_place_2 : decode cX12_place 2 = .ok (.putfield 127, 3) := by decide +kernel
theorem dX12_place_5 : decode cX12_place 5 = .ok (.aload_n 0, 1) := by decide +kernel
theorem dX12_place_6 : decode cX12_place 6 = .ok (.invokevirtual 346, 3) := by decide +kernel
theorem dX12_place_9 : decode cX12_place 9 = .ok (.pop, 1) := by decide +kernel
theorem dX12_place_10 : decode cX12_place 10 = .ok (.aload_n 0, 1) := by decide +kernel
theorem dX12_place_11 : decode cX12_place 11 = .ok (.aload_n 0, 1) := by decide +kernel
theorem dX12_place_12 : decode cX12_place 12 = .ok (.iload_n 1, 1) := by decide +kernel
theorem dX12_place_13 : decode cX12_place 13 = .ok (.invokevirtual 305, 3) := by decide +kernel
theorem dX12_place_16 : decode cX12_place 16 = .ok (.iconst 1, 1) := by decide +kernel
theorem dX12_place_17 : decode cX12_place 17 = .ok (.invokevirtual 142, 3) := by decide +kernel
theorem dX12_place_20 : decode cX12_place 20 = .ok (.ifCond .eq 7, 3) := by decide +kernel
theorem dX12_place_23 : decode cX12_place 23 = .ok (.iconst 0, 1) := by decide +kernel
theorem dX12_place_24 : decode cX12_place 24 = .ok (.goto 9, 3) := by decide +kernel
theorem dX12_place_27 : decode cX12_place 27 = .ok (.aload_n 0, 1) := by decide +kernel
theorem dX12_place_28 : decode cX12_place 28 = .ok (.getfield 103, 3) := by decide +kernel
theorem dX12_place_31 : decode cX12_place 31 = .ok (.iload_n 1, 1) := by decide +kernel
theorem dX12_place_32 : decode cX12_place 32 = .ok (.iaload, 1) := by decide +kernel
theorem dX12_place_33 : decode cX12_place 33 = .ok (.ireturn, 1) := by decide +kernel
theorem dX12_longest_0 : decode cX12_longest 0 = .ok (.iconst 0, 1) := by decide +kernel
theorem dX12_longest_1 : decode cX12_longest 1 = .ok (.istore_n 1, 1) := by decide +kernel
theorem dX12_longest_2 : decode cX12_longest 2 = .ok (.iconst 0, 1) := by decide +kernel
theorem dX12_longest_3 : decode cX12_longest 3 = .ok (.istore_n 2, 1) := by decide +kernel
theorem dX12_longest_4 : decode cX12_longest 4 = .ok (.iload_n 2, 1) := by decide +kernel
theorem dX12_longest_5 : decode cX12_longest 5 = .ok (.aload_n 0, 1) := by decide +kernel
theorem dX12_longest_6 : decode cX12_longest 6 = .ok (.getfield 196, 3) := by decide +kernel
theorem dX12_longest_9 : decode cX12_longest 9 = .ok (.if_icmp .ge 26, 3) := by decide +kernel
theorem dX12_longest_12 : decode cX12_longest 12 = .ok (.iload_n 1, 1) := by decide +kernel
theorem dX12_longest_13 : decode cX12_longest 13 = .ok (.aload_n 0, 1) := by decide +kernel
theorem dX12_longest_14 : decode cX12_longest 14 = .ok (.getfield 103, 3) := by decide +kernel
theorem dX12_longest_17 : decode cX12_longest 17 = .ok (.iload_n 2, 1) := by decide +kernel
theorem dX12_longest_18 : decode cX12_longest 18 = .ok (.iaload, 1) := by decide +kernel
theorem dX12_longest_19 : decode cX12_longest 19 = .ok (.aload_n 0, 1) := by decide +kernel
theorem dX12_longest_20 : decode cX12_longest 20 = .ok (.iload_n 2, 1) := by decide +kernel
theorem dX12_longest_21 : decode cX12_longest 21 = .ok (.invokevirtual 282, 3) := by decide +kernel
theorem dX12_longest_24 : decode cX12_longest 24 = .ok (.iadd, 1) := by decide +kernel
theorem dX12_longest_25 : decode cX12_longest 25 = .ok (.invokestatic 298, 3) := by decide +kernel
theorem dX12_longest_28 : decode cX12_longest 28 = .ok (.istore_n 1, 1) := by decide +kernel
theorem dX12_longest_29 : decode cX12_longest 29 = .ok (.iinc 2 1, 3) := by decide +kernel
theorem dX12_longest_32 : decode cX12_longest 32 = .ok (.goto (-28), 3) := by decide +kernel
theorem dX12_longest_35 : decode cX12_longest 35 = .ok (.iload_n 1, 1) := by decide +kernel
theorem dX12_longest_36 : decode cX12_longest 36 = .ok (.ireturn, 1) := by decide +kernel
theorem dX12_cycles_0 : decode cX12_cycles 0 = .ok (.aload_n 0, 1) := by decide +kernel
theorem dX12_cycles_1 : decode cX12_cycles 1 = .ok (.iconst 0, 1) := by decide +kernel
theorem dX12_cycles_2 : decode cX12_cycles 2 = .ok (.putfield 127, 3) := by decide +kernel
theorem dX12_cycles_5 : decode cX12_cycles 5 = .ok (.aload_n 0, 1) := by decide +kernel
theorem dX12_cycles_6 : decode cX12_cycles 6 = .ok (.invokevirtual 346, 3) := by decide +kernel
theorem dX12_cycles_9 : decode cX12_cycles 9 = .ok (.istore_n 1, 1) := by decide +kernel
theorem dX12_cycles_10 : decode cX12_cycles 10 = .ok (.aload_n 0, 1) := by decide +kernel
theorem dX12_cycles_11 : decode cX12_cycles 11 = .ok (.getfield 196, 3) := by decide +kernel
theorem dX12_cycles_14 : decode cX12_cycles 14 = .ok (.ifCond .ne 7, 3) := by decide +kernel
theorem dX12_cycles_17 : decode cX12_cycles 17 = .ok (.iconst 0, 1) := by decide +kernel
theorem dX12_cycles_18 : decode cX12_cycles 18 = .ok (.goto 21, 3) := by decide +kernel
theorem dX12_cycles_21 : decode cX12_cycles 21 = .ok (.aload_n 0, 1) := by decide +kernel
theorem dX12_cycles_22 : decode cX12_cycles 22 = .ok (.invokevirtual 349, 3) := by decide +kernel
theorem dX12_cycles_25 : decode cX12_cycles 25 = .ok (.iload_n 1, 1) := by decide +kernel
theorem dX12_cycles_26 : decode cX12_cycles 26 = .ok (.aload_n 0, 1) := by decide +kernel
theorem dX12_cycles_27 : decode cX12_cycles 27 = .ok (.getfield 20, 3) := by decide +kernel
theorem dX12_cycles_30 : decode cX12_cycles 30 = .ok (.aload_n 0, 1) := by decide +kernel
theorem dX12_cycles_31 : decode cX12_cycles 31 = .ok (.getfield 27, 3) := by decide +kernel
theorem dX12_cycles_34 : decode cX12_cycles 34 = .ok (.idiv, 1) := by decide +kernel
theorem dX12_cycles_35 : decode cX12_cycles 35 = .ok (.iconst 1, 1) := by decide +kernel
theorem dX12_cycles_36 : decode cX12_cycles 36 = .ok (.isub, 1) := by decide +kernel
theorem dX12_cycles_37 : decode cX12_cycles 37 = .ok (.imul, 1) := by decide +kernel
theorem dX12_cycles_38 : decode cX12_cycles 38 = .ok (.iadd, 1) := by decide +kernel
theorem dX12_cycles_39 : decode cX12_cycles 39 = .ok (.ireturn, 1) := by decide +kernel
theorem dX12_oneByOne_0 : decode cX12_oneByOne 0 = .ok (.aload_n 0, 1) := by decide +kernel
theorem dX12_oneByOne_1 : decode cX12_oneByOne 1 = .ok (.iconst 0, 1) := by decide +kernel
theorem dX12_oneByOne_2 : decode cX12_oneByOne 2 = .ok (.putfield 127, 3) := by decide +kernel
theorem dX12_oneByOne_5 : decode cX12_oneByOne 5 = .ok (.aload_n 0, 1) := by decide +kernel
theorem dX12_oneByOne_6 : decode cX12_oneByOne 6 = .ok (.invokevirtual 193, 3) := by decide +kernel
theorem dX12_oneByOne_9 : decode cX12_oneByOne 9 = .ok (.iconst 0, 1) := by decide +kernel
theorem dX12_oneByOne_10 : decode cX12_oneByOne 10 = .ok (.istore_n 1, 1) := by decide +kernel
theorem dX12_oneByOne_11 : decode cX12_oneByOne 11 = .ok (.iconst 0, 1) := by decide +kernel
theorem dX12_oneByOne_12 : decode cX12_oneByOne 12 = .ok (.istore_n 2, 1) := by decide +kernel
theorem dX12_oneByOne_13 : decode cX12_oneByOne 13 = .ok (.iload_n 2, 1) := by decide +kernel
theorem dX12_oneByOne_14 : decode cX12_oneByOne 14 = .ok (.aload_n 0, 1) := by decide +kernel
theorem dX12_oneByOne_15 : decode cX12_oneByOne 15 = .ok (.getfield 196, 3) := by decide +kernel
theorem dX12_oneByOne_18 : decode cX12_oneByOne 18 = .ok (.if_icmp .ge 17, 3) := by decide +kernel
theorem dX12_oneByOne_21 : decode cX12_oneByOne 21 = .ok (.iload_n 1, 1) := by decide +kernel
theorem dX12_oneByOne_22 : decode cX12_oneByOne 22 = .ok (.aload_n 0, 1) := by decide +kernel
theorem dX12_oneByOne_23 : decode cX12_oneByOne 23 = .ok (.iload_n 2, 1) := by decide +kernel
theorem dX12_oneByOne_24 : decode cX12_oneByOne 24 = .ok (.invokevirtual 282, 3) := by decide +kernel
theorem dX12_oneByOne_27 : decode cX12_oneByOne 27 = .ok (.iadd, 1) := by decide +kernel
theorem dX12_oneByOne_28 : decode cX12_oneByOne 28 = .ok (.istore_n 1, 1) := by decide +kernel
theorem dX12_oneByOne_29 : decode cX12_oneByOne 29 = .ok (.iinc 2 1, 3) := by decide +kernel
theorem dX12_oneByOne_32 : decode cX12_oneByOne 32 = .ok (.goto (-19), 3) := by decide +kernel
theorem dX12_oneByOne_35 : decode cX12_oneByOne 35 = .ok (.aload_n 0, 1) := by decide +kernel
theorem dX12_oneByOne_36 : decode cX12_oneByOne 36 = .ok (.getfield 20, 3) := by decide +kernel
theorem dX12_oneByOne_39 : decode cX12_oneByOne 39 = .ok (.aload_n 0, 1) := by decide +kernel
theorem dX12_oneByOne_40 : decode cX12_oneByOne 40 = .ok (.getfield 27, 3) := by decide +kernel
theorem dX12_oneByOne_43 : decode cX12_oneByOne 43 = .ok (.idiv, 1) := by decide +kernel
theorem dX12_oneByOne_44 : decode cX12_oneByOne 44 = .ok (.iload_n 1, 1) := by decide +kernel
theorem dX12_oneByOne_45 : decode cX12_oneByOne 45 = .ok (.imul, 1) := by decide +kernel
theorem dX12_oneByOne_46 : decode cX12_oneByOne 46 = .ok (.ireturn, 1) := by decide +kernel
theorem dX12_turnAt_0 : decode cX12_turnAt 0 = .ok (.iload_n 1, 1) := by decide +kernel
theorem dX12_turnAt_1 : decode cX12_turnAt 1 = .ok (.iload_n 2, 1) := by decide +kernel
theorem dX12_turnAt_2 : decode cX12_turnAt 2 = .ok (.isub, 1) := by decide +kernel
theorem dX12_turnAt_3 : decode cX12_turnAt 3 = .ok (.istore 4, 2) := by decide +kernel
theorem dX12_turnAt_5 : decode cX12_turnAt 5 = .ok (.iload 4, 2) := by decide +kernel
theorem dX12_turnAt_7 : decode cX12_turnAt 7 = .ok (.ifCond .lt 33, 3) := by decide +kernel
theorem dX12_turnAt_10 : decode cX12_turnAt 10 = .ok (.iload 4, 2) := by decide +kernel
theorem dX12_turnAt_12 : decode cX12_turnAt 12 = .ok (.iload_n 3, 1) := by decide +kernel
theorem dX12_turnAt_13 : decode cX12_turnAt 13 = .ok (.irem, 1) := by decide +kernel
theorem dX12_turnAt_14 : decode cX12_turnAt 14 = .ok (.ifCond .ne 26, 3) := by decide +kernel
theorem dX12_turnAt_17 : decode cX12_turnAt 17 = .ok (.iload 4, 2) := by decide +kernel
theorem dX12_turnAt_19 : decode cX12_turnAt 19 = .ok (.iload_n 3, 1) := by decide +kernel
theorem dX12_turnAt_20 : decode cX12_turnAt 20 = .ok (.idiv, 1) := by decide +kernel
theorem dX12_turnAt_21 : decode cX12_turnAt 21 = .ok (.aload_n 0, 1) := by decide +kernel
theorem dX12_turnAt_22 : decode cX12_turnAt 22 = .ok (.getfield 20, 3) := by decide +kernel
theorem dX12_turnAt_25 : decode cX12_turnAt 25 = .ok (.aload_n 0, 1) := by decide +kernel
theorem dX12_turnAt_26 : decode cX12_turnAt 26 = .ok (.getfield 27, 3) := by decide +kernel
theorem dX12_turnAt_29 : decode cX12_turnAt 29 = .ok (.idiv, 1) := by decide +kernel
theorem dX12_turnAt_30 : decode cX12_turnAt 30 = .ok (.if_icmp .ge 10, 3) := by decide +kernel
theorem dX12_turnAt_33 : decode cX12_turnAt 33 = .ok (.iload 4, 2) := by decide +kernel
theorem dX12_turnAt_35 : decode cX12_turnAt 35 = .ok (.iload_n 3, 1) := by decide +kernel
theorem dX12_turnAt_36 : decode cX12_turnAt 36 = .ok (.idiv, 1) := by decide +kernel
theorem dX12_turnAt_37 : decode cX12_turnAt 37 = .ok (.goto 4, 3) := by decide +kernel
theorem dX12_turnAt_40 : decode cX12_turnAt 40 = .ok (.iconst (-1), 1) := by decide +kernel
theorem dX12_turnAt_41 : decode cX12_turnAt 41 = .ok (.ireturn, 1) := by decide +kernel
theorem dX12_loopTurn_0 : decode cX12_loopTurn 0 = .ok (.aload_n 0, 1) := by decide +kernel
theorem dX12_loopTurn_1 : decode cX12_loopTurn 1 = .ok (.getfield 27, 3) := by decide +kernel
theorem dX12_loopTurn_4 : decode cX12_loopTurn 4 = .ok (.iload_n 2, 1) := by decide +kernel
theorem dX12_loopTurn_5 : decode cX12_loopTurn 5 = .ok (.imul, 1) := by decide +kernel
theorem dX12_loopTurn_6 : decode cX12_loopTurn 6 = .ok (.aload_n 0, 1) := by decide +kernel
theorem dX12_loopTurn_7 : decode cX12_loopTurn 7 = .ok (.getfield 51, 3) := by decide +kernel
theorem dX12_loopTurn_10 : decode cX12_loopTurn 10 = .ok (.iload_n 1, 1) := by decide +kernel
theorem dX12_loopTurn_11 : decode cX12_loopTurn 11 = .ok (.iaload, 1) := by decide +kernel
theorem dX12_loopTurn_12 : decode cX12_loopTurn 12 = .ok (.aload_n 0, 1) := by decide +kernel
theorem dX12_loopTurn_13 : decode cX12_loopTurn 13 = .ok (.getfield 186, 3) := by decide +kernel
theorem dX12_loopTurn_16 : decode cX12_loopTurn 16 = .ok (.idiv, 1) := by decide +kernel
theorem dX12_loopTurn_17 : decode cX12_loopTurn 17 = .ok (.iadd, 1) := by decide +kernel
theorem dX12_loopTurn_18 : decode cX12_loopTurn 18 = .ok (.ireturn, 1) := by decide +kernel
theorem dX12_given_0 : decode cX12_given 0 = .ok (.bipush 13, 2) := by decide +kernel
theorem dX12_given_2 : decode cX12_given 2 = .ok (.aload_n 0, 1) := by decide +kernel
theorem dX12_given_3 : decode cX12_given 3 = .ok (.getfield 51, 3) := by decide +kernel
theorem dX12_given_6 : decode cX12_given 6 = .ok (.iload_n 1, 1) := by decide +kernel
theorem dX12_given_7 : decode cX12_given 7 = .ok (.iaload, 1) := by decide +kernel
theorem dX12_given_8 : decode cX12_given 8 = .ok (.aload_n 0, 1) := by decide +kernel
theorem dX12_given_9 : decode cX12_given 9 = .ok (.getfield 186, 3) := by decide +kernel
theorem dX12_given_12 : decode cX12_given 12 = .ok (.irem, 1) := by decide +kernel
theorem dX12_given_13 : decode cX12_given 13 = .ok (.imul, 1) := by decide +kernel
theorem dX12_given_14 : decode cX12_given 14 = .ok (.iconst 4, 1) := by decide +kernel
theorem dX12_given_15 : decode cX12_given 15 = .ok (.iadd, 1) := by decide +kernel
theorem dX12_given_16 : decode cX12_given 16 = .ok (.iconst 4, 1) := by decide +kernel
theorem dX12_given_17 : decode cX12_given 17 = .ok (.iload_n 2, 1) := by decide +kernel
theorem dX12_given_18 : decode cX12_given 18 = .ok (.imul, 1) := by decide +kernel
theorem dX12_given_19 : decode cX12_given 19 = .ok (.iadd, 1) := by decide +kernel
theorem dX12_given_20 : decode cX12_given 20 = .ok (.istore 4, 2) := by decide +kernel
theorem dX12_given_22 : decode cX12_given 22 = .ok (.aload_n 0, 1) := by decide +kernel
theorem dX12_given_23 : decode cX12_given 23 = .ok (.getfield 17, 3) := by decide +kernel
theorem dX12_given_26 : decode cX12_given 26 = .ok (.iload 4, 2) := by decide +kernel
theorem dX12_given_28 : decode cX12_given 28 = .ok (.iaload, 1) := by decide +kernel
theorem dX12_given_29 : decode cX12_given 29 = .ok (.invokestatic 251, 3) := by decide +kernel
theorem dX12_given_32 : decode cX12_given 32 = .ok (.ifCond .ne 16, 3) := by decide +kernel
theorem dX12_given_35 : decode cX12_given 35 = .ok (.aload_n 0, 1) := by decide +kernel
theorem dX12_given_36 : decode cX12_given 36 = .ok (.iload 4, 2) := by decide +kernel
theorem dX12_given_38 : decode cX12_given 38 = .ok (.aload_n 0, 1) := by decide +kernel
theorem dX12_given_39 : decode cX12_given 39 = .ok (.iload_n 1, 1) := by decide +kernel
theorem dX12_given_40 : decode cX12_given 40 = .ok (.iload_n 3, 1) := by decide +kernel
theorem dX12_given_41 : decode cX12_given 41 = .ok (.invokevirtual 352, 3) := by decide +kernel
theorem dX12_given_44 : decode cX12_given 44 = .ok (.invokevirtual 231, 3) := by decide +kernel
theorem dX12_given_47 : decode cX12_given 47 = .ok (.ireturn, 1) := by decide +kernel
theorem dX12_given_48 : decode cX12_given 48 = .ok (.iload_n 1, 1) := by decide +kernel
theorem dX12_given_49 : decode cX12_given 49 = .ok (.istore 5, 2) := by decide +kernel
theorem dX12_given_51 : decode cX12_given 51 = .ok (.aload_n 0, 1) := by decide +kernel
theorem dX12_given_52 : decode cX12_given 52 = .ok (.getfield 54, 3) := by decide +kernel
theorem dX12_given_55 : decode cX12_given 55 = .ok (.iload 5, 2) := by decide +kernel
theorem dX12_given_57 : decode cX12_given 57 = .ok (.iaload, 1) := by decide +kernel
theorem dX12_given_58 : decode cX12_given 58 = .ok (.iload_n 2, 1) := by decide +kernel
theorem dX12_given_59 : decode cX12_given 59 = .ok (.if_icmp .ne 19, 3) := by decide +kernel
theorem dX12_given_62 : decode cX12_given 62 = .ok (.aload_n 0, 1) := by decide +kernel
theorem dX12_given_63 : decode cX12_given 63 = .ok (.getfield 51, 3) := by decide +kernel
theorem dX12_given_66 : decode cX12_given 66 = .ok (.iload 5, 2) := by decide +kernel
theorem dX12_given_68 : decode cX12_given 68 = .ok (.iaload, 1) := by decide +kernel
theorem dX12_given_69 : decode cX12_given 69 = .ok (.aload_n 0, 1) := by decide +kernel
theorem dX12_given_70 : decode cX12_given 70 = .ok (.getfield 51, 3) := by decide +kernel
theorem dX12_given_73 : decode cX12_given 73 = .ok (.iload_n 1, 1) := by decide +kernel
theorem dX12_given_74 : decode cX12_given 74 = .ok (.iaload, 1) := by decide +kernel
theorem dX12_given_75 : decode cX12_given 75 = .ok (.if_icmp .eq 9, 3) := by decide +kernel
theorem dX12_given_78 : decode cX12_given 78 = .ok (.iinc 5 (-1), 3) := by decide +kernel
theorem dX12_given_81 : decode cX12_given 81 = .ok (.goto (-30), 3) := by decide +kernel
theorem dX12_given_84 : decode cX12_given 84 = .ok (.aload_n 0, 1) := by decide +kernel
theorem dX12_given_85 : decode cX12_given 85 = .ok (.getfield 109, 3) := by decide +kernel
theorem dX12_given_88 : decode cX12_given 88 = .ok (.bipush 96, 2) := by decide +kernel
theorem dX12_given_90 : decode cX12_given 90 = .ok (.iload_n 3, 1) := by decide +kernel
theorem dX12_given_91 : decode cX12_given 91 = .ok (.imul, 1) := by decide +kernel
theorem dX12_given_92 : decode cX12_given 92 = .ok (.iload 5, 2) := by decide +kernel
theorem dX12_given_94 : decode cX12_given 94 = .ok (.iadd, 1) := by decide +kernel
theorem dX12_given_95 : decode cX12_given 95 = .ok (.iaload, 1) := by decide +kernel
theorem dX12_given_96 : decode cX12_given 96 = .ok (.ireturn, 1) := by decide +kernel
theorem dX12_valueOf_0 : decode cX12_valueOf 0 = .ok (.bipush 13, 2) := by decide +kernel
theorem dX12_valueOf_2 : decode cX12_valueOf 2 = .ok (.aload_n 0, 1) := by decide +kernel
theorem dX12_valueOf_3 : decode cX12_valueOf 3 = .ok (.getfield 51, 3) := by decide +kernel
theorem dX12_valueOf_6 : decode cX12_valueOf 6 = .ok (.iload_n 1, 1) := by decide +kernel
theorem dX12_valueOf_7 : decode cX12_valueOf 7 = .ok (.iaload, 1) := by decide +kernel
theorem dX12_valueOf_8 : decode cX12_valueOf 8 = .ok (.aload_n 0, 1) := by decide +kernel
theorem dX12_valueOf_9 : decode cX12_valueOf 9 = .ok (.getfield 186, 3) := by decide +kernel
theorem dX12_valueOf_12 : decode cX12_valueOf 12 = .ok (.irem, 1) := by decide +kernel
theorem dX12_valueOf_13 : decode cX12_valueOf 13 = .ok (.imul, 1) := by decide +kernel
theorem dX12_valueOf_14 : decode cX12_valueOf 14 = .ok (.istore_n 3, 1) := by decide +kernel
theorem dX12_valueOf_15 : decode cX12_valueOf 15 = .ok (.aload_n 0, 1) := by decide +kernel
theorem dX12_valueOf_16 : decode cX12_valueOf 16 = .ok (.getfield 17, 3) := by decide +kernel
theorem dX12_valueOf_19 : decode cX12_valueOf 19 = .ok (.iload_n 3, 1) := by decide +kernel
theorem dX12_valueOf_20 : decode cX12_valueOf 20 = .ok (.bipush 12, 2) := by decide +kernel
theorem dX12_valueOf_22 : decode cX12_valueOf 22 = .ok (.iadd, 1) := by decide +kernel
theorem dX12_valueOf_23 : decode cX12_valueOf 23 = .ok (.iaload, 1) := by decide +kernel
theorem dX12_valueOf_24 : decode cX12_valueOf 24 = .ok (.istore 4, 2) := by decide +kernel
theorem dX12_valueOf_26 : decode cX12_valueOf 26 = .ok (.aload_n 0, 1) := by decide +kernel
theorem dX12_valueOf_27 : decode cX12_valueOf 27 = .ok (.getfield 54, 3) := by decide +kernel
theorem dX12_valueOf_30 : decode cX12_valueOf 30 = .ok (.iload_n 1, 1) := by decide +kernel
theorem dX12_valueOf_31 : decode cX12_valueOf 31 = .ok (.iaload, 1) := by decide +kernel
theorem dX12_valueOf_32 : decode cX12_valueOf 32 = .ok (.tableswitch 78 0 2 #[28, 42, 57], 28) := by decide +kernel
theorem dX12_valueOf_60 : decode cX12_valueOf 60 = .ok (.aload_n 0, 1) := by decide +kernel
theorem dX12_valueOf_61 : decode cX12_valueOf 61 = .ok (.iload_n 3, 1) := by decide +kernel
theorem dX12_valueOf_62 : decode cX12_valueOf 62 = .ok (.iconst 4, 1) := by decide +kernel
theorem dX12_valueOf_63 : decode cX12_valueOf 63 = .ok (.iadd, 1) := by decide +kernel
theorem dX12_valueOf_64 : decode cX12_valueOf 64 = .ok (.aload_n 0, 1) := by decide +kernel
theorem dX12_valueOf_65 : decode cX12_valueOf 65 = .ok (.iload_n 1, 1) := by decide +kernel
theorem dX12_valueOf_66 : decode cX12_valueOf 66 = .ok (.iload_n 2, 1) := by decide +kernel
theorem dX12_valueOf_67 : decode cX12_valueOf 67 = .ok (.invokevirtual 352, 3) := by decide +kernel
theorem dX12_valueOf_70 : decode cX12_valueOf 70 = .ok (.invokevirtual 231, 3) := by decide +kernel
theorem dX12_valueOf_73 : decode cX12_valueOf 73 = .ok (.ireturn, 1) := by decide +kernel
theorem dX12_valueOf_74 : decode cX12_valueOf 74 = .ok (.aload_n 0, 1) := by decide +kernel
theorem dX12_valueOf_75 : decode cX12_valueOf 75 = .ok (.iload_n 3, 1) := by decide +kernel
theorem dX12_valueOf_76 : decode cX12_valueOf 76 = .ok (.bipush 8, 2) := by decide +kernel
theorem dX12_valueOf_78 : decode cX12_valueOf 78 = .ok (.iadd, 1) := by decide +kernel
theorem dX12_valueOf_79 : decode cX12_valueOf 79 = .ok (.aload_n 0, 1) := by decide +kernel
theorem dX12_valueOf_80 : decode cX12_valueOf 80 = .ok (.iload_n 1, 1) := by decide +kernel
theorem dX12_valueOf_81 : decode cX12_valueOf 81 = .ok (.iload_n 2, 1) := by decide +kernel
theorem dX12_valueOf_82 : decode cX12_valueOf 82 = .ok (.invokevirtual 352, 3) := by decide +kernel
theorem dX12_valueOf_85 : decode cX12_valueOf 85 = .ok (.invokevirtual 231, 3) := by decide +kernel
theorem dX12_valueOf_88 : decode cX12_valueOf 88 = .ok (.ireturn, 1) := by decide +kernel
theorem dX12_valueOf_89 : decode cX12_valueOf 89 = .ok (.aload_n 0, 1) := by decide +kernel
theorem dX12_valueOf_90 : decode cX12_valueOf 90 = .ok (.iload 4, 2) := by decide +kernel
theorem dX12_valueOf_92 : decode cX12_valueOf 92 = .ok (.aload_n 0, 1) := by decide +kernel
theorem dX12_valueOf_93 : decode cX12_valueOf 93 = .ok (.iload_n 1, 1) := by decide +kernel
theorem dX12_valueOf_94 : decode cX12_valueOf 94 = .ok (.iconst 0, 1) := by decide +kernel
theorem dX12_valueOf_95 : decode cX12_valueOf 95 = .ok (.iload_n 2, 1) := by decide +kernel
theorem dX12_valueOf_96 : decode cX12_valueOf 96 = .ok (.invokevirtual 355, 3) := by decide +kernel
theorem dX12_valueOf_99 : decode cX12_valueOf 99 = .ok (.aload_n 0, 1) := by decide +kernel
theorem dX12_valueOf_100 : decode cX12_valueOf 100 = .ok (.iload_n 1, 1) := by decide +kernel
theorem dX12_valueOf_101 : decode cX12_valueOf 101 = .ok (.iconst 1, 1) := by decide +kernel
theorem dX12_valueOf_102 : decode cX12_valueOf 102 = .ok (.iload_n 2, 1) := by decide +kernel
theorem dX12_valueOf_103 : decode cX12_valueOf 103 = .ok (.invokevirtual 355, 3) := by decide +kernel
theorem dX12_valueOf_106 : decode cX12_valueOf 106 = .ok (.invokevirtual 235, 3) := by decide +kernel
theorem dX12_valueOf_109 : decode cX12_valueOf 109 = .ok (.ireturn, 1) := by decide +kernel
theorem dX12_valueOf_110 : decode cX12_valueOf 110 = .ok (.iload 4, 2) := by decide +kernel
theorem dX12_valueOf_112 : decode cX12_valueOf 112 = .ok (.ifCond .ne 13, 3) := by decide +kernel
theorem dX12_valueOf_115 : decode cX12_valueOf 115 = .ok (.aload_n 0, 1) := by decide +kernel
theorem dX12_valueOf_116 : decode cX12_valueOf 116 = .ok (.iload_n 1, 1) := by decide +kernel
theorem dX12_valueOf_117 : decode cX12_valueOf 117 = .ok (.iconst 0, 1) := by decide +kernel
theorem dX12_valueOf_118 : decode cX12_valueOf 118 = .ok (.iload_n 2, 1) := by decide +kernel
theorem dX12_valueOf_119 : decode cX12_valueOf 119 = .ok (.invokevirtual 355, 3) := by decide +kernel
theorem dX12_valueOf_122 : decode cX12_valueOf 122 = .ok (.goto 16, 3) := by decide +kernel
theorem dX12_valueOf_125 : decode cX12_valueOf 125 = .ok (.aload_n 0, 1) := by decide +kernel
theorem dX12_valueOf_126 : decode cX12_valueOf 126 = .ok (.getfield 109, 3) := by decide +kernel
theorem dX12_valueOf_129 : decode cX12_valueOf 129 = .ok (.bipush 96, 2) := by decide +kernel
theorem dX12_valueOf_131 : decode cX12_valueOf 131 = .ok (.iload_n 2, 1) := by decide +kernel
theorem dX12_valueOf_132 : decode cX12_valueOf 132 = .ok (.imul, 1) := by decide +kernel
theorem dX12_valueOf_133 : decode cX12_valueOf 133 = .ok (.iload_n 1, 1) := by decide +kernel
theorem dX12_valueOf_134 : decode cX12_valueOf 134 = .ok (.iadd, 1) := by decide +kernel
theorem dX12_valueOf_135 : decode cX12_valueOf 135 = .ok (.iconst 1, 1) := by decide +kernel
theorem dX12_valueOf_136 : decode cX12_valueOf 136 = .ok (.isub, 1) := by decide +kernel
theorem dX12_valueOf_137 : decode cX12_valueOf 137 = .ok (.iaload, 1) := by decide +kernel
theorem dX12_valueOf_138 : decode cX12_valueOf 138 = .ok (.ireturn, 1) := by decide +kernel
theorem dX12_isLastOf_0 : decode cX12_isLastOf 0 = .ok (.iload_n 1, 1) := by decide +kernel
theorem dX12_isLastOf_1 : decode cX12_isLastOf 1 = .ok (.iconst 1, 1) := by decide +kernel
theorem dX12_isLastOf_2 : decode cX12_isLastOf 2 = .ok (.iadd, 1) := by decide +kernel
theorem dX12_isLastOf_3 : decode cX12_isLastOf 3 = .ok (.aload_n 0, 1) := by decide +kernel
theorem dX12_isLastOf_4 : decode cX12_isLastOf 4 = .ok (.getfield 196, 3) := by decide +kernel
theorem dX12_isLastOf_7 : decode cX12_isLastOf 7 = .ok (.if_icmp .eq 20, 3) := by decide +kernel
theorem dX12_isLastOf_10 : decode cX12_isLastOf 10 = .ok (.aload_n 0, 1) := by decide +kernel
theorem dX12_isLastOf_11 : decode cX12_isLastOf 11 = .ok (.getfield 51, 3) := by decide +kernel
theorem dX12_isLastOf_14 : decode cX12_isLastOf 14 = .ok (.iload_n 1, 1) := by decide +kernel
theorem dX12_isLastOf_15 : decode cX12_isLastOf 15 = .ok (.iconst 1, 1) := by decide +kernel
theorem dX12_isLastOf_16 : decode cX12_isLastOf 16 = .ok (.iadd, 1) := by decide +kernel
theorem dX12_isLastOf_17 : decode cX12_isLastOf 17 = .ok (.iaload, 1) := by decide +kernel
theorem dX12_isLastOf_18 : decode cX12_isLastOf 18 = .ok (.aload_n 0, 1) := by decide +kernel
theorem dX12_isLastOf_19 : decode cX12_isLastOf 19 = .ok (.getfield 51, 3) := by decide +kernel
theorem dX12_isLastOf_22 : decode cX12_isLastOf 22 = .ok (.iload_n 1, 1) := by decide +kernel
theorem dX12_isLastOf_23 : decode cX12_isLastOf 23 = .ok (.iaload, 1) := by decide +kernel
theorem dX12_isLastOf_24 : decode cX12_isLastOf 24 = .ok (.if_icmp .eq 7, 3) := by decide +kernel
theorem dX12_isLastOf_27 : decode cX12_isLastOf 27 = .ok (.iconst 1, 1) := by decide +kernel
theorem dX12_isLastOf_28 : decode cX12_isLastOf 28 = .ok (.goto 4, 3) := by decide +kernel
theorem dX12_isLastOf_31 : decode cX12_isLastOf 31 = .ok (.iconst 0, 1) := by decide +kernel
theorem dX12_isLastOf_32 : decode cX12_isLastOf 32 = .ok (.ireturn, 1) := by decide +kernel
theorem dX12_flow_0 : decode cX12_flow 0 = .ok (.aload_n 0, 1) := by decide +kernel
theorem dX12_flow_1 : decode cX12_flow 1 = .ok (.invokevirtual 346, 3) := by decide +kernel
theorem dX12_flow_4 : decode cX12_flow 4 = .ok (.istore_n 1, 1) := by decide +kernel
theorem dX12_flow_5 : decode cX12_flow 5 = .ok (.aload_n 0, 1) := by decide +kernel
theorem dX12_flow_6 : decode cX12_flow 6 = .ok (.getfield 196, 3) := by decide +kernel
theorem dX12_flow_9 : decode cX12_flow 9 = .ok (.ifCond .ne 7, 3) := by decide +kernel
theorem dX12_flow_12 : decode cX12_flow 12 = .ok (.iconst 0, 1) := by decide +kernel
theorem dX12_flow_13 : decode cX12_flow 13 = .ok (.goto 21, 3) := by decide +kernel
theorem dX12_flow_16 : decode cX12_flow 16 = .ok (.aload_n 0, 1) := by decide +kernel
theorem dX12_flow_17 : decode cX12_flow 17 = .ok (.invokevirtual 349, 3) := by decide +kernel
theorem dX12_flow_20 : decode cX12_flow 20 = .ok (.iload_n 1, 1) := by decide +kernel
theorem dX12_flow_21 : decode cX12_flow 21 = .ok (.aload_n 0, 1) := by decide +kernel
theorem dX12_flow_22 : decode cX12_flow 22 = .ok (.getfield 20, 3) := by decide +kernel
theorem dX12_flow_25 : decode cX12_flow 25 = .ok (.aload_n 0, 1) := by decide +kernel
theorem dX12_flow_26 : decode cX12_flow 26 = .ok (.getfield 27, 3) := by decide +kernel
theorem dX12_flow_29 : decode cX12_flow 29 = .ok (.idiv, 1) := by decide +kernel
theorem dX12_flow_30 : decode cX12_flow 30 = .ok (.iconst 1, 1) := by decide +kernel
theorem dX12_flow_31 : decode cX12_flow 31 = .ok (.isub, 1) := by decide +kernel
theorem dX12_flow_32 : decode cX12_flow 32 = .ok (.imul, 1) := by decide +kernel
theorem dX12_flow_33 : decode cX12_flow 33 = .ok (.iadd, 1) := by decide +kernel
theorem dX12_flow_34 : decode cX12_flow 34 = .ok (.istore_n 2, 1) := by decide +kernel
theorem dX12_flow_35 : decode cX12_flow 35 = .ok (.aload_n 0, 1) := by decide +kernel
theorem dX12_flow_36 : decode cX12_flow 36 = .ok (.invokevirtual 228, 3) := by decide +kernel
theorem dX12_flow_39 : decode cX12_flow 39 = .ok (.iconst 0, 1) := by decide +kernel
theorem dX12_flow_40 : decode cX12_flow 40 = .ok (.istore_n 3, 1) := by decide +kernel
theorem dX12_flow_41 : decode cX12_flow 41 = .ok (.iload_n 3, 1) := by decide +kernel
theorem dX12_flow_42 : decode cX12_flow 42 = .ok (.iload_n 2, 1) := by decide +kernel
theorem dX12_flow_43 : decode cX12_flow 43 = .ok (.if_icmp .gt 161, 3) := by decide +kernel
theorem dX12_flow_46 : decode cX12_flow 46 = .ok (.iconst 0, 1) := by decide +kernel
theorem dX12_flow_47 : decode cX12_flow 47 = .ok (.istore 4, 2) := by decide +kernel
theorem dX12_flow_49 : decode cX12_flow 49 = .ok (.iload 4, 2) := by decide +kernel
theorem dX12_flow_51 : decode cX12_flow 51 = .ok (.aload_n 0, 1) := by decide +kernel
theorem dX12_flow_52 : decode cX12_flow 52 = .ok (.getfield 196, 3) := by decide +kernel
theorem dX12_flow_55 : decode cX12_flow 55 = .ok (.if_icmp .ge 83, 3) := by decide +kernel
theorem dX12_flow_58 : decode cX12_flow 58 = .ok (.aload_n 0, 1) := by decide +kernel
theorem dX12_flow_59 : decode cX12_flow 59 = .ok (.iload_n 3, 1) := by decide +kernel
theorem dX12_flow_60 : decode cX12_flow 60 = .ok (.aload_n 0, 1) := by decide +kernel
theorem dX12_flow_61 : decode cX12_flow 61 = .ok (.getfield 103, 3) := by decide +kernel
theorem dX12_flow_64 : decode cX12_flow 64 = .ok (.iload 4, 2) := by decide +kernel
theorem dX12_flow_66 : decode cX12_flow 66 = .ok (.iaload, 1) := by decide +kernel
theorem dX12_flow_67 : decode cX12_flow 67 = .ok (.aload_n 0, 1) := by decide +kernel
theorem dX12_flow_68 : decode cX12_flow 68 = .ok (.iload 4, 2) := by decide +kernel
theorem dX12_flow_70 : decode cX12_flow 70 = .ok (.invokevirtual 282, 3) := by decide +kernel
theorem dX12_flow_73 : decode cX12_flow 73 = .ok (.iadd, 1) := by decide +kernel
theorem dX12_flow_74 : decode cX12_flow 74 = .ok (.iload_n 1, 1) := by decide +kernel
theorem dX12_flow_75 : decode cX12_flow 75 = .ok (.invokevirtual 358, 3) := by decide +kernel
theorem dX12_flow_78 : decode cX12_flow 78 = .ok (.istore 5, 2) := by decide +kernel
theorem dX12_flow_80 : decode cX12_flow 80 = .ok (.iload 5, 2) := by decide +kernel
theorem dX12_flow_82 : decode cX12_flow 82 = .ok (.iconst (-1), 1) := by decide +kernel
theorem dX12_flow_83 : decode cX12_flow 83 = .ok (.if_icmp .eq 49, 3) := by decide +kernel
theorem dX12_flow_86 : decode cX12_flow 86 = .ok (.aload_n 0, 1) := by decide +kernel
theorem dX12_flow_87 : decode cX12_flow 87 = .ok (.iload 4, 2) := by decide +kernel
theorem dX12_flow_89 : decode cX12_flow 89 = .ok (.invokevirtual 361, 3) := by decide +kernel
theorem dX12_flow_92 : decode cX12_flow 92 = .ok (.ifCond .eq 40, 3) := by decide +kernel
theorem dX12_flow_95 : decode cX12_flow 95 = .ok (.aload_n 0, 1) := by decide +kernel
theorem dX12_flow_96 : decode cX12_flow 96 = .ok (.aload_n 0, 1) := by decide +kernel
theorem dX12_flow_97 : decode cX12_flow 97 = .ok (.getfield 51, 3) := by decide +kernel
theorem dX12_flow_100 : decode cX12_flow 100 = .ok (.iload 4, 2) := by decide +kernel
theorem dX12_flow_102 : decode cX12_flow 102 = .ok (.iaload, 1) := by decide +kernel
theorem dX12_flow_103 : decode cX12_flow 103 = .ok (.aload_n 0, 1) := by decide +kernel
theorem dX12_flow_104 : decode cX12_flow 104 = .ok (.getfield 186, 3) := by decide +kernel
theorem dX12_flow_107 : decode cX12_flow 107 = .ok (.irem, 1) := by decide +kernel
theorem dX12_flow_108 : decode cX12_flow 108 = .ok (.aload_n 0, 1) := by decide +kernel
theorem dX12_flow_109 : decode cX12_flow 109 = .ok (.iload 4, 2) := by decide +kernel
theorem dX12_flow_111 : decode cX12_flow 111 = .ok (.iload 5, 2) := by decide +kernel
theorem dX12_flow_113 : decode cX12_flow 113 = .ok (.invokevirtual 352, 3) := by decide +kernel
theorem dX12_flow_116 : decode cX12_flow 116 = .ok (.aload_n 0, 1) := by decide +kernel
theorem dX12_flow_117 : decode cX12_flow 117 = .ok (.getfield 109, 3) := by decide +kernel
theorem dX12_flow_120 : decode cX12_flow 120 = .ok (.bipush 96, 2) := by decide +kernel
theorem dX12_flow_122 : decode cX12_flow 122 = .ok (.iload 5, 2) := by decide +kernel
theorem dX12_flow_124 : decode cX12_flow 124 = .ok (.imul, 1) := by decide +kernel
theorem dX12_flow_125 : decode cX12_flow 125 = .ok (.iload 4, 2) := by decide +kernel
theorem dX12_flow_127 : decode cX12_flow 127 = .ok (.iadd, 1) := by decide +kernel
theorem dX12_flow_128 : decode cX12_flow 128 = .ok (.iaload, 1) := by decide +kernel
theorem dX12_flow_129 : decode cX12_flow 129 = .ok (.invokevirtual 239, 3) := by decide +kernel
theorem dX12_flow_132 : decode cX12_flow 132 = .ok (.iinc 4 1, 3) := by decide +kernel
theorem dX12_flow_135 : decode cX12_flow 135 = .ok (.goto (-86), 3) := by decide +kernel
theorem dX12_flow_138 : decode cX12_flow 138 = .ok (.iconst 0, 1) := by decide +kernel
theorem dX12_flow_139 : decode cX12_flow 139 = .ok (.istore 4, 2) := by decide +kernel
theorem dX12_flow_141 : decode cX12_flow 141 = .ok (.iload 4, 2) := by decide +kernel
theorem dX12_flow_143 : decode cX12_flow 143 = .ok (.aload_n 0, 1) := by decide +kernel
theorem dX12_flow_144 : decode cX12_flow 144 = .ok (.getfield 196, 3) := by decide +kernel
theorem dX12_flow_147 : decode cX12_flow 147 = .ok (.if_icmp .ge 51, 3) := by decide +kernel
theorem dX12_flow_150 : decode cX12_flow 150 = .ok (.aload_n 0, 1) := by decide +kernel
theorem dX12_flow_151 : decode cX12_flow 151 = .ok (.iload_n 3, 1) := by decide +kernel
theorem dX12_flow_152 : decode cX12_flow 152 = .ok (.aload_n 0, 1) := by decide +kernel
theorem dX12_flow_153 : decode cX12_flow 153 = .ok (.getfield 103, 3) := by decide +kernel
theorem dX12_flow_156 : decode cX12_flow 156 = .ok (.iload 4, 2) := by decide +kernel
theorem dX12_flow_158 : decode cX12_flow 158 = .ok (.iaload, 1) := by decide +kernel
theorem dX12_flow_159 : decode cX12_flow 159 = .ok (.iload_n 1, 1) := by decide +kernel
theorem dX12_flow_160 : decode cX12_flow 160 = .ok (.invokevirtual 358, 3) := by decide +kernel
theorem dX12_flow_163 : decode cX12_flow 163 = .ok (.istore 5, 2) := by decide +kernel
theorem dX12_flow_165 : decode cX12_flow 165 = .ok (.iload 5, 2) := by decide +kernel
theorem dX12_flow_167 : decode cX12_flow 167 = .ok (.iconst (-1), 1) := by decide +kernel
theorem dX12_flow_168 : decode cX12_flow 168 = .ok (.if_icmp .eq 24, 3) := by decide +kernel
theorem dX12_flow_171 : decode cX12_flow 171 = .ok (.aload_n 0, 1) := by decide +kernel
theorem dX12_flow_172 : decode cX12_flow 172 = .ok (.getfield 109, 3) := by decide +kernel
theorem dX12_flow_175 : decode cX12_flow 175 = .ok (.bipush 96, 2) := by decide +kernel
theorem dX12_flow_177 : decode cX12_flow 177 = .ok (.iload 5, 2) := by decide +kernel
theorem dX12_flow_179 : decode cX12_flow 179 = .ok (.imul, 1) := by decide +kernel
theorem dX12_flow_180 : decode cX12_flow 180 = .ok (.iload 4, 2) := by decide +kernel
theorem dX12_flow_182 : decode cX12_flow 182 = .ok (.iadd, 1) := by decide +kernel
theorem dX12_flow_183 : decode cX12_flow 183 = .ok (.aload_n 0, 1) := by decide +kernel
theorem dX12_flow_184 : decode cX12_flow 184 = .ok (.iload 4, 2) := by decide +kernel
theorem dX12_flow_186 : decode cX12_flow 186 = .ok (.iload 5, 2) := by decide +kernel
theorem dX12_flow_188 : decode cX12_flow 188 = .ok (.invokevirtual 364, 3) := by decide +kernel
theorem dX12_flow_191 : decode cX12_flow 191 = .ok (.iastore, 1) := by decide +kernel
theorem dX12_flow_192 : decode cX12_flow 192 = .ok (.iinc 4 1, 3) := by decide +kernel
theorem dX12_flow_195 : decode cX12_flow 195 = .ok (.goto (-54), 3) := by decide +kernel
theorem dX12_flow_198 : decode cX12_flow 198 = .ok (.iinc 3 1, 3) := by decide +kernel
theorem dX12_flow_201 : decode cX12_flow 201 = .ok (.goto (-160), 3) := by decide +kernel
theorem dX12_flow_204 : decode cX12_flow 204 = .ok (.return_, 1) := by decide +kernel
theorem dX12_circuitOutputs_0 : decode cX12_circuitOutputs 0 = .ok (.aload_n 0, 1) := by decide +kernel
theorem dX12_circuitOutputs_1 : decode cX12_circuitOutputs 1 = .ok (.iconst 0, 1) := by decide +kernel
theorem dX12_circuitOutputs_2 : decode cX12_circuitOutputs 2 = .ok (.putfield 127, 3) := by decide +kernel
theorem dX12_circuitOutputs_5 : decode cX12_circuitOutputs 5 = .ok (.aload_n 0, 1) := by decide +kernel
theorem dX12_circuitOutputs_6 : decode cX12_circuitOutputs 6 = .ok (.invokevirtual 367, 3) := by decide +kernel
theorem dX12_circuitOutputs_9 : decode cX12_circuitOutputs 9 = .ok (.aload_n 0, 1) := by decide +kernel
theorem dX12_circuitOutputs_10 : decode cX12_circuitOutputs 10 = .ok (.getfield 216, 3) := by decide +kernel
theorem dX12_circuitOutputs_13 : decode cX12_circuitOutputs 13 = .ok (.ireturn, 1) := by decide +kernel
theorem dX12_circuitOutput_0 : decode cX12_circuitOutput 0 = .ok (.aload_n 0, 1) := by decide +kernel
theorem dX12_circuitOutput_1 : decode cX12_circuitOutput 1 = .ok (.iconst 0, 1) := by decide +kernel
theorem dX12_circuitOutput_2 : decode cX12_circuitOutput 2 = .ok (.putfield 127, 3) := by decide +kernel
theorem dX12_circuitOutput_5 : decode cX12_circuitOutput 5 = .ok (.aload_n 0, 1) := by decide +kernel
theorem dX12_circuitOutput_6 : decode cX12_circuitOutput 6 = .ok (.invokevirtual 367, 3) := by decide +kernel
theorem dX12_circuitOutput_9 : decode cX12_circuitOutput 9 = .ok (.aload_n 0, 1) := by decide +kernel
theorem dX12_circuitOutput_10 : decode cX12_circuitOutput 10 = .ok (.iload_n 1, 1) := by decide +kernel
theorem dX12_circuitOutput_11 : decode cX12_circuitOutput 11 = .ok (.iconst 0, 1) := by decide +kernel
theorem dX12_circuitOutput_12 : decode cX12_circuitOutput 12 = .ok (.aload_n 0, 1) := by decide +kernel
theorem dX12_circuitOutput_13 : decode cX12_circuitOutput 13 = .ok (.getfield 216, 3) := by decide +kernel
theorem dX12_circuitOutput_16 : decode cX12_circuitOutput 16 = .ok (.iconst 1, 1) := by decide +kernel
theorem dX12_circuitOutput_17 : decode cX12_circuitOutput 17 = .ok (.isub, 1) := by decide +kernel
theorem dX12_circuitOutput_18 : decode cX12_circuitOutput 18 = .ok (.invokestatic 130, 3) := by decide +kernel
theorem dX12_circuitOutput_21 : decode cX12_circuitOutput 21 = .ok (.ifCond .ne 7, 3) := by decide +kernel
theorem dX12_circuitOutput_24 : decode cX12_circuitOutput 24 = .ok (.iconst 1, 1) := by decide +kernel
theorem dX12_circuitOutput_25 : decode cX12_circuitOutput 25 = .ok (.goto 4, 3) := by decide +kernel
theorem dX12_circuitOutput_28 : decode cX12_circuitOutput 28 = .ok (.iconst 0, 1) := by decide +kernel
theorem dX12_circuitOutput_29 : decode cX12_circuitOutput 29 = .ok (.iconst 1, 1) := by decide +kernel
theorem dX12_circuitOutput_30 : decode cX12_circuitOutput 30 = .ok (.invokevirtual 142, 3) := by decide +kernel
theorem dX12_circuitOutput_33 : decode cX12_circuitOutput 33 = .ok (.ifCond .eq 7, 3) := by decide +kernel
theorem dX12_circuitOutput_36 : decode cX12_circuitOutput 36 = .ok (.iconst 0, 1) := by decide +kernel
theorem dX12_circuitOutput_37 : decode cX12_circuitOutput 37 = .ok (.goto 9, 3) := by decide +kernel
theorem dX12_circuitOutput_40 : decode cX12_circuitOutput 40 = .ok (.aload_n 0, 1) := by decide +kernel
theorem dX12_circuitOutput_41 : decode cX12_circuitOutput 41 = .ok (.getfield 48, 3) := by decide +kernel
theorem dX12_circuitOutput_44 : decode cX12_circuitOutput 44 = .ok (.iload_n 1, 1) := by decide +kernel
theorem dX12_circuitOutput_45 : decode cX12_circuitOutput 45 = .ok (.iaload, 1) := by decide +kernel
theorem dX12_circuitOutput_46 : decode cX12_circuitOutput 46 = .ok (.ireturn, 1) := by decide +kernel
theorem dX12_circuitMemory_0 : decode cX12_circuitMemory 0 = .ok (.aload_n 0, 1) := by decide +kernel
theorem dX12_circuitMemory_1 : decode cX12_circuitMemory 1 = .ok (.iconst 0, 1) := by decide +kernel
theorem dX12_circuitMemory_2 : decode cX12_circuitMemory 2 = .ok (.putfield 127, 3) := by decide +kernel
theorem dX12_circuitMemory_5 : decode cX12_circuitMemory 5 = .ok (.aload_n 0, 1) := by decide +kernel
theorem dX12_circuitMemory_6 : decode cX12_circuitMemory 6 = .ok (.iload_n 1, 1) := by decide +kernel
theorem dX12_circuitMemory_7 : decode cX12_circuitMemory 7 = .ok (.iload_n 2, 1) := by decide +kernel
theorem dX12_circuitMemory_8 : decode cX12_circuitMemory 8 = .ok (.invokestatic 203, 3) := by decide +kernel
theorem dX12_circuitMemory_11 : decode cX12_circuitMemory 11 = .ok (.iconst 1, 1) := by decide +kernel
theorem dX12_circuitMemory_12 : decode cX12_circuitMemory 12 = .ok (.invokevirtual 142, 3) := by decide +kernel
theorem dX12_circuitMemory_15 : decode cX12_circuitMemory 15 = .ok (.ifCond .eq 5, 3) := by decide +kernel
theorem dX12_circuitMemory_18 : decode cX12_circuitMemory 18 = .ok (.iconst 0, 1) := by decide +kernel
theorem dX12_circuitMemory_19 : decode cX12_circuitMemory 19 = .ok (.ireturn, 1) := by decide +kernel
theorem dX12_circuitMemory_20 : decode cX12_circuitMemory 20 = .ok (.aload_n 0, 1) := by decide +kernel
theorem dX12_circuitMemory_21 : decode cX12_circuitMemory 21 = .ok (.invokevirtual 367, 3) := by decide +kernel
theorem dX12_circuitMemory_24 : decode cX12_circuitMemory 24 = .ok (.aload_n 0, 1) := by decide +kernel
theorem dX12_circuitMemory_25 : decode cX12_circuitMemory 25 = .ok (.getfield 45, 3) := by decide +kernel
theorem dX12_circuitMemory_28 : decode cX12_circuitMemory 28 = .ok (.iload_n 1, 1) := by decide +kernel
theorem dX12_circuitMemory_29 : decode cX12_circuitMemory 29 = .ok (.iload_n 2, 1) := by decide +kernel
theorem dX12_circuitMemory_30 : decode cX12_circuitMemory 30 = .ok (.invokestatic 207, 3) := by decide +kernel
theorem dX12_circuitMemory_33 : decode cX12_circuitMemory 33 = .ok (.iaload, 1) := by decide +kernel
theorem dX12_circuitMemory_34 : decode cX12_circuitMemory 34 = .ok (.ireturn, 1) := by decide +kernel
theorem dX12_isSame_0 : decode cX12_isSame 0 = .ok (.aload_n 0, 1) := by decide +kernel
theorem dX12_isSame_1 : decode cX12_isSame 1 = .ok (.iconst 0, 1) := by decide +kernel
theorem dX12_isSame_2 : decode cX12_isSame 2 = .ok (.putfield 127, 3) := by decide +kernel
theorem dX12_isSame_5 : decode cX12_isSame 5 = .ok (.iconst 1, 1) := by decide +kernel
theorem dX12_isSame_6 : decode cX12_isSame 6 = .ok (.ireturn, 1) := by decide +kernel
theorem dX12_action_0 : decode cX12_action 0 = .ok (.aload_n 0, 1) := by decide +kernel
theorem dX12_action_1 : decode cX12_action 1 = .ok (.iconst 0, 1) := by decide +kernel
theorem dX12_action_2 : decode cX12_action 2 = .ok (.putfield 127, 3) := by decide +kernel
theorem dX12_action_5 : decode cX12_action 5 = .ok (.aload_n 0, 1) := by decide +kernel
theorem dX12_action_6 : decode cX12_action 6 = .ok (.iload_n 1, 1) := by decide +kernel
theorem dX12_action_7 : decode cX12_action 7 = .ok (.iconst 0, 1) := by decide +kernel
theorem dX12_action_8 : decode cX12_action 8 = .ok (.iconst 3, 1) := by decide +kernel
theorem dX12_action_9 : decode cX12_action 9 = .ok (.invokestatic 130, 3) := by decide +kernel
theorem dX12_action_12 : decode cX12_action 12 = .ok (.ifCond .eq 12, 3) := by decide +kernel
theorem dX12_action_15 : decode cX12_action 15 = .ok (.iload_n 2, 1) := by decide +kernel
theorem dX12_action_16 : decode cX12_action 16 = .ok (.iconst 0, 1) := by decide +kernel
theorem dX12_action_17 : decode cX12_action 17 = .ok (.iconst 3, 1) := by decide +kernel
theorem dX12_action_18 : decode cX12_action 18 = .ok (.invokestatic 130, 3) := by decide +kernel
theorem dX12_action_21 : decode cX12_action 21 = .ok (.ifCond .ne 7, 3) := by decide +kernel
theorem dX12_action_24 : decode cX12_action 24 = .ok (.iconst 1, 1) := by decide +kernel
theorem dX12_action_25 : decode cX12_action 25 = .ok (.goto 4, 3) := by decide +kernel
theorem dX12_action_28 : decode cX12_action 28 = .ok (.iconst 0, 1) := by decide +kernel
theorem dX12_action_29 : decode cX12_action 29 = .ok (.iconst 1, 1) := by decide +kernel
theorem dX12_action_30 : decode cX12_action 30 = .ok (.invokevirtual 142, 3) := by decide +kernel
theorem dX12_action_33 : decode cX12_action 33 = .ok (.ifCond .ne 27, 3) := by decide +kernel
theorem dX12_action_36 : decode cX12_action 36 = .ok (.aload_n 0, 1) := by decide +kernel
theorem dX12_action_37 : decode cX12_action 37 = .ok (.aload_n 0, 1) := by decide +kernel
theorem dX12_action_38 : decode cX12_action 38 = .ok (.getfield 112, 3) := by decide +kernel
theorem dX12_action_41 : decode cX12_action 41 = .ok (.iload_n 1, 1) := by decide +kernel
theorem dX12_action_42 : decode cX12_action 42 = .ok (.iaload, 1) := by decide +kernel
theorem dX12_action_43 : decode cX12_action 43 = .ok (.bipush 16, 2) := by decide +kernel
theorem dX12_action_45 : decode cX12_action 45 = .ok (.if_icmp .ne 7, 3) := by decide +kernel
theorem dX12_action_48 : decode cX12_action 48 = .ok (.iconst 1, 1) := by decide +kernel
theorem dX12_action_49 : decode cX12_action 49 = .ok (.goto 4, 3) := by decide +kernel
theorem dX12_action_52 : decode cX12_action 52 = .ok (.iconst 0, 1) := by decide +kernel
theorem dX12_action_53 : decode cX12_action 53 = .ok (.iconst 2, 1) := by decide +kernel
theorem dX12_action_54 : decode cX12_action 54 = .ok (.invokevirtual 142, 3) := by decide +kernel
theorem dX12_action_57 : decode cX12_action 57 = .ok (.ifCond .eq 5, 3) := by decide +kernel
theorem dX12_action_60 : decode cX12_action 60 = .ok (.iconst 0, 1) := by decide +kernel
theorem dX12_action_61 : decode cX12_action 61 = .ok (.ireturn, 1) := by decide +kernel
theorem dX12_action_62 : decode cX12_action 62 = .ok (.aload_n 0, 1) := by decide +kernel
theorem dX12_action_63 : decode cX12_action 63 = .ok (.getfield 115, 3) := by decide +kernel
theorem dX12_action_66 : decode cX12_action 66 = .ok (.bipush 16, 2) := by decide +kernel
theorem dX12_action_68 : decode cX12_action 68 = .ok (.iload_n 1, 1) := by decide +kernel
theorem dX12_action_69 : decode cX12_action 69 = .ok (.imul, 1) := by decide +kernel
theorem dX12_action_70 : decode cX12_action 70 = .ok (.aload_n 0, 1) := by decide +kernel
theorem dX12_action_71 : decode cX12_action 71 = .ok (.getfield 112, 3) := by decide +kernel
theorem dX12_action_74 : decode cX12_action 74 = .ok (.iload_n 1, 1) := by decide +kernel
theorem dX12_action_75 : decode cX12_action 75 = .ok (.iaload, 1) := by decide +kernel
theorem dX12_action_76 : decode cX12_action 76 = .ok (.iadd, 1) := by decide +kernel
theorem dX12_action_77 : decode cX12_action 77 = .ok (.iconst 2, 1) := by decide +kernel
theorem dX12_action_78 : decode cX12_action 78 = .ok (.iload_n 2, 1) := by decide +kernel
theorem dX12_action_79 : decode cX12_action 79 = .ok (.imul, 1) := by decide +kernel
theorem dX12_action_80 : decode cX12_action 80 = .ok (.iload_n 3, 1) := by decide +kernel
theorem dX12_action_81 : decode cX12_action 81 = .ok (.ifCond .eq 7, 3) := by decide +kernel
theorem dX12_action_84 : decode cX12_action 84 = .ok (.iconst 1, 1) := by decide +kernel
theorem dX12_action_85 : decode cX12_action 85 = .ok (.goto 4, 3) := by decide +kernel
theorem dX12_action_88 : decode cX12_action 88 = .ok (.iconst 0, 1) := by decide +kernel
theorem dX12_action_89 : decode cX12_action 89 = .ok (.iadd, 1) := by decide +kernel
theorem dX12_action_90 : decode cX12_action 90 = .ok (.iastore, 1) := by decide +kernel
theorem dX12_action_91 : decode cX12_action 91 = .ok (.aload_n 0, 1) := by decide +kernel
theorem dX12_action_92 : decode cX12_action 92 = .ok (.getfield 112, 3) := by decide +kernel
theorem dX12_action_95 : decode cX12_action 95 = .ok (.iload_n 1, 1) := by decide +kernel
theorem dX12_action_96 : decode cX12_action 96 = .ok (.dup2, 1) := by decide +kernel
theorem dX12_action_97 : decode cX12_action 97 = .ok (.iaload, 1) := by decide +kernel
theorem dX12_action_98 : decode cX12_action 98 = .ok (.iconst 1, 1) := by decide +kernel
theorem dX12_action_99 : decode cX12_action 99 = .ok (.iadd, 1) := by decide +kernel
theorem dX12_action_100 : decode cX12_action 100 = .ok (.iastore, 1) := by decide +kernel
theorem dX12_action_101 : decode cX12_action 101 = .ok (.aload_n 0, 1) := by decide +kernel
theorem dX12_action_102 : decode cX12_action 102 = .ok (.getfield 112, 3) := by decide +kernel
theorem dX12_action_105 : decode cX12_action 105 = .ok (.iload_n 1, 1) := by decide +kernel
theorem dX12_action_106 : decode cX12_action 106 = .ok (.iaload, 1) := by decide +kernel
theorem dX12_action_107 : decode cX12_action 107 = .ok (.ireturn, 1) := by decide +kernel
theorem dX12_setDepth_0 : decode cX12_setDepth 0 = .ok (.aload_n 0, 1) := by decide +kernel
theorem dX12_setDepth_1 : decode cX12_setDepth 1 = .ok (.iconst 0, 1) := by decide +kernel
theorem dX12_setDepth_2 : decode cX12_setDepth 2 = .ok (.putfield 127, 3) := by decide +kernel
theorem dX12_setDepth_5 : decode cX12_setDepth 5 = .ok (.aload_n 0, 1) := by decide +kernel
theorem dX12_setDepth_6 : decode cX12_setDepth 6 = .ok (.iload_n 1, 1) := by decide +kernel
theorem dX12_setDepth_7 : decode cX12_setDepth 7 = .ok (.iconst 0, 1) := by decide +kernel
theorem dX12_setDepth_8 : decode cX12_setDepth 8 = .ok (.iconst 3, 1) := by decide +kernel
theorem dX12_setDepth_9 : decode cX12_setDepth 9 = .ok (.invokestatic 130, 3) := by decide +kernel
theorem dX12_setDepth_12 : decode cX12_setDepth 12 = .ok (.ifCond .eq 13, 3) := by decide +kernel
theorem dX12_setDepth_15 : decode cX12_setDepth 15 = .ok (.iload_n 2, 1) := by decide +kernel
theorem dX12_setDepth_16 : decode cX12_setDepth 16 = .ok (.iconst 1, 1) := by decide +kernel
theorem dX12_setDepth_17 : decode cX12_setDepth 17 = .ok (.bipush 16, 2) := by decide +kernel
theorem dX12_setDepth_19 : decode cX12_setDepth 19 = .ok (.invokestatic 130, 3) := by decide +kernel
theorem dX12_setDepth_22 : decode cX12_setDepth 22 = .ok (.ifCond .ne 7, 3) := by decide +kernel
theorem dX12_setDepth_25 : decode cX12_setDepth 25 = .ok (.iconst 1, 1) := by decide +kernel
theorem dX12_setDepth_26 : decode cX12_setDepth 26 = .ok (.goto 4, 3) := by decide +kernel
theorem dX12_setDepth_29 : decode cX12_setDepth 29 = .ok (.iconst 0, 1) := by decide +kernel
theorem dX12_setDepth_30 : decode cX12_setDepth 30 = .ok (.iconst 1, 1) := by decide +kernel
theorem dX12_setDepth_31 : decode cX12_setDepth 31 = .ok (.invokevirtual 142, 3) := by decide +kernel
theorem dX12_setDepth_34 : decode cX12_setDepth 34 = .ok (.ifCond .eq 5, 3) := by decide +kernel
theorem dX12_setDepth_37 : decode cX12_setDepth 37 = .ok (.iconst 0, 1) := by decide +kernel
theorem dX12_setDepth_38 : decode cX12_setDepth 38 = .ok (.ireturn, 1) := by decide +kernel
theorem dX12_setDepth_39 : decode cX12_setDepth 39 = .ok (.aload_n 0, 1) := by decide +kernel
theorem dX12_setDepth_40 : decode cX12_setDepth 40 = .ok (.getfield 118, 3) := by decide +kernel
theorem dX12_setDepth_43 : decode cX12_setDepth 43 = .ok (.iload_n 1, 1) := by decide +kernel
theorem dX12_setDepth_44 : decode cX12_setDepth 44 = .ok (.iaload, 1) := by decide +kernel
theorem dX12_setDepth_45 : decode cX12_setDepth 45 = .ok (.istore_n 3, 1) := by decide +kernel
theorem dX12_setDepth_46 : decode cX12_setDepth 46 = .ok (.aload_n 0, 1) := by decide +kernel
theorem dX12_setDepth_47 : decode cX12_setDepth 47 = .ok (.getfield 118, 3) := by decide +kernel
theorem dX12_setDepth_50 : decode cX12_setDepth 50 = .ok (.iload_n 1, 1) := by decide +kernel
theorem dX12_setDepth_51 : decode cX12_setDepth 51 = .ok (.iload_n 2, 1) := by decide +kernel
theorem dX12_setDepth_52 : decode cX12_setDepth 52 = .ok (.iastore, 1) := by decide +kernel
theorem dX12_setDepth_53 : decode cX12_setDepth 53 = .ok (.iload_n 3, 1) := by decide +kernel
theorem dX12_setDepth_54 : decode cX12_setDepth 54 = .ok (.ireturn, 1) := by decide +kernel
theorem dX12_acts_0 : decode cX12_acts 0 = .ok (.aload_n 0, 1) := by decide +kernel
theorem dX12_acts_1 : decode cX12_acts 1 = .ok (.getfield 121, 3) := by decide +kernel
theorem dX12_acts_4 : decode cX12_acts 4 = .ok (.iload_n 1, 1) := by decide +kernel
theorem dX12_acts_5 : decode cX12_acts 5 = .ok (.iaload, 1) := by decide +kernel
theorem dX12_acts_6 : decode cX12_acts 6 = .ok (.aload_n 0, 1) := by decide +kernel
theorem dX12_acts_7 : decode cX12_acts 7 = .ok (.getfield 112, 3) := by decide +kernel
theorem dX12_acts_10 : decode cX12_acts 10 = .ok (.iload_n 1, 1) := by decide +kernel
theorem dX12_acts_11 : decode cX12_acts 11 = .ok (.iaload, 1) := by decide +kernel
theorem dX12_acts_12 : decode cX12_acts 12 = .ok (.if_icmp .ne 5, 3) := by decide +kernel
theorem dX12_acts_15 : decode cX12_acts 15 = .ok (.iconst 0, 1) := by decide +kernel
theorem dX12_acts_16 : decode cX12_acts 16 = .ok (.ireturn, 1) := by decide +kernel
theorem dX12_acts_17 : decode cX12_acts 17 = .ok (.aload_n 0, 1) := by decide +kernel
theorem dX12_acts_18 : decode cX12_acts 18 = .ok (.getfield 115, 3) := by decide +kernel
theorem dX12_acts_21 : decode cX12_acts 21 = .ok (.bipush 16, 2) := by decide +kernel
theorem dX12_acts_23 : decode cX12_acts 23 = .ok (.iload_n 1, 1) := by decide +kernel
theorem dX12_acts_24 : decode cX12_acts 24 = .ok (.imul, 1) := by decide +kernel
theorem dX12_acts_25 : decode cX12_acts 25 = .ok (.aload_n 0, 1) := by decide +kernel
theorem dX12_acts_26 : decode cX12_acts 26 = .ok (.getfield 121, 3) := by decide +kernel
theorem dX12_acts_29 : decode cX12_acts 29 = .ok (.iload_n 1, 1) := by decide +kernel
theorem dX12_acts_30 : decode cX12_acts 30 = .ok (.iaload, 1) := by decide +kernel
theorem dX12_acts_31 : decode cX12_acts 31 = .ok (.iadd, 1) := by decide +kernel
theorem dX12_acts_32 : decode cX12_acts 32 = .ok (.iaload, 1) := by decide +kernel
theorem dX12_acts_33 : decode cX12_acts 33 = .ok (.istore_n 3, 1) := by decide +kernel
theorem dX12_acts_34 : decode cX12_acts 34 = .ok (.iload_n 3, 1) := by decide +kernel
theorem dX12_acts_35 : decode cX12_acts 35 = .ok (.iconst 2, 1) := by decide +kernel
theorem dX12_acts_36 : decode cX12_acts 36 = .ok (.idiv, 1) := by decide +kernel
theorem dX12_acts_37 : decode cX12_acts 37 = .ok (.istore 4, 2) := by decide +kernel
theorem dX12_acts_39 : decode cX12_acts 39 = .ok (.iload_n 3, 1) := by decide +kernel
theorem dX12_acts_40 : decode cX12_acts 40 = .ok (.iconst 2, 1) := by decide +kernel
theorem dX12_acts_41 : decode cX12_acts 41 = .ok (.irem, 1) := by decide +kernel
theorem dX12_acts_42 : decode cX12_acts 42 = .ok (.iconst 1, 1) := by decide +kernel
theorem dX12_acts_43 : decode cX12_acts 43 = .ok (.if_icmp .ne 7, 3) := by decide +kernel
theorem dX12_acts_46 : decode cX12_acts 46 = .ok (.iconst 1, 1) := by decide +kernel
theorem dX12_acts_47 : decode cX12_acts 47 = .ok (.goto 4, 3) := by decide +kernel
theorem dX12_acts_50 : decode cX12_acts 50 = .ok (.iconst 0, 1) := by decide +kernel
theorem dX12_acts_51 : decode cX12_acts 51 = .ok (.istore 5, 2) := by decide +kernel
theorem dX12_acts_53 : decode cX12_acts 53 = .ok (.iload 5, 2) := by decide +kernel
theorem dX12_acts_55 : decode cX12_acts 55 = .ok (.ifCond .eq 36, 3) := by decide +kernel
theorem dX12_acts_58 : decode cX12_acts 58 = .ok (.aload_n 0, 1) := by decide +kernel
theorem dX12_acts_59 : decode cX12_acts 59 = .ok (.getfield 124, 3) := by decide +kernel
theorem dX12_acts_62 : decode cX12_acts 62 = .ok (.iload 4, 2) := by decide +kernel
theorem dX12_acts_64 : decode cX12_acts 64 = .ok (.iaload, 1) := by decide +kernel
theorem dX12_acts_65 : decode cX12_acts 65 = .ok (.iload_n 2, 1) := by decide +kernel
theorem dX12_acts_66 : decode cX12_acts 66 = .ok (.ifCond .ne 13, 3) := by decide +kernel
theorem dX12_acts_69 : decode cX12_acts 69 = .ok (.aload_n 0, 1) := by decide +kernel
theorem dX12_acts_70 : decode cX12_acts 70 = .ok (.getfield 118, 3) := by decide +kernel
theorem dX12_acts_73 : decode cX12_acts 73 = .ok (.iload 4, 2) := by decide +kernel
theorem dX12_acts_75 : decode cX12_acts 75 = .ok (.iaload, 1) := by decide +kernel
theorem dX12_acts_76 : decode cX12_acts 76 = .ok (.goto 4, 3) := by decide +kernel
theorem dX12_acts_79 : decode cX12_acts 79 = .ok (.iload_n 2, 1) := by decide +kernel
theorem dX12_acts_80 : decode cX12_acts 80 = .ok (.if_icmp .ge 7, 3) := by decide +kernel
theorem dX12_acts_83 : decode cX12_acts 83 = .ok (.iconst 1, 1) := by decide +kernel
theorem dX12_acts_84 : decode cX12_acts 84 = .ok (.goto 22, 3) := by decide +kernel
theorem dX12_acts_87 : decode cX12_acts 87 = .ok (.iconst 0, 1) := by decide +kernel
theorem dX12_acts_88 : decode cX12_acts 88 = .ok (.goto 18, 3) := by decide +kernel
theorem dX12_acts_91 : decode cX12_acts 91 = .ok (.aload_n 0, 1) := by decide +kernel
theorem dX12_acts_92 : decode cX12_acts 92 = .ok (.getfield 124, 3) := by decide +kernel
theorem dX12_acts_95 : decode cX12_acts 95 = .ok (.iload 4, 2) := by decide +kernel
theorem dX12_acts_97 : decode cX12_acts 97 = .ok (.iaload, 1) := by decide +kernel
theorem dX12_acts_98 : decode cX12_acts 98 = .ok (.ifCond .le 7, 3) := by decide +kernel
theorem dX12_acts_101 : decode cX12_acts 101 = .ok (.iconst 1, 1) := by decide +kernel
theorem dX12_acts_102 : decode cX12_acts 102 = .ok (.goto 4, 3) := by decide +kernel
theorem dX12_acts_105 : decode cX12_acts 105 = .ok (.iconst 0, 1) := by decide +kernel
theorem dX12_acts_106 : decode cX12_acts 106 = .ok (.istore 6, 2) := by decide +kernel
theorem dX12_acts_108 : decode cX12_acts 108 = .ok (.iload 6, 2) := by decide +kernel
theorem dX12_acts_110 : decode cX12_acts 110 = .ok (.ifCond .eq 33, 3) := by decide +kernel
theorem dX12_acts_113 : decode cX12_acts 113 = .ok (.aload_n 0, 1) := by decide +kernel
theorem dX12_acts_114 : decode cX12_acts 114 = .ok (.getfield 124, 3) := by decide +kernel
theorem dX12_acts_117 : decode cX12_acts 117 = .ok (.iload 4, 2) := by decide +kernel
theorem dX12_acts_119 : decode cX12_acts 119 = .ok (.dup2, 1) := by decide +kernel
theorem dX12_acts_120 : decode cX12_acts 120 = .ok (.iaload, 1) := by decide +kernel
theorem dX12_acts_121 : decode cX12_acts 121 = .ok (.iload 5, 2) := by decide +kernel
theorem dX12_acts_123 : decode cX12_acts 123 = .ok (.ifCond .eq 7, 3) := by decide +kernel
theorem dX12_acts_126 : decode cX12_acts 126 = .ok (.iconst 1, 1) := by decide +kernel
theorem dX12_acts_127 : decode cX12_acts 127 = .ok (.goto 4, 3) := by decide +kernel
theorem dX12_acts_130 : decode cX12_acts 130 = .ok (.iconst (-1), 1) := by decide +kernel
theorem dX12_acts_131 : decode cX12_acts 131 = .ok (.iadd, 1) := by decide +kernel
theorem dX12_acts_132 : decode cX12_acts 132 = .ok (.iastore, 1) := by decide +kernel
theorem dX12_acts_133 : decode cX12_acts 133 = .ok (.aload_n 0, 1) := by decide +kernel
theorem dX12_acts_134 : decode cX12_acts 134 = .ok (.getfield 121, 3) := by decide +kernel
theorem dX12_acts_137 : decode cX12_acts 137 = .ok (.iload_n 1, 1) := by decide +kernel
theorem dX12_acts_138 : decode cX12_acts 138 = .ok (.dup2, 1) := by decide +kernel
theorem dX12_acts_139 : decode cX12_acts 139 = .ok (.iaload, 1) := by decide +kernel
theorem dX12_acts_140 : decode cX12_acts 140 = .ok (.iconst 1, 1) := by decide +kernel
theorem dX12_acts_141 : decode cX12_acts 141 = .ok (.iadd, 1) := by decide +kernel
theorem dX12_acts_142 : decode cX12_acts 142 = .ok (.iastore, 1) := by decide +kernel
theorem dX12_acts_143 : decode cX12_acts 143 = .ok (.iload 6, 2) := by decide +kernel
theorem dX12_acts_145 : decode cX12_acts 145 = .ok (.ireturn, 1) := by decide +kernel
theorem dX12_goRound_0 : decode cX12_goRound 0 = .ok (.iconst 0, 1) := by decide +kernel
theorem dX12_goRound_1 : decode cX12_goRound 1 = .ok (.istore_n 2, 1) := by decide +kernel
theorem dX12_goRound_2 : decode cX12_goRound 2 = .ok (.iload_n 2, 1) := by decide +kernel
theorem dX12_goRound_3 : decode cX12_goRound 3 = .ok (.iconst 4, 1) := by decide +kernel
theorem dX12_goRound_4 : decode cX12_goRound 4 = .ok (.if_icmp .ge 23, 3) := by decide +kernel
theorem dX12_goRound_7 : decode cX12_goRound 7 = .ok (.aload_n 0, 1) := by decide +kernel
theorem dX12_goRound_8 : decode cX12_goRound 8 = .ok (.getfield 121, 3) := by decide +kernel
theorem dX12_goRound_11 : decode cX12_goRound 11 = .ok (.iload_n 2, 1) := by decide +kernel
theorem dX12_goRound_12 : decode cX12_goRound 12 = .ok (.iconst 0, 1) := by decide +kernel
theorem dX12_goRound_13 : decode cX12_goRound 13 = .ok (.iastore, 1) := by decide +kernel
theorem dX12_goRound_14 : decode cX12_goRound 14 = .ok (.aload_n 0, 1) := by decide +kernel
theorem dX12_goRound_15 : decode cX12_goRound 15 = .ok (.getfield 124, 3) := by decide +kernel
theorem dX12_goRound_18 : decode cX12_goRound 18 = .ok (.iload_n 2, 1) := by decide +kernel
theorem dX12_goRound_19 : decode cX12_goRound 19 = .ok (.iconst 0, 1) := by decide +kernel
theorem dX12_goRound_20 : decode cX12_goRound 20 = .ok (.iastore, 1) := by decide +kernel
theorem dX12_goRound_21 : decode cX12_goRound 21 = .ok (.iinc 2 1, 3) := by decide +kernel
theorem dX12_goRound_24 : decode cX12_goRound 24 = .ok (.goto (-22), 3) := by decide +kernel
theorem dX12_goRound_27 : decode cX12_goRound 27 = .ok (.iconst 1, 1) := by decide +kernel
theorem dX12_goRound_28 : decode cX12_goRound 28 = .ok (.istore_n 2, 1) := by decide +kernel
theorem dX12_goRound_29 : decode cX12_goRound 29 = .ok (.iload_n 2, 1) := by decide +kernel
theorem dX12_goRound_30 : decode cX12_goRound 30 = .ok (.ifCond .eq 35, 3) := by decide +kernel
theorem dX12_goRound_33 : decode cX12_goRound 33 = .ok (.iconst 0, 1) := by decide +kernel
theorem dX12_goRound_34 : decode cX12_goRound 34 = .ok (.istore_n 2, 1) := by decide +kernel
theorem dX12_goRound_35 : decode cX12_goRound 35 = .ok (.iconst 0, 1) := by decide +kernel
theorem dX12_goRound_36 : decode cX12_goRound 36 = .ok (.istore_n 3, 1) := by decide +kernel
theorem dX12_goRound_37 : decode cX12_goRound 37 = .ok (.iload_n 3, 1) := by decide +kernel
theorem dX12_goRound_38 : decode cX12_goRound 38 = .ok (.iconst 4, 1) := by decide +kernel
theorem dX12_goRound_39 : decode cX12_goRound 39 = .ok (.if_icmp .ge 23, 3) := by decide +kernel
theorem dX12_goRound_42 : decode cX12_goRound 42 = .ok (.aload_n 0, 1) := by decide +kernel
theorem dX12_goRound_43 : decode cX12_goRound 43 = .ok (.iload_n 3, 1) := by decide +kernel
theorem dX12_goRound_44 : decode cX12_goRound 44 = .ok (.iload_n 1, 1) := by decide +kernel
theorem dX12_goRound_45 : decode cX12_goRound 45 = .ok (.invokevirtual 370, 3) := by decide +kernel
theorem dX12_goRound_48 : decode cX12_goRound 48 = .ok (.ifCond .eq 8, 3) := by decide +kernel
theorem dX12_goRound_51 : decode cX12_goRound 51 = .ok (.iconst 1, 1) := by decide +kernel
theorem dX12_goRound_52 : decode cX12_goRound 52 = .ok (.istore_n 2, 1) := by decide +kernel
theorem dX12_goRound_53 : decode cX12_goRound 53 = .ok (.goto (-11), 3) := by decide +kernel
theorem dX12_goRound_56 : decode cX12_goRound 56 = .ok (.iinc 3 1, 3) := by decide +kernel
theorem dX12_goRound_59 : decode cX12_goRound 59 = .ok (.goto (-22), 3) := by decide +kernel
theorem dX12_goRound_62 : decode cX12_goRound 62 = .ok (.goto (-33), 3) := by decide +kernel
theorem dX12_goRound_65 : decode cX12_goRound 65 = .ok (.iconst 0, 1) := by decide +kernel
theorem dX12_goRound_66 : decode cX12_goRound 66 = .ok (.istore_n 3, 1) := by decide +kernel
theorem dX12_goRound_67 : decode cX12_goRound 67 = .ok (.iconst 0, 1) := by decide +kernel
theorem dX12_goRound_68 : decode cX12_goRound 68 = .ok (.istore 4, 2) := by decide +kernel
theorem dX12_goRound_70 : decode cX12_goRound 70 = .ok (.iload 4, 2) := by decide +kernel
theorem dX12_goRound_72 : decode cX12_goRound 72 = .ok (.iconst 4, 1) := by decide +kernel
theorem dX12_goRound_73 : decode cX12_goRound 73 = .ok (.if_icmp .ge 36, 3) := by decide +kernel
theorem dX12_goRound_76 : decode cX12_goRound 76 = .ok (.iload_n 3, 1) := by decide +kernel
theorem dX12_goRound_77 : decode cX12_goRound 77 = .ok (.ifCond .ne 20, 3) := by decide +kernel
theorem dX12_goRound_80 : decode cX12_goRound 80 = .ok (.aload_n 0, 1) := by decide +kernel
theorem dX12_goRound_81 : decode cX12_goRound 81 = .ok (.getfield 121, 3) := by decide +kernel
theorem dX12_goRound_84 : decode cX12_goRound 84 = .ok (.iload 4, 2) := by decide +kernel
theorem dX12_goRound_86 : decode cX12_goRound 86 = .ok (.iaload, 1) := by decide +kernel
theorem dX12_goRound_87 : decode cX12_goRound 87 = .ok (.aload_n 0, 1) := by decide +kernel
theorem dX12_goRound_88 : decode cX12_goRound 88 = .ok (.getfield 112, 3) := by decide +kernel
theorem dX12_goRound_91 : decode cX12_goRound 91 = .ok (.iload 4, 2) := by decide +kernel
theorem dX12_goRound_93 : decode cX12_goRound 93 = .ok (.iaload, 1) := by decide +kernel
theorem dX12_goRound_94 : decode cX12_goRound 94 = .ok (.if_icmp .ge 7, 3) := by decide +kernel
theorem dX12_goRound_97 : decode cX12_goRound 97 = .ok (.iconst 1, 1) := by decide +kernel
theorem dX12_goRound_98 : decode cX12_goRound 98 = .ok (.goto 4, 3) := by decide +kernel
theorem dX12_goRound_101 : decode cX12_goRound 101 = .ok (.iconst 0, 1) := by decide +kernel
theorem dX12_goRound_102 : decode cX12_goRound 102 = .ok (.istore_n 3, 1) := by decide +kernel
theorem dX12_goRound_103 : decode cX12_goRound 103 = .ok (.iinc 4 1, 3) := by decide +kernel
theorem dX12_goRound_106 : decode cX12_goRound 106 = .ok (.goto (-36), 3) := by decide +kernel
theorem dX12_goRound_109 : decode cX12_goRound 109 = .ok (.iload_n 3, 1) := by decide +kernel
theorem dX12_goRound_110 : decode cX12_goRound 110 = .ok (.ireturn, 1) := by decide +kernel
theorem dX12_done_0 : decode cX12_done 0 = .ok (.aload_n 0, 1) := by decide +kernel
theorem dX12_done_1 : decode cX12_done 1 = .ok (.iconst 0, 1) := by decide +kernel
theorem dX12_done_2 : decode cX12_done 2 = .ok (.putfield 127, 3) := by decide +kernel
theorem dX12_done_5 : decode cX12_done 5 = .ok (.aload_n 0, 1) := by decide +kernel
theorem dX12_done_6 : decode cX12_done 6 = .ok (.iconst 0, 1) := by decide +kernel
theorem dX12_done_7 : decode cX12_done 7 = .ok (.invokevirtual 373, 3) := by decide +kernel
theorem dX12_done_10 : decode cX12_done 10 = .ok (.pop, 1) := by decide +kernel
theorem dX12_done_11 : decode cX12_done 11 = .ok (.aload_n 0, 1) := by decide +kernel
theorem dX12_done_12 : decode cX12_done 12 = .ok (.getfield 121, 3) := by decide +kernel
theorem dX12_done_15 : decode cX12_done 15 = .ok (.iconst 0, 1) := by decide +kernel
theorem dX12_done_16 : decode cX12_done 16 = .ok (.iaload, 1) := by decide +kernel
theorem dX12_done_17 : decode cX12_done 17 = .ok (.aload_n 0, 1) := by decide +kernel
theorem dX12_done_18 : decode cX12_done 18 = .ok (.getfield 121, 3) := by decide +kernel
theorem dX12_done_21 : decode cX12_done 21 = .ok (.iconst 1, 1) := by decide +kernel
theorem dX12_done_22 : decode cX12_done 22 = .ok (.iaload, 1) := by decide +kernel
theorem dX12_done_23 : decode cX12_done 23 = .ok (.iadd, 1) := by decide +kernel
theorem dX12_done_24 : decode cX12_done 24 = .ok (.aload_n 0, 1) := by decide +kernel
theorem dX12_done_25 : decode cX12_done 25 = .ok (.getfield 121, 3) := by decide +kernel
theorem dX12_done_28 : decode cX12_done 28 = .ok (.iconst 2, 1) := by decide +kernel
theorem dX12_done_29 : decode cX12_done 29 = .ok (.iaload, 1) := by decide +kernel
theorem dX12_done_30 : decode cX12_done 30 = .ok (.iadd, 1) := by decide +kernel
theorem dX12_done_31 : decode cX12_done 31 = .ok (.aload_n 0, 1) := by decide +kernel
theorem dX12_done_32 : decode cX12_done 32 = .ok (.getfield 121, 3) := by decide +kernel
theorem dX12_done_35 : decode cX12_done 35 = .ok (.iconst 3, 1) := by decide +kernel
theorem dX12_done_36 : decode cX12_done 36 = .ok (.iaload, 1) := by decide +kernel
theorem dX12_done_37 : decode cX12_done 37 = .ok (.iadd, 1) := by decide +kernel
theorem dX12_done_38 : decode cX12_done 38 = .ok (.ireturn, 1) := by decide +kernel
theorem dX12_waitsFor_0 : decode cX12_waitsFor 0 = .ok (.aload_n 0, 1) := by decide +kernel
theorem dX12_waitsFor_1 : decode cX12_waitsFor 1 = .ok (.iconst 0, 1) := by decide +kernel
theorem dX12_waitsFor_2 : decode cX12_waitsFor 2 = .ok (.putfield 127, 3) := by decide +kernel
theorem dX12_waitsFor_5 : decode cX12_waitsFor 5 = .ok (.aload_n 0, 1) := by decide +kernel
theorem dX12_waitsFor_6 : decode cX12_waitsFor 6 = .ok (.iload_n 1, 1) := by decide +kernel
theorem dX12_waitsFor_7 : decode cX12_waitsFor 7 = .ok (.iconst 0, 1) := by decide +kernel
theorem dX12_waitsFor_8 : decode cX12_waitsFor 8 = .ok (.iconst 3, 1) := by decide +kernel
theorem dX12_waitsFor_9 : decode cX12_waitsFor 9 = .ok (.invokestatic 130, 3) := by decide +kernel
theorem dX12_waitsFor_12 : decode cX12_waitsFor 12 = .ok (.ifCond .ne 7, 3) := by decide +kernel
theorem dX12_waitsFor_15 : decode cX12_waitsFor 15 = .ok (.iconst 1, 1) := by decide +kernel
theorem dX12_waitsFor_16 : decode cX12_waitsFor 16 = .ok (.goto 4, 3) := by decide +kernel
theorem dX12_waitsFor_19 : decode cX12_waitsFor 19 = .ok (.iconst 0, 1) := by decide +kernel
theorem dX12_waitsFor_20 : decode cX12_waitsFor 20 = .ok (.iconst 1, 1) := by decide +kernel
theorem dX12_waitsFor_21 : decode cX12_waitsFor 21 = .ok (.invokevirtual 142, 3) := by decide +kernel
theorem dX12_waitsFor_24 : decode cX12_waitsFor 24 = .ok (.ifCond .eq 5, 3) := by decide +kernel
theorem dX12_waitsFor_27 : decode cX12_waitsFor 27 = .ok (.iconst 0, 1) := by decide +kernel
theorem dX12_waitsFor_28 : decode cX12_waitsFor 28 = .ok (.ireturn, 1) := by decide +kernel
theorem dX12_waitsFor_29 : decode cX12_waitsFor 29 = .ok (.aload_n 0, 1) := by decide +kernel
theorem dX12_waitsFor_30 : decode cX12_waitsFor 30 = .ok (.iconst 0, 1) := by decide +kernel
theorem dX12_waitsFor_31 : decode cX12_waitsFor 31 = .ok (.invokevirtual 373, 3) := by decide +kernel
theorem dX12_waitsFor_34 : decode cX12_waitsFor 34 = .ok (.pop, 1) := by decide +kernel
theorem dX12_waitsFor_35 : decode cX12_waitsFor 35 = .ok (.aload_n 0, 1) := by decide +kernel
theorem dX12_waitsFor_36 : decode cX12_waitsFor 36 = .ok (.getfield 121, 3) := by decide +kernel
theorem dX12_waitsFor_39 : decode cX12_waitsFor 39 = .ok (.iload_n 1, 1) := by decide +kernel
theorem dX12_waitsFor_40 : decode cX12_waitsFor 40 = .ok (.iaload, 1) := by decide +kernel
theorem dX12_waitsFor_41 : decode cX12_waitsFor 41 = .ok (.aload_n 0, 1) := by decide +kernel
theorem dX12_waitsFor_42 : decode cX12_waitsFor 42 = .ok (.getfield 112, 3) := by decide +kernel
theorem dX12_waitsFor_45 : decode cX12_waitsFor 45 = .ok (.iload_n 1, 1) := by decide +kernel
theorem dX12_waitsFor_46 : decode cX12_waitsFor 46 = .ok (.iaload, 1) := by decide +kernel
theorem dX12_waitsFor_47 : decode cX12_waitsFor 47 = .ok (.if_icmp .ne 7, 3) := by decide +kernel
theorem dX12_waitsFor_50 : decode cX12_waitsFor 50 = .ok (.iconst (-1), 1) := by decide +kernel
theorem dX12_waitsFor_51 : decode cX12_waitsFor 51 = .ok (.goto 21, 3) := by decide +kernel
theorem dX12_waitsFor_54 : decode cX12_waitsFor 54 = .ok (.aload_n 0, 1) := by decide +kernel
theorem dX12_waitsFor_55 : decode cX12_waitsFor 55 = .ok (.getfield 115, 3) := by decide +kernel
theorem dX12_waitsFor_58 : decode cX12_waitsFor 58 = .ok (.bipush 16, 2) := by decide +kernel
theorem dX12_waitsFor_60 : decode cX12_waitsFor 60 = .ok (.iload_n 1, 1) := by decide +kernel
theorem dX12_waitsFor_61 : decode cX12_waitsFor 61 = .ok (.imul, 1) := by decide +kernel
theorem dX12_waitsFor_62 : decode cX12_waitsFor 62 = .ok (.aload_n 0, 1) := by decide +kernel
theorem dX12_waitsFor_63 : decode cX12_waitsFor 63 = .ok (.getfield 121, 3) := by decide +kernel
theorem dX12_waitsFor_66 : decode cX12_waitsFor 66 = .ok (.iload_n 1, 1) := by decide +kernel
theorem dX12_waitsFor_67 : decode cX12_waitsFor 67 = .ok (.iaload, 1) := by decide +kernel
theorem dX12_waitsFor_68 : decode cX12_waitsFor 68 = .ok (.iadd, 1) := by decide +kernel
theorem dX12_waitsFor_69 : decode cX12_waitsFor 69 = .ok (.iaload, 1) := by decide +kernel
theorem dX12_waitsFor_70 : decode cX12_waitsFor 70 = .ok (.iconst 2, 1) := by decide +kernel
theorem dX12_waitsFor_71 : decode cX12_waitsFor 71 = .ok (.idiv, 1) := by decide +kernel
theorem dX12_waitsFor_72 : decode cX12_waitsFor 72 = .ok (.ireturn, 1) := by decide +kernel
theorem dX12_areLocked_0 : decode cX12_areLocked 0 = .ok (.aload_n 0, 1) := by decide +kernel
theorem dX12_areLocked_1 : decode cX12_areLocked 1 = .ok (.iconst 0, 1) := by decide +kernel
theorem dX12_areLocked_2 : decode cX12_areLocked 2 = .ok (.putfield 127, 3) := by decide +kernel
theorem dX12_areLocked_5 : decode cX12_areLocked 5 = .ok (.aload_n 0, 1) := by decide +kernel
theorem dX12_areLocked_6 : decode cX12_areLocked 6 = .ok (.iconst 0, 1) := by decide +kernel
theorem dX12_areLocked_7 : decode cX12_areLocked 7 = .ok (.invokevirtual 373, 3) := by decide +kernel
theorem dX12_areLocked_10 : decode cX12_areLocked 10 = .ok (.ireturn, 1) := by decide +kernel
theorem dX12_leastDepth_0 : decode cX12_leastDepth 0 = .ok (.aload_n 0, 1) := by decide +kernel
theorem dX12_leastDepth_1 : decode cX12_leastDepth 1 = .ok (.iconst 0, 1) := by decide +kernel
theorem dX12_leastDepth_2 : decode cX12_leastDepth 2 = .ok (.putfield 127, 3) := by decide +kernel
theorem dX12_leastDepth_5 : decode cX12_leastDepth 5 = .ok (.iconst 1, 1) := by decide +kernel
theorem dX12_leastDepth_6 : decode cX12_leastDepth 6 = .ok (.istore_n 1, 1) := by decide +kernel
theorem dX12_leastDepth_7 : decode cX12_leastDepth 7 = .ok (.iload_n 1, 1) := by decide +kernel
theorem dX12_leastDepth_8 : decode cX12_leastDepth 8 = .ok (.bipush 16, 2) := by decide +kernel
theorem dX12_leastDepth_10 : decode cX12_leastDepth 10 = .ok (.if_icmp .gt 19, 3) := by decide +kernel
theorem dX12_leastDepth_13 : decode cX12_leastDepth 13 = .ok (.aload_n 0, 1) := by decide +kernel
theorem dX12_leastDepth_14 : decode cX12_leastDepth 14 = .ok (.iload_n 1, 1) := by decide +kernel
theorem dX12_leastDepth_15 : decode cX12_leastDepth 15 = .ok (.invokevirtual 373, 3) := by decide +kernel
theorem dX12_leastDepth_18 : decode cX12_leastDepth 18 = .ok (.ifCond .ne 5, 3) := by decide +kernel
theorem dX12_leastDepth_21 : decode cX12_leastDepth 21 = .ok (.iload_n 1, 1) := by decide +kernel
theorem dX12_leastDepth_22 : decode cX12_leastDepth 22 = .ok (.ireturn, 1) := by decide +kernel
theorem dX12_leastDepth_23 : decode cX12_leastDepth 23 = .ok (.iinc 1 1, 3) := by decide +kernel
theorem dX12_leastDepth_26 : decode cX12_leastDepth 26 = .ok (.goto (-19), 3) := by decide +kernel
theorem dX12_leastDepth_29 : decode cX12_leastDepth 29 = .ok (.aload_n 0, 1) := by decide +kernel
theorem dX12_leastDepth_30 : decode cX12_leastDepth 30 = .ok (.iconst 1, 1) := by decide +kernel
theorem dX12_leastDepth_31 : decode cX12_leastDepth 31 = .ok (.putfield 127, 3) := by decide +kernel
theorem dX12_leastDepth_34 : decode cX12_leastDepth 34 = .ok (.iconst 0, 1) := by decide +kernel
theorem dX12_leastDepth_35 : decode cX12_leastDepth 35 = .ok (.ireturn, 1) := by decide +kernel
theorem dX12_checksum_0 : decode cX12_checksum 0 = .ok (.aload_n 0, 1) := by decide +kernel
theorem dX12_checksum_1 : decode cX12_checksum 1 = .ok (.iconst 0, 1) := by decide +kernel
theorem dX12_checksum_2 : decode cX12_checksum 2 = .ok (.putfield 127, 3) := by decide +kernel
theorem dX12_checksum_5 : decode cX12_checksum 5 = .ok (.aload_n 0, 1) := by decide +kernel
theorem dX12_checksum_6 : decode cX12_checksum 6 = .ok (.invokevirtual 322, 3) := by decide +kernel
theorem dX12_checksum_9 : decode cX12_checksum 9 = .ok (.aload_n 0, 1) := by decide +kernel
theorem dX12_checksum_10 : decode cX12_checksum 10 = .ok (.invokevirtual 346, 3) := by decide +kernel
theorem dX12_checksum_13 : decode cX12_checksum 13 = .ok (.pop, 1) := by decide +kernel
theorem dX12_checksum_14 : decode cX12_checksum 14 = .ok (.lconst 0, 1) := by decide +kernel
theorem dX12_checksum_15 : decode cX12_checksum 15 = .ok (.lstore_n 1, 1) := by decide +kernel
theorem dX12_checksum_16 : decode cX12_checksum 16 = .ok (.iconst 0, 1) := by decide +kernel
theorem dX12_checksum_17 : decode cX12_checksum 17 = .ok (.istore_n 3, 1) := by decide +kernel
theorem dX12_checksum_18 : decode cX12_checksum 18 = .ok (.iload_n 3, 1) := by decide +kernel
theorem dX12_checksum_19 : decode cX12_checksum 19 = .ok (.aload_n 0, 1) := by decide +kernel
theorem dX12_checksum_20 : decode cX12_checksum 20 = .ok (.getfield 196, 3) := by decide +kernel
theorem dX12_checksum_23 : decode cX12_checksum 23 = .ok (.if_icmp .ge 34, 3) := by decide +kernel
theorem dX12_checksum_26 : decode cX12_checksum 26 = .ok (.ldc2_w 376, 3) := by decide +kernel
theorem dX12_checksum_29 : decode cX12_checksum 29 = .ok (.lload_n 1, 1) := by decide +kernel
theorem dX12_checksum_30 : decode cX12_checksum 30 = .ok (.lmul, 1) := by decide +kernel
theorem dX12_checksum_31 : decode cX12_checksum 31 = .ok (.aload_n 0, 1) := by decide +kernel
theorem dX12_checksum_32 : decode cX12_checksum 32 = .ok (.getfield 100, 3) := by decide +kernel
theorem dX12_checksum_35 : decode cX12_checksum 35 = .ok (.iload_n 3, 1) := by decide +kernel
theorem dX12_checksum_36 : decode cX12_checksum 36 = .ok (.iaload, 1) := by decide +kernel
theorem dX12_checksum_37 : decode cX12_checksum 37 = .ok (.i2l, 1) := by decide +kernel
theorem dX12_checksum_38 : decode cX12_checksum 38 = .ok (.ladd, 1) := by decide +kernel
theorem dX12_checksum_39 : decode cX12_checksum 39 = .ok (.bipush 7, 2) := by decide +kernel
theorem dX12_checksum_41 : decode cX12_checksum 41 = .ok (.aload_n 0, 1) := by decide +kernel
theorem dX12_checksum_42 : decode cX12_checksum 42 = .ok (.getfield 103, 3) := by decide +kernel
theorem dX12_checksum_45 : decode cX12_checksum 45 = .ok (.iload_n 3, 1) := by decide +kernel
theorem dX12_checksum_46 : decode cX12_checksum 46 = .ok (.iaload, 1) := by decide +kernel
theorem dX12_checksum_47 : decode cX12_checksum 47 = .ok (.imul, 1) := by decide +kernel
theorem dX12_checksum_48 : decode cX12_checksum 48 = .ok (.i2l, 1) := by decide +kernel
theorem dX12_checksum_49 : decode cX12_checksum 49 = .ok (.ladd, 1) := by decide +kernel
theorem dX12_checksum_50 : decode cX12_checksum 50 = .ok (.lstore_n 1, 1) := by decide +kernel
theorem dX12_checksum_51 : decode cX12_checksum 51 = .ok (.iinc 3 1, 3) := by decide +kernel
theorem dX12_checksum_54 : decode cX12_checksum 54 = .ok (.goto (-36), 3) := by decide +kernel
theorem dX12_checksum_57 : decode cX12_checksum 57 = .ok (.lload_n 1, 1) := by decide +kernel
theorem dX12_checksum_58 : decode cX12_checksum 58 = .ok (.lreturn, 1) := by decide +kernel
theorem dX12_busyShare_0 : decode cX12_busyShare 0 = .ok (.aload_n 0, 1) := by decide +kernel
theorem dX12_busyShare_1 : decode cX12_busyShare 1 = .ok (.iconst 0, 1) := by decide +kernel
theorem dX12_busyShare_2 : decode cX12_busyShare 2 = .ok (.putfield 127, 3) := by decide +kernel
theorem dX12_busyShare_5 : decode cX12_busyShare 5 = .ok (.ldc 211, 2) := by decide +kernel
theorem dX12_busyShare_7 : decode cX12_busyShare 7 = .ok (.iload_n 1, 1) := by decide +kernel
theorem dX12_busyShare_8 : decode cX12_busyShare 8 = .ok (.invokevirtual 136, 3) := by decide +kernel
theorem dX12_busyShare_11 : decode cX12_busyShare 11 = .ok (.istore_n 2, 1) := by decide +kernel
theorem dX12_busyShare_12 : decode cX12_busyShare 12 = .ok (.aload_n 0, 1) := by decide +kernel
theorem dX12_busyShare_13 : decode cX12_busyShare 13 = .ok (.iload_n 2, 1) := by decide +kernel
theorem dX12_busyShare_14 : decode cX12_busyShare 14 = .ok (.ifCond .ge 7, 3) := by decide +kernel
theorem dX12_busyShare_17 : decode cX12_busyShare 17 = .ok (.iconst 1, 1) := by decide +kernel
theorem dX12_busyShare_18 : decode cX12_busyShare 18 = .ok (.goto 4, 3) := by decide +kernel
theorem dX12_busyShare_21 : decode cX12_busyShare 21 = .ok (.iconst 0, 1) := by decide +kernel
theorem dX12_busyShare_22 : decode cX12_busyShare 22 = .ok (.iconst 1, 1) := by decide +kernel
theorem dX12_busyShare_23 : decode cX12_busyShare 23 = .ok (.invokevirtual 142, 3) := by decide +kernel
theorem dX12_busyShare_26 : decode cX12_busyShare 26 = .ok (.ifCond .eq 5, 3) := by decide +kernel
theorem dX12_busyShare_29 : decode cX12_busyShare 29 = .ok (.fconst 0, 1) := by decide +kernel
theorem dX12_busyShare_30 : decode cX12_busyShare 30 = .ok (.freturn, 1) := by decide +kernel
theorem dX12_busyShare_31 : decode cX12_busyShare 31 = .ok (.aload_n 0, 1) := by decide +kernel
theorem dX12_busyShare_32 : decode cX12_busyShare 32 = .ok (.invokevirtual 346, 3) := by decide +kernel
theorem dX12_busyShare_35 : decode cX12_busyShare 35 = .ok (.istore_n 3, 1) := by decide +kernel
theorem dX12_busyShare_36 : decode cX12_busyShare 36 = .ok (.iconst 0, 1) := by decide +kernel
theorem dX12_busyShare_37 : decode cX12_busyShare 37 = .ok (.istore 4, 2) := by decide +kernel
theorem dX12_busyShare_39 : decode cX12_busyShare 39 = .ok (.iconst 0, 1) := by decide +kernel
theorem dX12_busyShare_40 : decode cX12_busyShare 40 = .ok (.istore 5, 2) := by decide +kernel
theorem dX12_busyShare_42 : decode cX12_busyShare 42 = .ok (.iload 5, 2) := by decide +kernel
theorem dX12_busyShare_44 : decode cX12_busyShare 44 = .ok (.aload_n 0, 1) := by decide +kernel
theorem dX12_busyShare_45 : decode cX12_busyShare 45 = .ok (.getfield 196, 3) := by decide +kernel
theorem dX12_busyShare_48 : decode cX12_busyShare 48 = .ok (.if_icmp .ge 30, 3) := by decide +kernel
theorem dX12_busyShare_51 : decode cX12_busyShare 51 = .ok (.iload 4, 2) := by decide +kernel
theorem dX12_busyShare_53 : decode cX12_busyShare 53 = .ok (.aload_n 0, 1) := by decide +kernel
theorem dX12_busyShare_54 : decode cX12_busyShare 54 = .ok (.getfield 57, 3) := by decide +kernel
theorem dX12_busyShare_57 : decode cX12_busyShare 57 = .ok (.iload 5, 2) := by decide +kernel
theorem dX12_busyShare_59 : decode cX12_busyShare 59 = .ok (.iaload, 1) := by decide +kernel
theorem dX12_busyShare_60 : decode cX12_busyShare 60 = .ok (.iload_n 2, 1) := by decide +kernel
theorem dX12_busyShare_61 : decode cX12_busyShare 61 = .ok (.if_icmp .ne 7, 3) := by decide +kernel
theorem dX12_busyShare_64 : decode cX12_busyShare 64 = .ok (.iconst 1, 1) := by decide +kernel
theorem dX12_busyShare_65 : decode cX12_busyShare 65 = .ok (.goto 4, 3) := by decide +kernel
theorem dX12_busyShare_68 : decode cX12_busyShare 68 = .ok (.iconst 0, 1) := by decide +kernel
theorem dX12_busyShare_69 : decode cX12_busyShare 69 = .ok (.iadd, 1) := by decide +kernel
theorem dX12_busyShare_70 : decode cX12_busyShare 70 = .ok (.istore 4, 2) := by decide +kernel
theorem dX12_busyShare_72 : decode cX12_busyShare 72 = .ok (.iinc 5 1, 3) := by decide +kernel
theorem dX12_busyShare_75 : decode cX12_busyShare 75 = .ok (.goto (-33), 3) := by decide +kernel
theorem dX12_busyShare_78 : decode cX12_busyShare 78 = .ok (.iload 4, 2) := by decide +kernel
theorem dX12_busyShare_80 : decode cX12_busyShare 80 = .ok (.i2f, 1) := by decide +kernel
theorem dX12_busyShare_81 : decode cX12_busyShare 81 = .ok (.aload_n 0, 1) := by decide +kernel
theorem dX12_busyShare_82 : decode cX12_busyShare 82 = .ok (.getfield 36, 3) := by decide +kernel
theorem dX12_busyShare_85 : decode cX12_busyShare 85 = .ok (.iload_n 2, 1) := by decide +kernel
theorem dX12_busyShare_86 : decode cX12_busyShare 86 = .ok (.iaload, 1) := by decide +kernel
theorem dX12_busyShare_87 : decode cX12_busyShare 87 = .ok (.iload_n 3, 1) := by decide +kernel
theorem dX12_busyShare_88 : decode cX12_busyShare 88 = .ok (.imul, 1) := by decide +kernel
theorem dX12_busyShare_89 : decode cX12_busyShare 89 = .ok (.i2f, 1) := by decide +kernel
theorem dX12_busyShare_90 : decode cX12_busyShare 90 = .ok (.fdiv, 1) := by decide +kernel
theorem dX12_busyShare_91 : decode cX12_busyShare 91 = .ok (.freturn, 1) := by decide +kernel
theorem dX12_meanStep_0 : decode cX12_meanStep 0 = .ok (.aload_n 0, 1) := by decide +kernel
theorem dX12_meanStep_1 : decode cX12_meanStep 1 = .ok (.iconst 0, 1) := by decide +kernel
theorem dX12_meanStep_2 : decode cX12_meanStep 2 = .ok (.putfield 127, 3) := by decide +kernel
theorem dX12_meanStep_5 : decode cX12_meanStep 5 = .ok (.aload_n 0, 1) := by decide +kernel
theorem dX12_meanStep_6 : decode cX12_meanStep 6 = .ok (.invokevirtual 322, 3) := by decide +kernel
theorem dX12_meanStep_9 : decode cX12_meanStep 9 = .ok (.iconst 0, 1) := by decide +kernel
theorem dX12_meanStep_10 : decode cX12_meanStep 10 = .ok (.istore_n 1, 1) := by decide +kernel
theorem dX12_meanStep_11 : decode cX12_meanStep 11 = .ok (.iconst 0, 1) := by decide +kernel
theorem dX12_meanStep_12 : decode cX12_meanStep 12 = .ok (.istore_n 2, 1) := by decide +kernel
theorem dX12_meanStep_13 : decode cX12_meanStep 13 = .ok (.iload_n 2, 1) := by decide +kernel
theorem dX12_meanStep_14 : decode cX12_meanStep 14 = .ok (.aload_n 0, 1) := by decide +kernel
theorem dX12_meanStep_15 : decode cX12_meanStep 15 = .ok (.getfield 196, 3) := by decide +kernel
theorem dX12_meanStep_18 : decode cX12_meanStep 18 = .ok (.if_icmp .ge 18, 3) := by decide +kernel
theorem dX12_meanStep_21 : decode cX12_meanStep 21 = .ok (.iload_n 1, 1) := by decide +kernel
theorem dX12_meanStep_22 : decode cX12_meanStep 22 = .ok (.aload_n 0, 1) := by decide +kernel
theorem dX12_meanStep_23 : decode cX12_meanStep 23 = .ok (.getfield 100, 3) := by decide +kernel
theorem dX12_meanStep_26 : decode cX12_meanStep 26 = .ok (.iload_n 2, 1) := by decide +kernel
theorem dX12_meanStep_27 : decode cX12_meanStep 27 = .ok (.iaload, 1) := by decide +kernel
theorem dX12_meanStep_28 : decode cX12_meanStep 28 = .ok (.iadd, 1) := by decide +kernel
theorem dX12_meanStep_29 : decode cX12_meanStep 29 = .ok (.istore_n 1, 1) := by decide +kernel
theorem dX12_meanStep_30 : decode cX12_meanStep 30 = .ok (.iinc 2 1, 3) := by decide +kernel
theorem dX12_meanStep_33 : decode cX12_meanStep 33 = .ok (.goto (-20), 3) := by decide +kernel
theorem dX12_meanStep_36 : decode cX12_meanStep 36 = .ok (.aload_n 0, 1) := by decide +kernel
theorem dX12_meanStep_37 : decode cX12_meanStep 37 = .ok (.aload_n 0, 1) := by decide +kernel
theorem dX12_meanStep_38 : decode cX12_meanStep 38 = .ok (.getfield 196, 3) := by decide +kernel
theorem dX12_meanStep_41 : decode cX12_meanStep 41 = .ok (.ifCond .ne 7, 3) := by decide +kernel
theorem dX12_meanStep_44 : decode cX12_meanStep 44 = .ok (.iconst 1, 1) := by decide +kernel
theorem dX12_meanStep_45 : decode cX12_meanStep 45 = .ok (.goto 4, 3) := by decide +kernel
theorem dX12_meanStep_48 : decode cX12_meanStep 48 = .ok (.iconst 0, 1) := by decide +kernel
theorem dX12_meanStep_49 : decode cX12_meanStep 49 = .ok (.iconst 1, 1) := by decide +kernel
theorem dX12_meanStep_50 : decode cX12_meanStep 50 = .ok (.invokevirtual 142, 3) := by decide +kernel
theorem dX12_meanStep_53 : decode cX12_meanStep 53 = .ok (.ifCond .eq 7, 3) := by decide +kernel
theorem dX12_meanStep_56 : decode cX12_meanStep 56 = .ok (.dconst 0, 1) := by decide +kernel
theorem dX12_meanStep_57 : decode cX12_meanStep 57 = .ok (.goto 11, 3) := by decide +kernel
theorem dX12_meanStep_60 : decode cX12_meanStep 60 = .ok (.iload_n 1, 1) := by decide +kernel
theorem dX12_meanStep_61 : decode cX12_meanStep 61 = .ok (.i2d, 1) := by decide +kernel
theorem dX12_meanStep_62 : decode cX12_meanStep 62 = .ok (.aload_n 0, 1) := by decide +kernel
theorem dX12_meanStep_63 : decode cX12_meanStep 63 = .ok (.getfield 196, 3) := by decide +kernel
theorem dX12_meanStep_66 : decode cX12_meanStep 66 = .ok (.i2d, 1) := by decide +kernel
theorem dX12_meanStep_67 : decode cX12_meanStep 67 = .ok (.ddiv, 1) := by decide +kernel
theorem dX12_meanStep_68 : decode cX12_meanStep 68 = .ok (.dreturn, 1) := by decide +kernel
theorem dX12_isSound_0 : decode cX12_isSound 0 = .ok (.aload_n 0, 1) := by decide +kernel
theorem dX12_isSound_1 : decode cX12_isSound 1 = .ok (.iconst 0, 1) := by decide +kernel
theorem dX12_isSound_2 : decode cX12_isSound 2 = .ok (.putfield 127, 3) := by decide +kernel
theorem dX12_isSound_5 : decode cX12_isSound 5 = .ok (.iconst 1, 1) := by decide +kernel
theorem dX12_isSound_6 : decode cX12_isSound 6 = .ok (.ireturn, 1) := by decide +kernel
