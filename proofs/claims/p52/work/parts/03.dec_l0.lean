theorem dL_cell_0 : decode cL_cell 0 = .ok (.ldc 7, 2) := by decide +kernel
theorem dL_cell_2 : decode cL_cell 2 = .ok (.iload_n 1, 1) := by decide +kernel
theorem dL_cell_3 : decode cL_cell 3 = .ok (.aload_n 0, 1) := by decide +kernel
theorem dL_cell_4 : decode cL_cell 4 = .ok (.arraylength, 1) := by decide +kernel
theorem dL_cell_5 : decode cL_cell 5 = .ok (.if_icmp .ge 9, 3) := by decide +kernel
theorem dL_cell_8 : decode cL_cell 8 = .ok (.aload_n 0, 1) := by decide +kernel
theorem dL_cell_9 : decode cL_cell 9 = .ok (.iload_n 1, 1) := by decide +kernel
theorem dL_cell_10 : decode cL_cell 10 = .ok (.iaload, 1) := by decide +kernel
theorem dL_cell_11 : decode cL_cell 11 = .ok (.goto 4, 3) := by decide +kernel
theorem dL_cell_14 : decode cL_cell 14 = .ok (.iconst 0, 1) := by decide +kernel
theorem dL_cell_15 : decode cL_cell 15 = .ok (.sipush 1009, 3) := by decide +kernel
theorem dL_cell_18 : decode cL_cell 18 = .ok (.iload_n 1, 1) := by decide +kernel
theorem dL_cell_19 : decode cL_cell 19 = .ok (.imul, 1) := by decide +kernel
theorem dL_cell_20 : decode cL_cell 20 = .ok (.iadd, 1) := by decide +kernel
theorem dL_cell_21 : decode cL_cell 21 = .ok (.imul, 1) := by decide +kernel
theorem dL_cell_22 : decode cL_cell 22 = .ok (.sipush 12345, 3) := by decide +kernel
theorem dL_cell_25 : decode cL_cell 25 = .ok (.iadd, 1) := by decide +kernel
theorem dL_cell_26 : decode cL_cell 26 = .ok (.istore_n 2, 1) := by decide +kernel
theorem dL_cell_27 : decode cL_cell 27 = .ok (.iload_n 2, 1) := by decide +kernel
theorem dL_cell_28 : decode cL_cell 28 = .ok (.iload_n 2, 1) := by decide +kernel
theorem dL_cell_29 : decode cL_cell 29 = .ok (.bipush 13, 2) := by decide +kernel
theorem dL_cell_31 : decode cL_cell 31 = .ok (.iushr, 1) := by decide +kernel
theorem dL_cell_32 : decode cL_cell 32 = .ok (.ixor, 1) := by decide +kernel
theorem dL_cell_33 : decode cL_cell 33 = .ok (.ldc 8, 2) := by decide +kernel
theorem dL_cell_35 : decode cL_cell 35 = .ok (.imul, 1) := by decide +kernel
theorem dL_cell_36 : decode cL_cell 36 = .ok (.istore_n 2, 1) := by decide +kernel
theorem dL_cell_37 : decode cL_cell 37 = .ok (.iload_n 2, 1) := by decide +kernel
theorem dL_cell_38 : decode cL_cell 38 = .ok (.iload_n 2, 1) := by decide +kernel
theorem dL_cell_39 : decode cL_cell 39 = .ok (.bipush 16, 2) := by decide +kernel
theorem dL_cell_41 : decode cL_cell 41 = .ok (.iushr, 1) := by decide +kernel
theorem dL_cell_42 : decode cL_cell 42 = .ok (.ixor, 1) := by decide +kernel
theorem dL_cell_43 : decode cL_cell 43 = .ok (.ireturn, 1) := by decide +kernel
theorem dL_pick_0 : decode cL_pick 0 = .ok (.aload_n 0, 1) := by decide +kernel
theorem dL_pick_1 : decode cL_pick 1 = .ok (.iload_n 1, 1) := by decide +kernel
theorem dL_pick_2 : decode cL_pick 2 = .ok (.invokestatic 9, 3) := by decide +kernel
theorem dL_pick_5 : decode cL_pick 5 = .ok (.bipush 8, 2) := by decide +kernel
theorem dL_pick_7 : decode cL_pick 7 = .ok (.iushr, 1) := by decide +kernel
theorem dL_pick_8 : decode cL_pick 8 = .ok (.iload_n 2, 1) := by decide +kernel
theorem dL_pick_9 : decode cL_pick 9 = .ok (.irem, 1) := by decide +kernel
theorem dL_pick_10 : decode cL_pick 10 = .ok (.ireturn, 1) := by decide +kernel
theorem dL_told_0 : decode cL_told 0 = .ok (.iload_n 0, 1) := by decide +kernel
theorem dL_told_1 : decode cL_told 1 = .ok (.ifCond .eq 7, 3) := by decide +kernel
theorem dL_told_4 : decode cL_told 4 = .ok (.iconst 1, 1) := by decide +kernel
theorem dL_told_5 : decode cL_told 5 = .ok (.goto 4, 3) := by decide +kernel
theorem dL_told_8 : decode cL_told 8 = .ok (.iconst 0, 1) := by decide +kernel
theorem dL_told_9 : decode cL_told 9 = .ok (.ireturn, 1) := by decide +kernel
theorem dL_done_0 : decode cL_done 0 = .ok (.iload_n 1, 1) := by decide +kernel
theorem dL_done_1 : decode cL_done 1 = .ok (.tableswitch 156 0 11 #[63, 70, 75, 81, 87, 93, 99, 105, 115, 123, 131, 149], 63) := by decide +kernel
theorem dL_done_64 : decode cL_done 64 = .ok (.aload_n 0, 1) := by decide +kernel
theorem dL_done_65 : decode cL_done 65 = .ok (.iload_n 2, 1) := by decide +kernel
theorem dL_done_66 : decode cL_done 66 = .ok (.i2c, 1) := by decide +kernel
theorem dL_done_67 : decode cL_done 67 = .ok (.invokevirtual 15, 3) := by decide +kernel
theorem dL_done_70 : decode cL_done 70 = .ok (.ireturn, 1) := by decide +kernel
theorem dL_done_71 : decode cL_done 71 = .ok (.aload_n 0, 1) := by decide +kernel
theorem dL_done_72 : decode cL_done 72 = .ok (.invokevirtual 21, 3) := by decide +kernel
theorem dL_done_75 : decode cL_done 75 = .ok (.ireturn, 1) := by decide +kernel
theorem dL_done_76 : decode cL_done 76 = .ok (.aload_n 0, 1) := by decide +kernel
theorem dL_done_77 : decode cL_done 77 = .ok (.iload_n 2, 1) := by decide +kernel
theorem dL_done_78 : decode cL_done 78 = .ok (.invokevirtual 25, 3) := by decide +kernel
theorem dL_done_81 : decode cL_done 81 = .ok (.ireturn, 1) := by decide +kernel
theorem dL_done_82 : decode cL_done 82 = .ok (.aload_n 0, 1) := by decide +kernel
theorem dL_done_83 : decode cL_done 83 = .ok (.iload_n 2, 1) := by decide +kernel
theorem dL_done_84 : decode cL_done 84 = .ok (.invokevirtual 29, 3) := by decide +kernel
theorem dL_done_87 : decode cL_done 87 = .ok (.ireturn, 1) := by decide +kernel
theorem dL_done_88 : decode cL_done 88 = .ok (.aload_n 0, 1) := by decide +kernel
theorem dL_done_89 : decode cL_done 89 = .ok (.iload_n 2, 1) := by decide +kernel
theorem dL_done_90 : decode cL_done 90 = .ok (.invokevirtual 32, 3) := by decide +kernel
theorem dL_done_93 : decode cL_done 93 = .ok (.ireturn, 1) := by decide +kernel
theorem dL_done_94 : decode cL_done 94 = .ok (.aload_n 0, 1) := by decide +kernel
theorem dL_done_95 : decode cL_done 95 = .ok (.iload_n 2, 1) := by decide +kernel
theorem dL_done_96 : decode cL_done 96 = .ok (.invokevirtual 35, 3) := by decide +kernel
theorem dL_done_99 : decode cL_done 99 = .ok (.ireturn, 1) := by decide +kernel
theorem dL_done_100 : decode cL_done 100 = .ok (.aload_n 0, 1) := by decide +kernel
theorem dL_done_101 : decode cL_done 101 = .ok (.iload_n 2, 1) := by decide +kernel
theorem dL_done_102 : decode cL_done 102 = .ok (.invokevirtual 38, 3) := by decide +kernel
theorem dL_done_105 : decode cL_done 105 = .ok (.ireturn, 1) := by decide +kernel
theorem dL_done_106 : decode cL_done 106 = .ok (.aload_n 0, 1) := by decide +kernel
theorem dL_done_107 : decode cL_done 107 = .ok (.iload_n 2, 1) := by decide +kernel
theorem dL_done_108 : decode cL_done 108 = .ok (.i2c, 1) := by decide +kernel
theorem dL_done_109 : decode cL_done 109 = .ok (.iload_n 3, 1) := by decide +kernel
theorem dL_done_110 : decode cL_done 110 = .ok (.iload 4, 2) := by decide +kernel
theorem dL_done_112 : decode cL_done 112 = .ok (.invokevirtual 41, 3) := by decide +kernel
theorem dL_done_115 : decode cL_done 115 = .ok (.ireturn, 1) := by decide +kernel
theorem dL_done_116 : decode cL_done 116 = .ok (.aload_n 0, 1) := by decide +kernel
theorem dL_done_117 : decode cL_done 117 = .ok (.iload_n 2, 1) := by decide +kernel
theorem dL_done_118 : decode cL_done 118 = .ok (.i2c, 1) := by decide +kernel
theorem dL_done_119 : decode cL_done 119 = .ok (.iload_n 3, 1) := by decide +kernel
theorem dL_done_120 : decode cL_done 120 = .ok (.invokevirtual 45, 3) := by decide +kernel
theorem dL_done_123 : decode cL_done 123 = .ok (.ireturn, 1) := by decide +kernel
theorem dL_done_124 : decode cL_done 124 = .ok (.aload_n 0, 1) := by decide +kernel
theorem dL_done_125 : decode cL_done 125 = .ok (.iload_n 2, 1) := by decide +kernel
theorem dL_done_126 : decode cL_done 126 = .ok (.i2c, 1) := by decide +kernel
theorem dL_done_127 : decode cL_done 127 = .ok (.iload_n 3, 1) := by decide +kernel
theorem dL_done_128 : decode cL_done 128 = .ok (.invokevirtual 49, 3) := by decide +kernel
theorem dL_done_131 : decode cL_done 131 = .ok (.ireturn, 1) := by decide +kernel
theorem dL_done_132 : decode cL_done 132 = .ok (.aload_n 0, 1) := by decide +kernel
theorem dL_done_133 : decode cL_done 133 = .ok (.iload_n 2, 1) := by decide +kernel
theorem dL_done_134 : decode cL_done 134 = .ok (.iload_n 3, 1) := by decide +kernel
theorem dL_done_135 : decode cL_done 135 = .ok (.iload 4, 2) := by decide +kernel
theorem dL_done_137 : decode cL_done 137 = .ok (.iconst 1, 1) := by decide +kernel
theorem dL_done_138 : decode cL_done 138 = .ok (.if_icmp .ne 7, 3) := by decide +kernel
theorem dL_done_141 : decode cL_done 141 = .ok (.iconst 1, 1) := by decide +kernel
theorem dL_done_142 : decode cL_done 142 = .ok (.goto 4, 3) := by decide +kernel
theorem dL_done_145 : decode cL_done 145 = .ok (.iconst 0, 1) := by decide +kernel
theorem dL_done_146 : decode cL_done 146 = .ok (.invokevirtual 52, 3) := by decide +kernel
theorem dL_done_149 : decode cL_done 149 = .ok (.ireturn, 1) := by decide +kernel
theorem dL_done_150 : decode cL_done 150 = .ok (.aload_n 0, 1) := by decide +kernel
theorem dL_done_151 : decode cL_done 151 = .ok (.iload_n 2, 1) := by decide +kernel
theorem dL_done_152 : decode cL_done 152 = .ok (.iload_n 3, 1) := by decide +kernel
theorem dL_done_153 : decode cL_done 153 = .ok (.invokevirtual 56, 3) := by decide +kernel
theorem dL_done_156 : decode cL_done 156 = .ok (.ireturn, 1) := by decide +kernel
theorem dL_done_157 : decode cL_done 157 = .ok (.aload_n 0, 1) := by decide +kernel
theorem dL_done_158 : decode cL_done 158 = .ok (.iload_n 2, 1) := by decide +kernel
theorem dL_done_159 : decode cL_done 159 = .ok (.invokevirtual 60, 3) := by decide +kernel
theorem dL_done_162 : decode cL_done 162 = .ok (.ireturn, 1) := by decide +kernel
theorem dL_asked_0 : decode cL_asked 0 = .ok (.iload_n 1, 1) := by decide +kernel
theorem dL_asked_1 : decode cL_asked 1 = .ok (.tableswitch 143 20 31 #[63, 69, 77, 84, 90, 96, 105, 111, 117, 123, 129, 135], 63) := by decide +kernel
theorem dL_asked_64 : decode cL_asked 64 = .ok (.aload_n 0, 1) := by decide +kernel
theorem dL_asked_65 : decode cL_asked 65 = .ok (.iload_n 2, 1) := by decide +kernel
theorem dL_asked_66 : decode cL_asked 66 = .ok (.invokevirtual 63, 3) := by decide +kernel
theorem dL_asked_69 : decode cL_asked 69 = .ok (.ireturn, 1) := by decide +kernel
theorem dL_asked_70 : decode cL_asked 70 = .ok (.aload_n 0, 1) := by decide +kernel
theorem dL_asked_71 : decode cL_asked 71 = .ok (.iload_n 2, 1) := by decide +kernel
theorem dL_asked_72 : decode cL_asked 72 = .ok (.i2c, 1) := by decide +kernel
theorem dL_asked_73 : decode cL_asked 73 = .ok (.iload_n 3, 1) := by decide +kernel
theorem dL_asked_74 : decode cL_asked 74 = .ok (.invokevirtual 66, 3) := by decide +kernel
theorem dL_asked_77 : decode cL_asked 77 = .ok (.ireturn, 1) := by decide +kernel
theorem dL_asked_78 : decode cL_asked 78 = .ok (.aload_n 0, 1) := by decide +kernel
theorem dL_asked_79 : decode cL_asked 79 = .ok (.iload_n 2, 1) := by decide +kernel
theorem dL_asked_80 : decode cL_asked 80 = .ok (.i2c, 1) := by decide +kernel
theorem dL_asked_81 : decode cL_asked 81 = .ok (.invokevirtual 69, 3) := by decide +kernel
theorem dL_asked_84 : decode cL_asked 84 = .ok (.ireturn, 1) := by decide +kernel
theorem dL_asked_85 : decode cL_asked 85 = .ok (.aload_n 0, 1) := by decide +kernel
theorem dL_asked_86 : decode cL_asked 86 = .ok (.iload_n 2, 1) := by decide +kernel
theorem dL_asked_87 : decode cL_asked 87 = .ok (.invokevirtual 72, 3) := by decide +kernel
theorem dL_asked_90 : decode cL_asked 90 = .ok (.ireturn, 1) := by decide +kernel
theorem dL_asked_91 : decode cL_asked 91 = .ok (.aload_n 0, 1) := by decide +kernel
theorem dL_asked_92 : decode cL_asked 92 = .ok (.iload_n 2, 1) := by decide +kernel
theorem dL_asked_93 : decode cL_asked 93 = .ok (.invokevirtual 76, 3) := by decide +kernel
theorem dL_asked_96 : decode cL_asked 96 = .ok (.ireturn, 1) := by decide +kernel
theorem dL_asked_97 : decode cL_asked 97 = .ok (.aload_n 0, 1) := by decide +kernel
theorem dL_asked_98 : decode cL_asked 98 = .ok (.iload_n 2, 1) := by decide +kernel
theorem dL_asked_99 : decode cL_asked 99 = .ok (.iload_n 3, 1) := by decide +kernel
theorem dL_asked_100 : decode cL_asked 100 = .ok (.iload 4, 2) := by decide +kernel
theorem dL_asked_102 : decode cL_asked 102 = .ok (.invokevirtual 79, 3) := by decide +kernel
theorem dL_asked_105 : decode cL_asked 105 = .ok (.ireturn, 1) := by decide +kernel
theorem dL_asked_106 : decode cL_asked 106 = .ok (.aload_n 0, 1) := by decide +kernel
theorem dL_asked_107 : decode cL_asked 107 = .ok (.iload_n 2, 1) := by decide +kernel
theorem dL_asked_108 : decode cL_asked 108 = .ok (.invokevirtual 83, 3) := by decide +kernel
theorem dL_asked_111 : decode cL_asked 111 = .ok (.ireturn, 1) := by decide +kernel
theorem dL_asked_112 : decode cL_asked 112 = .ok (.aload_n 0, 1) := by decide +kernel
theorem dL_asked_113 : decode cL_asked 113 = .ok (.iload_n 2, 1) := by decide +kernel
theorem dL_asked_114 : decode cL_asked 114 = .ok (.invokevirtual 86, 3) := by decide +kernel
theorem dL_asked_117 : decode cL_asked 117 = .ok (.ireturn, 1) := by decide +kernel
theorem dL_asked_118 : decode cL_asked 118 = .ok (.aload_n 0, 1) := by decide +kernel
theorem dL_asked_119 : decode cL_asked 119 = .ok (.iload_n 2, 1) := by decide +kernel
theorem dL_asked_120 : decode cL_asked 120 = .ok (.invokevirtual 89, 3) := by decide +kernel
theorem dL_asked_123 : decode cL_asked 123 = .ok (.ireturn, 1) := by decide +kernel
theorem dL_asked_124 : decode cL_asked 124 = .ok (.aload_n 0, 1) := by decide +kernel
theorem dL_asked_125 : decode cL_asked 125 = .ok (.iload_n 2, 1) := by decide +kernel
theorem dL_asked_126 : decode cL_asked 126 = .ok (.invokevirtual 92, 3) := by decide +kernel
theorem dL_asked_129 : decode cL_asked 129 = .ok (.ireturn, 1) := by decide +kernel
theorem dL_asked_130 : decode cL_asked 130 = .ok (.aload_n 0, 1) := by decide +kernel
theorem dL_asked_131 : decode cL_asked 131 = .ok (.iload_n 2, 1) := by decide +kernel
theorem dL_asked_132 : decode cL_asked 132 = .ok (.invokevirtual 95, 3) := by decide +kernel
theorem dL_asked_135 : decode cL_asked 135 = .ok (.ireturn, 1) := by decide +kernel
theorem dL_asked_136 : decode cL_asked 136 = .ok (.aload_n 0, 1) := by decide +kernel
theorem dL_asked_137 : decode cL_asked 137 = .ok (.iload_n 2, 1) := by decide +kernel
theorem dL_asked_138 : decode cL_asked 138 = .ok (.i2c, 1) := by decide +kernel
theorem dL_asked_139 : decode cL_asked 139 = .ok (.iload_n 3, 1) := by decide +kernel
theorem dL_asked_140 : decode cL_asked 140 = .ok (.invokevirtual 98, 3) := by decide +kernel
theorem dL_asked_143 : decode cL_asked 143 = .ok (.ireturn, 1) := by decide +kernel
theorem dL_asked_144 : decode cL_asked 144 = .ok (.aload_n 0, 1) := by decide +kernel
theorem dL_asked_145 : decode cL_asked 145 = .ok (.invokevirtual 101, 3) := by decide +kernel
theorem dL_asked_148 : decode cL_asked 148 = .ok (.ireturn, 1) := by decide +kernel
theorem dL_deed_0 : decode cL_deed 0 = .ok (.iload_n 1, 1) := by decide +kernel
theorem dL_deed_1 : decode cL_deed 1 = .ok (.bipush 20, 2) := by decide +kernel
theorem dL_deed_3 : decode cL_deed 3 = .ok (.if_icmp .ge 15, 3) := by decide +kernel
theorem dL_deed_6 : decode cL_deed 6 = .ok (.aload_n 0, 1) := by decide +kernel
theorem dL_deed_7 : decode cL_deed 7 = .ok (.iload_n 1, 1) := by decide +kernel
theorem dL_deed_8 : decode cL_deed 8 = .ok (.iload_n 2, 1) := by decide +kernel
theorem dL_deed_9 : decode cL_deed 9 = .ok (.iload_n 3, 1) := by decide +kernel
theorem dL_deed_10 : decode cL_deed 10 = .ok (.iload 4, 2) := by decide +kernel
theorem dL_deed_12 : decode cL_deed 12 = .ok (.invokestatic 104, 3) := by decide +kernel
theorem dL_deed_15 : decode cL_deed 15 = .ok (.goto 12, 3) := by decide +kernel
theorem dL_deed_18 : decode cL_deed 18 = .ok (.aload_n 0, 1) := by decide +kernel
theorem dL_deed_19 : decode cL_deed 19 = .ok (.iload_n 1, 1) := by decide +kernel
theorem dL_deed_20 : decode cL_deed 20 = .ok (.iload_n 2, 1) := by decide +kernel
theorem dL_deed_21 : decode cL_deed 21 = .ok (.iload_n 3, 1) := by decide +kernel
theorem dL_deed_22 : decode cL_deed 22 = .ok (.iload 4, 2) := by decide +kernel
theorem dL_deed_24 : decode cL_deed 24 = .ok (.invokestatic 108, 3) := by decide +kernel
theorem dL_deed_27 : decode cL_deed 27 = .ok (.ireturn, 1) := by decide +kernel
theorem dL_deed_28 : decode cL_deed 28 = .ok (.astore 5, 2) := by decide +kernel
theorem dL_deed_30 : decode cL_deed 30 = .ok (.ldc 113, 2) := by decide +kernel
theorem dL_deed_32 : decode cL_deed 32 = .ok (.ireturn, 1) := by decide +kernel
theorem dL_deed_33 : decode cL_deed 33 = .ok (.astore 5, 2) := by decide +kernel
theorem dL_deed_35 : decode cL_deed 35 = .ok (.ldc 116, 2) := by decide +kernel
theorem dL_deed_37 : decode cL_deed 37 = .ok (.ireturn, 1) := by decide +kernel
theorem dL_deed_38 : decode cL_deed 38 = .ok (.astore 5, 2) := by decide +kernel
theorem dL_deed_40 : decode cL_deed 40 = .ok (.ldc 119, 2) := by decide +kernel
theorem dL_deed_42 : decode cL_deed 42 = .ok (.ireturn, 1) := by decide +kernel
theorem dL_deed_43 : decode cL_deed 43 = .ok (.astore 5, 2) := by decide +kernel
theorem dL_deed_45 : decode cL_deed 45 = .ok (.ldc 122, 2) := by decide +kernel
theorem dL_deed_47 : decode cL_deed 47 = .ok (.ireturn, 1) := by decide +kernel
theorem dL_deed_48 : decode cL_deed 48 = .ok (.astore 5, 2) := by decide +kernel
theorem dL_deed_50 : decode cL_deed 50 = .ok (.ldc 125, 2) := by decide +kernel
theorem dL_deed_52 : decode cL_deed 52 = .ok (.ireturn, 1) := by decide +kernel
theorem dL_ask_0 : decode cL_ask 0 = .ok (.aload_n 0, 1) := by decide +kernel
theorem dL_ask_1 : decode cL_ask 1 = .ok (.iload_n 1, 1) := by decide +kernel
theorem dL_ask_2 : decode cL_ask 2 = .ok (.iload_n 2, 1) := by decide +kernel
theorem dL_ask_3 : decode cL_ask 3 = .ok (.iload_n 3, 1) := by decide +kernel
theorem dL_ask_4 : decode cL_ask 4 = .ok (.iconst 0, 1) := by decide +kernel
theorem dL_ask_5 : decode cL_ask 5 = .ok (.invokestatic 126, 3) := by decide +kernel
theorem dL_ask_8 : decode cL_ask 8 = .ok (.ireturn, 1) := by decide +kernel
theorem dL_type_0 : decode cL_type 0 = .ok (.iconst 0, 1) := by decide +kernel
theorem dL_type_1 : decode cL_type 1 = .ok (.istore_n 2, 1) := by decide +kernel
theorem dL_type_2 : decode cL_type 2 = .ok (.iload_n 2, 1) := by decide +kernel
theorem dL_type_3 : decode cL_type 3 = .ok (.aload_n 1, 1) := by decide +kernel
theorem dL_type_4 : decode cL_type 4 = .ok (.invokevirtual 129, 3) := by decide +kernel
theorem dL_type_7 : decode cL_type 7 = .ok (.if_icmp .ge 21, 3) := by decide +kernel
theorem dL_type_10 : decode cL_type 10 = .ok (.aload_n 0, 1) := by decide +kernel
theorem dL_type_11 : decode cL_type 11 = .ok (.iconst 0, 1) := by decide +kernel
theorem dL_type_12 : decode cL_type 12 = .ok (.aload_n 1, 1) := by decide +kernel
theorem dL_type_13 : decode cL_type 13 = .ok (.iload_n 2, 1) := by decide +kernel
theorem dL_type_14 : decode cL_type 14 = .ok (.invokevirtual 134, 3) := by decide +kernel
theorem dL_type_17 : decode cL_type 17 = .ok (.iconst 0, 1) := by decide +kernel
theorem dL_type_18 : decode cL_type 18 = .ok (.invokestatic 137, 3) := by decide +kernel
theorem dL_type_21 : decode cL_type 21 = .ok (.pop, 1) := by decide +kernel
theorem dL_type_22 : decode cL_type 22 = .ok (.iinc 2 1, 3) := by decide +kernel
theorem dL_type_25 : decode cL_type 25 = .ok (.goto (-23), 3) := by decide +kernel
theorem dL_type_28 : decode cL_type 28 = .ok (.return_, 1) := by decide +kernel
theorem dL_add_0 : decode cL_add 0 = .ok (.aload_n 0, 1) := by decide +kernel
theorem dL_add_1 : decode cL_add 1 = .ok (.invokevirtual 141, 3) := by decide +kernel
theorem dL_add_4 : decode cL_add 4 = .ok (.pop, 1) := by decide +kernel
theorem dL_add_5 : decode cL_add 5 = .ok (.aload_n 0, 1) := by decide +kernel
theorem dL_add_6 : decode cL_add 6 = .ok (.aload_n 1, 1) := by decide +kernel
theorem dL_add_7 : decode cL_add 7 = .ok (.invokestatic 144, 3) := by decide +kernel
theorem dL_add_10 : decode cL_add 10 = .ok (.aload_n 0, 1) := by decide +kernel
theorem dL_add_11 : decode cL_add 11 = .ok (.iconst 1, 1) := by decide +kernel
theorem dL_add_12 : decode cL_add 12 = .ok (.iconst 0, 1) := by decide +kernel
theorem dL_add_13 : decode cL_add 13 = .ok (.iconst 0, 1) := by decide +kernel
theorem dL_add_14 : decode cL_add 14 = .ok (.invokestatic 137, 3) := by decide +kernel
theorem dL_add_17 : decode cL_add 17 = .ok (.ireturn, 1) := by decide +kernel
theorem dL_register_0 : decode cL_register 0 = .ok (.bipush 97, 2) := by decide +kernel
theorem dL_register_2 : decode cL_register 2 = .ok (.aload_n 0, 1) := by decide +kernel
theorem dL_register_3 : decode cL_register 3 = .ok (.iload_n 1, 1) := by decide +kernel
theorem dL_register_4 : decode cL_register 4 = .ok (.iconst 4, 1) := by decide +kernel
theorem dL_register_5 : decode cL_register 5 = .ok (.invokestatic 147, 3) := by decide +kernel
theorem dL_register_8 : decode cL_register 8 = .ok (.iadd, 1) := by decide +kernel
theorem dL_register_9 : decode cL_register 9 = .ok (.i2c, 1) := by decide +kernel
theorem dL_register_10 : decode cL_register 10 = .ok (.invokestatic 151, 3) := by decide +kernel
theorem dL_register_13 : decode cL_register 13 = .ok (.areturn, 1) := by decide +kernel
theorem dL_index_0 : decode cL_index 0 = .ok (.aload_n 0, 1) := by decide +kernel
theorem dL_index_1 : decode cL_index 1 = .ok (.iload_n 1, 1) := by decide +kernel
theorem dL_index_2 : decode cL_index 2 = .ok (.iconst 4, 1) := by decide +kernel
theorem dL_index_3 : decode cL_index 3 = .ok (.invokestatic 147, 3) := by decide +kernel
theorem dL_index_6 : decode cL_index 6 = .ok (.istore_n 2, 1) := by decide +kernel
theorem dL_index_7 : decode cL_index 7 = .ok (.iload_n 2, 1) := by decide +kernel
theorem dL_index_8 : decode cL_index 8 = .ok (.ifCond .ne 18, 3) := by decide +kernel
theorem dL_index_11 : decode cL_index 11 = .ok (.aload_n 0, 1) := by decide +kernel
theorem dL_index_12 : decode cL_index 12 = .ok (.iload_n 1, 1) := by decide +kernel
theorem dL_index_13 : decode cL_index 13 = .ok (.iconst 1, 1) := by decide +kernel
theorem dL_index_14 : decode cL_index 14 = .ok (.iadd, 1) := by decide +kernel
theorem dL_index_15 : decode cL_index 15 = .ok (.bipush 20, 2) := by decide +kernel
theorem dL_index_17 : decode cL_index 17 = .ok (.invokestatic 147, 3) := by decide +kernel
theorem dL_index_20 : decode cL_index 20 = .ok (.invokestatic 155, 3) := by decide +kernel
theorem dL_index_23 : decode cL_index 23 = .ok (.goto 73, 3) := by decide +kernel
theorem dL_index_26 : decode cL_index 26 = .ok (.iload_n 2, 1) := by decide +kernel
theorem dL_index_27 : decode cL_index 27 = .ok (.iconst 1, 1) := by decide +kernel
theorem dL_index_28 : decode cL_index 28 = .ok (.if_icmp .ne 8, 3) := by decide +kernel
theorem dL_index_31 : decode cL_index 31 = .ok (.ldc 158, 2) := by decide +kernel
theorem dL_index_33 : decode cL_index 33 = .ok (.goto 63, 3) := by decide +kernel
theorem dL_index_36 : decode cL_index 36 = .ok (.iload_n 2, 1) := by decide +kernel
theorem dL_index_37 : decode cL_index 37 = .ok (.iconst 2, 1) := by decide +kernel
theorem dL_index_38 : decode cL_index 38 = .ok (.if_icmp .ne 32, 3) := by decide +kernel
theorem dL_index_41 : decode cL_index 41 = .ok (.new 160, 3) := by decide +kernel
theorem dL_index_44 : decode cL_index 44 = .ok (.dup, 1) := by decide +kernel
theorem dL_index_45 : decode cL_index 45 = .ok (.invokespecial 162, 3) := by decide +kernel
theorem dL_index_48 : decode cL_index 48 = .ok (.ldc 163, 2) := by decide +kernel
theorem dL_index_50 : decode cL_index 50 = .ok (.invokevirtual 165, 3) := by decide +kernel
theorem dL_index_53 : decode cL_index 53 = .ok (.aload_n 0, 1) := by decide +kernel
theorem dL_index_54 : decode cL_index 54 = .ok (.iload_n 1, 1) := by decide +kernel
theorem dL_index_55 : decode cL_index 55 = .ok (.iconst 1, 1) := by decide +kernel
theorem dL_index_56 : decode cL_index 56 = .ok (.iadd, 1) := by decide +kernel
theorem dL_index_57 : decode cL_index 57 = .ok (.iconst 5, 1) := by decide +kernel
theorem dL_index_58 : decode cL_index 58 = .ok (.invokestatic 147, 3) := by decide +kernel
theorem dL_index_61 : decode cL_index 61 = .ok (.invokevirtual 169, 3) := by decide +kernel
theorem dL_index_64 : decode cL_index 64 = .ok (.invokevirtual 172, 3) := by decide +kernel
theorem dL_index_67 : decode cL_index 67 = .ok (.goto 29, 3) := by decide +kernel
theorem dL_index_70 : decode cL_index 70 = .ok (.new 160, 3) := by decide +kernel
theorem dL_index_73 : decode cL_index 73 = .ok (.dup, 1) := by decide +kernel
theorem dL_index_74 : decode cL_index 74 = .ok (.invokespecial 162, 3) := by decide +kernel
theorem dL_index_77 : decode cL_index 77 = .ok (.ldc 176, 2) := by decide +kernel
theorem dL_index_79 : decode cL_index 79 = .ok (.invokevirtual 165, 3) := by decide +kernel
theorem dL_index_82 : decode cL_index 82 = .ok (.aload_n 0, 1) := by decide +kernel
theorem dL_index_83 : decode cL_index 83 = .ok (.iload_n 1, 1) := by decide +kernel
theorem dL_index_84 : decode cL_index 84 = .ok (.iconst 1, 1) := by decide +kernel
theorem dL_index_85 : decode cL_index 85 = .ok (.iadd, 1) := by decide +kernel
theorem dL_index_86 : decode cL_index 86 = .ok (.iconst 4, 1) := by decide +kernel
theorem dL_index_87 : decode cL_index 87 = .ok (.invokestatic 147, 3) := by decide +kernel
theorem dL_index_90 : decode cL_index 90 = .ok (.invokevirtual 169, 3) := by decide +kernel
theorem dL_index_93 : decode cL_index 93 = .ok (.invokevirtual 172, 3) := by decide +kernel
theorem dL_index_96 : decode cL_index 96 = .ok (.areturn, 1) := by decide +kernel
theorem dL_memory_0 : decode cL_memory 0 = .ok (.new 160, 3) := by decide +kernel
theorem dL_memory_3 : decode cL_memory 3 = .ok (.dup, 1) := by decide +kernel
theorem dL_memory_4 : decode cL_memory 4 = .ok (.invokespecial 162, 3) := by decide +kernel
theorem dL_memory_7 : decode cL_memory 7 = .ok (.aload_n 0, 1) := by decide +kernel
theorem dL_memory_8 : decode cL_memory 8 = .ok (.iload_n 1, 1) := by decide +kernel
theorem dL_memory_9 : decode cL_memory 9 = .ok (.iconst 3, 1) := by decide +kernel
theorem dL_memory_10 : decode cL_memory 10 = .ok (.invokestatic 147, 3) := by decide +kernel
theorem dL_memory_13 : decode cL_memory 13 = .ok (.ifCond .le 8, 3) := by decide +kernel
theorem dL_memory_16 : decode cL_memory 16 = .ok (.ldc 178, 2) := by decide +kernel
theorem dL_memory_18 : decode cL_memory 18 = .ok (.goto 5, 3) := by decide +kernel
theorem dL_memory_21 : decode cL_memory 21 = .ok (.ldc 180, 2) := by decide +kernel
theorem dL_memory_23 : decode cL_memory 23 = .ok (.invokevirtual 165, 3) := by decide +kernel
theorem dL_memory_26 : decode cL_memory 26 = .ok (.aload_n 0, 1) := by decide +kernel
theorem dL_memory_27 : decode cL_memory 27 = .ok (.iload_n 1, 1) := by decide +kernel
theorem dL_memory_28 : decode cL_memory 28 = .ok (.iconst 1, 1) := by decide +kernel
theorem dL_memory_29 : decode cL_memory 29 = .ok (.iadd, 1) := by decide +kernel
theorem dL_memory_30 : decode cL_memory 30 = .ok (.invokestatic 182, 3) := by decide +kernel
theorem dL_memory_33 : decode cL_memory 33 = .ok (.invokevirtual 165, 3) := by decide +kernel
theorem dL_memory_36 : decode cL_memory 36 = .ok (.ldc 186, 2) := by decide +kernel
theorem dL_memory_38 : decode cL_memory 38 = .ok (.invokevirtual 165, 3) := by decide +kernel
theorem dL_memory_41 : decode cL_memory 41 = .ok (.invokevirtual 172, 3) := by decide +kernel
theorem dL_memory_44 : decode cL_memory 44 = .ok (.areturn, 1) := by decide +kernel
theorem dL_operand_0 : decode cL_operand 0 = .ok (.aload_n 0, 1) := by decide +kernel
theorem dL_operand_1 : decode cL_operand 1 = .ok (.iload_n 1, 1) := by decide +kernel
theorem dL_operand_2 : decode cL_operand 2 = .ok (.bipush 9, 2) := by decide +kernel
theorem dL_operand_4 : decode cL_operand 4 = .ok (.invokestatic 147, 3) := by decide +kernel
theorem dL_operand_7 : decode cL_operand 7 = .ok (.istore_n 2, 1) := by decide +kernel
theorem dL_operand_8 : decode cL_operand 8 = .ok (.iload_n 2, 1) := by decide +kernel
theorem dL_operand_9 : decode cL_operand 9 = .ok (.iconst 3, 1) := by decide +kernel
theorem dL_operand_10 : decode cL_operand 10 = .ok (.if_icmp .ge 13, 3) := by decide +kernel
theorem dL_operand_13 : decode cL_operand 13 = .ok (.aload_n 0, 1) := by decide +kernel
theorem dL_operand_14 : decode cL_operand 14 = .ok (.iload_n 1, 1) := by decide +kernel
theorem dL_operand_15 : decode cL_operand 15 = .ok (.iconst 1, 1) := by decide +kernel
theorem dL_operand_16 : decode cL_operand 16 = .ok (.iadd, 1) := by decide +kernel
theorem dL_operand_17 : decode cL_operand 17 = .ok (.invokestatic 188, 3) := by decide +kernel
theorem dL_operand_20 : decode cL_operand 20 = .ok (.goto 53, 3) := by decide +kernel
theorem dL_operand_23 : decode cL_operand 23 = .ok (.iload_n 2, 1) := by decide +kernel
theorem dL_operand_24 : decode cL_operand 24 = .ok (.bipush 6, 2) := by decide +kernel
theorem dL_operand_26 : decode cL_operand 26 = .ok (.if_icmp .ge 13, 3) := by decide +kernel
theorem dL_operand_29 : decode cL_operand 29 = .ok (.aload_n 0, 1) := by decide +kernel
theorem dL_operand_30 : decode cL_operand 30 = .ok (.iload_n 1, 1) := by decide +kernel
theorem dL_operand_31 : decode cL_operand 31 = .ok (.iconst 1, 1) := by decide +kernel
theorem dL_operand_32 : decode cL_operand 32 = .ok (.iadd, 1) := by decide +kernel
theorem dL_operand_33 : decode cL_operand 33 = .ok (.invokestatic 190, 3) := by decide +kernel
theorem dL_operand_36 : decode cL_operand 36 = .ok (.goto 37, 3) := by decide +kernel
theorem dL_operand_39 : decode cL_operand 39 = .ok (.iload_n 2, 1) := by decide +kernel
theorem dL_operand_40 : decode cL_operand 40 = .ok (.bipush 6, 2) := by decide +kernel
theorem dL_operand_42 : decode cL_operand 42 = .ok (.if_icmp .ne 18, 3) := by decide +kernel
theorem dL_operand_45 : decode cL_operand 45 = .ok (.aload_n 0, 1) := by decide +kernel
theorem dL_operand_46 : decode cL_operand 46 = .ok (.iload_n 1, 1) := by decide +kernel
theorem dL_operand_47 : decode cL_operand 47 = .ok (.iconst 1, 1) := by decide +kernel
theorem dL_operand_48 : decode cL_operand 48 = .ok (.iadd, 1) := by decide +kernel
theorem dL_operand_49 : decode cL_operand 49 = .ok (.bipush 100, 2) := by decide +kernel
theorem dL_operand_51 : decode cL_operand 51 = .ok (.invokestatic 147, 3) := by decide +kernel
theorem dL_operand_54 : decode cL_operand 54 = .ok (.invokestatic 155, 3) := by decide +kernel
theorem dL_operand_57 : decode cL_operand 57 = .ok (.goto 16, 3) := by decide +kernel
theorem dL_operand_60 : decode cL_operand 60 = .ok (.iload_n 2, 1) := by decide +kernel
theorem dL_operand_61 : decode cL_operand 61 = .ok (.bipush 7, 2) := by decide +kernel
theorem dL_operand_63 : decode cL_operand 63 = .ok (.if_icmp .ne 8, 3) := by decide +kernel
theorem dL_operand_66 : decode cL_operand 66 = .ok (.ldc 158, 2) := by decide +kernel
theorem dL_operand_68 : decode cL_operand 68 = .ok (.goto 5, 3) := by decide +kernel
theorem dL_operand_71 : decode cL_operand 71 = .ok (.ldc 193, 2) := by decide +kernel
theorem dL_operand_73 : decode cL_operand 73 = .ok (.areturn, 1) := by decide +kernel
theorem dL_statement_0 : decode cL_statement 0 = .ok (.aload_n 0, 1) := by decide +kernel
theorem dL_statement_1 : decode cL_statement 1 = .ok (.iload_n 1, 1) := by decide +kernel
theorem dL_statement_2 : decode cL_statement 2 = .ok (.bipush 6, 2) := by decide +kernel
theorem dL_statement_4 : decode cL_statement 4 = .ok (.invokestatic 147, 3) := by decide +kernel
theorem dL_statement_7 : decode cL_statement 7 = .ok (.istore_n 2, 1) := by decide +kernel
theorem dL_statement_8 : decode cL_statement 8 = .ok (.iload_n 2, 1) := by decide +kernel
theorem dL_statement_9 : decode cL_statement 9 = .ok (.iconst 3, 1) := by decide +kernel
theorem dL_statement_10 : decode cL_statement 10 = .ok (.if_icmp .ge 13, 3) := by decide +kernel
theorem dL_statement_13 : decode cL_statement 13 = .ok (.aload_n 0, 1) := by decide +kernel
theorem dL_statement_14 : decode cL_statement 14 = .ok (.iload_n 1, 1) := by decide +kernel
theorem dL_statement_15 : decode cL_statement 15 = .ok (.iconst 1, 1) := by decide +kernel
theorem dL_statement_16 : decode cL_statement 16 = .ok (.iadd, 1) := by decide +kernel
theorem dL_statement_17 : decode cL_statement 17 = .ok (.invokestatic 188, 3) := by decide +kernel
theorem dL_statement_20 : decode cL_statement 20 = .ok (.goto 20, 3) := by decide +kernel
theorem dL_statement_23 : decode cL_statement 23 = .ok (.iload_n 2, 1) := by decide +kernel
theorem dL_statement_24 : decode cL_statement 24 = .ok (.iconst 5, 1) := by decide +kernel
theorem dL_statement_25 : decode cL_statement 25 = .ok (.if_icmp .ge 13, 3) := by decide +kernel
theorem dL_statement_28 : decode cL_statement 28 = .ok (.aload_n 0, 1) := by decide +kernel
theorem dL_statement_29 : decode cL_statement 29 = .ok (.iload_n 1, 1) := by decide +kernel
theorem dL_statement_30 : decode cL_statement 30 = .ok (.iconst 1, 1) := by decide +kernel
theorem dL_statement_31 : decode cL_statement 31 = .ok (.iadd, 1) := by decide +kernel
theorem dL_statement_32 : decode cL_statement 32 = .ok (.invokestatic 190, 3) := by decide +kernel
theorem dL_statement_35 : decode cL_statement 35 = .ok (.goto 5, 3) := by decide +kernel
theorem dL_statement_38 : decode cL_statement 38 = .ok (.ldc 195, 2) := by decide +kernel
theorem dL_statement_40 : decode cL_statement 40 = .ok (.astore_n 3, 1) := by decide +kernel
theorem dL_statement_41 : decode cL_statement 41 = .ok (.new 160, 3) := by decide +kernel
theorem dL_statement_44 : decode cL_statement 44 = .ok (.dup, 1) := by decide +kernel
theorem dL_statement_45 : decode cL_statement 45 = .ok (.invokespecial 162, 3) := by decide +kernel
theorem dL_statement_48 : decode cL_statement 48 = .ok (.aload_n 3, 1) := by decide +kernel
theorem dL_statement_49 : decode cL_statement 49 = .ok (.invokevirtual 165, 3) := by decide +kernel
theorem dL_statement_52 : decode cL_statement 52 = .ok (.ldc 197, 2) := by decide +kernel
theorem dL_statement_54 : decode cL_statement 54 = .ok (.invokevirtual 165, 3) := by decide +kernel
theorem dL_statement_57 : decode cL_statement 57 = .ok (.aload_n 0, 1) := by decide +kernel
theorem dL_statement_58 : decode cL_statement 58 = .ok (.iload_n 1, 1) := by decide +kernel
theorem dL_statement_59 : decode cL_statement 59 = .ok (.iconst 5, 1) := by decide +kernel
theorem dL_statement_60 : decode cL_statement 60 = .ok (.iadd, 1) := by decide +kernel
theorem dL_statement_61 : decode cL_statement 61 = .ok (.invokestatic 199, 3) := by decide +kernel
theorem dL_statement_64 : decode cL_statement 64 = .ok (.invokevirtual 165, 3) := by decide +kernel
theorem dL_statement_67 : decode cL_statement 67 = .ok (.invokevirtual 172, 3) := by decide +kernel
theorem dL_statement_70 : decode cL_statement 70 = .ok (.astore 4, 2) := by decide +kernel
theorem dL_statement_72 : decode cL_statement 72 = .ok (.aload_n 0, 1) := by decide +kernel
theorem dL_statement_73 : decode cL_statement 73 = .ok (.iload_n 1, 1) := by decide +kernel
theorem dL_statement_74 : decode cL_statement 74 = .ok (.bipush 10, 2) := by decide +kernel
theorem dL_statement_76 : decode cL_statement 76 = .ok (.iadd, 1) := by decide +kernel
theorem dL_statement_77 : decode cL_statement 77 = .ok (.iconst 4, 1) := by decide +kernel
theorem dL_statement_78 : decode cL_statement 78 = .ok (.invokestatic 147, 3) := by decide +kernel
theorem dL_statement_81 : decode cL_statement 81 = .ok (.ifCond .ne 8, 3) := by decide +kernel
theorem dL_statement_84 : decode cL_statement 84 = .ok (.aload 4, 2) := by decide +kernel
theorem dL_statement_86 : decode cL_statement 86 = .ok (.goto 47, 3) := by decide +kernel
theorem dL_statement_89 : decode cL_statement 89 = .ok (.new 160, 3) := by decide +kernel
theorem dL_statement_92 : decode cL_statement 92 = .ok (.dup, 1) := by decide +kernel
theorem dL_statement_93 : decode cL_statement 93 = .ok (.invokespecial 162, 3) := by decide +kernel
theorem dL_statement_96 : decode cL_statement 96 = .ok (.aload 4, 2) := by decide +kernel
theorem dL_statement_98 : decode cL_statement 98 = .ok (.invokevirtual 165, 3) := by decide +kernel
theorem dL_statement_101 : decode cL_statement 101 = .ok (.ldc 202, 2) := by decide +kernel
theorem dL_statement_103 : decode cL_statement 103 = .ok (.aload_n 0, 1) := by decide +kernel
theorem dL_statement_104 : decode cL_statement 104 = .ok (.iload_n 1, 1) := by decide +kernel
theorem dL_statement_105 : decode cL_statement 105 = .ok (.bipush 11, 2) := by decide +kernel
theorem dL_statement_107 : decode cL_statement 107 = .ok (.iadd, 1) := by decide +kernel
theorem dL_statement_108 : decode cL_statement 108 = .ok (.bipush 7, 2) := by decide +kernel
theorem dL_statement_110 : decode cL_statement 110 = .ok (.invokestatic 147, 3) := by decide +kernel
theorem dL_statement_113 : decode cL_statement 113 = .ok (.invokevirtual 134, 3) := by decide +kernel
theorem dL_statement_116 : decode cL_statement 116 = .ok (.invokevirtual 204, 3) := by decide +kernel
theorem dL_statement_119 : decode cL_statement 119 = .ok (.aload_n 0, 1) := by decide +kernel
theorem dL_statement_120 : decode cL_statement 120 = .ok (.iload_n 1, 1) := by decide +kernel
theorem dL_statement_121 : decode cL_statement 121 = .ok (.bipush 12, 2) := by decide +kernel
theorem dL_statement_123 : decode cL_statement 123 = .ok (.iadd, 1) := by decide +kernel
theorem dL_statement_124 : decode cL_statement 124 = .ok (.invokestatic 199, 3) := by decide +kernel
theorem dL_statement_127 : decode cL_statement 127 = .ok (.invokevirtual 165, 3) := by decide +kernel
theorem dL_statement_130 : decode cL_statement 130 = .ok (.invokevirtual 172, 3) := by decide +kernel
theorem dL_statement_133 : decode cL_statement 133 = .ok (.areturn, 1) := by decide +kernel
theorem dL_isWritten_0 : decode cL_isWritten 0 = .ok (.iconst 2, 1) := by decide +kernel
theorem dL_isWritten_1 : decode cL_isWritten 1 = .ok (.aload_n 1, 1) := by decide +kernel
theorem dL_isWritten_2 : decode cL_isWritten 2 = .ok (.iconst 0, 1) := by decide +kernel
theorem dL_isWritten_3 : decode cL_isWritten 3 = .ok (.iconst 4, 1) := by decide +kernel
theorem dL_isWritten_4 : decode cL_isWritten 4 = .ok (.invokestatic 147, 3) := by decide +kernel
theorem dL_isWritten_7 : decode cL_isWritten 7 = .ok (.iadd, 1) := by decide +kernel
theorem dL_isWritten_8 : decode cL_isWritten 8 = .ok (.istore_n 2, 1) := by decide +kernel
theorem dL_isWritten_9 : decode cL_isWritten 9 = .ok (.aload_n 0, 1) := by decide +kernel
theorem dL_isWritten_10 : decode cL_isWritten 10 = .ok (.iconst 3, 1) := by decide +kernel
theorem dL_isWritten_11 : decode cL_isWritten 11 = .ok (.bipush 6, 2) := by decide +kernel
theorem dL_isWritten_13 : decode cL_isWritten 13 = .ok (.iconst 0, 1) := by decide +kernel
theorem dL_isWritten_14 : decode cL_isWritten 14 = .ok (.invokestatic 137, 3) := by decide +kernel
theorem dL_isWritten_17 : decode cL_isWritten 17 = .ok (.bipush 8, 2) := by decide +kernel
theorem dL_isWritten_19 : decode cL_isWritten 19 = .ok (.if_icmp .ne 27, 3) := by decide +kernel
theorem dL_isWritten_22 : decode cL_isWritten 22 = .ok (.aload_n 0, 1) := by decide +kernel
theorem dL_isWritten_23 : decode cL_isWritten 23 = .ok (.iconst 4, 1) := by decide +kernel
theorem dL_isWritten_24 : decode cL_isWritten 24 = .ok (.iconst 1, 1) := by decide +kernel
theorem dL_isWritten_25 : decode cL_isWritten 25 = .ok (.aload_n 1, 1) := by decide +kernel
theorem dL_isWritten_26 : decode cL_isWritten 26 = .ok (.iconst 1, 1) := by decide +kernel
theorem dL_isWritten_27 : decode cL_isWritten 27 = .ok (.bipush 12, 2) := by decide +kernel
theorem dL_isWritten_29 : decode cL_isWritten 29 = .ok (.invokestatic 147, 3) := by decide +kernel
theorem dL_isWritten_32 : decode cL_isWritten 32 = .ok (.iadd, 1) := by decide +kernel
theorem dL_isWritten_33 : decode cL_isWritten 33 = .ok (.iconst 0, 1) := by decide +kernel
theorem dL_isWritten_34 : decode cL_isWritten 34 = .ok (.invokestatic 137, 3) := by decide +kernel
theorem dL_isWritten_37 : decode cL_isWritten 37 = .ok (.bipush 8, 2) := by decide +kernel
theorem dL_isWritten_39 : decode cL_isWritten 39 = .ok (.if_icmp .ne 7, 3) := by decide +kernel
theorem dL_isWritten_42 : decode cL_isWritten 42 = .ok (.iconst 1, 1) := by decide +kernel
theorem dL_isWritten_43 : decode cL_isWritten 43 = .ok (.goto 4, 3) := by decide +kernel
theorem dL_isWritten_46 : decode cL_isWritten 46 = .ok (.iconst 0, 1) := by decide +kernel
theorem dL_isWritten_47 : decode cL_isWritten 47 = .ok (.istore_n 3, 1) := by decide +kernel
theorem dL_isWritten_48 : decode cL_isWritten 48 = .ok (.iconst 0, 1) := by decide +kernel
theorem dL_isWritten_49 : decode cL_isWritten 49 = .ok (.istore 4, 2) := by decide +kernel
theorem dL_isWritten_51 : decode cL_isWritten 51 = .ok (.iload 4, 2) := by decide +kernel
theorem dL_isWritten_53 : decode cL_isWritten 53 = .ok (.iload_n 2, 1) := by decide +kernel
theorem dL_isWritten_54 : decode cL_isWritten 54 = .ok (.if_icmp .ge 42, 3) := by decide +kernel
theorem dL_isWritten_57 : decode cL_isWritten 57 = .ok (.iload_n 3, 1) := by decide +kernel
theorem dL_isWritten_58 : decode cL_isWritten 58 = .ok (.ifCond .eq 30, 3) := by decide +kernel
theorem dL_isWritten_61 : decode cL_isWritten 61 = .ok (.aload_n 0, 1) := by decide +kernel
theorem dL_isWritten_62 : decode cL_isWritten 62 = .ok (.aload_n 1, 1) := by decide +kernel
theorem dL_isWritten_63 : decode cL_isWritten 63 = .ok (.bipush 20, 2) := by decide +kernel
theorem dL_isWritten_65 : decode cL_isWritten 65 = .ok (.bipush 20, 2) := by decide +kernel
theorem dL_isWritten_67 : decode cL_isWritten 67 = .ok (.iload 4, 2) := by decide +kernel
theorem dL_isWritten_69 : decode cL_isWritten 69 = .ok (.imul, 1) := by decide +kernel
theorem dL_isWritten_70 : decode cL_isWritten 70 = .ok (.iadd, 1) := by decide +kernel
theorem dL_isWritten_71 : decode cL_isWritten 71 = .ok (.invokestatic 207, 3) := by decide +kernel
theorem dL_isWritten_74 : decode cL_isWritten 74 = .ok (.invokestatic 210, 3) := by decide +kernel
theorem dL_isWritten_77 : decode cL_isWritten 77 = .ok (.iload 4, 2) := by decide +kernel
theorem dL_isWritten_79 : decode cL_isWritten 79 = .ok (.iconst 1, 1) := by decide +kernel
theorem dL_isWritten_80 : decode cL_isWritten 80 = .ok (.iadd, 1) := by decide +kernel
theorem dL_isWritten_81 : decode cL_isWritten 81 = .ok (.if_icmp .ne 7, 3) := by decide +kernel
theorem dL_isWritten_84 : decode cL_isWritten 84 = .ok (.iconst 1, 1) := by decide +kernel
theorem dL_isWritten_85 : decode cL_isWritten 85 = .ok (.goto 4, 3) := by decide +kernel
theorem dL_isWritten_88 : decode cL_isWritten 88 = .ok (.iconst 0, 1) := by decide +kernel
theorem dL_isWritten_89 : decode cL_isWritten 89 = .ok (.istore_n 3, 1) := by decide +kernel
theorem dL_isWritten_90 : decode cL_isWritten 90 = .ok (.iinc 4 1, 3) := by decide +kernel
theorem dL_isWritten_93 : decode cL_isWritten 93 = .ok (.goto (-42), 3) := by decide +kernel
theorem dL_isWritten_96 : decode cL_isWritten 96 = .ok (.iconst 0, 1) := by decide +kernel
theorem dL_isWritten_97 : decode cL_isWritten 97 = .ok (.istore 4, 2) := by decide +kernel
theorem dL_isWritten_99 : decode cL_isWritten 99 = .ok (.iload 4, 2) := by decide +kernel
theorem dL_isWritten_101 : decode cL_isWritten 101 = .ok (.bipush 7, 2) := by decide +kernel
theorem dL_isWritten_103 : decode cL_isWritten 103 = .ok (.if_icmp .ge 81, 3) := by decide +kernel
theorem dL_isWritten_106 : decode cL_isWritten 106 = .ok (.ldc 213, 2) := by decide +kernel
theorem dL_isWritten_108 : decode cL_isWritten 108 = .ok (.iload 4, 2) := by decide +kernel
theorem dL_isWritten_110 : decode cL_isWritten 110 = .ok (.invokevirtual 134, 3) := by decide +kernel
theorem dL_isWritten_113 : decode cL_isWritten 113 = .ok (.istore 5, 2) := by decide +kernel
theorem dL_isWritten_115 : decode cL_isWritten 115 = .ok (.iload_n 3, 1) := by decide +kernel
theorem dL_isWritten_116 : decode cL_isWritten 116 = .ok (.ifCond .eq 60, 3) := by decide +kernel
theorem dL_isWritten_119 : decode cL_isWritten 119 = .ok (.aload_n 0, 1) := by decide +kernel
theorem dL_isWritten_120 : decode cL_isWritten 120 = .ok (.bipush 9, 2) := by decide +kernel
theorem dL_isWritten_122 : decode cL_isWritten 122 = .ok (.iload 5, 2) := by decide +kernel
theorem dL_isWritten_124 : decode cL_isWritten 124 = .ok (.iconst 1, 1) := by decide +kernel
theorem dL_isWritten_125 : decode cL_isWritten 125 = .ok (.aload_n 1, 1) := by decide +kernel
theorem dL_isWritten_126 : decode cL_isWritten 126 = .ok (.iconst 2, 1) := by decide +kernel
theorem dL_isWritten_127 : decode cL_isWritten 127 = .ok (.iload 4, 2) := by decide +kernel
theorem dL_isWritten_129 : decode cL_isWritten 129 = .ok (.iadd, 1) := by decide +kernel
theorem dL_isWritten_130 : decode cL_isWritten 130 = .ok (.iconst 3, 1) := by decide +kernel
theorem dL_isWritten_131 : decode cL_isWritten 131 = .ok (.invokestatic 147, 3) := by decide +kernel
theorem dL_isWritten_134 : decode cL_isWritten 134 = .ok (.iadd, 1) := by decide +kernel
theorem dL_isWritten_135 : decode cL_isWritten 135 = .ok (.invokestatic 137, 3) := by decide +kernel
theorem dL_isWritten_138 : decode cL_isWritten 138 = .ok (.iconst 1, 1) := by decide +kernel
theorem dL_isWritten_139 : decode cL_isWritten 139 = .ok (.if_icmp .ne 37, 3) := by decide +kernel
theorem dL_isWritten_142 : decode cL_isWritten 142 = .ok (.iload 4, 2) := by decide +kernel
theorem dL_isWritten_144 : decode cL_isWritten 144 = .ok (.iconst 4, 1) := by decide +kernel
theorem dL_isWritten_145 : decode cL_isWritten 145 = .ok (.if_icmp .gt 27, 3) := by decide +kernel
theorem dL_isWritten_148 : decode cL_isWritten 148 = .ok (.aload_n 0, 1) := by decide +kernel
theorem dL_isWritten_149 : decode cL_isWritten 149 = .ok (.bipush 8, 2) := by decide +kernel
theorem dL_isWritten_151 : decode cL_isWritten 151 = .ok (.iload 5, 2) := by decide +kernel
theorem dL_isWritten_153 : decode cL_isWritten 153 = .ok (.iconst 1, 1) := by decide +kernel
theorem dL_isWritten_154 : decode cL_isWritten 154 = .ok (.aload_n 1, 1) := by decide +kernel
theorem dL_isWritten_155 : decode cL_isWritten 155 = .ok (.bipush 9, 2) := by decide +kernel
theorem dL_isWritten_157 : decode cL_isWritten 157 = .ok (.iload 4, 2) := by decide +kernel
theorem dL_isWritten_159 : decode cL_isWritten 159 = .ok (.iadd, 1) := by decide +kernel
theorem dL_isWritten_160 : decode cL_isWritten 160 = .ok (.iconst 2, 1) := by decide +kernel
theorem dL_isWritten_161 : decode cL_isWritten 161 = .ok (.invokestatic 147, 3) := by decide +kernel
theorem dL_isWritten_164 : decode cL_isWritten 164 = .ok (.iadd, 1) := by decide +kernel
theorem dL_isWritten_165 : decode cL_isWritten 165 = .ok (.invokestatic 137, 3) := by decide +kernel
theorem dL_isWritten_168 : decode cL_isWritten 168 = .ok (.iconst 1, 1) := by decide +kernel
theorem dL_isWritten_169 : decode cL_isWritten 169 = .ok (.if_icmp .ne 7, 3) := by decide +kernel
theorem dL_isWritten_172 : decode cL_isWritten 172 = .ok (.iconst 1, 1) := by decide +kernel
theorem dL_isWritten_173 : decode cL_isWritten 173 = .ok (.goto 4, 3) := by decide +kernel
theorem dL_isWritten_176 : decode cL_isWritten 176 = .ok (.iconst 0, 1) := by decide +kernel
theorem dL_isWritten_177 : decode cL_isWritten 177 = .ok (.istore_n 3, 1) := by decide +kernel
theorem dL_isWritten_178 : decode cL_isWritten 178 = .ok (.iinc 4 1, 3) := by decide +kernel
theorem dL_isWritten_181 : decode cL_isWritten 181 = .ok (.goto (-82), 3) := by decide +kernel
theorem dL_isWritten_184 : decode cL_isWritten 184 = .ok (.iconst 0, 1) := by decide +kernel
theorem dL_isWritten_185 : decode cL_isWritten 185 = .ok (.istore 4, 2) := by decide +kernel
theorem dL_isWritten_187 : decode cL_isWritten 187 = .ok (.iload 4, 2) := by decide +kernel
theorem dL_isWritten_189 : decode cL_isWritten 189 = .ok (.iconst 5, 1) := by decide +kernel
theorem dL_isWritten_190 : decode cL_isWritten 190 = .ok (.if_icmp .ge 95, 3) := by decide +kernel
theorem dL_isWritten_193 : decode cL_isWritten 193 = .ok (.aload_n 0, 1) := by decide +kernel
theorem dL_isWritten_194 : decode cL_isWritten 194 = .ok (.bipush 6, 2) := by decide +kernel
theorem dL_isWritten_196 : decode cL_isWritten 196 = .ok (.aload_n 1, 1) := by decide +kernel
theorem dL_isWritten_197 : decode cL_isWritten 197 = .ok (.sipush 140, 3) := by decide +kernel
theorem dL_isWritten_200 : decode cL_isWritten 200 = .ok (.iload 4, 2) := by decide +kernel
theorem dL_isWritten_202 : decode cL_isWritten 202 = .ok (.iadd, 1) := by decide +kernel
theorem dL_isWritten_203 : decode cL_isWritten 203 = .ok (.ldc 215, 2) := by decide +kernel
theorem dL_isWritten_205 : decode cL_isWritten 205 = .ok (.invokestatic 147, 3) := by decide +kernel
theorem dL_isWritten_208 : decode cL_isWritten 208 = .ok (.iconst 0, 1) := by decide +kernel
theorem dL_isWritten_209 : decode cL_isWritten 209 = .ok (.invokestatic 137, 3) := by decide +kernel
theorem dL_isWritten_212 : decode cL_isWritten 212 = .ok (.pop, 1) := by decide +kernel
theorem dL_isWritten_213 : decode cL_isWritten 213 = .ok (.aload_n 0, 1) := by decide +kernel
theorem dL_isWritten_214 : decode cL_isWritten 214 = .ok (.bipush 7, 2) := by decide +kernel
theorem dL_isWritten_216 : decode cL_isWritten 216 = .ok (.bipush 77, 2) := by decide +kernel
theorem dL_isWritten_218 : decode cL_isWritten 218 = .ok (.aload_n 1, 1) := by decide +kernel
theorem dL_isWritten_219 : decode cL_isWritten 219 = .ok (.sipush 150, 3) := by decide +kernel
theorem dL_isWritten_222 : decode cL_isWritten 222 = .ok (.iload 4, 2) := by decide +kernel
theorem dL_isWritten_224 : decode cL_isWritten 224 = .ok (.iadd, 1) := by decide +kernel
theorem dL_isWritten_225 : decode cL_isWritten 225 = .ok (.bipush 16, 2) := by decide +kernel
theorem dL_isWritten_227 : decode cL_isWritten 227 = .ok (.invokestatic 147, 3) := by decide +kernel
theorem dL_isWritten_230 : decode cL_isWritten 230 = .ok (.aload_n 1, 1) := by decide +kernel
theorem dL_isWritten_231 : decode cL_isWritten 231 = .ok (.sipush 160, 3) := by decide +kernel
theorem dL_isWritten_234 : decode cL_isWritten 234 = .ok (.iload 4, 2) := by decide +kernel
theorem dL_isWritten_236 : decode cL_isWritten 236 = .ok (.iadd, 1) := by decide +kernel
theorem dL_isWritten_237 : decode cL_isWritten 237 = .ok (.ldc 215, 2) := by decide +kernel
theorem dL_isWritten_239 : decode cL_isWritten 239 = .ok (.invokestatic 147, 3) := by decide +kernel
theorem dL_isWritten_242 : decode cL_isWritten 242 = .ok (.invokestatic 126, 3) := by decide +kernel
theorem dL_isWritten_245 : decode cL_isWritten 245 = .ok (.pop, 1) := by decide +kernel
theorem dL_isWritten_246 : decode cL_isWritten 246 = .ok (.aload_n 0, 1) := by decide +kernel
theorem dL_isWritten_247 : decode cL_isWritten 247 = .ok (.bipush 7, 2) := by decide +kernel
theorem dL_isWritten_249 : decode cL_isWritten 249 = .ok (.bipush 78, 2) := by decide +kernel
theorem dL_isWritten_251 : decode cL_isWritten 251 = .ok (.aload_n 1, 1) := by decide +kernel
theorem dL_isWritten_252 : decode cL_isWritten 252 = .ok (.sipush 170, 3) := by decide +kernel
theorem dL_isWritten_255 : decode cL_isWritten 255 = .ok (.iload 4, 2) := by decide +kernel
theorem dL_isWritten_257 : decode cL_isWritten 257 = .ok (.iadd, 1) := by decide +kernel
theorem dL_isWritten_258 : decode cL_isWritten 258 = .ok (.bipush 16, 2) := by decide +kernel
theorem dL_isWritten_260 : decode cL_isWritten 260 = .ok (.invokestatic 147, 3) := by decide +kernel
theorem dL_isWritten_263 : decode cL_isWritten 263 = .ok (.aload_n 1, 1) := by decide +kernel
theorem dL_isWritten_264 : decode cL_isWritten 264 = .ok (.sipush 180, 3) := by decide +kernel
theorem dL_isWritten_267 : decode cL_isWritten 267 = .ok (.iload 4, 2) := by decide +kernel
theorem dL_isWritten_269 : decode cL_isWritten 269 = .ok (.iadd, 1) := by decide +kernel
theorem dL_isWritten_270 : decode cL_isWritten 270 = .ok (.ldc 215, 2) := by decide +kernel
theorem dL_isWritten_272 : decode cL_isWritten 272 = .ok (.invokestatic 147, 3) := by decide +kernel
theorem dL_isWritten_275 : decode cL_isWritten 275 = .ok (.invokestatic 126, 3) := by decide +kernel
theorem dL_isWritten_278 : decode cL_isWritten 278 = .ok (.pop, 1) := by decide +kernel
theorem dL_isWritten_279 : decode cL_isWritten 279 = .ok (.iinc 4 1, 3) := by decide +kernel
theorem dL_isWritten_282 : decode cL_isWritten 282 = .ok (.goto (-95), 3) := by decide +kernel
theorem dL_isWritten_285 : decode cL_isWritten 285 = .ok (.iconst 1, 1) := by decide +kernel
theorem dL_isWritten_286 : decode cL_isWritten 286 = .ok (.aload_n 1, 1) := by decide +kernel
theorem dL_isWritten_287 : decode cL_isWritten 287 = .ok (.bipush 16, 2) := by decide +kernel
theorem dL_isWritten_289 : decode cL_isWritten 289 = .ok (.iconst 3, 1) := by decide +kernel
theorem dL_isWritten_290 : decode cL_isWritten 290 = .ok (.invokestatic 147, 3) := by decide +kernel
theorem dL_isWritten_293 : decode cL_isWritten 293 = .ok (.iadd, 1) := by decide +kernel
theorem dL_isWritten_294 : decode cL_isWritten 294 = .ok (.istore 4, 2) := by decide +kernel
theorem dL_isWritten_296 : decode cL_isWritten 296 = .ok (.iload_n 3, 1) := by decide +kernel
theorem dL_isWritten_297 : decode cL_isWritten 297 = .ok (.ifCond .eq 22, 3) := by decide +kernel
theorem dL_isWritten_300 : decode cL_isWritten 300 = .ok (.aload_n 0, 1) := by decide +kernel
theorem dL_isWritten_301 : decode cL_isWritten 301 = .ok (.iconst 5, 1) := by decide +kernel
theorem dL_isWritten_302 : decode cL_isWritten 302 = .ok (.iload 4, 2) := by decide +kernel
theorem dL_isWritten_304 : decode cL_isWritten 304 = .ok (.iconst 0, 1) := by decide +kernel
theorem dL_isWritten_305 : decode cL_isWritten 305 = .ok (.invokestatic 137, 3) := by decide +kernel
theorem dL_isWritten_308 : decode cL_isWritten 308 = .ok (.aload_n 0, 1) := by decide +kernel
theorem dL_isWritten_309 : decode cL_isWritten 309 = .ok (.invokevirtual 216, 3) := by decide +kernel
theorem dL_isWritten_312 : decode cL_isWritten 312 = .ok (.if_icmp .ne 7, 3) := by decide +kernel
theorem dL_isWritten_315 : decode cL_isWritten 315 = .ok (.iconst 1, 1) := by decide +kernel
theorem dL_isWritten_316 : decode cL_isWritten 316 = .ok (.goto 4, 3) := by decide +kernel
theorem dL_isWritten_319 : decode cL_isWritten 319 = .ok (.iconst 0, 1) := by decide +kernel
theorem dL_isWritten_320 : decode cL_isWritten 320 = .ok (.ireturn, 1) := by decide +kernel
theorem dL_isSame_0 : decode cL_isSame 0 = .ok (.aload_n 0, 1) := by decide +kernel
theorem dL_isSame_1 : decode cL_isSame 1 = .ok (.invokevirtual 219, 3) := by decide +kernel
theorem dL_isSame_4 : decode cL_isSame 4 = .ok (.istore_n 1, 1) := by decide +kernel
theorem dL_isSame_5 : decode cL_isSame 5 = .ok (.aload_n 0, 1) := by decide +kernel
theorem dL_isSame_6 : decode cL_isSame 6 = .ok (.invokevirtual 222, 3) := by decide +kernel
theorem dL_isSame_9 : decode cL_isSame 9 = .ok (.ifCond .eq 41, 3) := by decide +kernel
theorem dL_isSame_12 : decode cL_isSame 12 = .ok (.aload_n 0, 1) := by decide +kernel
theorem dL_isSame_13 : decode cL_isSame 13 = .ok (.invokevirtual 226, 3) := by decide +kernel
theorem dL_isSame_16 : decode cL_isSame 16 = .ok (.iload_n 1, 1) := by decide +kernel
theorem dL_isSame_17 : decode cL_isSame 17 = .ok (.if_icmp .ne 33, 3) := by decide +kernel
theorem dL_isSame_20 : decode cL_isSame 20 = .ok (.aload_n 0, 1) := by decide +kernel
theorem dL_isSame_21 : decode cL_isSame 21 = .ok (.bipush 20, 2) := by decide +kernel
theorem dL_isSame_23 : decode cL_isSame 23 = .ok (.iload_n 1, 1) := by decide +kernel
theorem dL_isSame_24 : decode cL_isSame 24 = .ok (.iconst 0, 1) := by decide +kernel
theorem dL_isSame_25 : decode cL_isSame 25 = .ok (.invokestatic 137, 3) := by decide +kernel
theorem dL_isSame_28 : decode cL_isSame 28 = .ok (.ldc 113, 2) := by decide +kernel
theorem dL_isSame_30 : decode cL_isSame 30 = .ok (.if_icmp .ne 20, 3) := by decide +kernel
theorem dL_isSame_33 : decode cL_isSame 33 = .ok (.aload_n 0, 1) := by decide +kernel
theorem dL_isSame_34 : decode cL_isSame 34 = .ok (.bipush 30, 2) := by decide +kernel
theorem dL_isSame_36 : decode cL_isSame 36 = .ok (.iload_n 1, 1) := by decide +kernel
theorem dL_isSame_37 : decode cL_isSame 37 = .ok (.iconst 0, 1) := by decide +kernel
theorem dL_isSame_38 : decode cL_isSame 38 = .ok (.invokestatic 137, 3) := by decide +kernel
theorem dL_isSame_41 : decode cL_isSame 41 = .ok (.ldc 113, 2) := by decide +kernel
theorem dL_isSame_43 : decode cL_isSame 43 = .ok (.if_icmp .ne 7, 3) := by decide +kernel
theorem dL_isSame_46 : decode cL_isSame 46 = .ok (.iconst 1, 1) := by decide +kernel
theorem dL_isSame_47 : decode cL_isSame 47 = .ok (.goto 4, 3) := by decide +kernel
theorem dL_isSame_50 : decode cL_isSame 50 = .ok (.iconst 0, 1) := by decide +kernel
theorem dL_isSame_51 : decode cL_isSame 51 = .ok (.istore_n 2, 1) := by decide +kernel
theorem dL_isSame_52 : decode cL_isSame 52 = .ok (.iconst 0, 1) := by decide +kernel
theorem dL_isSame_53 : decode cL_isSame 53 = .ok (.istore_n 3, 1) := by decide +kernel
theorem dL_isSame_54 : decode cL_isSame 54 = .ok (.iload_n 3, 1) := by decide +kernel
theorem dL_isSame_55 : decode cL_isSame 55 = .ok (.iload_n 1, 1) := by decide +kernel
theorem dL_isSame_56 : decode cL_isSame 56 = .ok (.if_icmp .ge 38, 3) := by decide +kernel
theorem dL_isSame_59 : decode cL_isSame 59 = .ok (.iload_n 2, 1) := by decide +kernel
theorem dL_isSame_60 : decode cL_isSame 60 = .ok (.ifCond .eq 34, 3) := by decide +kernel
theorem dL_isSame_63 : decode cL_isSame 63 = .ok (.aload_n 0, 1) := by decide +kernel
theorem dL_isSame_64 : decode cL_isSame 64 = .ok (.bipush 20, 2) := by decide +kernel
theorem dL_isSame_66 : decode cL_isSame 66 = .ok (.iload_n 3, 1) := by decide +kernel
theorem dL_isSame_67 : decode cL_isSame 67 = .ok (.iconst 0, 1) := by decide +kernel
theorem dL_isSame_68 : decode cL_isSame 68 = .ok (.invokestatic 137, 3) := by decide +kernel
theorem dL_isSame_71 : decode cL_isSame 71 = .ok (.aload_n 0, 1) := by decide +kernel
theorem dL_isSame_72 : decode cL_isSame 72 = .ok (.bipush 30, 2) := by decide +kernel
theorem dL_isSame_74 : decode cL_isSame 74 = .ok (.iload_n 3, 1) := by decide +kernel
theorem dL_isSame_75 : decode cL_isSame 75 = .ok (.iconst 0, 1) := by decide +kernel
theorem dL_isSame_76 : decode cL_isSame 76 = .ok (.invokestatic 137, 3) := by decide +kernel
theorem dL_isSame_79 : decode cL_isSame 79 = .ok (.if_icmp .ne 7, 3) := by decide +kernel
theorem dL_isSame_82 : decode cL_isSame 82 = .ok (.iconst 1, 1) := by decide +kernel
theorem dL_isSame_83 : decode cL_isSame 83 = .ok (.goto 4, 3) := by decide +kernel
theorem dL_isSame_86 : decode cL_isSame 86 = .ok (.iconst 0, 1) := by decide +kernel
theorem dL_isSame_87 : decode cL_isSame 87 = .ok (.istore_n 2, 1) := by decide +kernel
theorem dL_isSame_88 : decode cL_isSame 88 = .ok (.iinc 3 1, 3) := by decide +kernel
theorem dL_isSame_91 : decode cL_isSame 91 = .ok (.goto (-37), 3) := by decide +kernel
theorem dL_isSame_94 : decode cL_isSame 94 = .ok (.iconst 0, 1) := by decide +kernel
theorem dL_isSame_95 : decode cL_isSame 95 = .ok (.istore_n 3, 1) := by decide +kernel
theorem dL_isSame_96 : decode cL_isSame 96 = .ok (.iload_n 3, 1) := by decide +kernel
theorem dL_isSame_97 : decode cL_isSame 97 = .ok (.bipush 16, 2) := by decide +kernel
theorem dL_isSame_99 : decode cL_isSame 99 = .ok (.if_icmp .ge 61, 3) := by decide +kernel
theorem dL_isSame_102 : decode cL_isSame 102 = .ok (.iload_n 2, 1) := by decide +kernel
theorem dL_isSame_103 : decode cL_isSame 103 = .ok (.ifCond .eq 57, 3) := by decide +kernel
theorem dL_isSame_106 : decode cL_isSame 106 = .ok (.aload_n 0, 1) := by decide +kernel
theorem dL_isSame_107 : decode cL_isSame 107 = .ok (.bipush 21, 2) := by decide +kernel
theorem dL_isSame_109 : decode cL_isSame 109 = .ok (.bipush 77, 2) := by decide +kernel
theorem dL_isSame_111 : decode cL_isSame 111 = .ok (.iload_n 3, 1) := by decide +kernel
theorem dL_isSame_112 : decode cL_isSame 112 = .ok (.invokestatic 137, 3) := by decide +kernel
theorem dL_isSame_115 : decode cL_isSame 115 = .ok (.aload_n 0, 1) := by decide +kernel
theorem dL_isSame_116 : decode cL_isSame 116 = .ok (.bipush 31, 2) := by decide +kernel
theorem dL_isSame_118 : decode cL_isSame 118 = .ok (.bipush 77, 2) := by decide +kernel
theorem dL_isSame_120 : decode cL_isSame 120 = .ok (.iload_n 3, 1) := by decide +kernel
theorem dL_isSame_121 : decode cL_isSame 121 = .ok (.invokestatic 137, 3) := by decide +kernel
theorem dL_isSame_124 : decode cL_isSame 124 = .ok (.if_icmp .ne 28, 3) := by decide +kernel
theorem dL_isSame_127 : decode cL_isSame 127 = .ok (.aload_n 0, 1) := by decide +kernel
theorem dL_isSame_128 : decode cL_isSame 128 = .ok (.bipush 21, 2) := by decide +kernel
theorem dL_isSame_130 : decode cL_isSame 130 = .ok (.bipush 78, 2) := by decide +kernel
theorem dL_isSame_132 : decode cL_isSame 132 = .ok (.iload_n 3, 1) := by decide +kernel
theorem dL_isSame_133 : decode cL_isSame 133 = .ok (.invokestatic 137, 3) := by decide +kernel
theorem dL_isSame_136 : decode cL_isSame 136 = .ok (.aload_n 0, 1) := by decide +kernel
theorem dL_isSame_137 : decode cL_isSame 137 = .ok (.bipush 31, 2) := by decide +kernel
theorem dL_isSame_139 : decode cL_isSame 139 = .ok (.bipush 78, 2) := by decide +kernel
theorem dL_isSame_141 : decode cL_isSame 141 = .ok (.iload_n 3, 1) := by decide +kernel
theorem dL_isSame_142 : decode cL_isSame 142 = .ok (.invokestatic 137, 3) := by decide +kernel
theorem dL_isSame_145 : decode cL_isSame 145 = .ok (.if_icmp .ne 7, 3) := by decide +kernel
theorem dL_isSame_148 : decode cL_isSame 148 = .ok (.iconst 1, 1) := by decide +kernel
theorem dL_isSame_149 : decode cL_isSame 149 = .ok (.goto 4, 3) := by decide +kernel
theorem dL_isSame_152 : decode cL_isSame 152 = .ok (.iconst 0, 1) := by decide +kernel
theorem dL_isSame_153 : decode cL_isSame 153 = .ok (.istore_n 2, 1) := by decide +kernel
theorem dL_isSame_154 : decode cL_isSame 154 = .ok (.iinc 3 1, 3) := by decide +kernel
theorem dL_isSame_157 : decode cL_isSame 157 = .ok (.goto (-61), 3) := by decide +kernel
theorem dL_isSame_160 : decode cL_isSame 160 = .ok (.iload_n 2, 1) := by decide +kernel
theorem dL_isSame_161 : decode cL_isSame 161 = .ok (.ireturn, 1) := by decide +kernel
theorem dL_row_0 : decode cL_row 0 = .ok (.aload_n 0, 1) := by decide +kernel
theorem dL_row_1 : decode cL_row 1 = .ok (.invokevirtual 216, 3) := by decide +kernel
theorem dL_row_4 : decode cL_row 4 = .ok (.newarray .int, 2) := by decide +kernel
theorem dL_row_6 : decode cL_row 6 = .ok (.astore_n 2, 1) := by decide +kernel
theorem dL_row_7 : decode cL_row 7 = .ok (.iconst 0, 1) := by decide +kernel
theorem dL_row_8 : decode cL_row 8 = .ok (.istore_n 3, 1) := by decide +kernel
theorem dL_row_9 : decode cL_row 9 = .ok (.iload_n 3, 1) := by decide +kernel
theorem dL_row_10 : decode cL_row 10 = .ok (.aload_n 2, 1) := by decide +kernel
theorem dL_row_11 : decode cL_row 11 = .ok (.arraylength, 1) := by decide +kernel
theorem dL_row_12 : decode cL_row 12 = .ok (.if_icmp .ge 19, 3) := by decide +kernel
theorem dL_row_15 : decode cL_row 15 = .ok (.aload_n 2, 1) := by decide +kernel
theorem dL_row_16 : decode cL_row 16 = .ok (.iload_n 3, 1) := by decide +kernel
theorem dL_row_17 : decode cL_row 17 = .ok (.aload_n 0, 1) := by decide +kernel
theorem dL_row_18 : decode cL_row 18 = .ok (.iload_n 1, 1) := by decide +kernel
theorem dL_row_19 : decode cL_row 19 = .ok (.iload_n 3, 1) := by decide +kernel
theorem dL_row_20 : decode cL_row 20 = .ok (.iconst 0, 1) := by decide +kernel
theorem dL_row_21 : decode cL_row 21 = .ok (.invokestatic 137, 3) := by decide +kernel
theorem dL_row_24 : decode cL_row 24 = .ok (.iastore, 1) := by decide +kernel
theorem dL_row_25 : decode cL_row 25 = .ok (.iinc 3 1, 3) := by decide +kernel
theorem dL_row_28 : decode cL_row 28 = .ok (.goto (-19), 3) := by decide +kernel
theorem dL_row_31 : decode cL_row 31 = .ok (.aload_n 2, 1) := by decide +kernel
theorem dL_row_32 : decode cL_row 32 = .ok (.areturn, 1) := by decide +kernel
theorem dL_areKept_0 : decode cL_areKept 0 = .ok (.aload_n 0, 1) := by decide +kernel
theorem dL_areKept_1 : decode cL_areKept 1 = .ok (.invokevirtual 216, 3) := by decide +kernel
theorem dL_areKept_4 : decode cL_areKept 4 = .ok (.istore_n 1, 1) := by decide +kernel
theorem dL_areKept_5 : decode cL_areKept 5 = .ok (.aload_n 0, 1) := by decide +kernel
theorem dL_areKept_6 : decode cL_areKept 6 = .ok (.bipush 26, 2) := by decide +kernel
theorem dL_areKept_8 : decode cL_areKept 8 = .ok (.invokestatic 229, 3) := by decide +kernel
theorem dL_areKept_11 : decode cL_areKept 11 = .ok (.astore_n 2, 1) := by decide +kernel
theorem dL_areKept_12 : decode cL_areKept 12 = .ok (.aload_n 0, 1) := by decide +kernel
theorem dL_areKept_13 : decode cL_areKept 13 = .ok (.bipush 27, 2) := by decide +kernel
theorem dL_areKept_15 : decode cL_areKept 15 = .ok (.invokestatic 229, 3) := by decide +kernel
theorem dL_areKept_18 : decode cL_areKept 18 = .ok (.astore_n 3, 1) := by decide +kernel
theorem dL_areKept_19 : decode cL_areKept 19 = .ok (.aload_n 0, 1) := by decide +kernel
theorem dL_areKept_20 : decode cL_areKept 20 = .ok (.bipush 28, 2) := by decide +kernel
theorem dL_areKept_22 : decode cL_areKept 22 = .ok (.invokestatic 229, 3) := by decide +kernel
theorem dL_areKept_25 : decode cL_areKept 25 = .ok (.astore 4, 2) := by decide +kernel
theorem dL_areKept_27 : decode cL_areKept 27 = .ok (.aload_n 0, 1) := by decide +kernel
theorem dL_areKept_28 : decode cL_areKept 28 = .ok (.bipush 29, 2) := by decide +kernel
theorem dL_areKept_30 : decode cL_areKept 30 = .ok (.invokestatic 229, 3) := by decide +kernel
theorem dL_areKept_33 : decode cL_areKept 33 = .ok (.astore 5, 2) := by decide +kernel
theorem dL_areKept_35 : decode cL_areKept 35 = .ok (.aload_n 0, 1) := by decide +kernel
theorem dL_areKept_36 : decode cL_areKept 36 = .ok (.invokevirtual 233, 3) := by decide +kernel
theorem dL_areKept_39 : decode cL_areKept 39 = .ok (.istore 6, 2) := by decide +kernel
theorem dL_areKept_41 : decode cL_areKept 41 = .ok (.iconst 0, 1) := by decide +kernel
theorem dL_areKept_42 : decode cL_areKept 42 = .ok (.istore 7, 2) := by decide +kernel
theorem dL_areKept_44 : decode cL_areKept 44 = .ok (.iconst 1, 1) := by decide +kernel
theorem dL_areKept_45 : decode cL_areKept 45 = .ok (.istore 8, 2) := by decide +kernel
theorem dL_areKept_47 : decode cL_areKept 47 = .ok (.iconst 0, 1) := by decide +kernel
theorem dL_areKept_48 : decode cL_areKept 48 = .ok (.istore 9, 2) := by decide +kernel
theorem dL_areKept_50 : decode cL_areKept 50 = .ok (.iload 9, 2) := by decide +kernel
theorem dL_areKept_52 : decode cL_areKept 52 = .ok (.iload_n 1, 1) := by decide +kernel
theorem dL_areKept_53 : decode cL_areKept 53 = .ok (.if_icmp .ge 205, 3) := by decide +kernel
theorem dL_areKept_56 : decode cL_areKept 56 = .ok (.iload 8, 2) := by decide +kernel
theorem dL_areKept_58 : decode cL_areKept 58 = .ok (.ifCond .eq 200, 3) := by decide +kernel
theorem dL_areKept_61 : decode cL_areKept 61 = .ok (.aload_n 2, 1) := by decide +kernel
theorem dL_areKept_62 : decode cL_areKept 62 = .ok (.iload 9, 2) := by decide +kernel
theorem dL_areKept_64 : decode cL_areKept 64 = .ok (.iaload, 1) := by decide +kernel
theorem dL_areKept_65 : decode cL_areKept 65 = .ok (.aload_n 3, 1) := by decide +kernel
theorem dL_areKept_66 : decode cL_areKept 66 = .ok (.iload 9, 2) := by decide +kernel
theorem dL_areKept_68 : decode cL_areKept 68 = .ok (.iaload, 1) := by decide +kernel
theorem dL_areKept_69 : decode cL_areKept 69 = .ok (.if_icmp .gt 30, 3) := by decide +kernel
theorem dL_areKept_72 : decode cL_areKept 72 = .ok (.aload_n 2, 1) := by decide +kernel
theorem dL_areKept_73 : decode cL_areKept 73 = .ok (.iload 9, 2) := by decide +kernel
theorem dL_areKept_75 : decode cL_areKept 75 = .ok (.iaload, 1) := by decide +kernel
theorem dL_areKept_76 : decode cL_areKept 76 = .ok (.ifCond .lt 23, 3) := by decide +kernel
theorem dL_areKept_79 : decode cL_areKept 79 = .ok (.aload 4, 2) := by decide +kernel
theorem dL_areKept_81 : decode cL_areKept 81 = .ok (.iload 9, 2) := by decide +kernel
theorem dL_areKept_83 : decode cL_areKept 83 = .ok (.iaload, 1) := by decide +kernel
theorem dL_areKept_84 : decode cL_areKept 84 = .ok (.ifCond .lt 15, 3) := by decide +kernel
theorem dL_areKept_87 : decode cL_areKept 87 = .ok (.aload 5, 2) := by decide +kernel
theorem dL_areKept_89 : decode cL_areKept 89 = .ok (.iload 9, 2) := by decide +kernel
theorem dL_areKept_91 : decode cL_areKept 91 = .ok (.iaload, 1) := by decide +kernel
theorem dL_areKept_92 : decode cL_areKept 92 = .ok (.ifCond .lt 7, 3) := by decide +kernel
theorem dL_areKept_95 : decode cL_areKept 95 = .ok (.iconst 1, 1) := by decide +kernel
theorem dL_areKept_96 : decode cL_areKept 96 = .ok (.goto 4, 3) := by decide +kernel
theorem dL_areKept_99 : decode cL_areKept 99 = .ok (.iconst 0, 1) := by decide +kernel
theorem dL_areKept_100 : decode cL_areKept 100 = .ok (.istore 8, 2) := by decide +kernel
theorem dL_areKept_102 : decode cL_areKept 102 = .ok (.iconst 0, 1) := by decide +kernel
theorem dL_areKept_103 : decode cL_areKept 103 = .ok (.istore 10, 2) := by decide +kernel
theorem dL_areKept_105 : decode cL_areKept 105 = .ok (.iload 10, 2) := by decide +kernel
theorem dL_areKept_107 : decode cL_areKept 107 = .ok (.iload_n 1, 1) := by decide +kernel
theorem dL_areKept_108 : decode cL_areKept 108 = .ok (.if_icmp .ge 144, 3) := by decide +kernel
theorem dL_areKept_111 : decode cL_areKept 111 = .ok (.iconst 0, 1) := by decide +kernel
theorem dL_areKept_112 : decode cL_areKept 112 = .ok (.istore 11, 2) := by decide +kernel
theorem dL_areKept_114 : decode cL_areKept 114 = .ok (.iload 11, 2) := by decide +kernel
theorem dL_areKept_116 : decode cL_areKept 116 = .ok (.bipush 9, 2) := by decide +kernel
theorem dL_areKept_118 : decode cL_areKept 118 = .ok (.if_icmp .ge 128, 3) := by decide +kernel
theorem dL_areKept_121 : decode cL_areKept 121 = .ok (.aload_n 0, 1) := by decide +kernel
theorem dL_areKept_122 : decode cL_areKept 122 = .ok (.bipush 25, 2) := by decide +kernel
theorem dL_areKept_124 : decode cL_areKept 124 = .ok (.iload 9, 2) := by decide +kernel
theorem dL_areKept_126 : decode cL_areKept 126 = .ok (.iload 10, 2) := by decide +kernel
theorem dL_areKept_128 : decode cL_areKept 128 = .ok (.iload 11, 2) := by decide +kernel
theorem dL_areKept_130 : decode cL_areKept 130 = .ok (.invokestatic 126, 3) := by decide +kernel
theorem dL_areKept_133 : decode cL_areKept 133 = .ok (.istore 12, 2) := by decide +kernel
theorem dL_areKept_135 : decode cL_areKept 135 = .ok (.iload 12, 2) := by decide +kernel
theorem dL_areKept_137 : decode cL_areKept 137 = .ok (.ldc 122, 2) := by decide +kernel
theorem dL_areKept_139 : decode cL_areKept 139 = .ok (.if_icmp .eq 101, 3) := by decide +kernel
theorem dL_areKept_142 : decode cL_areKept 142 = .ok (.iinc 7 1, 3) := by decide +kernel
theorem dL_areKept_145 : decode cL_areKept 145 = .ok (.iload 8, 2) := by decide +kernel
theorem dL_areKept_147 : decode cL_areKept 147 = .ok (.ifCond .eq 29, 3) := by decide +kernel
theorem dL_areKept_150 : decode cL_areKept 150 = .ok (.aload 5, 2) := by decide +kernel
theorem dL_areKept_152 : decode cL_areKept 152 = .ok (.iload 10, 2) := by decide +kernel
theorem dL_areKept_154 : decode cL_areKept 154 = .ok (.iaload, 1) := by decide +kernel
theorem dL_areKept_155 : decode cL_areKept 155 = .ok (.aload 5, 2) := by decide +kernel
theorem dL_areKept_157 : decode cL_areKept 157 = .ok (.iload 9, 2) := by decide +kernel
theorem dL_areKept_159 : decode cL_areKept 159 = .ok (.iaload, 1) := by decide +kernel
theorem dL_areKept_160 : decode cL_areKept 160 = .ok (.iload 12, 2) := by decide +kernel
theorem dL_areKept_162 : decode cL_areKept 162 = .ok (.iadd, 1) := by decide +kernel
theorem dL_areKept_163 : decode cL_areKept 163 = .ok (.iload 6, 2) := by decide +kernel
theorem dL_areKept_165 : decode cL_areKept 165 = .ok (.iload 11, 2) := by decide +kernel
theorem dL_areKept_167 : decode cL_areKept 167 = .ok (.imul, 1) := by decide +kernel
theorem dL_areKept_168 : decode cL_areKept 168 = .ok (.isub, 1) := by decide +kernel
theorem dL_areKept_169 : decode cL_areKept 169 = .ok (.if_icmp .lt 7, 3) := by decide +kernel
theorem dL_areKept_172 : decode cL_areKept 172 = .ok (.iconst 1, 1) := by decide +kernel
theorem dL_areKept_173 : decode cL_areKept 173 = .ok (.goto 4, 3) := by decide +kernel
theorem dL_areKept_176 : decode cL_areKept 176 = .ok (.iconst 0, 1) := by decide +kernel
theorem dL_areKept_177 : decode cL_areKept 177 = .ok (.istore 8, 2) := by decide +kernel
theorem dL_areKept_179 : decode cL_areKept 179 = .ok (.iload 8, 2) := by decide +kernel
theorem dL_areKept_181 : decode cL_areKept 181 = .ok (.ifCond .eq 56, 3) := by decide +kernel
theorem dL_areKept_184 : decode cL_areKept 184 = .ok (.iload 11, 2) := by decide +kernel
theorem dL_areKept_186 : decode cL_areKept 186 = .ok (.ifCond .gt 47, 3) := by decide +kernel
theorem dL_areKept_189 : decode cL_areKept 189 = .ok (.aload_n 2, 1) := by decide +kernel
theorem dL_areKept_190 : decode cL_areKept 190 = .ok (.iload 10, 2) := by decide +kernel
theorem dL_areKept_192 : decode cL_areKept 192 = .ok (.iaload, 1) := by decide +kernel
theorem dL_areKept_193 : decode cL_areKept 193 = .ok (.aload_n 2, 1) := by decide +kernel
theorem dL_areKept_194 : decode cL_areKept 194 = .ok (.iload 9, 2) := by decide +kernel
theorem dL_areKept_196 : decode cL_areKept 196 = .ok (.iaload, 1) := by decide +kernel
theorem dL_areKept_197 : decode cL_areKept 197 = .ok (.iload 12, 2) := by decide +kernel
theorem dL_areKept_199 : decode cL_areKept 199 = .ok (.iadd, 1) := by decide +kernel
theorem dL_areKept_200 : decode cL_areKept 200 = .ok (.if_icmp .lt 37, 3) := by decide +kernel
theorem dL_areKept_203 : decode cL_areKept 203 = .ok (.aload_n 3, 1) := by decide +kernel
theorem dL_areKept_204 : decode cL_areKept 204 = .ok (.iload 10, 2) := by decide +kernel
theorem dL_areKept_206 : decode cL_areKept 206 = .ok (.iaload, 1) := by decide +kernel
theorem dL_areKept_207 : decode cL_areKept 207 = .ok (.aload_n 3, 1) := by decide +kernel
theorem dL_areKept_208 : decode cL_areKept 208 = .ok (.iload 9, 2) := by decide +kernel
theorem dL_areKept_210 : decode cL_areKept 210 = .ok (.iaload, 1) := by decide +kernel
theorem dL_areKept_211 : decode cL_areKept 211 = .ok (.iload 12, 2) := by decide +kernel
theorem dL_areKept_213 : decode cL_areKept 213 = .ok (.iadd, 1) := by decide +kernel
theorem dL_areKept_214 : decode cL_areKept 214 = .ok (.if_icmp .lt 23, 3) := by decide +kernel
theorem dL_areKept_217 : decode cL_areKept 217 = .ok (.aload 4, 2) := by decide +kernel
theorem dL_areKept_219 : decode cL_areKept 219 = .ok (.iload 10, 2) := by decide +kernel
theorem dL_areKept_221 : decode cL_areKept 221 = .ok (.iaload, 1) := by decide +kernel
theorem dL_areKept_222 : decode cL_areKept 222 = .ok (.aload 4, 2) := by decide +kernel
theorem dL_areKept_224 : decode cL_areKept 224 = .ok (.iload 9, 2) := by decide +kernel
theorem dL_areKept_226 : decode cL_areKept 226 = .ok (.iaload, 1) := by decide +kernel
theorem dL_areKept_227 : decode cL_areKept 227 = .ok (.iload 12, 2) := by decide +kernel
theorem dL_areKept_229 : decode cL_areKept 229 = .ok (.iadd, 1) := by decide +kernel
theorem dL_areKept_230 : decode cL_areKept 230 = .ok (.if_icmp .lt 7, 3) := by decide +kernel
theorem dL_areKept_233 : decode cL_areKept 233 = .ok (.iconst 1, 1) := by decide +kernel
theorem dL_areKept_234 : decode cL_areKept 234 = .ok (.goto 4, 3) := by decide +kernel
theorem dL_areKept_237 : decode cL_areKept 237 = .ok (.iconst 0, 1) := by decide +kernel
theorem dL_areKept_238 : decode cL_areKept 238 = .ok (.istore 8, 2) := by decide +kernel
theorem dL_areKept_240 : decode cL_areKept 240 = .ok (.iinc 11 1, 3) := by decide +kernel
theorem dL_areKept_243 : decode cL_areKept 243 = .ok (.goto (-129), 3) := by decide +kernel
theorem dL_areKept_246 : decode cL_areKept 246 = .ok (.iinc 10 1, 3) := by decide +kernel
theorem dL_areKept_249 : decode cL_areKept 249 = .ok (.goto (-144), 3) := by decide +kernel
theorem dL_areKept_252 : decode cL_areKept 252 = .ok (.iinc 9 1, 3) := by decide +kernel
theorem dL_areKept_255 : decode cL_areKept 255 = .ok (.goto (-205), 3) := by decide +kernel
theorem dL_areKept_258 : decode cL_areKept 258 = .ok (.iload 8, 2) := by decide +kernel
theorem dL_areKept_260 : decode cL_areKept 260 = .ok (.ifCond .eq 47, 3) := by decide +kernel
theorem dL_areKept_263 : decode cL_areKept 263 = .ok (.iload 7, 2) := by decide +kernel
theorem dL_areKept_265 : decode cL_areKept 265 = .ok (.aload_n 0, 1) := by decide +kernel
theorem dL_areKept_266 : decode cL_areKept 266 = .ok (.invokevirtual 236, 3) := by decide +kernel
theorem dL_areKept_269 : decode cL_areKept 269 = .ok (.if_icmp .ne 38, 3) := by decide +kernel
theorem dL_areKept_272 : decode cL_areKept 272 = .ok (.aload_n 0, 1) := by decide +kernel
theorem dL_areKept_273 : decode cL_areKept 273 = .ok (.aload 4, 2) := by decide +kernel
theorem dL_areKept_275 : decode cL_areKept 275 = .ok (.aload 5, 2) := by decide +kernel
theorem dL_areKept_277 : decode cL_areKept 277 = .ok (.iload 6, 2) := by decide +kernel
theorem dL_areKept_279 : decode cL_areKept 279 = .ok (.invokestatic 239, 3) := by decide +kernel
theorem dL_areKept_282 : decode cL_areKept 282 = .ok (.ifCond .eq 25, 3) := by decide +kernel
theorem dL_areKept_285 : decode cL_areKept 285 = .ok (.iload 6, 2) := by decide +kernel
theorem dL_areKept_287 : decode cL_areKept 287 = .ok (.aload_n 0, 1) := by decide +kernel
theorem dL_areKept_288 : decode cL_areKept 288 = .ok (.invokevirtual 243, 3) := by decide +kernel
theorem dL_areKept_291 : decode cL_areKept 291 = .ok (.if_icmp .lt 16, 3) := by decide +kernel
theorem dL_areKept_294 : decode cL_areKept 294 = .ok (.iload 6, 2) := by decide +kernel
theorem dL_areKept_296 : decode cL_areKept 296 = .ok (.aload_n 0, 1) := by decide +kernel
theorem dL_areKept_297 : decode cL_areKept 297 = .ok (.invokevirtual 246, 3) := by decide +kernel
theorem dL_areKept_300 : decode cL_areKept 300 = .ok (.if_icmp .lt 7, 3) := by decide +kernel
theorem dL_areKept_303 : decode cL_areKept 303 = .ok (.iconst 1, 1) := by decide +kernel
theorem dL_areKept_304 : decode cL_areKept 304 = .ok (.goto 4, 3) := by decide +kernel
theorem dL_areKept_307 : decode cL_areKept 307 = .ok (.iconst 0, 1) := by decide +kernel
theorem dL_areKept_308 : decode cL_areKept 308 = .ok (.ireturn, 1) := by decide +kernel
theorem dL_units_0 : decode cL_units 0 = .ok (.aload_n 0, 1) := by decide +kernel
theorem dL_units_1 : decode cL_units 1 = .ok (.bipush 8, 2) := by decide +kernel
theorem dL_units_3 : decode cL_units 3 = .ok (.iload_n 1, 1) := by decide +kernel
theorem dL_units_4 : decode cL_units 4 = .ok (.iconst 1, 1) := by decide +kernel
theorem dL_units_5 : decode cL_units 5 = .ok (.invokestatic 137, 3) := by decide +kernel
theorem dL_units_8 : decode cL_units 8 = .ok (.istore_n 2, 1) := by decide +kernel
theorem dL_units_9 : decode cL_units 9 = .ok (.aload_n 0, 1) := by decide +kernel
theorem dL_units_10 : decode cL_units 10 = .ok (.bipush 8, 2) := by decide +kernel
theorem dL_units_12 : decode cL_units 12 = .ok (.iload_n 1, 1) := by decide +kernel
theorem dL_units_13 : decode cL_units 13 = .ok (.iload_n 2, 1) := by decide +kernel
theorem dL_units_14 : decode cL_units 14 = .ok (.invokestatic 137, 3) := by decide +kernel
theorem dL_units_17 : decode cL_units 17 = .ok (.pop, 1) := by decide +kernel
theorem dL_units_18 : decode cL_units 18 = .ok (.iload_n 2, 1) := by decide +kernel
theorem dL_units_19 : decode cL_units 19 = .ok (.ireturn, 1) := by decide +kernel
theorem dL_areUnits_0 : decode cL_areUnits 0 = .ok (.iconst 1, 1) := by decide +kernel
theorem dL_areUnits_1 : decode cL_areUnits 1 = .ok (.istore 4, 2) := by decide +kernel
theorem dL_areUnits_3 : decode cL_areUnits 3 = .ok (.iconst 0, 1) := by decide +kernel
theorem dL_areUnits_4 : decode cL_areUnits 4 = .ok (.istore 5, 2) := by decide +kernel
theorem dL_areUnits_6 : decode cL_areUnits 6 = .ok (.iload 5, 2) := by decide +kernel
theorem dL_areUnits_8 : decode cL_areUnits 8 = .ok (.bipush 7, 2) := by decide +kernel
theorem dL_areUnits_10 : decode cL_areUnits 10 = .ok (.if_icmp .ge 265, 3) := by decide +kernel
theorem dL_areUnits_13 : decode cL_areUnits 13 = .ok (.ldc 213, 2) := by decide +kernel
theorem dL_areUnits_15 : decode cL_areUnits 15 = .ok (.iload 5, 2) := by decide +kernel
theorem dL_areUnits_17 : decode cL_areUnits 17 = .ok (.invokevirtual 134, 3) := by decide +kernel
theorem dL_areUnits_20 : decode cL_areUnits 20 = .ok (.istore 6, 2) := by decide +kernel
theorem dL_areUnits_22 : decode cL_areUnits 22 = .ok (.aload_n 0, 1) := by decide +kernel
theorem dL_areUnits_23 : decode cL_areUnits 23 = .ok (.iload 6, 2) := by decide +kernel
theorem dL_areUnits_25 : decode cL_areUnits 25 = .ok (.invokestatic 249, 3) := by decide +kernel
theorem dL_areUnits_28 : decode cL_areUnits 28 = .ok (.istore 7, 2) := by decide +kernel
theorem dL_areUnits_30 : decode cL_areUnits 30 = .ok (.iconst 0, 1) := by decide +kernel
theorem dL_areUnits_31 : decode cL_areUnits 31 = .ok (.istore 8, 2) := by decide +kernel
theorem dL_areUnits_33 : decode cL_areUnits 33 = .ok (.iconst 0, 1) := by decide +kernel
theorem dL_areUnits_34 : decode cL_areUnits 34 = .ok (.istore 9, 2) := by decide +kernel
theorem dL_areUnits_36 : decode cL_areUnits 36 = .ok (.iload 9, 2) := by decide +kernel
theorem dL_areUnits_38 : decode cL_areUnits 38 = .ok (.aload_n 1, 1) := by decide +kernel
theorem dL_areUnits_39 : decode cL_areUnits 39 = .ok (.arraylength, 1) := by decide +kernel
theorem dL_areUnits_40 : decode cL_areUnits 40 = .ok (.if_icmp .ge 181, 3) := by decide +kernel
theorem dL_areUnits_43 : decode cL_areUnits 43 = .ok (.iconst 0, 1) := by decide +kernel
theorem dL_areUnits_44 : decode cL_areUnits 44 = .ok (.istore 10, 2) := by decide +kernel
theorem dL_areUnits_46 : decode cL_areUnits 46 = .ok (.iconst 0, 1) := by decide +kernel
theorem dL_areUnits_47 : decode cL_areUnits 47 = .ok (.istore 11, 2) := by decide +kernel
theorem dL_areUnits_49 : decode cL_areUnits 49 = .ok (.iconst 0, 1) := by decide +kernel
theorem dL_areUnits_50 : decode cL_areUnits 50 = .ok (.istore 12, 2) := by decide +kernel
theorem dL_areUnits_52 : decode cL_areUnits 52 = .ok (.iload 12, 2) := by decide +kernel
theorem dL_areUnits_54 : decode cL_areUnits 54 = .ok (.aload_n 1, 1) := by decide +kernel
theorem dL_areUnits_55 : decode cL_areUnits 55 = .ok (.arraylength, 1) := by decide +kernel
theorem dL_areUnits_56 : decode cL_areUnits 56 = .ok (.if_icmp .ge 106, 3) := by decide +kernel
theorem dL_areUnits_59 : decode cL_areUnits 59 = .ok (.aload_n 0, 1) := by decide +kernel
theorem dL_areUnits_60 : decode cL_areUnits 60 = .ok (.bipush 23, 2) := by decide +kernel
theorem dL_areUnits_62 : decode cL_areUnits 62 = .ok (.iload 9, 2) := by decide +kernel
theorem dL_areUnits_64 : decode cL_areUnits 64 = .ok (.iconst 0, 1) := by decide +kernel
theorem dL_areUnits_65 : decode cL_areUnits 65 = .ok (.invokestatic 137, 3) := by decide +kernel
theorem dL_areUnits_68 : decode cL_areUnits 68 = .ok (.iload 6, 2) := by decide +kernel
theorem dL_areUnits_70 : decode cL_areUnits 70 = .ok (.if_icmp .ne 21, 3) := by decide +kernel
theorem dL_areUnits_73 : decode cL_areUnits 73 = .ok (.aload_n 0, 1) := by decide +kernel
theorem dL_areUnits_74 : decode cL_areUnits 74 = .ok (.bipush 23, 2) := by decide +kernel
theorem dL_areUnits_76 : decode cL_areUnits 76 = .ok (.iload 12, 2) := by decide +kernel
theorem dL_areUnits_78 : decode cL_areUnits 78 = .ok (.iconst 0, 1) := by decide +kernel
theorem dL_areUnits_79 : decode cL_areUnits 79 = .ok (.invokestatic 137, 3) := by decide +kernel
theorem dL_areUnits_82 : decode cL_areUnits 82 = .ok (.iload 6, 2) := by decide +kernel
theorem dL_areUnits_84 : decode cL_areUnits 84 = .ok (.if_icmp .ne 7, 3) := by decide +kernel
theorem dL_areUnits_87 : decode cL_areUnits 87 = .ok (.iconst 1, 1) := by decide +kernel
theorem dL_areUnits_88 : decode cL_areUnits 88 = .ok (.goto 4, 3) := by decide +kernel
theorem dL_areUnits_91 : decode cL_areUnits 91 = .ok (.iconst 0, 1) := by decide +kernel
theorem dL_areUnits_92 : decode cL_areUnits 92 = .ok (.istore 13, 2) := by decide +kernel
theorem dL_areUnits_94 : decode cL_areUnits 94 = .ok (.iload 10, 2) := by decide +kernel
theorem dL_areUnits_96 : decode cL_areUnits 96 = .ok (.iload 13, 2) := by decide +kernel
theorem dL_areUnits_98 : decode cL_areUnits 98 = .ok (.ifCond .eq 18, 3) := by decide +kernel
theorem dL_areUnits_101 : decode cL_areUnits 101 = .ok (.aload_n 1, 1) := by decide +kernel
theorem dL_areUnits_102 : decode cL_areUnits 102 = .ok (.iload 9, 2) := by decide +kernel
theorem dL_areUnits_104 : decode cL_areUnits 104 = .ok (.iaload, 1) := by decide +kernel
theorem dL_areUnits_105 : decode cL_areUnits 105 = .ok (.aload_n 1, 1) := by decide +kernel
theorem dL_areUnits_106 : decode cL_areUnits 106 = .ok (.iload 12, 2) := by decide +kernel
theorem dL_areUnits_108 : decode cL_areUnits 108 = .ok (.iaload, 1) := by decide +kernel
theorem dL_areUnits_109 : decode cL_areUnits 109 = .ok (.if_icmp .ne 7, 3) := by decide +kernel
theorem dL_areUnits_112 : decode cL_areUnits 112 = .ok (.iconst 1, 1) := by decide +kernel
theorem dL_areUnits_113 : decode cL_areUnits 113 = .ok (.goto 4, 3) := by decide +kernel
theorem dL_areUnits_116 : decode cL_areUnits 116 = .ok (.iconst 0, 1) := by decide +kernel
theorem dL_areUnits_117 : decode cL_areUnits 117 = .ok (.invokestatic 253, 3) := by decide +kernel
theorem dL_areUnits_120 : decode cL_areUnits 120 = .ok (.iadd, 1) := by decide +kernel
theorem dL_areUnits_121 : decode cL_areUnits 121 = .ok (.istore 10, 2) := by decide +kernel
theorem dL_areUnits_123 : decode cL_areUnits 123 = .ok (.iload 11, 2) := by decide +kernel
theorem dL_areUnits_125 : decode cL_areUnits 125 = .ok (.iload 13, 2) := by decide +kernel
theorem dL_areUnits_127 : decode cL_areUnits 127 = .ok (.ifCond .eq 22, 3) := by decide +kernel
theorem dL_areUnits_130 : decode cL_areUnits 130 = .ok (.aload_n 2, 1) := by decide +kernel
theorem dL_areUnits_131 : decode cL_areUnits 131 = .ok (.iload 9, 2) := by decide +kernel
theorem dL_areUnits_133 : decode cL_areUnits 133 = .ok (.iaload, 1) := by decide +kernel
theorem dL_areUnits_134 : decode cL_areUnits 134 = .ok (.iload_n 3, 1) := by decide +kernel
theorem dL_areUnits_135 : decode cL_areUnits 135 = .ok (.irem, 1) := by decide +kernel
theorem dL_areUnits_136 : decode cL_areUnits 136 = .ok (.aload_n 2, 1) := by decide +kernel
theorem dL_areUnits_137 : decode cL_areUnits 137 = .ok (.iload 12, 2) := by decide +kernel
theorem dL_areUnits_139 : decode cL_areUnits 139 = .ok (.iaload, 1) := by decide +kernel
theorem dL_areUnits_140 : decode cL_areUnits 140 = .ok (.iload_n 3, 1) := by decide +kernel
theorem dL_areUnits_141 : decode cL_areUnits 141 = .ok (.irem, 1) := by decide +kernel
theorem dL_areUnits_142 : decode cL_areUnits 142 = .ok (.if_icmp .ne 7, 3) := by decide +kernel
theorem dL_areUnits_145 : decode cL_areUnits 145 = .ok (.iconst 1, 1) := by decide +kernel
theorem dL_areUnits_146 : decode cL_areUnits 146 = .ok (.goto 4, 3) := by decide +kernel
theorem dL_areUnits_149 : decode cL_areUnits 149 = .ok (.iconst 0, 1) := by decide +kernel
theorem dL_areUnits_150 : decode cL_areUnits 150 = .ok (.invokestatic 253, 3) := by decide +kernel
theorem dL_areUnits_153 : decode cL_areUnits 153 = .ok (.iadd, 1) := by decide +kernel
theorem dL_areUnits_154 : decode cL_areUnits 154 = .ok (.istore 11, 2) := by decide +kernel
theorem dL_areUnits_156 : decode cL_areUnits 156 = .ok (.iinc 12 1, 3) := by decide +kernel
theorem dL_areUnits_159 : decode cL_areUnits 159 = .ok (.goto (-107), 3) := by decide +kernel
theorem dL_areUnits_162 : decode cL_areUnits 162 = .ok (.iload 4, 2) := by decide +kernel
theorem dL_areUnits_164 : decode cL_areUnits 164 = .ok (.ifCond .eq 21, 3) := by decide +kernel
theorem dL_areUnits_167 : decode cL_areUnits 167 = .ok (.iload 10, 2) := by decide +kernel
theorem dL_areUnits_169 : decode cL_areUnits 169 = .ok (.iload 7, 2) := by decide +kernel
theorem dL_areUnits_171 : decode cL_areUnits 171 = .ok (.if_icmp .gt 14, 3) := by decide +kernel
theorem dL_areUnits_174 : decode cL_areUnits 174 = .ok (.iload 11, 2) := by decide +kernel
theorem dL_areUnits_176 : decode cL_areUnits 176 = .ok (.iload 7, 2) := by decide +kernel
theorem dL_areUnits_178 : decode cL_areUnits 178 = .ok (.if_icmp .gt 7, 3) := by decide +kernel
theorem dL_areUnits_181 : decode cL_areUnits 181 = .ok (.iconst 1, 1) := by decide +kernel
theorem dL_areUnits_182 : decode cL_areUnits 182 = .ok (.goto 4, 3) := by decide +kernel
theorem dL_areUnits_185 : decode cL_areUnits 185 = .ok (.iconst 0, 1) := by decide +kernel
theorem dL_areUnits_186 : decode cL_areUnits 186 = .ok (.istore 4, 2) := by decide +kernel
theorem dL_areUnits_188 : decode cL_areUnits 188 = .ok (.iload 8, 2) := by decide +kernel
theorem dL_areUnits_190 : decode cL_areUnits 190 = .ok (.aload_n 0, 1) := by decide +kernel
theorem dL_areUnits_191 : decode cL_areUnits 191 = .ok (.bipush 23, 2) := by decide +kernel
theorem dL_areUnits_193 : decode cL_areUnits 193 = .ok (.iload 9, 2) := by decide +kernel
theorem dL_areUnits_195 : decode cL_areUnits 195 = .ok (.iconst 0, 1) := by decide +kernel
theorem dL_areUnits_196 : decode cL_areUnits 196 = .ok (.invokestatic 137, 3) := by decide +kernel
theorem dL_areUnits_199 : decode cL_areUnits 199 = .ok (.iload 6, 2) := by decide +kernel
theorem dL_areUnits_201 : decode cL_areUnits 201 = .ok (.if_icmp .ne 7, 3) := by decide +kernel
theorem dL_areUnits_204 : decode cL_areUnits 204 = .ok (.iconst 1, 1) := by decide +kernel
theorem dL_areUnits_205 : decode cL_areUnits 205 = .ok (.goto 4, 3) := by decide +kernel
theorem dL_areUnits_208 : decode cL_areUnits 208 = .ok (.iconst 0, 1) := by decide +kernel
theorem dL_areUnits_209 : decode cL_areUnits 209 = .ok (.invokestatic 253, 3) := by decide +kernel
theorem dL_areUnits_212 : decode cL_areUnits 212 = .ok (.iadd, 1) := by decide +kernel
theorem dL_areUnits_213 : decode cL_areUnits 213 = .ok (.istore 8, 2) := by decide +kernel
theorem dL_areUnits_215 : decode cL_areUnits 215 = .ok (.iinc 9 1, 3) := by decide +kernel
theorem dL_areUnits_218 : decode cL_areUnits 218 = .ok (.goto (-182), 3) := by decide +kernel
theorem dL_areUnits_221 : decode cL_areUnits 221 = .ok (.iload 4, 2) := by decide +kernel
theorem dL_areUnits_223 : decode cL_areUnits 223 = .ok (.ifCond .eq 43, 3) := by decide +kernel
theorem dL_areUnits_226 : decode cL_areUnits 226 = .ok (.aload_n 0, 1) := by decide +kernel
theorem dL_areUnits_227 : decode cL_areUnits 227 = .ok (.iload 6, 2) := by decide +kernel
theorem dL_areUnits_229 : decode cL_areUnits 229 = .ok (.invokevirtual 257, 3) := by decide +kernel
theorem dL_areUnits_232 : decode cL_areUnits 232 = .ok (.iload 8, 2) := by decide +kernel
theorem dL_areUnits_234 : decode cL_areUnits 234 = .ok (.i2f, 1) := by decide +kernel
theorem dL_areUnits_235 : decode cL_areUnits 235 = .ok (.iload 7, 2) := by decide +kernel
theorem dL_areUnits_237 : decode cL_areUnits 237 = .ok (.iload_n 3, 1) := by decide +kernel
theorem dL_areUnits_238 : decode cL_areUnits 238 = .ok (.imul, 1) := by decide +kernel
theorem dL_areUnits_239 : decode cL_areUnits 239 = .ok (.i2f, 1) := by decide +kernel
theorem dL_areUnits_240 : decode cL_areUnits 240 = .ok (.fdiv, 1) := by decide +kernel
theorem dL_areUnits_241 : decode cL_areUnits 241 = .ok (.fcmp .l, 1) := by decide +kernel
theorem dL_areUnits_242 : decode cL_areUnits 242 = .ok (.ifCond .ne 24, 3) := by decide +kernel
theorem dL_areUnits_245 : decode cL_areUnits 245 = .ok (.aload_n 0, 1) := by decide +kernel
theorem dL_areUnits_246 : decode cL_areUnits 246 = .ok (.invokevirtual 246, 3) := by decide +kernel
theorem dL_areUnits_249 : decode cL_areUnits 249 = .ok (.iload 8, 2) := by decide +kernel
theorem dL_areUnits_251 : decode cL_areUnits 251 = .ok (.iload 7, 2) := by decide +kernel
theorem dL_areUnits_253 : decode cL_areUnits 253 = .ok (.iadd, 1) := by decide +kernel
theorem dL_areUnits_254 : decode cL_areUnits 254 = .ok (.iconst 1, 1) := by decide +kernel
theorem dL_areUnits_255 : decode cL_areUnits 255 = .ok (.isub, 1) := by decide +kernel
theorem dL_areUnits_256 : decode cL_areUnits 256 = .ok (.iload 7, 2) := by decide +kernel
theorem dL_areUnits_258 : decode cL_areUnits 258 = .ok (.idiv, 1) := by decide +kernel
theorem dL_areUnits_259 : decode cL_areUnits 259 = .ok (.if_icmp .lt 7, 3) := by decide +kernel
theorem dL_areUnits_262 : decode cL_areUnits 262 = .ok (.iconst 1, 1) := by decide +kernel
theorem dL_areUnits_263 : decode cL_areUnits 263 = .ok (.goto 4, 3) := by decide +kernel
theorem dL_areUnits_266 : decode cL_areUnits 266 = .ok (.iconst 0, 1) := by decide +kernel
theorem dL_areUnits_267 : decode cL_areUnits 267 = .ok (.istore 4, 2) := by decide +kernel
theorem dL_areUnits_269 : decode cL_areUnits 269 = .ok (.iinc 5 1, 3) := by decide +kernel
theorem dL_areUnits_272 : decode cL_areUnits 272 = .ok (.goto (-266), 3) := by decide +kernel
theorem dL_areUnits_275 : decode cL_areUnits 275 = .ok (.iload 4, 2) := by decide +kernel
theorem dL_areUnits_277 : decode cL_areUnits 277 = .ok (.ireturn, 1) := by decide +kernel
theorem dL_areProcesses_0 : decode cL_areProcesses 0 = .ok (.new 16, 3) := by decide +kernel
theorem dL_areProcesses_3 : decode cL_areProcesses 3 = .ok (.dup, 1) := by decide +kernel
theorem dL_areProcesses_4 : decode cL_areProcesses 4 = .ok (.invokespecial 261, 3) := by decide +kernel
theorem dL_areProcesses_7 : decode cL_areProcesses 7 = .ok (.astore_n 2, 1) := by decide +kernel
theorem dL_areProcesses_8 : decode cL_areProcesses 8 = .ok (.iconst 4, 1) := by decide +kernel
theorem dL_areProcesses_9 : decode cL_areProcesses 9 = .ok (.aload_n 0, 1) := by decide +kernel
theorem dL_areProcesses_10 : decode cL_areProcesses 10 = .ok (.iload_n 1, 1) := by decide +kernel
theorem dL_areProcesses_11 : decode cL_areProcesses 11 = .ok (.bipush 24, 2) := by decide +kernel
theorem dL_areProcesses_13 : decode cL_areProcesses 13 = .ok (.invokestatic 147, 3) := by decide +kernel
theorem dL_areProcesses_16 : decode cL_areProcesses 16 = .ok (.iadd, 1) := by decide +kernel
theorem dL_areProcesses_17 : decode cL_areProcesses 17 = .ok (.istore_n 3, 1) := by decide +kernel
theorem dL_areProcesses_18 : decode cL_areProcesses 18 = .ok (.iconst 0, 1) := by decide +kernel
theorem dL_areProcesses_19 : decode cL_areProcesses 19 = .ok (.istore 4, 2) := by decide +kernel
theorem dL_areProcesses_21 : decode cL_areProcesses 21 = .ok (.iconst 0, 1) := by decide +kernel
theorem dL_areProcesses_22 : decode cL_areProcesses 22 = .ok (.istore 5, 2) := by decide +kernel
theorem dL_areProcesses_24 : decode cL_areProcesses 24 = .ok (.iload 5, 2) := by decide +kernel
theorem dL_areProcesses_26 : decode cL_areProcesses 26 = .ok (.iload_n 3, 1) := by decide +kernel
theorem dL_areProcesses_27 : decode cL_areProcesses 27 = .ok (.if_icmp .ge 70, 3) := by decide +kernel
theorem dL_areProcesses_30 : decode cL_areProcesses 30 = .ok (.iload 4, 2) := by decide +kernel
theorem dL_areProcesses_32 : decode cL_areProcesses 32 = .ok (.aload_n 2, 1) := by decide +kernel
theorem dL_areProcesses_33 : decode cL_areProcesses 33 = .ok (.bipush 10, 2) := by decide +kernel
theorem dL_areProcesses_35 : decode cL_areProcesses 35 = .ok (.aload_n 0, 1) := by decide +kernel
theorem dL_areProcesses_36 : decode cL_areProcesses 36 = .ok (.iload_n 1, 1) := by decide +kernel
theorem dL_areProcesses_37 : decode cL_areProcesses 37 = .ok (.iconst 1, 1) := by decide +kernel
theorem dL_areProcesses_38 : decode cL_areProcesses 38 = .ok (.iadd, 1) := by decide +kernel
theorem dL_areProcesses_39 : decode cL_areProcesses 39 = .ok (.iconst 3, 1) := by decide +kernel
theorem dL_areProcesses_40 : decode cL_areProcesses 40 = .ok (.iload 5, 2) := by decide +kernel
theorem dL_areProcesses_42 : decode cL_areProcesses 42 = .ok (.imul, 1) := by decide +kernel
theorem dL_areProcesses_43 : decode cL_areProcesses 43 = .ok (.iadd, 1) := by decide +kernel
theorem dL_areProcesses_44 : decode cL_areProcesses 44 = .ok (.iconst 4, 1) := by decide +kernel
theorem dL_areProcesses_45 : decode cL_areProcesses 45 = .ok (.invokestatic 147, 3) := by decide +kernel
theorem dL_areProcesses_48 : decode cL_areProcesses 48 = .ok (.aload_n 0, 1) := by decide +kernel
theorem dL_areProcesses_49 : decode cL_areProcesses 49 = .ok (.iload_n 1, 1) := by decide +kernel
theorem dL_areProcesses_50 : decode cL_areProcesses 50 = .ok (.iconst 2, 1) := by decide +kernel
theorem dL_areProcesses_51 : decode cL_areProcesses 51 = .ok (.iadd, 1) := by decide +kernel
theorem dL_areProcesses_52 : decode cL_areProcesses 52 = .ok (.iconst 3, 1) := by decide +kernel
theorem dL_areProcesses_53 : decode cL_areProcesses 53 = .ok (.iload 5, 2) := by decide +kernel
theorem dL_areProcesses_55 : decode cL_areProcesses 55 = .ok (.imul, 1) := by decide +kernel
theorem dL_areProcesses_56 : decode cL_areProcesses 56 = .ok (.iadd, 1) := by decide +kernel
theorem dL_areProcesses_57 : decode cL_areProcesses 57 = .ok (.iconst 2, 1) := by decide +kernel
theorem dL_areProcesses_58 : decode cL_areProcesses 58 = .ok (.invokestatic 147, 3) := by decide +kernel
theorem dL_areProcesses_61 : decode cL_areProcesses 61 = .ok (.aload_n 0, 1) := by decide +kernel
theorem dL_areProcesses_62 : decode cL_areProcesses 62 = .ok (.iload_n 1, 1) := by decide +kernel
theorem dL_areProcesses_63 : decode cL_areProcesses 63 = .ok (.iconst 3, 1) := by decide +kernel
theorem dL_areProcesses_64 : decode cL_areProcesses 64 = .ok (.iadd, 1) := by decide +kernel
theorem dL_areProcesses_65 : decode cL_areProcesses 65 = .ok (.iconst 3, 1) := by decide +kernel
theorem dL_areProcesses_66 : decode cL_areProcesses 66 = .ok (.iload 5, 2) := by decide +kernel
theorem dL_areProcesses_68 : decode cL_areProcesses 68 = .ok (.imul, 1) := by decide +kernel
theorem dL_areProcesses_69 : decode cL_areProcesses 69 = .ok (.iadd, 1) := by decide +kernel
theorem dL_areProcesses_70 : decode cL_areProcesses 70 = .ok (.iconst 2, 1) := by decide +kernel
theorem dL_areProcesses_71 : decode cL_areProcesses 71 = .ok (.invokestatic 147, 3) := by decide +kernel
theorem dL_areProcesses_74 : decode cL_areProcesses 74 = .ok (.invokestatic 126, 3) := by decide +kernel
theorem dL_areProcesses_77 : decode cL_areProcesses 77 = .ok (.ifCond .le 7, 3) := by decide +kernel
theorem dL_areProcesses_80 : decode cL_areProcesses 80 = .ok (.iconst 1, 1) := by decide +kernel
theorem dL_areProcesses_81 : decode cL_areProcesses 81 = .ok (.goto 4, 3) := by decide +kernel
theorem dL_areProcesses_84 : decode cL_areProcesses 84 = .ok (.iconst 0, 1) := by decide +kernel
theorem dL_areProcesses_85 : decode cL_areProcesses 85 = .ok (.invokestatic 253, 3) := by decide +kernel
theorem dL_areProcesses_88 : decode cL_areProcesses 88 = .ok (.iadd, 1) := by decide +kernel
theorem dL_areProcesses_89 : decode cL_areProcesses 89 = .ok (.istore 4, 2) := by decide +kernel
theorem dL_areProcesses_91 : decode cL_areProcesses 91 = .ok (.iinc 5 1, 3) := by decide +kernel
theorem dL_areProcesses_94 : decode cL_areProcesses 94 = .ok (.goto (-70), 3) := by decide +kernel
theorem dL_areProcesses_97 : decode cL_areProcesses 97 = .ok (.aload_n 2, 1) := by decide +kernel
theorem dL_areProcesses_98 : decode cL_areProcesses 98 = .ok (.bipush 32, 2) := by decide +kernel
theorem dL_areProcesses_100 : decode cL_areProcesses 100 = .ok (.iconst 0, 1) := by decide +kernel
theorem dL_areProcesses_101 : decode cL_areProcesses 101 = .ok (.iconst 0, 1) := by decide +kernel
theorem dL_areProcesses_102 : decode cL_areProcesses 102 = .ok (.invokestatic 137, 3) := by decide +kernel
theorem dL_areProcesses_105 : decode cL_areProcesses 105 = .ok (.istore 5, 2) := by decide +kernel
theorem dL_areProcesses_107 : decode cL_areProcesses 107 = .ok (.aload_n 2, 1) := by decide +kernel
theorem dL_areProcesses_108 : decode cL_areProcesses 108 = .ok (.iload 5, 2) := by decide +kernel
theorem dL_areProcesses_110 : decode cL_areProcesses 110 = .ok (.ldc 122, 2) := by decide +kernel
theorem dL_areProcesses_112 : decode cL_areProcesses 112 = .ok (.if_icmp .ne 8, 3) := by decide +kernel
theorem dL_areProcesses_115 : decode cL_areProcesses 115 = .ok (.bipush 16, 2) := by decide +kernel
theorem dL_areProcesses_117 : decode cL_areProcesses 117 = .ok (.goto 5, 3) := by decide +kernel
theorem dL_areProcesses_120 : decode cL_areProcesses 120 = .ok (.iload 5, 2) := by decide +kernel
theorem dL_areProcesses_122 : decode cL_areProcesses 122 = .ok (.invokestatic 262, 3) := by decide +kernel
theorem dL_areProcesses_125 : decode cL_areProcesses 125 = .ok (.ifCond .eq 55, 3) := by decide +kernel
theorem dL_areProcesses_128 : decode cL_areProcesses 128 = .ok (.aload_n 2, 1) := by decide +kernel
theorem dL_areProcesses_129 : decode cL_areProcesses 129 = .ok (.invokevirtual 266, 3) := by decide +kernel
theorem dL_areProcesses_132 : decode cL_areProcesses 132 = .ok (.iload 5, 2) := by decide +kernel
theorem dL_areProcesses_134 : decode cL_areProcesses 134 = .ok (.ldc 122, 2) := by decide +kernel
theorem dL_areProcesses_136 : decode cL_areProcesses 136 = .ok (.if_icmp .ne 7, 3) := by decide +kernel
theorem dL_areProcesses_139 : decode cL_areProcesses 139 = .ok (.iconst 1, 1) := by decide +kernel
theorem dL_areProcesses_140 : decode cL_areProcesses 140 = .ok (.goto 4, 3) := by decide +kernel
theorem dL_areProcesses_143 : decode cL_areProcesses 143 = .ok (.iconst 0, 1) := by decide +kernel
theorem dL_areProcesses_144 : decode cL_areProcesses 144 = .ok (.if_icmp .ne 36, 3) := by decide +kernel
theorem dL_areProcesses_147 : decode cL_areProcesses 147 = .ok (.aload_n 2, 1) := by decide +kernel
theorem dL_areProcesses_148 : decode cL_areProcesses 148 = .ok (.invokevirtual 269, 3) := by decide +kernel
theorem dL_areProcesses_151 : decode cL_areProcesses 151 = .ok (.iload 4, 2) := by decide +kernel
theorem dL_areProcesses_153 : decode cL_areProcesses 153 = .ok (.if_icmp .ne 7, 3) := by decide +kernel
theorem dL_areProcesses_156 : decode cL_areProcesses 156 = .ok (.iconst 1, 1) := by decide +kernel
theorem dL_areProcesses_157 : decode cL_areProcesses 157 = .ok (.goto 4, 3) := by decide +kernel
theorem dL_areProcesses_160 : decode cL_areProcesses 160 = .ok (.iconst 0, 1) := by decide +kernel
theorem dL_areProcesses_161 : decode cL_areProcesses 161 = .ok (.iload 5, 2) := by decide +kernel
theorem dL_areProcesses_163 : decode cL_areProcesses 163 = .ok (.ldc 122, 2) := by decide +kernel
theorem dL_areProcesses_165 : decode cL_areProcesses 165 = .ok (.if_icmp .eq 7, 3) := by decide +kernel
theorem dL_areProcesses_168 : decode cL_areProcesses 168 = .ok (.iconst 1, 1) := by decide +kernel
theorem dL_areProcesses_169 : decode cL_areProcesses 169 = .ok (.goto 4, 3) := by decide +kernel
theorem dL_areProcesses_172 : decode cL_areProcesses 172 = .ok (.iconst 0, 1) := by decide +kernel
theorem dL_areProcesses_173 : decode cL_areProcesses 173 = .ok (.if_icmp .ne 7, 3) := by decide +kernel
theorem dL_areProcesses_176 : decode cL_areProcesses 176 = .ok (.iconst 1, 1) := by decide +kernel
theorem dL_areProcesses_177 : decode cL_areProcesses 177 = .ok (.goto 4, 3) := by decide +kernel
theorem dL_areProcesses_180 : decode cL_areProcesses 180 = .ok (.iconst 0, 1) := by decide +kernel
theorem dL_areProcesses_181 : decode cL_areProcesses 181 = .ok (.istore 6, 2) := by decide +kernel
theorem dL_areProcesses_183 : decode cL_areProcesses 183 = .ok (.iload 5, 2) := by decide +kernel
theorem dL_areProcesses_185 : decode cL_areProcesses 185 = .ok (.iconst 1, 1) := by decide +kernel
theorem dL_areProcesses_186 : decode cL_areProcesses 186 = .ok (.if_icmp .le 42, 3) := by decide +kernel
theorem dL_areProcesses_189 : decode cL_areProcesses 189 = .ok (.iload 6, 2) := by decide +kernel
theorem dL_areProcesses_191 : decode cL_areProcesses 191 = .ok (.ifCond .eq 34, 3) := by decide +kernel
theorem dL_areProcesses_194 : decode cL_areProcesses 194 = .ok (.aload_n 2, 1) := by decide +kernel
theorem dL_areProcesses_195 : decode cL_areProcesses 195 = .ok (.iload 5, 2) := by decide +kernel
theorem dL_areProcesses_197 : decode cL_areProcesses 197 = .ok (.iconst 1, 1) := by decide +kernel
theorem dL_areProcesses_198 : decode cL_areProcesses 198 = .ok (.isub, 1) := by decide +kernel
theorem dL_areProcesses_199 : decode cL_areProcesses 199 = .ok (.invokestatic 262, 3) := by decide +kernel
theorem dL_areProcesses_202 : decode cL_areProcesses 202 = .ok (.ifCond .eq 23, 3) := by decide +kernel
theorem dL_areProcesses_205 : decode cL_areProcesses 205 = .ok (.aload_n 2, 1) := by decide +kernel
theorem dL_areProcesses_206 : decode cL_areProcesses 206 = .ok (.invokevirtual 266, 3) := by decide +kernel
theorem dL_areProcesses_209 : decode cL_areProcesses 209 = .ok (.ifCond .eq 16, 3) := by decide +kernel
theorem dL_areProcesses_212 : decode cL_areProcesses 212 = .ok (.aload_n 2, 1) := by decide +kernel
theorem dL_areProcesses_213 : decode cL_areProcesses 213 = .ok (.invokevirtual 269, 3) := by decide +kernel
theorem dL_areProcesses_216 : decode cL_areProcesses 216 = .ok (.iload 4, 2) := by decide +kernel
theorem dL_areProcesses_218 : decode cL_areProcesses 218 = .ok (.if_icmp .ge 7, 3) := by decide +kernel
theorem dL_areProcesses_221 : decode cL_areProcesses 221 = .ok (.iconst 1, 1) := by decide +kernel
theorem dL_areProcesses_222 : decode cL_areProcesses 222 = .ok (.goto 4, 3) := by decide +kernel
theorem dL_areProcesses_225 : decode cL_areProcesses 225 = .ok (.iconst 0, 1) := by decide +kernel
theorem dL_areProcesses_226 : decode cL_areProcesses 226 = .ok (.istore 6, 2) := by decide +kernel
theorem dL_areProcesses_228 : decode cL_areProcesses 228 = .ok (.iconst 0, 1) := by decide +kernel
theorem dL_areProcesses_229 : decode cL_areProcesses 229 = .ok (.istore 7, 2) := by decide +kernel
theorem dL_areProcesses_231 : decode cL_areProcesses 231 = .ok (.iconst 0, 1) := by decide +kernel
theorem dL_areProcesses_232 : decode cL_areProcesses 232 = .ok (.istore 8, 2) := by decide +kernel
theorem dL_areProcesses_234 : decode cL_areProcesses 234 = .ok (.iload 8, 2) := by decide +kernel
theorem dL_areProcesses_236 : decode cL_areProcesses 236 = .ok (.iconst 4, 1) := by decide +kernel
theorem dL_areProcesses_237 : decode cL_areProcesses 237 = .ok (.if_icmp .ge 35, 3) := by decide +kernel
theorem dL_areProcesses_240 : decode cL_areProcesses 240 = .ok (.iload 7, 2) := by decide +kernel
theorem dL_areProcesses_242 : decode cL_areProcesses 242 = .ok (.aload_n 2, 1) := by decide +kernel
theorem dL_areProcesses_243 : decode cL_areProcesses 243 = .ok (.bipush 12, 2) := by decide +kernel
theorem dL_areProcesses_245 : decode cL_areProcesses 245 = .ok (.iload 8, 2) := by decide +kernel
theorem dL_areProcesses_247 : decode cL_areProcesses 247 = .ok (.iconst 0, 1) := by decide +kernel
theorem dL_areProcesses_248 : decode cL_areProcesses 248 = .ok (.invokestatic 137, 3) := by decide +kernel
theorem dL_areProcesses_251 : decode cL_areProcesses 251 = .ok (.iconst (-1), 1) := by decide +kernel
theorem dL_areProcesses_252 : decode cL_areProcesses 252 = .ok (.if_icmp .eq 7, 3) := by decide +kernel
theorem dL_areProcesses_255 : decode cL_areProcesses 255 = .ok (.iconst 1, 1) := by decide +kernel
theorem dL_areProcesses_256 : decode cL_areProcesses 256 = .ok (.goto 4, 3) := by decide +kernel
theorem dL_areProcesses_259 : decode cL_areProcesses 259 = .ok (.iconst 0, 1) := by decide +kernel
theorem dL_areProcesses_260 : decode cL_areProcesses 260 = .ok (.invokestatic 253, 3) := by decide +kernel
theorem dL_areProcesses_263 : decode cL_areProcesses 263 = .ok (.iadd, 1) := by decide +kernel
theorem dL_areProcesses_264 : decode cL_areProcesses 264 = .ok (.istore 7, 2) := by decide +kernel
theorem dL_areProcesses_266 : decode cL_areProcesses 266 = .ok (.iinc 8 1, 3) := by decide +kernel
theorem dL_areProcesses_269 : decode cL_areProcesses 269 = .ok (.goto (-35), 3) := by decide +kernel
theorem dL_areProcesses_272 : decode cL_areProcesses 272 = .ok (.iload 6, 2) := by decide +kernel
theorem dL_areProcesses_274 : decode cL_areProcesses 274 = .ok (.ifCond .eq 24, 3) := by decide +kernel
theorem dL_areProcesses_277 : decode cL_areProcesses 277 = .ok (.iload 7, 2) := by decide +kernel
theorem dL_areProcesses_279 : decode cL_areProcesses 279 = .ok (.ifCond .le 7, 3) := by decide +kernel
theorem dL_areProcesses_282 : decode cL_areProcesses 282 = .ok (.iconst 1, 1) := by decide +kernel
theorem dL_areProcesses_283 : decode cL_areProcesses 283 = .ok (.goto 4, 3) := by decide +kernel
theorem dL_areProcesses_286 : decode cL_areProcesses 286 = .ok (.iconst 0, 1) := by decide +kernel
theorem dL_areProcesses_287 : decode cL_areProcesses 287 = .ok (.aload_n 2, 1) := by decide +kernel
theorem dL_areProcesses_288 : decode cL_areProcesses 288 = .ok (.invokevirtual 266, 3) := by decide +kernel
theorem dL_areProcesses_291 : decode cL_areProcesses 291 = .ok (.if_icmp .ne 7, 3) := by decide +kernel
theorem dL_areProcesses_294 : decode cL_areProcesses 294 = .ok (.iconst 1, 1) := by decide +kernel
theorem dL_areProcesses_295 : decode cL_areProcesses 295 = .ok (.goto 4, 3) := by decide +kernel
theorem dL_areProcesses_298 : decode cL_areProcesses 298 = .ok (.iconst 0, 1) := by decide +kernel
theorem dL_areProcesses_299 : decode cL_areProcesses 299 = .ok (.ireturn, 1) := by decide +kernel
theorem dL_depths_0 : decode cL_depths 0 = .ok (.iconst 1, 1) := by decide +kernel
theorem dL_depths_1 : decode cL_depths 1 = .ok (.istore_n 2, 1) := by decide +kernel
theorem dL_depths_2 : decode cL_depths 2 = .ok (.iconst 0, 1) := by decide +kernel
theorem dL_depths_3 : decode cL_depths 3 = .ok (.istore_n 3, 1) := by decide +kernel
theorem dL_depths_4 : decode cL_depths 4 = .ok (.iload_n 3, 1) := by decide +kernel
theorem dL_depths_5 : decode cL_depths 5 = .ok (.iconst 4, 1) := by decide +kernel
theorem dL_depths_6 : decode cL_depths 6 = .ok (.if_icmp .ge 30, 3) := by decide +kernel
theorem dL_depths_9 : decode cL_depths 9 = .ok (.iload_n 2, 1) := by decide +kernel
theorem dL_depths_10 : decode cL_depths 10 = .ok (.ifCond .eq 18, 3) := by decide +kernel
theorem dL_depths_13 : decode cL_depths 13 = .ok (.aload_n 0, 1) := by decide +kernel
theorem dL_depths_14 : decode cL_depths 14 = .ok (.bipush 11, 2) := by decide +kernel
theorem dL_depths_16 : decode cL_depths 16 = .ok (.iload_n 3, 1) := by decide +kernel
theorem dL_depths_17 : decode cL_depths 17 = .ok (.iload_n 1, 1) := by decide +kernel
theorem dL_depths_18 : decode cL_depths 18 = .ok (.invokestatic 137, 3) := by decide +kernel
theorem dL_depths_21 : decode cL_depths 21 = .ok (.ifCond .le 7, 3) := by decide +kernel
theorem dL_depths_24 : decode cL_depths 24 = .ok (.iconst 1, 1) := by decide +kernel
theorem dL_depths_25 : decode cL_depths 25 = .ok (.goto 4, 3) := by decide +kernel
theorem dL_depths_28 : decode cL_depths 28 = .ok (.iconst 0, 1) := by decide +kernel
theorem dL_depths_29 : decode cL_depths 29 = .ok (.istore_n 2, 1) := by decide +kernel
theorem dL_depths_30 : decode cL_depths 30 = .ok (.iinc 3 1, 3) := by decide +kernel
theorem dL_depths_33 : decode cL_depths 33 = .ok (.goto (-29), 3) := by decide +kernel
theorem dL_depths_36 : decode cL_depths 36 = .ok (.iload_n 2, 1) := by decide +kernel
theorem dL_depths_37 : decode cL_depths 37 = .ok (.ireturn, 1) := by decide +kernel
theorem dL_law_0 : decode cL_law 0 = .ok (.new 16, 3) := by decide +kernel
theorem dL_law_3 : decode cL_law 3 = .ok (.dup, 1) := by decide +kernel
theorem dL_law_4 : decode cL_law 4 = .ok (.invokespecial 261, 3) := by decide +kernel
theorem dL_law_7 : decode cL_law 7 = .ok (.astore_n 1, 1) := by decide +kernel
theorem dL_law_8 : decode cL_law 8 = .ok (.aload_n 1, 1) := by decide +kernel
theorem dL_law_9 : decode cL_law 9 = .ok (.aload_n 0, 1) := by decide +kernel
theorem dL_law_10 : decode cL_law 10 = .ok (.invokestatic 271, 3) := by decide +kernel
theorem dL_law_13 : decode cL_law 13 = .ok (.ifCond .eq 38, 3) := by decide +kernel
theorem dL_law_16 : decode cL_law 16 = .ok (.aload_n 1, 1) := by decide +kernel
theorem dL_law_17 : decode cL_law 17 = .ok (.invokestatic 275, 3) := by decide +kernel
theorem dL_law_20 : decode cL_law 20 = .ok (.ifCond .eq 31, 3) := by decide +kernel
theorem dL_law_23 : decode cL_law 23 = .ok (.aload_n 1, 1) := by decide +kernel
theorem dL_law_24 : decode cL_law 24 = .ok (.invokestatic 278, 3) := by decide +kernel
theorem dL_law_27 : decode cL_law 27 = .ok (.ifCond .eq 24, 3) := by decide +kernel
theorem dL_law_30 : decode cL_law 30 = .ok (.aload_n 0, 1) := by decide +kernel
theorem dL_law_31 : decode cL_law 31 = .ok (.sipush 200, 3) := by decide +kernel
theorem dL_law_34 : decode cL_law 34 = .ok (.invokestatic 281, 3) := by decide +kernel
theorem dL_law_37 : decode cL_law 37 = .ok (.ifCond .eq 14, 3) := by decide +kernel
theorem dL_law_40 : decode cL_law 40 = .ok (.aload_n 1, 1) := by decide +kernel
theorem dL_law_41 : decode cL_law 41 = .ok (.invokevirtual 285, 3) := by decide +kernel
theorem dL_law_44 : decode cL_law 44 = .ok (.ifCond .eq 7, 3) := by decide +kernel
theorem dL_law_47 : decode cL_law 47 = .ok (.iconst 1, 1) := by decide +kernel
theorem dL_law_48 : decode cL_law 48 = .ok (.goto 4, 3) := by decide +kernel
theorem dL_law_51 : decode cL_law 51 = .ok (.iconst 0, 1) := by decide +kernel
theorem dL_law_52 : decode cL_law 52 = .ok (.ireturn, 1) := by decide +kernel
