theorem dX0_init_0 : decode cX0_init 0 = .ok (.aload_n 0, 1) := by decide +kernel
theorem dX0_init_1 : decode cX0_init 1 = .ok (.invokespecial 3, 3) := by decide +kernel
theorem dX0_init_4 : decode cX0_init 4 = .ok (.aload_n 0, 1) := by decide +kernel
theorem dX0_init_5 : decode cX0_init 5 = .ok (.bipush 96, 2) := by decide +kernel
theorem dX0_init_7 : decode cX0_init 7 = .ok (.anewarray 9, 3) := by decide +kernel
theorem dX0_init_10 : decode cX0_init 10 = .ok (.putfield 11, 3) := by decide +kernel
theorem dX0_init_13 : decode cX0_init 13 = .ok (.aload_n 0, 1) := by decide +kernel
theorem dX0_init_14 : decode cX0_init 14 = .ok (.bipush 7, 2) := by decide +kernel
theorem dX0_init_16 : decode cX0_init 16 = .ok (.newarray .int, 2) := by decide +kernel
theorem dX0_init_18 : decode cX0_init 18 = .ok (.putfield 17, 3) := by decide +kernel
theorem dX0_init_21 : decode cX0_init 21 = .ok (.aload_n 0, 1) := by decide +kernel
theorem dX0_init_22 : decode cX0_init 22 = .ok (.bipush 7, 2) := by decide +kernel
theorem dX0_init_24 : decode cX0_init 24 = .ok (.newarray .int, 2) := by decide +kernel
theorem dX0_init_26 : decode cX0_init 26 = .ok (.putfield 21, 3) := by decide +kernel
theorem dX0_init_29 : decode cX0_init 29 = .ok (.aload_n 0, 1) := by decide +kernel
theorem dX0_init_30 : decode cX0_init 30 = .ok (.bipush 7, 2) := by decide +kernel
theorem dX0_init_32 : decode cX0_init 32 = .ok (.newarray .int, 2) := by decide +kernel
theorem dX0_init_34 : decode cX0_init 34 = .ok (.putfield 24, 3) := by decide +kernel
theorem dX0_init_37 : decode cX0_init 37 = .ok (.iconst 0, 1) := by decide +kernel
theorem dX0_init_38 : decode cX0_init 38 = .ok (.istore_n 1, 1) := by decide +kernel
theorem dX0_init_39 : decode cX0_init 39 = .ok (.iload_n 1, 1) := by decide +kernel
theorem dX0_init_40 : decode cX0_init 40 = .ok (.bipush 96, 2) := by decide +kernel
theorem dX0_init_42 : decode cX0_init 42 = .ok (.if_icmp .ge 22, 3) := by decide +kernel
theorem dX0_init_45 : decode cX0_init 45 = .ok (.aload_n 0, 1) := by decide +kernel
theorem dX0_init_46 : decode cX0_init 46 = .ok (.getfield 11, 3) := by decide +kernel
theorem dX0_init_49 : decode cX0_init 49 = .ok (.iload_n 1, 1) := by decide +kernel
theorem dX0_init_50 : decode cX0_init 50 = .ok (.new 9, 3) := by decide +kernel
theorem dX0_init_53 : decode cX0_init 53 = .ok (.dup, 1) := by decide +kernel
theorem dX0_init_54 : decode cX0_init 54 = .ok (.invokespecial 27, 3) := by decide +kernel
theorem dX0_init_57 : decode cX0_init 57 = .ok (.aastore, 1) := by decide +kernel
theorem dX0_init_58 : decode cX0_init 58 = .ok (.iinc 1 1, 3) := by decide +kernel
theorem dX0_init_61 : decode cX0_init 61 = .ok (.goto (-22), 3) := by decide +kernel
theorem dX0_init_64 : decode cX0_init 64 = .ok (.iconst 0, 1) := by decide +kernel
theorem dX0_init_65 : decode cX0_init 65 = .ok (.istore_n 1, 1) := by decide +kernel
theorem dX0_init_66 : decode cX0_init 66 = .ok (.iload_n 1, 1) := by decide +kernel
theorem dX0_init_67 : decode cX0_init 67 = .ok (.bipush 7, 2) := by decide +kernel
theorem dX0_init_69 : decode cX0_init 69 = .ok (.if_icmp .ge 23, 3) := by decide +kernel
theorem dX0_init_72 : decode cX0_init 72 = .ok (.aload_n 0, 1) := by decide +kernel
theorem dX0_init_73 : decode cX0_init 73 = .ok (.getfield 17, 3) := by decide +kernel
theorem dX0_init_76 : decode cX0_init 76 = .ok (.iload_n 1, 1) := by decide +kernel
theorem dX0_init_77 : decode cX0_init 77 = .ok (.iconst 1, 1) := by decide +kernel
theorem dX0_init_78 : decode cX0_init 78 = .ok (.iastore, 1) := by decide +kernel
theorem dX0_init_79 : decode cX0_init 79 = .ok (.aload_n 0, 1) := by decide +kernel
theorem dX0_init_80 : decode cX0_init 80 = .ok (.getfield 21, 3) := by decide +kernel
theorem dX0_init_83 : decode cX0_init 83 = .ok (.iload_n 1, 1) := by decide +kernel
theorem dX0_init_84 : decode cX0_init 84 = .ok (.iconst 1, 1) := by decide +kernel
theorem dX0_init_85 : decode cX0_init 85 = .ok (.iastore, 1) := by decide +kernel
theorem dX0_init_86 : decode cX0_init 86 = .ok (.iinc 1 1, 3) := by decide +kernel
theorem dX0_init_89 : decode cX0_init 89 = .ok (.goto (-23), 3) := by decide +kernel
theorem dX0_init_92 : decode cX0_init 92 = .ok (.return_, 1) := by decide +kernel
theorem dX0_number_0 : decode cX0_number 0 = .ok (.aload_n 0, 1) := by decide +kernel
theorem dX0_number_1 : decode cX0_number 1 = .ok (.iconst 0, 1) := by decide +kernel
theorem dX0_number_2 : decode cX0_number 2 = .ok (.putfield 28, 3) := by decide +kernel
theorem dX0_number_5 : decode cX0_number 5 = .ok (.iconst 0, 1) := by decide +kernel
theorem dX0_number_6 : decode cX0_number 6 = .ok (.istore_n 2, 1) := by decide +kernel
theorem dX0_number_7 : decode cX0_number 7 = .ok (.iload_n 2, 1) := by decide +kernel
theorem dX0_number_8 : decode cX0_number 8 = .ok (.bipush 7, 2) := by decide +kernel
theorem dX0_number_10 : decode cX0_number 10 = .ok (.if_icmp .ge 16, 3) := by decide +kernel
theorem dX0_number_13 : decode cX0_number 13 = .ok (.aload_n 0, 1) := by decide +kernel
theorem dX0_number_14 : decode cX0_number 14 = .ok (.getfield 24, 3) := by decide +kernel
theorem dX0_number_17 : decode cX0_number 17 = .ok (.iload_n 2, 1) := by decide +kernel
theorem dX0_number_18 : decode cX0_number 18 = .ok (.iconst 0, 1) := by decide +kernel
theorem dX0_number_19 : decode cX0_number 19 = .ok (.iastore, 1) := by decide +kernel
theorem dX0_number_20 : decode cX0_number 20 = .ok (.iinc 2 1, 3) := by decide +kernel
theorem dX0_number_23 : decode cX0_number 23 = .ok (.goto (-16), 3) := by decide +kernel
theorem dX0_number_26 : decode cX0_number 26 = .ok (.iconst 0, 1) := by decide +kernel
theorem dX0_number_27 : decode cX0_number 27 = .ok (.istore_n 2, 1) := by decide +kernel
theorem dX0_number_28 : decode cX0_number 28 = .ok (.iload_n 2, 1) := by decide +kernel
theorem dX0_number_29 : decode cX0_number 29 = .ok (.aload_n 1, 1) := by decide +kernel
theorem dX0_number_30 : decode cX0_number 30 = .ok (.getfield 32, 3) := by decide +kernel
theorem dX0_number_33 : decode cX0_number 33 = .ok (.if_icmp .ge 44, 3) := by decide +kernel
theorem dX0_number_36 : decode cX0_number 36 = .ok (.iconst 0, 1) := by decide +kernel
theorem dX0_number_37 : decode cX0_number 37 = .ok (.istore_n 3, 1) := by decide +kernel
theorem dX0_number_38 : decode cX0_number 38 = .ok (.iload_n 3, 1) := by decide +kernel
theorem dX0_number_39 : decode cX0_number 39 = .ok (.aload_n 1, 1) := by decide +kernel
theorem dX0_number_40 : decode cX0_number 40 = .ok (.getfield 37, 3) := by decide +kernel
theorem dX0_number_43 : decode cX0_number 43 = .ok (.if_icmp .ge 28, 3) := by decide +kernel
theorem dX0_number_46 : decode cX0_number 46 = .ok (.aload_n 0, 1) := by decide +kernel
theorem dX0_number_47 : decode cX0_number 47 = .ok (.aload_n 1, 1) := by decide +kernel
theorem dX0_number_48 : decode cX0_number 48 = .ok (.getfield 38, 3) := by decide +kernel
theorem dX0_number_51 : decode cX0_number 51 = .ok (.iload_n 3, 1) := by decide +kernel
theorem dX0_number_52 : decode cX0_number 52 = .ok (.aaload, 1) := by decide +kernel
theorem dX0_number_53 : decode cX0_number 53 = .ok (.iload_n 2, 1) := by decide +kernel
theorem dX0_number_54 : decode cX0_number 54 = .ok (.aload_n 1, 1) := by decide +kernel
theorem dX0_number_55 : decode cX0_number 55 = .ok (.getfield 37, 3) := by decide +kernel
theorem dX0_number_58 : decode cX0_number 58 = .ok (.imul, 1) := by decide +kernel
theorem dX0_number_59 : decode cX0_number 59 = .ok (.iload_n 3, 1) := by decide +kernel
theorem dX0_number_60 : decode cX0_number 60 = .ok (.iadd, 1) := by decide +kernel
theorem dX0_number_61 : decode cX0_number 61 = .ok (.iload_n 2, 1) := by decide +kernel
theorem dX0_number_62 : decode cX0_number 62 = .ok (.invokevirtual 42, 3) := by decide +kernel
theorem dX0_number_65 : decode cX0_number 65 = .ok (.iinc 3 1, 3) := by decide +kernel
theorem dX0_number_68 : decode cX0_number 68 = .ok (.goto (-30), 3) := by decide +kernel
theorem dX0_number_71 : decode cX0_number 71 = .ok (.iinc 2 1, 3) := by decide +kernel
theorem dX0_number_74 : decode cX0_number 74 = .ok (.goto (-46), 3) := by decide +kernel
theorem dX0_number_77 : decode cX0_number 77 = .ok (.return_, 1) := by decide +kernel
theorem dX0_numberOne_0 : decode cX0_numberOne 0 = .ok (.aload_n 0, 1) := by decide +kernel
theorem dX0_numberOne_1 : decode cX0_numberOne 1 = .ok (.aload_n 1, 1) := by decide +kernel
theorem dX0_numberOne_2 : decode cX0_numberOne 2 = .ok (.iload_n 2, 1) := by decide +kernel
theorem dX0_numberOne_3 : decode cX0_numberOne 3 = .ok (.iload_n 3, 1) := by decide +kernel
theorem dX0_numberOne_4 : decode cX0_numberOne 4 = .ok (.iconst 1, 1) := by decide +kernel
theorem dX0_numberOne_5 : decode cX0_numberOne 5 = .ok (.invokevirtual 46, 3) := by decide +kernel
theorem dX0_numberOne_8 : decode cX0_numberOne 8 = .ok (.istore 4, 2) := by decide +kernel
theorem dX0_numberOne_10 : decode cX0_numberOne 10 = .ok (.aload_n 0, 1) := by decide +kernel
theorem dX0_numberOne_11 : decode cX0_numberOne 11 = .ok (.aload_n 1, 1) := by decide +kernel
theorem dX0_numberOne_12 : decode cX0_numberOne 12 = .ok (.iload_n 2, 1) := by decide +kernel
theorem dX0_numberOne_13 : decode cX0_numberOne 13 = .ok (.iload_n 3, 1) := by decide +kernel
theorem dX0_numberOne_14 : decode cX0_numberOne 14 = .ok (.iconst 2, 1) := by decide +kernel
theorem dX0_numberOne_15 : decode cX0_numberOne 15 = .ok (.invokevirtual 46, 3) := by decide +kernel
theorem dX0_numberOne_18 : decode cX0_numberOne 18 = .ok (.istore 5, 2) := by decide +kernel
theorem dX0_numberOne_20 : decode cX0_numberOne 20 = .ok (.aload_n 1, 1) := by decide +kernel
theorem dX0_numberOne_21 : decode cX0_numberOne 21 = .ok (.iconst 0, 1) := by decide +kernel
theorem dX0_numberOne_22 : decode cX0_numberOne 22 = .ok (.invokevirtual 50, 3) := by decide +kernel
theorem dX0_numberOne_25 : decode cX0_numberOne 25 = .ok (.istore 6, 2) := by decide +kernel
theorem dX0_numberOne_27 : decode cX0_numberOne 27 = .ok (.iload 4, 2) := by decide +kernel
theorem dX0_numberOne_29 : decode cX0_numberOne 29 = .ok (.istore 7, 2) := by decide +kernel
theorem dX0_numberOne_31 : decode cX0_numberOne 31 = .ok (.aload_n 1, 1) := by decide +kernel
theorem dX0_numberOne_32 : decode cX0_numberOne 32 = .ok (.invokevirtual 56, 3) := by decide +kernel
theorem dX0_numberOne_35 : decode cX0_numberOne 35 = .ok (.ifCond .eq 75, 3) := by decide +kernel
theorem dX0_numberOne_38 : decode cX0_numberOne 38 = .ok (.aload_n 0, 1) := by decide +kernel
theorem dX0_numberOne_39 : decode cX0_numberOne 39 = .ok (.aload_n 1, 1) := by decide +kernel
theorem dX0_numberOne_40 : decode cX0_numberOne 40 = .ok (.iload_n 2, 1) := by decide +kernel
theorem dX0_numberOne_41 : decode cX0_numberOne 41 = .ok (.iload_n 3, 1) := by decide +kernel
theorem dX0_numberOne_42 : decode cX0_numberOne 42 = .ok (.aload_n 1, 1) := by decide +kernel
theorem dX0_numberOne_43 : decode cX0_numberOne 43 = .ok (.invokevirtual 60, 3) := by decide +kernel
theorem dX0_numberOne_46 : decode cX0_numberOne 46 = .ok (.invokevirtual 64, 3) := by decide +kernel
theorem dX0_numberOne_49 : decode cX0_numberOne 49 = .ok (.istore 7, 2) := by decide +kernel
theorem dX0_numberOne_51 : decode cX0_numberOne 51 = .ok (.aload_n 0, 1) := by decide +kernel
theorem dX0_numberOne_52 : decode cX0_numberOne 52 = .ok (.getfield 11, 3) := by decide +kernel
theorem dX0_numberOne_55 : decode cX0_numberOne 55 = .ok (.iload 7, 2) := by decide +kernel
theorem dX0_numberOne_57 : decode cX0_numberOne 57 = .ok (.aaload, 1) := by decide +kernel
theorem dX0_numberOne_58 : decode cX0_numberOne 58 = .ok (.iconst 1, 1) := by decide +kernel
theorem dX0_numberOne_59 : decode cX0_numberOne 59 = .ok (.putfield 67, 3) := by decide +kernel
theorem dX0_numberOne_62 : decode cX0_numberOne 62 = .ok (.aload_n 0, 1) := by decide +kernel
theorem dX0_numberOne_63 : decode cX0_numberOne 63 = .ok (.getfield 11, 3) := by decide +kernel
theorem dX0_numberOne_66 : decode cX0_numberOne 66 = .ok (.iload 7, 2) := by decide +kernel
theorem dX0_numberOne_68 : decode cX0_numberOne 68 = .ok (.aaload, 1) := by decide +kernel
theorem dX0_numberOne_69 : decode cX0_numberOne 69 = .ok (.iload 4, 2) := by decide +kernel
theorem dX0_numberOne_71 : decode cX0_numberOne 71 = .ok (.putfield 71, 3) := by decide +kernel
theorem dX0_numberOne_74 : decode cX0_numberOne 74 = .ok (.aload_n 0, 1) := by decide +kernel
theorem dX0_numberOne_75 : decode cX0_numberOne 75 = .ok (.getfield 11, 3) := by decide +kernel
theorem dX0_numberOne_78 : decode cX0_numberOne 78 = .ok (.iload 7, 2) := by decide +kernel
theorem dX0_numberOne_80 : decode cX0_numberOne 80 = .ok (.aaload, 1) := by decide +kernel
theorem dX0_numberOne_81 : decode cX0_numberOne 81 = .ok (.iload 5, 2) := by decide +kernel
theorem dX0_numberOne_83 : decode cX0_numberOne 83 = .ok (.putfield 74, 3) := by decide +kernel
theorem dX0_numberOne_86 : decode cX0_numberOne 86 = .ok (.aload_n 0, 1) := by decide +kernel
theorem dX0_numberOne_87 : decode cX0_numberOne 87 = .ok (.getfield 11, 3) := by decide +kernel
theorem dX0_numberOne_90 : decode cX0_numberOne 90 = .ok (.iload 7, 2) := by decide +kernel
theorem dX0_numberOne_92 : decode cX0_numberOne 92 = .ok (.aaload, 1) := by decide +kernel
theorem dX0_numberOne_93 : decode cX0_numberOne 93 = .ok (.aload_n 1, 1) := by decide +kernel
theorem dX0_numberOne_94 : decode cX0_numberOne 94 = .ok (.iconst 1, 1) := by decide +kernel
theorem dX0_numberOne_95 : decode cX0_numberOne 95 = .ok (.invokevirtual 77, 3) := by decide +kernel
theorem dX0_numberOne_98 : decode cX0_numberOne 98 = .ok (.aload_n 1, 1) := by decide +kernel
theorem dX0_numberOne_99 : decode cX0_numberOne 99 = .ok (.iconst 2, 1) := by decide +kernel
theorem dX0_numberOne_100 : decode cX0_numberOne 100 = .ok (.invokevirtual 77, 3) := by decide +kernel
theorem dX0_numberOne_103 : decode cX0_numberOne 103 = .ok (.ior, 1) := by decide +kernel
theorem dX0_numberOne_104 : decode cX0_numberOne 104 = .ok (.putfield 80, 3) := by decide +kernel
theorem dX0_numberOne_107 : decode cX0_numberOne 107 = .ok (.goto 40, 3) := by decide +kernel
theorem dX0_numberOne_110 : decode cX0_numberOne 110 = .ok (.iload 4, 2) := by decide +kernel
theorem dX0_numberOne_112 : decode cX0_numberOne 112 = .ok (.iconst (-1), 1) := by decide +kernel
theorem dX0_numberOne_113 : decode cX0_numberOne 113 = .ok (.if_icmp .ne 34, 3) := by decide +kernel
theorem dX0_numberOne_116 : decode cX0_numberOne 116 = .ok (.iload 6, 2) := by decide +kernel
theorem dX0_numberOne_118 : decode cX0_numberOne 118 = .ok (.iconst (-1), 1) := by decide +kernel
theorem dX0_numberOne_119 : decode cX0_numberOne 119 = .ok (.if_icmp .eq 28, 3) := by decide +kernel
theorem dX0_numberOne_122 : decode cX0_numberOne 122 = .ok (.aload_n 0, 1) := by decide +kernel
theorem dX0_numberOne_123 : decode cX0_numberOne 123 = .ok (.aload_n 1, 1) := by decide +kernel
theorem dX0_numberOne_124 : decode cX0_numberOne 124 = .ok (.iload_n 2, 1) := by decide +kernel
theorem dX0_numberOne_125 : decode cX0_numberOne 125 = .ok (.iload_n 3, 1) := by decide +kernel
theorem dX0_numberOne_126 : decode cX0_numberOne 126 = .ok (.iconst 2, 1) := by decide +kernel
theorem dX0_numberOne_127 : decode cX0_numberOne 127 = .ok (.invokevirtual 64, 3) := by decide +kernel
theorem dX0_numberOne_130 : decode cX0_numberOne 130 = .ok (.istore 7, 2) := by decide +kernel
theorem dX0_numberOne_132 : decode cX0_numberOne 132 = .ok (.aload_n 0, 1) := by decide +kernel
theorem dX0_numberOne_133 : decode cX0_numberOne 133 = .ok (.getfield 11, 3) := by decide +kernel
theorem dX0_numberOne_136 : decode cX0_numberOne 136 = .ok (.iload 7, 2) := by decide +kernel
theorem dX0_numberOne_138 : decode cX0_numberOne 138 = .ok (.aaload, 1) := by decide +kernel
theorem dX0_numberOne_139 : decode cX0_numberOne 139 = .ok (.aload_n 1, 1) := by decide +kernel
theorem dX0_numberOne_140 : decode cX0_numberOne 140 = .ok (.iconst 1, 1) := by decide +kernel
theorem dX0_numberOne_141 : decode cX0_numberOne 141 = .ok (.invokevirtual 77, 3) := by decide +kernel
theorem dX0_numberOne_144 : decode cX0_numberOne 144 = .ok (.putfield 80, 3) := by decide +kernel
theorem dX0_numberOne_147 : decode cX0_numberOne 147 = .ok (.iload 6, 2) := by decide +kernel
theorem dX0_numberOne_149 : decode cX0_numberOne 149 = .ok (.iconst (-1), 1) := by decide +kernel
theorem dX0_numberOne_150 : decode cX0_numberOne 150 = .ok (.if_icmp .ne 15, 3) := by decide +kernel
theorem dX0_numberOne_153 : decode cX0_numberOne 153 = .ok (.aload_n 0, 1) := by decide +kernel
theorem dX0_numberOne_154 : decode cX0_numberOne 154 = .ok (.aload_n 1, 1) := by decide +kernel
theorem dX0_numberOne_155 : decode cX0_numberOne 155 = .ok (.iload_n 2, 1) := by decide +kernel
theorem dX0_numberOne_156 : decode cX0_numberOne 156 = .ok (.iload_n 3, 1) := by decide +kernel
theorem dX0_numberOne_157 : decode cX0_numberOne 157 = .ok (.iload 7, 2) := by decide +kernel
theorem dX0_numberOne_159 : decode cX0_numberOne 159 = .ok (.invokevirtual 83, 3) := by decide +kernel
theorem dX0_numberOne_162 : decode cX0_numberOne 162 = .ok (.goto 21, 3) := by decide +kernel
theorem dX0_numberOne_165 : decode cX0_numberOne 165 = .ok (.iload 7, 2) := by decide +kernel
theorem dX0_numberOne_167 : decode cX0_numberOne 167 = .ok (.iconst (-1), 1) := by decide +kernel
theorem dX0_numberOne_168 : decode cX0_numberOne 168 = .ok (.if_icmp .eq 15, 3) := by decide +kernel
theorem dX0_numberOne_171 : decode cX0_numberOne 171 = .ok (.aload_n 0, 1) := by decide +kernel
theorem dX0_numberOne_172 : decode cX0_numberOne 172 = .ok (.getfield 11, 3) := by decide +kernel
theorem dX0_numberOne_175 : decode cX0_numberOne 175 = .ok (.iload 7, 2) := by decide +kernel
theorem dX0_numberOne_177 : decode cX0_numberOne 177 = .ok (.aaload, 1) := by decide +kernel
theorem dX0_numberOne_178 : decode cX0_numberOne 178 = .ok (.iload 6, 2) := by decide +kernel
theorem dX0_numberOne_180 : decode cX0_numberOne 180 = .ok (.putfield 87, 3) := by decide +kernel
theorem dX0_numberOne_183 : decode cX0_numberOne 183 = .ok (.return_, 1) := by decide +kernel
theorem dX0_appendReading_0 : decode cX0_appendReading 0 = .ok (.aload_n 1, 1) := by decide +kernel
theorem dX0_appendReading_1 : decode cX0_appendReading 1 = .ok (.iload 4, 2) := by decide +kernel
theorem dX0_appendReading_3 : decode cX0_appendReading 3 = .ok (.invokevirtual 90, 3) := by decide +kernel
theorem dX0_appendReading_6 : decode cX0_appendReading 6 = .ok (.ifCond .ne 5, 3) := by decide +kernel
theorem dX0_appendReading_9 : decode cX0_appendReading 9 = .ok (.iconst (-1), 1) := by decide +kernel
theorem dX0_appendReading_10 : decode cX0_appendReading 10 = .ok (.ireturn, 1) := by decide +kernel
theorem dX0_appendReading_11 : decode cX0_appendReading 11 = .ok (.aload_n 0, 1) := by decide +kernel
theorem dX0_appendReading_12 : decode cX0_appendReading 12 = .ok (.aload_n 1, 1) := by decide +kernel
theorem dX0_appendReading_13 : decode cX0_appendReading 13 = .ok (.iload_n 2, 1) := by decide +kernel
theorem dX0_appendReading_14 : decode cX0_appendReading 14 = .ok (.iload_n 3, 1) := by decide +kernel
theorem dX0_appendReading_15 : decode cX0_appendReading 15 = .ok (.aload_n 1, 1) := by decide +kernel
theorem dX0_appendReading_16 : decode cX0_appendReading 16 = .ok (.getfield 94, 3) := by decide +kernel
theorem dX0_appendReading_19 : decode cX0_appendReading 19 = .ok (.iload 4, 2) := by decide +kernel
theorem dX0_appendReading_21 : decode cX0_appendReading 21 = .ok (.iaload, 1) := by decide +kernel
theorem dX0_appendReading_22 : decode cX0_appendReading 22 = .ok (.invokevirtual 64, 3) := by decide +kernel
theorem dX0_appendReading_25 : decode cX0_appendReading 25 = .ok (.istore 5, 2) := by decide +kernel
theorem dX0_appendReading_27 : decode cX0_appendReading 27 = .ok (.aload_n 0, 1) := by decide +kernel
theorem dX0_appendReading_28 : decode cX0_appendReading 28 = .ok (.getfield 11, 3) := by decide +kernel
theorem dX0_appendReading_31 : decode cX0_appendReading 31 = .ok (.iload 5, 2) := by decide +kernel
theorem dX0_appendReading_33 : decode cX0_appendReading 33 = .ok (.aaload, 1) := by decide +kernel
theorem dX0_appendReading_34 : decode cX0_appendReading 34 = .ok (.iload 4, 2) := by decide +kernel
theorem dX0_appendReading_36 : decode cX0_appendReading 36 = .ok (.putfield 97, 3) := by decide +kernel
theorem dX0_appendReading_39 : decode cX0_appendReading 39 = .ok (.aload_n 0, 1) := by decide +kernel
theorem dX0_appendReading_40 : decode cX0_appendReading 40 = .ok (.getfield 11, 3) := by decide +kernel
theorem dX0_appendReading_43 : decode cX0_appendReading 43 = .ok (.iload 5, 2) := by decide +kernel
theorem dX0_appendReading_45 : decode cX0_appendReading 45 = .ok (.aaload, 1) := by decide +kernel
theorem dX0_appendReading_46 : decode cX0_appendReading 46 = .ok (.iload 4, 2) := by decide +kernel
theorem dX0_appendReading_48 : decode cX0_appendReading 48 = .ok (.invokevirtual 100, 3) := by decide +kernel
theorem dX0_appendReading_51 : decode cX0_appendReading 51 = .ok (.iload 5, 2) := by decide +kernel
theorem dX0_appendReading_53 : decode cX0_appendReading 53 = .ok (.ireturn, 1) := by decide +kernel
theorem dX0_appendWriting_0 : decode cX0_appendWriting 0 = .ok (.aload_n 0, 1) := by decide +kernel
theorem dX0_appendWriting_1 : decode cX0_appendWriting 1 = .ok (.aload_n 1, 1) := by decide +kernel
theorem dX0_appendWriting_2 : decode cX0_appendWriting 2 = .ok (.iload_n 2, 1) := by decide +kernel
theorem dX0_appendWriting_3 : decode cX0_appendWriting 3 = .ok (.iload_n 3, 1) := by decide +kernel
theorem dX0_appendWriting_4 : decode cX0_appendWriting 4 = .ok (.aload_n 1, 1) := by decide +kernel
theorem dX0_appendWriting_5 : decode cX0_appendWriting 5 = .ok (.getfield 94, 3) := by decide +kernel
theorem dX0_appendWriting_8 : decode cX0_appendWriting 8 = .ok (.iconst 0, 1) := by decide +kernel
theorem dX0_appendWriting_9 : decode cX0_appendWriting 9 = .ok (.iaload, 1) := by decide +kernel
theorem dX0_appendWriting_10 : decode cX0_appendWriting 10 = .ok (.invokevirtual 64, 3) := by decide +kernel
theorem dX0_appendWriting_13 : decode cX0_appendWriting 13 = .ok (.istore 5, 2) := by decide +kernel
theorem dX0_appendWriting_15 : decode cX0_appendWriting 15 = .ok (.aload_n 0, 1) := by decide +kernel
theorem dX0_appendWriting_16 : decode cX0_appendWriting 16 = .ok (.getfield 11, 3) := by decide +kernel
theorem dX0_appendWriting_19 : decode cX0_appendWriting 19 = .ok (.iload 5, 2) := by decide +kernel
theorem dX0_appendWriting_21 : decode cX0_appendWriting 21 = .ok (.aaload, 1) := by decide +kernel
theorem dX0_appendWriting_22 : decode cX0_appendWriting 22 = .ok (.iconst 1, 1) := by decide +kernel
theorem dX0_appendWriting_23 : decode cX0_appendWriting 23 = .ok (.putfield 104, 3) := by decide +kernel
theorem dX0_appendWriting_26 : decode cX0_appendWriting 26 = .ok (.aload_n 0, 1) := by decide +kernel
theorem dX0_appendWriting_27 : decode cX0_appendWriting 27 = .ok (.getfield 11, 3) := by decide +kernel
theorem dX0_appendWriting_30 : decode cX0_appendWriting 30 = .ok (.iload 5, 2) := by decide +kernel
theorem dX0_appendWriting_32 : decode cX0_appendWriting 32 = .ok (.aaload, 1) := by decide +kernel
theorem dX0_appendWriting_33 : decode cX0_appendWriting 33 = .ok (.iconst 0, 1) := by decide +kernel
theorem dX0_appendWriting_34 : decode cX0_appendWriting 34 = .ok (.invokevirtual 100, 3) := by decide +kernel
theorem dX0_appendWriting_37 : decode cX0_appendWriting 37 = .ok (.aload_n 0, 1) := by decide +kernel
theorem dX0_appendWriting_38 : decode cX0_appendWriting 38 = .ok (.getfield 11, 3) := by decide +kernel
theorem dX0_appendWriting_41 : decode cX0_appendWriting 41 = .ok (.iload 5, 2) := by decide +kernel
theorem dX0_appendWriting_43 : decode cX0_appendWriting 43 = .ok (.aaload, 1) := by decide +kernel
theorem dX0_appendWriting_44 : decode cX0_appendWriting 44 = .ok (.iload 4, 2) := by decide +kernel
theorem dX0_appendWriting_46 : decode cX0_appendWriting 46 = .ok (.putfield 71, 3) := by decide +kernel
theorem dX0_appendWriting_49 : decode cX0_appendWriting 49 = .ok (.aload_n 0, 1) := by decide +kernel
theorem dX0_appendWriting_50 : decode cX0_appendWriting 50 = .ok (.getfield 11, 3) := by decide +kernel
theorem dX0_appendWriting_53 : decode cX0_appendWriting 53 = .ok (.iload 5, 2) := by decide +kernel
theorem dX0_appendWriting_55 : decode cX0_appendWriting 55 = .ok (.aaload, 1) := by decide +kernel
theorem dX0_appendWriting_56 : decode cX0_appendWriting 56 = .ok (.iload 4, 2) := by decide +kernel
theorem dX0_appendWriting_58 : decode cX0_appendWriting 58 = .ok (.iconst (-1), 1) := by decide +kernel
theorem dX0_appendWriting_59 : decode cX0_appendWriting 59 = .ok (.if_icmp .ne 11, 3) := by decide +kernel
theorem dX0_appendWriting_62 : decode cX0_appendWriting 62 = .ok (.aload_n 1, 1) := by decide +kernel
theorem dX0_appendWriting_63 : decode cX0_appendWriting 63 = .ok (.iconst 1, 1) := by decide +kernel
theorem dX0_appendWriting_64 : decode cX0_appendWriting 64 = .ok (.invokevirtual 77, 3) := by decide +kernel
theorem dX0_appendWriting_67 : decode cX0_appendWriting 67 = .ok (.goto 4, 3) := by decide +kernel
theorem dX0_appendWriting_70 : decode cX0_appendWriting 70 = .ok (.iconst 0, 1) := by decide +kernel
theorem dX0_appendWriting_71 : decode cX0_appendWriting 71 = .ok (.putfield 80, 3) := by decide +kernel
theorem dX0_appendWriting_74 : decode cX0_appendWriting 74 = .ok (.return_, 1) := by decide +kernel
theorem dX0_append_0 : decode cX0_append 0 = .ok (.aload_n 0, 1) := by decide +kernel
theorem dX0_append_1 : decode cX0_append 1 = .ok (.getfield 28, 3) := by decide +kernel
theorem dX0_append_4 : decode cX0_append 4 = .ok (.bipush 95, 2) := by decide +kernel
theorem dX0_append_6 : decode cX0_append 6 = .ok (.invokestatic 107, 3) := by decide +kernel
theorem dX0_append_9 : decode cX0_append 9 = .ok (.istore 5, 2) := by decide +kernel
theorem dX0_append_11 : decode cX0_append 11 = .ok (.aload_n 0, 1) := by decide +kernel
theorem dX0_append_12 : decode cX0_append 12 = .ok (.getfield 11, 3) := by decide +kernel
theorem dX0_append_15 : decode cX0_append 15 = .ok (.iload 5, 2) := by decide +kernel
theorem dX0_append_17 : decode cX0_append 17 = .ok (.aaload, 1) := by decide +kernel
theorem dX0_append_18 : decode cX0_append 18 = .ok (.aload_n 1, 1) := by decide +kernel
theorem dX0_append_19 : decode cX0_append 19 = .ok (.iload_n 2, 1) := by decide +kernel
theorem dX0_append_20 : decode cX0_append 20 = .ok (.iload_n 3, 1) := by decide +kernel
theorem dX0_append_21 : decode cX0_append 21 = .ok (.iload 4, 2) := by decide +kernel
theorem dX0_append_23 : decode cX0_append 23 = .ok (.invokevirtual 113, 3) := by decide +kernel
theorem dX0_append_26 : decode cX0_append 26 = .ok (.aload_n 0, 1) := by decide +kernel
theorem dX0_append_27 : decode cX0_append 27 = .ok (.getfield 24, 3) := by decide +kernel
theorem dX0_append_30 : decode cX0_append 30 = .ok (.iload 4, 2) := by decide +kernel
theorem dX0_append_32 : decode cX0_append 32 = .ok (.dup2, 1) := by decide +kernel
theorem dX0_append_33 : decode cX0_append 33 = .ok (.iaload, 1) := by decide +kernel
theorem dX0_append_34 : decode cX0_append 34 = .ok (.iconst 1, 1) := by decide +kernel
theorem dX0_append_35 : decode cX0_append 35 = .ok (.iadd, 1) := by decide +kernel
theorem dX0_append_36 : decode cX0_append 36 = .ok (.iastore, 1) := by decide +kernel
theorem dX0_append_37 : decode cX0_append 37 = .ok (.aload_n 0, 1) := by decide +kernel
theorem dX0_append_38 : decode cX0_append 38 = .ok (.iload 5, 2) := by decide +kernel
theorem dX0_append_40 : decode cX0_append 40 = .ok (.iconst 1, 1) := by decide +kernel
theorem dX0_append_41 : decode cX0_append 41 = .ok (.iadd, 1) := by decide +kernel
theorem dX0_append_42 : decode cX0_append 42 = .ok (.putfield 28, 3) := by decide +kernel
theorem dX0_append_45 : decode cX0_append 45 = .ok (.iload 5, 2) := by decide +kernel
theorem dX0_append_47 : decode cX0_append 47 = .ok (.ireturn, 1) := by decide +kernel
theorem dX0_cyclesOf_0 : decode cX0_cyclesOf 0 = .ok (.aload_n 0, 1) := by decide +kernel
theorem dX0_cyclesOf_1 : decode cX0_cyclesOf 1 = .ok (.getfield 21, 3) := by decide +kernel
theorem dX0_cyclesOf_4 : decode cX0_cyclesOf 4 = .ok (.aload_n 0, 1) := by decide +kernel
theorem dX0_cyclesOf_5 : decode cX0_cyclesOf 5 = .ok (.getfield 11, 3) := by decide +kernel
theorem dX0_cyclesOf_8 : decode cX0_cyclesOf 8 = .ok (.iload_n 1, 1) := by decide +kernel
theorem dX0_cyclesOf_9 : decode cX0_cyclesOf 9 = .ok (.aaload, 1) := by decide +kernel
theorem dX0_cyclesOf_10 : decode cX0_cyclesOf 10 = .ok (.getfield 116, 3) := by decide +kernel
theorem dX0_cyclesOf_13 : decode cX0_cyclesOf 13 = .ok (.iaload, 1) := by decide +kernel
theorem dX0_cyclesOf_14 : decode cX0_cyclesOf 14 = .ok (.ireturn, 1) := by decide +kernel
theorem dX0_sumOfCycles_0 : decode cX0_sumOfCycles 0 = .ok (.iconst 0, 1) := by decide +kernel
theorem dX0_sumOfCycles_1 : decode cX0_sumOfCycles 1 = .ok (.istore_n 1, 1) := by decide +kernel
theorem dX0_sumOfCycles_2 : decode cX0_sumOfCycles 2 = .ok (.iconst 0, 1) := by decide +kernel
theorem dX0_sumOfCycles_3 : decode cX0_sumOfCycles 3 = .ok (.istore_n 2, 1) := by decide +kernel
theorem dX0_sumOfCycles_4 : decode cX0_sumOfCycles 4 = .ok (.iload_n 2, 1) := by decide +kernel
theorem dX0_sumOfCycles_5 : decode cX0_sumOfCycles 5 = .ok (.aload_n 0, 1) := by decide +kernel
theorem dX0_sumOfCycles_6 : decode cX0_sumOfCycles 6 = .ok (.getfield 28, 3) := by decide +kernel
theorem dX0_sumOfCycles_9 : decode cX0_sumOfCycles 9 = .ok (.if_icmp .ge 17, 3) := by decide +kernel
theorem dX0_sumOfCycles_12 : decode cX0_sumOfCycles 12 = .ok (.iload_n 1, 1) := by decide +kernel
theorem dX0_sumOfCycles_13 : decode cX0_sumOfCycles 13 = .ok (.aload_n 0, 1) := by decide +kernel
theorem dX0_sumOfCycles_14 : decode cX0_sumOfCycles 14 = .ok (.iload_n 2, 1) := by decide +kernel
theorem dX0_sumOfCycles_15 : decode cX0_sumOfCycles 15 = .ok (.invokevirtual 119, 3) := by decide +kernel
theorem dX0_sumOfCycles_18 : decode cX0_sumOfCycles 18 = .ok (.iadd, 1) := by decide +kernel
theorem dX0_sumOfCycles_19 : decode cX0_sumOfCycles 19 = .ok (.istore_n 1, 1) := by decide +kernel
theorem dX0_sumOfCycles_20 : decode cX0_sumOfCycles 20 = .ok (.iinc 2 1, 3) := by decide +kernel
theorem dX0_sumOfCycles_23 : decode cX0_sumOfCycles 23 = .ok (.goto (-19), 3) := by decide +kernel
theorem dX0_sumOfCycles_26 : decode cX0_sumOfCycles 26 = .ok (.iload_n 1, 1) := by decide +kernel
theorem dX0_sumOfCycles_27 : decode cX0_sumOfCycles 27 = .ok (.ireturn, 1) := by decide +kernel
theorem dX0_endOf_0 : decode cX0_endOf 0 = .ok (.iconst 0, 1) := by decide +kernel
theorem dX0_endOf_1 : decode cX0_endOf 1 = .ok (.istore_n 2, 1) := by decide +kernel
theorem dX0_endOf_2 : decode cX0_endOf 2 = .ok (.iconst 0, 1) := by decide +kernel
theorem dX0_endOf_3 : decode cX0_endOf 3 = .ok (.istore_n 3, 1) := by decide +kernel
theorem dX0_endOf_4 : decode cX0_endOf 4 = .ok (.iload_n 3, 1) := by decide +kernel
theorem dX0_endOf_5 : decode cX0_endOf 5 = .ok (.aload_n 0, 1) := by decide +kernel
theorem dX0_endOf_6 : decode cX0_endOf 6 = .ok (.getfield 28, 3) := by decide +kernel
theorem dX0_endOf_9 : decode cX0_endOf 9 = .ok (.if_icmp .ge 23, 3) := by decide +kernel
theorem dX0_endOf_12 : decode cX0_endOf 12 = .ok (.iload_n 2, 1) := by decide +kernel
theorem dX0_endOf_13 : decode cX0_endOf 13 = .ok (.aload_n 1, 1) := by decide +kernel
theorem dX0_endOf_14 : decode cX0_endOf 14 = .ok (.iload_n 3, 1) := by decide +kernel
theorem dX0_endOf_15 : decode cX0_endOf 15 = .ok (.iaload, 1) := by decide +kernel
theorem dX0_endOf_16 : decode cX0_endOf 16 = .ok (.aload_n 0, 1) := by decide +kernel
theorem dX0_endOf_17 : decode cX0_endOf 17 = .ok (.iload_n 3, 1) := by decide +kernel
theorem dX0_endOf_18 : decode cX0_endOf 18 = .ok (.invokevirtual 119, 3) := by decide +kernel
theorem dX0_endOf_21 : decode cX0_endOf 21 = .ok (.iadd, 1) := by decide +kernel
theorem dX0_endOf_22 : decode cX0_endOf 22 = .ok (.invokestatic 122, 3) := by decide +kernel
theorem dX0_endOf_25 : decode cX0_endOf 25 = .ok (.istore_n 2, 1) := by decide +kernel
theorem dX0_endOf_26 : decode cX0_endOf 26 = .ok (.iinc 3 1, 3) := by decide +kernel
theorem dX0_endOf_29 : decode cX0_endOf 29 = .ok (.goto (-25), 3) := by decide +kernel
theorem dX0_endOf_32 : decode cX0_endOf 32 = .ok (.iload_n 2, 1) := by decide +kernel
theorem dX0_endOf_33 : decode cX0_endOf 33 = .ok (.ireturn, 1) := by decide +kernel
theorem dX0_leastIntervalOf_0 : decode cX0_leastIntervalOf 0 = .ok (.aload_n 0, 1) := by decide +kernel
theorem dX0_leastIntervalOf_1 : decode cX0_leastIntervalOf 1 = .ok (.getfield 17, 3) := by decide +kernel
theorem dX0_leastIntervalOf_4 : decode cX0_leastIntervalOf 4 = .ok (.iload_n 1, 1) := by decide +kernel
theorem dX0_leastIntervalOf_5 : decode cX0_leastIntervalOf 5 = .ok (.iaload, 1) := by decide +kernel
theorem dX0_leastIntervalOf_6 : decode cX0_leastIntervalOf 6 = .ok (.istore_n 2, 1) := by decide +kernel
theorem dX0_leastIntervalOf_7 : decode cX0_leastIntervalOf 7 = .ok (.iload_n 2, 1) := by decide +kernel
theorem dX0_leastIntervalOf_8 : decode cX0_leastIntervalOf 8 = .ok (.iconst 1, 1) := by decide +kernel
theorem dX0_leastIntervalOf_9 : decode cX0_leastIntervalOf 9 = .ok (.if_icmp .ge 7, 3) := by decide +kernel
theorem dX0_leastIntervalOf_12 : decode cX0_leastIntervalOf 12 = .ok (.iconst 0, 1) := by decide +kernel
theorem dX0_leastIntervalOf_13 : decode cX0_leastIntervalOf 13 = .ok (.goto 15, 3) := by decide +kernel
theorem dX0_leastIntervalOf_16 : decode cX0_leastIntervalOf 16 = .ok (.aload_n 0, 1) := by decide +kernel
theorem dX0_leastIntervalOf_17 : decode cX0_leastIntervalOf 17 = .ok (.getfield 24, 3) := by decide +kernel
theorem dX0_leastIntervalOf_20 : decode cX0_leastIntervalOf 20 = .ok (.iload_n 1, 1) := by decide +kernel
theorem dX0_leastIntervalOf_21 : decode cX0_leastIntervalOf 21 = .ok (.iaload, 1) := by decide +kernel
theorem dX0_leastIntervalOf_22 : decode cX0_leastIntervalOf 22 = .ok (.iload_n 2, 1) := by decide +kernel
theorem dX0_leastIntervalOf_23 : decode cX0_leastIntervalOf 23 = .ok (.iadd, 1) := by decide +kernel
theorem dX0_leastIntervalOf_24 : decode cX0_leastIntervalOf 24 = .ok (.iconst 1, 1) := by decide +kernel
theorem dX0_leastIntervalOf_25 : decode cX0_leastIntervalOf 25 = .ok (.isub, 1) := by decide +kernel
theorem dX0_leastIntervalOf_26 : decode cX0_leastIntervalOf 26 = .ok (.iload_n 2, 1) := by decide +kernel
theorem dX0_leastIntervalOf_27 : decode cX0_leastIntervalOf 27 = .ok (.idiv, 1) := by decide +kernel
theorem dX0_leastIntervalOf_28 : decode cX0_leastIntervalOf 28 = .ok (.ireturn, 1) := by decide +kernel
theorem dX0_areUnitsKept_0 : decode cX0_areUnitsKept 0 = .ok (.iconst 0, 1) := by decide +kernel
theorem dX0_areUnitsKept_1 : decode cX0_areUnitsKept 1 = .ok (.istore_n 3, 1) := by decide +kernel
theorem dX0_areUnitsKept_2 : decode cX0_areUnitsKept 2 = .ok (.iload_n 3, 1) := by decide +kernel
theorem dX0_areUnitsKept_3 : decode cX0_areUnitsKept 3 = .ok (.aload_n 0, 1) := by decide +kernel
theorem dX0_areUnitsKept_4 : decode cX0_areUnitsKept 4 = .ok (.getfield 28, 3) := by decide +kernel
theorem dX0_areUnitsKept_7 : decode cX0_areUnitsKept 7 = .ok (.if_icmp .ge 35, 3) := by decide +kernel
theorem dX0_areUnitsKept_10 : decode cX0_areUnitsKept 10 = .ok (.aload_n 0, 1) := by decide +kernel
theorem dX0_areUnitsKept_11 : decode cX0_areUnitsKept 11 = .ok (.aload_n 1, 1) := by decide +kernel
theorem dX0_areUnitsKept_12 : decode cX0_areUnitsKept 12 = .ok (.iload_n 2, 1) := by decide +kernel
theorem dX0_areUnitsKept_13 : decode cX0_areUnitsKept 13 = .ok (.iload_n 3, 1) := by decide +kernel
theorem dX0_areUnitsKept_14 : decode cX0_areUnitsKept 14 = .ok (.invokevirtual 125, 3) := by decide +kernel
theorem dX0_areUnitsKept_17 : decode cX0_areUnitsKept 17 = .ok (.aload_n 0, 1) := by decide +kernel
theorem dX0_areUnitsKept_18 : decode cX0_areUnitsKept 18 = .ok (.getfield 17, 3) := by decide +kernel
theorem dX0_areUnitsKept_21 : decode cX0_areUnitsKept 21 = .ok (.aload_n 0, 1) := by decide +kernel
theorem dX0_areUnitsKept_22 : decode cX0_areUnitsKept 22 = .ok (.getfield 11, 3) := by decide +kernel
theorem dX0_areUnitsKept_25 : decode cX0_areUnitsKept 25 = .ok (.iload_n 3, 1) := by decide +kernel
theorem dX0_areUnitsKept_26 : decode cX0_areUnitsKept 26 = .ok (.aaload, 1) := by decide +kernel
theorem dX0_areUnitsKept_27 : decode cX0_areUnitsKept 27 = .ok (.getfield 116, 3) := by decide +kernel
theorem dX0_areUnitsKept_30 : decode cX0_areUnitsKept 30 = .ok (.iaload, 1) := by decide +kernel
theorem dX0_areUnitsKept_31 : decode cX0_areUnitsKept 31 = .ok (.if_icmp .le 5, 3) := by decide +kernel
theorem dX0_areUnitsKept_34 : decode cX0_areUnitsKept 34 = .ok (.iconst 0, 1) := by decide +kernel
theorem dX0_areUnitsKept_35 : decode cX0_areUnitsKept 35 = .ok (.ireturn, 1) := by decide +kernel
theorem dX0_areUnitsKept_36 : decode cX0_areUnitsKept 36 = .ok (.iinc 3 1, 3) := by decide +kernel
theorem dX0_areUnitsKept_39 : decode cX0_areUnitsKept 39 = .ok (.goto (-37), 3) := by decide +kernel
theorem dX0_areUnitsKept_42 : decode cX0_areUnitsKept 42 = .ok (.iconst 1, 1) := by decide +kernel
theorem dX0_areUnitsKept_43 : decode cX0_areUnitsKept 43 = .ok (.ireturn, 1) := by decide +kernel
theorem dX0_countTogether_0 : decode cX0_countTogether 0 = .ok (.iconst 0, 1) := by decide +kernel
theorem dX0_countTogether_1 : decode cX0_countTogether 1 = .ok (.istore 4, 2) := by decide +kernel
theorem dX0_countTogether_3 : decode cX0_countTogether 3 = .ok (.iconst 0, 1) := by decide +kernel
theorem dX0_countTogether_4 : decode cX0_countTogether 4 = .ok (.istore 5, 2) := by decide +kernel
theorem dX0_countTogether_6 : decode cX0_countTogether 6 = .ok (.iload 5, 2) := by decide +kernel
theorem dX0_countTogether_8 : decode cX0_countTogether 8 = .ok (.aload_n 0, 1) := by decide +kernel
theorem dX0_countTogether_9 : decode cX0_countTogether 9 = .ok (.getfield 28, 3) := by decide +kernel
theorem dX0_countTogether_12 : decode cX0_countTogether 12 = .ok (.if_icmp .ge 49, 3) := by decide +kernel
theorem dX0_countTogether_15 : decode cX0_countTogether 15 = .ok (.aload_n 0, 1) := by decide +kernel
theorem dX0_countTogether_16 : decode cX0_countTogether 16 = .ok (.getfield 11, 3) := by decide +kernel
theorem dX0_countTogether_19 : decode cX0_countTogether 19 = .ok (.iload 5, 2) := by decide +kernel
theorem dX0_countTogether_21 : decode cX0_countTogether 21 = .ok (.aaload, 1) := by decide +kernel
theorem dX0_countTogether_22 : decode cX0_countTogether 22 = .ok (.getfield 116, 3) := by decide +kernel
theorem dX0_countTogether_25 : decode cX0_countTogether 25 = .ok (.aload_n 0, 1) := by decide +kernel
theorem dX0_countTogether_26 : decode cX0_countTogether 26 = .ok (.getfield 11, 3) := by decide +kernel
theorem dX0_countTogether_29 : decode cX0_countTogether 29 = .ok (.iload_n 3, 1) := by decide +kernel
theorem dX0_countTogether_30 : decode cX0_countTogether 30 = .ok (.aaload, 1) := by decide +kernel
theorem dX0_countTogether_31 : decode cX0_countTogether 31 = .ok (.getfield 116, 3) := by decide +kernel
theorem dX0_countTogether_34 : decode cX0_countTogether 34 = .ok (.if_icmp .ne 21, 3) := by decide +kernel
theorem dX0_countTogether_37 : decode cX0_countTogether 37 = .ok (.aload_n 1, 1) := by decide +kernel
theorem dX0_countTogether_38 : decode cX0_countTogether 38 = .ok (.iload 5, 2) := by decide +kernel
theorem dX0_countTogether_40 : decode cX0_countTogether 40 = .ok (.iaload, 1) := by decide +kernel
theorem dX0_countTogether_41 : decode cX0_countTogether 41 = .ok (.aload_n 1, 1) := by decide +kernel
theorem dX0_countTogether_42 : decode cX0_countTogether 42 = .ok (.iload_n 3, 1) := by decide +kernel
theorem dX0_countTogether_43 : decode cX0_countTogether 43 = .ok (.iaload, 1) := by decide +kernel
theorem dX0_countTogether_44 : decode cX0_countTogether 44 = .ok (.isub, 1) := by decide +kernel
theorem dX0_countTogether_45 : decode cX0_countTogether 45 = .ok (.iload_n 2, 1) := by decide +kernel
theorem dX0_countTogether_46 : decode cX0_countTogether 46 = .ok (.invokestatic 129, 3) := by decide +kernel
theorem dX0_countTogether_49 : decode cX0_countTogether 49 = .ok (.ifCond .eq 6, 3) := by decide +kernel
theorem dX0_countTogether_52 : decode cX0_countTogether 52 = .ok (.iinc 4 1, 3) := by decide +kernel
theorem dX0_countTogether_55 : decode cX0_countTogether 55 = .ok (.iinc 5 1, 3) := by decide +kernel
theorem dX0_countTogether_58 : decode cX0_countTogether 58 = .ok (.goto (-52), 3) := by decide +kernel
theorem dX0_countTogether_61 : decode cX0_countTogether 61 = .ok (.iload 4, 2) := by decide +kernel
theorem dX0_countTogether_63 : decode cX0_countTogether 63 = .ok (.ireturn, 1) := by decide +kernel
theorem dX0_lastMakerAhead_0 : decode cX0_lastMakerAhead 0 = .ok (.iload_n 2, 1) := by decide +kernel
theorem dX0_lastMakerAhead_1 : decode cX0_lastMakerAhead 1 = .ok (.iconst 1, 1) := by decide +kernel
theorem dX0_lastMakerAhead_2 : decode cX0_lastMakerAhead 2 = .ok (.isub, 1) := by decide +kernel
theorem dX0_lastMakerAhead_3 : decode cX0_lastMakerAhead 3 = .ok (.istore_n 3, 1) := by decide +kernel
theorem dX0_lastMakerAhead_4 : decode cX0_lastMakerAhead 4 = .ok (.iload_n 3, 1) := by decide +kernel
theorem dX0_lastMakerAhead_5 : decode cX0_lastMakerAhead 5 = .ok (.ifCond .lt 24, 3) := by decide +kernel
theorem dX0_lastMakerAhead_8 : decode cX0_lastMakerAhead 8 = .ok (.aload_n 0, 1) := by decide +kernel
theorem dX0_lastMakerAhead_9 : decode cX0_lastMakerAhead 9 = .ok (.getfield 11, 3) := by decide +kernel
theorem dX0_lastMakerAhead_12 : decode cX0_lastMakerAhead 12 = .ok (.iload_n 3, 1) := by decide +kernel
theorem dX0_lastMakerAhead_13 : decode cX0_lastMakerAhead 13 = .ok (.aaload, 1) := by decide +kernel
theorem dX0_lastMakerAhead_14 : decode cX0_lastMakerAhead 14 = .ok (.getfield 87, 3) := by decide +kernel
theorem dX0_lastMakerAhead_17 : decode cX0_lastMakerAhead 17 = .ok (.iload_n 1, 1) := by decide +kernel
theorem dX0_lastMakerAhead_18 : decode cX0_lastMakerAhead 18 = .ok (.if_icmp .ne 5, 3) := by decide +kernel
theorem dX0_lastMakerAhead_21 : decode cX0_lastMakerAhead 21 = .ok (.iload_n 3, 1) := by decide +kernel
theorem dX0_lastMakerAhead_22 : decode cX0_lastMakerAhead 22 = .ok (.ireturn, 1) := by decide +kernel
theorem dX0_lastMakerAhead_23 : decode cX0_lastMakerAhead 23 = .ok (.iinc 3 (-1), 3) := by decide +kernel
theorem dX0_lastMakerAhead_26 : decode cX0_lastMakerAhead 26 = .ok (.goto (-22), 3) := by decide +kernel
theorem dX0_lastMakerAhead_29 : decode cX0_lastMakerAhead 29 = .ok (.iconst (-1), 1) := by decide +kernel
theorem dX0_lastMakerAhead_30 : decode cX0_lastMakerAhead 30 = .ok (.ireturn, 1) := by decide +kernel
theorem dX0_nextMakerBehind_0 : decode cX0_nextMakerBehind 0 = .ok (.iload_n 2, 1) := by decide +kernel
theorem dX0_nextMakerBehind_1 : decode cX0_nextMakerBehind 1 = .ok (.iconst 1, 1) := by decide +kernel
theorem dX0_nextMakerBehind_2 : decode cX0_nextMakerBehind 2 = .ok (.iadd, 1) := by decide +kernel
theorem dX0_nextMakerBehind_3 : decode cX0_nextMakerBehind 3 = .ok (.istore_n 3, 1) := by decide +kernel
theorem dX0_nextMakerBehind_4 : decode cX0_nextMakerBehind 4 = .ok (.iload_n 3, 1) := by decide +kernel
theorem dX0_nextMakerBehind_5 : decode cX0_nextMakerBehind 5 = .ok (.aload_n 0, 1) := by decide +kernel
theorem dX0_nextMakerBehind_6 : decode cX0_nextMakerBehind 6 = .ok (.getfield 28, 3) := by decide +kernel
theorem dX0_nextMakerBehind_9 : decode cX0_nextMakerBehind 9 = .ok (.if_icmp .ge 24, 3) := by decide +kernel
theorem dX0_nextMakerBehind_12 : decode cX0_nextMakerBehind 12 = .ok (.aload_n 0, 1) := by decide +kernel
theorem dX0_nextMakerBehind_13 : decode cX0_nextMakerBehind 13 = .ok (.getfield 11, 3) := by decide +kernel
theorem dX0_nextMakerBehind_16 : decode cX0_nextMakerBehind 16 = .ok (.iload_n 3, 1) := by decide +kernel
theorem dX0_nextMakerBehind_17 : decode cX0_nextMakerBehind 17 = .ok (.aaload, 1) := by decide +kernel
theorem dX0_nextMakerBehind_18 : decode cX0_nextMakerBehind 18 = .ok (.getfield 87, 3) := by decide +kernel
theorem dX0_nextMakerBehind_21 : decode cX0_nextMakerBehind 21 = .ok (.iload_n 1, 1) := by decide +kernel
theorem dX0_nextMakerBehind_22 : decode cX0_nextMakerBehind 22 = .ok (.if_icmp .ne 5, 3) := by decide +kernel
theorem dX0_nextMakerBehind_25 : decode cX0_nextMakerBehind 25 = .ok (.iload_n 3, 1) := by decide +kernel
theorem dX0_nextMakerBehind_26 : decode cX0_nextMakerBehind 26 = .ok (.ireturn, 1) := by decide +kernel
theorem dX0_nextMakerBehind_27 : decode cX0_nextMakerBehind 27 = .ok (.iinc 3 1, 3) := by decide +kernel
theorem dX0_nextMakerBehind_30 : decode cX0_nextMakerBehind 30 = .ok (.goto (-26), 3) := by decide +kernel
theorem dX0_nextMakerBehind_33 : decode cX0_nextMakerBehind 33 = .ok (.iconst (-1), 1) := by decide +kernel
theorem dX0_nextMakerBehind_34 : decode cX0_nextMakerBehind 34 = .ok (.ireturn, 1) := by decide +kernel
theorem dX1_init_0 : decode cX1_init 0 = .ok (.aload_n 0, 1) := by decide +kernel
theorem dX1_init_1 : decode cX1_init 1 = .ok (.invokespecial 3, 3) := by decide +kernel
theorem dX1_init_4 : decode cX1_init 4 = .ok (.aload_n 0, 1) := by decide +kernel
theorem dX1_init_5 : decode cX1_init 5 = .ok (.new 9, 3) := by decide +kernel
theorem dX1_init_8 : decode cX1_init 8 = .ok (.dup, 1) := by decide +kernel
theorem dX1_init_9 : decode cX1_init 9 = .ok (.invokespecial 11, 3) := by decide +kernel
theorem dX1_init_12 : decode cX1_init 12 = .ok (.putfield 12, 3) := by decide +kernel
theorem dX1_init_15 : decode cX1_init 15 = .ok (.aload_n 0, 1) := by decide +kernel
theorem dX1_init_16 : decode cX1_init 16 = .ok (.sipush 1536, 3) := by decide +kernel
theorem dX1_init_19 : decode cX1_init 19 = .ok (.newarray .int, 2) := by decide +kernel
theorem dX1_init_21 : decode cX1_init 21 = .ok (.putfield 18, 3) := by decide +kernel
theorem dX1_init_24 : decode cX1_init 24 = .ok (.return_, 1) := by decide +kernel
theorem dX1_turn_0 : decode cX1_turn 0 = .ok (.aload_n 0, 1) := by decide +kernel
theorem dX1_turn_1 : decode cX1_turn 1 = .ok (.getfield 12, 3) := by decide +kernel
theorem dX1_turn_4 : decode cX1_turn 4 = .ok (.aload_n 1, 1) := by decide +kernel
theorem dX1_turn_5 : decode cX1_turn 5 = .ok (.invokevirtual 22, 3) := by decide +kernel
theorem dX1_turn_8 : decode cX1_turn 8 = .ok (.aload_n 1, 1) := by decide +kernel
theorem dX1_turn_9 : decode cX1_turn 9 = .ok (.invokevirtual 26, 3) := by decide +kernel
theorem dX1_turn_12 : decode cX1_turn 12 = .ok (.istore 4, 2) := by decide +kernel
theorem dX1_turn_14 : decode cX1_turn 14 = .ok (.aload_n 3, 1) := by decide +kernel
theorem dX1_turn_15 : decode cX1_turn 15 = .ok (.aload_n 2, 1) := by decide +kernel
theorem dX1_turn_16 : decode cX1_turn 16 = .ok (.iload 4, 2) := by decide +kernel
theorem dX1_turn_18 : decode cX1_turn 18 = .ok (.invokevirtual 32, 3) := by decide +kernel
theorem dX1_turn_21 : decode cX1_turn 21 = .ok (.istore 5, 2) := by decide +kernel
theorem dX1_turn_23 : decode cX1_turn 23 = .ok (.iconst 0, 1) := by decide +kernel
theorem dX1_turn_24 : decode cX1_turn 24 = .ok (.istore 6, 2) := by decide +kernel
theorem dX1_turn_26 : decode cX1_turn 26 = .ok (.iload 6, 2) := by decide +kernel
theorem dX1_turn_28 : decode cX1_turn 28 = .ok (.iload 5, 2) := by decide +kernel
theorem dX1_turn_30 : decode cX1_turn 30 = .ok (.if_icmp .gt 126, 3) := by decide +kernel
theorem dX1_turn_33 : decode cX1_turn 33 = .ok (.iconst 0, 1) := by decide +kernel
theorem dX1_turn_34 : decode cX1_turn 34 = .ok (.istore 7, 2) := by decide +kernel
theorem dX1_turn_36 : decode cX1_turn 36 = .ok (.iload 7, 2) := by decide +kernel
theorem dX1_turn_38 : decode cX1_turn 38 = .ok (.aload_n 2, 1) := by decide +kernel
theorem dX1_turn_39 : decode cX1_turn 39 = .ok (.getfield 38, 3) := by decide +kernel
theorem dX1_turn_42 : decode cX1_turn 42 = .ok (.if_icmp .ge 53, 3) := by decide +kernel
theorem dX1_turn_45 : decode cX1_turn 45 = .ok (.iload 6, 2) := by decide +kernel
theorem dX1_turn_47 : decode cX1_turn 47 = .ok (.aload_n 3, 1) := by decide +kernel
theorem dX1_turn_48 : decode cX1_turn 48 = .ok (.getfield 44, 3) := by decide +kernel
theorem dX1_turn_51 : decode cX1_turn 51 = .ok (.iload 7, 2) := by decide +kernel
theorem dX1_turn_53 : decode cX1_turn 53 = .ok (.iaload, 1) := by decide +kernel
theorem dX1_turn_54 : decode cX1_turn 54 = .ok (.isub, 1) := by decide +kernel
theorem dX1_turn_55 : decode cX1_turn 55 = .ok (.aload_n 2, 1) := by decide +kernel
theorem dX1_turn_56 : decode cX1_turn 56 = .ok (.iload 7, 2) := by decide +kernel
theorem dX1_turn_58 : decode cX1_turn 58 = .ok (.invokevirtual 47, 3) := by decide +kernel
theorem dX1_turn_61 : decode cX1_turn 61 = .ok (.isub, 1) := by decide +kernel
theorem dX1_turn_62 : decode cX1_turn 62 = .ok (.istore 8, 2) := by decide +kernel
theorem dX1_turn_64 : decode cX1_turn 64 = .ok (.aload_n 0, 1) := by decide +kernel
theorem dX1_turn_65 : decode cX1_turn 65 = .ok (.aload_n 1, 1) := by decide +kernel
theorem dX1_turn_66 : decode cX1_turn 66 = .ok (.aload_n 2, 1) := by decide +kernel
theorem dX1_turn_67 : decode cX1_turn 67 = .ok (.getfield 51, 3) := by decide +kernel
theorem dX1_turn_70 : decode cX1_turn 70 = .ok (.iload 7, 2) := by decide +kernel
theorem dX1_turn_72 : decode cX1_turn 72 = .ok (.aaload, 1) := by decide +kernel
theorem dX1_turn_73 : decode cX1_turn 73 = .ok (.iload 7, 2) := by decide +kernel
theorem dX1_turn_75 : decode cX1_turn 75 = .ok (.iload 8, 2) := by decide +kernel
theorem dX1_turn_77 : decode cX1_turn 77 = .ok (.aload_n 3, 1) := by decide +kernel
theorem dX1_turn_78 : decode cX1_turn 78 = .ok (.getfield 55, 3) := by decide +kernel
theorem dX1_turn_81 : decode cX1_turn 81 = .ok (.iload 4, 2) := by decide +kernel
theorem dX1_turn_83 : decode cX1_turn 83 = .ok (.invokestatic 58, 3) := by decide +kernel
theorem dX1_turn_86 : decode cX1_turn 86 = .ok (.invokevirtual 62, 3) := by decide +kernel
theorem dX1_turn_89 : decode cX1_turn 89 = .ok (.iinc 7 1, 3) := by decide +kernel
theorem dX1_turn_92 : decode cX1_turn 92 = .ok (.goto (-56), 3) := by decide +kernel
theorem dX1_turn_95 : decode cX1_turn 95 = .ok (.iconst 0, 1) := by decide +kernel
theorem dX1_turn_96 : decode cX1_turn 96 = .ok (.istore 7, 2) := by decide +kernel
theorem dX1_turn_98 : decode cX1_turn 98 = .ok (.iload 7, 2) := by decide +kernel
theorem dX1_turn_100 : decode cX1_turn 100 = .ok (.aload_n 2, 1) := by decide +kernel
theorem dX1_turn_101 : decode cX1_turn 101 = .ok (.getfield 38, 3) := by decide +kernel
theorem dX1_turn_104 : decode cX1_turn 104 = .ok (.if_icmp .ge 46, 3) := by decide +kernel
theorem dX1_turn_107 : decode cX1_turn 107 = .ok (.iload 6, 2) := by decide +kernel
theorem dX1_turn_109 : decode cX1_turn 109 = .ok (.aload_n 3, 1) := by decide +kernel
theorem dX1_turn_110 : decode cX1_turn 110 = .ok (.getfield 44, 3) := by decide +kernel
theorem dX1_turn_113 : decode cX1_turn 113 = .ok (.iload 7, 2) := by decide +kernel
theorem dX1_turn_115 : decode cX1_turn 115 = .ok (.iaload, 1) := by decide +kernel
theorem dX1_turn_116 : decode cX1_turn 116 = .ok (.isub, 1) := by decide +kernel
theorem dX1_turn_117 : decode cX1_turn 117 = .ok (.istore 8, 2) := by decide +kernel
theorem dX1_turn_119 : decode cX1_turn 119 = .ok (.aload_n 0, 1) := by decide +kernel
theorem dX1_turn_120 : decode cX1_turn 120 = .ok (.aload_n 1, 1) := by decide +kernel
theorem dX1_turn_121 : decode cX1_turn 121 = .ok (.aload_n 2, 1) := by decide +kernel
theorem dX1_turn_122 : decode cX1_turn 122 = .ok (.getfield 51, 3) := by decide +kernel
theorem dX1_turn_125 : decode cX1_turn 125 = .ok (.iload 7, 2) := by decide +kernel
theorem dX1_turn_127 : decode cX1_turn 127 = .ok (.aaload, 1) := by decide +kernel
theorem dX1_turn_128 : decode cX1_turn 128 = .ok (.iload 7, 2) := by decide +kernel
theorem dX1_turn_130 : decode cX1_turn 130 = .ok (.iload 8, 2) := by decide +kernel
theorem dX1_turn_132 : decode cX1_turn 132 = .ok (.aload_n 3, 1) := by decide +kernel
theorem dX1_turn_133 : decode cX1_turn 133 = .ok (.getfield 55, 3) := by decide +kernel
theorem dX1_turn_136 : decode cX1_turn 136 = .ok (.iload 4, 2) := by decide +kernel
theorem dX1_turn_138 : decode cX1_turn 138 = .ok (.invokestatic 58, 3) := by decide +kernel
theorem dX1_turn_141 : decode cX1_turn 141 = .ok (.invokevirtual 66, 3) := by decide +kernel
theorem dX1_turn_144 : decode cX1_turn 144 = .ok (.iinc 7 1, 3) := by decide +kernel
theorem dX1_turn_147 : decode cX1_turn 147 = .ok (.goto (-49), 3) := by decide +kernel
theorem dX1_turn_150 : decode cX1_turn 150 = .ok (.iinc 6 1, 3) := by decide +kernel
theorem dX1_turn_153 : decode cX1_turn 153 = .ok (.goto (-127), 3) := by decide +kernel
theorem dX1_turn_156 : decode cX1_turn 156 = .ok (.return_, 1) := by decide +kernel
theorem dX1_turnAfter_0 : decode cX1_turnAfter 0 = .ok (.iload_n 0, 1) := by decide +kernel
theorem dX1_turnAfter_1 : decode cX1_turnAfter 1 = .ok (.ifCond .lt 14, 3) := by decide +kernel
theorem dX1_turnAfter_4 : decode cX1_turnAfter 4 = .ok (.iload_n 1, 1) := by decide +kernel
theorem dX1_turnAfter_5 : decode cX1_turnAfter 5 = .ok (.iconst 1, 1) := by decide +kernel
theorem dX1_turnAfter_6 : decode cX1_turnAfter 6 = .ok (.if_icmp .lt 9, 3) := by decide +kernel
theorem dX1_turnAfter_9 : decode cX1_turnAfter 9 = .ok (.iload_n 0, 1) := by decide +kernel
theorem dX1_turnAfter_10 : decode cX1_turnAfter 10 = .ok (.iload_n 1, 1) := by decide +kernel
theorem dX1_turnAfter_11 : decode cX1_turnAfter 11 = .ok (.irem, 1) := by decide +kernel
theorem dX1_turnAfter_12 : decode cX1_turnAfter 12 = .ok (.ifCond .eq 5, 3) := by decide +kernel
theorem dX1_turnAfter_15 : decode cX1_turnAfter 15 = .ok (.iconst (-1), 1) := by decide +kernel
theorem dX1_turnAfter_16 : decode cX1_turnAfter 16 = .ok (.ireturn, 1) := by decide +kernel
theorem dX1_turnAfter_17 : decode cX1_turnAfter 17 = .ok (.iload_n 0, 1) := by decide +kernel
theorem dX1_turnAfter_18 : decode cX1_turnAfter 18 = .ok (.iload_n 1, 1) := by decide +kernel
theorem dX1_turnAfter_19 : decode cX1_turnAfter 19 = .ok (.idiv, 1) := by decide +kernel
theorem dX1_turnAfter_20 : decode cX1_turnAfter 20 = .ok (.istore_n 3, 1) := by decide +kernel
theorem dX1_turnAfter_21 : decode cX1_turnAfter 21 = .ok (.iload_n 3, 1) := by decide +kernel
theorem dX1_turnAfter_22 : decode cX1_turnAfter 22 = .ok (.iload_n 2, 1) := by decide +kernel
theorem dX1_turnAfter_23 : decode cX1_turnAfter 23 = .ok (.if_icmp .ge 7, 3) := by decide +kernel
theorem dX1_turnAfter_26 : decode cX1_turnAfter 26 = .ok (.iload_n 3, 1) := by decide +kernel
theorem dX1_turnAfter_27 : decode cX1_turnAfter 27 = .ok (.goto 4, 3) := by decide +kernel
theorem dX1_turnAfter_30 : decode cX1_turnAfter 30 = .ok (.iconst (-1), 1) := by decide +kernel
theorem dX1_turnAfter_31 : decode cX1_turnAfter 31 = .ok (.ireturn, 1) := by decide +kernel
theorem dX1_finish_0 : decode cX1_finish 0 = .ok (.iload 4, 2) := by decide +kernel
theorem dX1_finish_2 : decode cX1_finish 2 = .ok (.iconst (-1), 1) := by decide +kernel
theorem dX1_finish_3 : decode cX1_finish 3 = .ok (.if_icmp .eq 53, 3) := by decide +kernel
theorem dX1_finish_6 : decode cX1_finish 6 = .ok (.aload_n 2, 1) := by decide +kernel
theorem dX1_finish_7 : decode cX1_finish 7 = .ok (.getfield 68, 3) := by decide +kernel
theorem dX1_finish_10 : decode cX1_finish 10 = .ok (.ifCond .ne 11, 3) := by decide +kernel
theorem dX1_finish_13 : decode cX1_finish 13 = .ok (.aload_n 2, 1) := by decide +kernel
theorem dX1_finish_14 : decode cX1_finish 14 = .ok (.getfield 74, 3) := by decide +kernel
theorem dX1_finish_17 : decode cX1_finish 17 = .ok (.iconst (-1), 1) := by decide +kernel
theorem dX1_finish_18 : decode cX1_finish 18 = .ok (.if_icmp .eq 38, 3) := by decide +kernel
theorem dX1_finish_21 : decode cX1_finish 21 = .ok (.aload_n 1, 1) := by decide +kernel
theorem dX1_finish_22 : decode cX1_finish 22 = .ok (.getfield 77, 3) := by decide +kernel
theorem dX1_finish_25 : decode cX1_finish 25 = .ok (.iload 4, 2) := by decide +kernel
theorem dX1_finish_27 : decode cX1_finish 27 = .ok (.imul, 1) := by decide +kernel
theorem dX1_finish_28 : decode cX1_finish 28 = .ok (.aload_n 2, 1) := by decide +kernel
theorem dX1_finish_29 : decode cX1_finish 29 = .ok (.getfield 80, 3) := by decide +kernel
theorem dX1_finish_32 : decode cX1_finish 32 = .ok (.iadd, 1) := by decide +kernel
theorem dX1_finish_33 : decode cX1_finish 33 = .ok (.istore 5, 2) := by decide +kernel
theorem dX1_finish_35 : decode cX1_finish 35 = .ok (.aload_n 1, 1) := by decide +kernel
theorem dX1_finish_36 : decode cX1_finish 36 = .ok (.aload_n 2, 1) := by decide +kernel
theorem dX1_finish_37 : decode cX1_finish 37 = .ok (.getfield 83, 3) := by decide +kernel
theorem dX1_finish_40 : decode cX1_finish 40 = .ok (.iload 5, 2) := by decide +kernel
theorem dX1_finish_42 : decode cX1_finish 42 = .ok (.aload_n 0, 1) := by decide +kernel
theorem dX1_finish_43 : decode cX1_finish 43 = .ok (.iload_n 3, 1) := by decide +kernel
theorem dX1_finish_44 : decode cX1_finish 44 = .ok (.iload 4, 2) := by decide +kernel
theorem dX1_finish_46 : decode cX1_finish 46 = .ok (.invokevirtual 87, 3) := by decide +kernel
theorem dX1_finish_49 : decode cX1_finish 49 = .ok (.aload_n 0, 1) := by decide +kernel
theorem dX1_finish_50 : decode cX1_finish 50 = .ok (.getfield 12, 3) := by decide +kernel
theorem dX1_finish_53 : decode cX1_finish 53 = .ok (.invokevirtual 91, 3) := by decide +kernel
theorem dX1_finish_56 : decode cX1_finish 56 = .ok (.return_, 1) := by decide +kernel
theorem dX1_begin_0 : decode cX1_begin 0 = .ok (.iload 4, 2) := by decide +kernel
theorem dX1_begin_2 : decode cX1_begin 2 = .ok (.iconst (-1), 1) := by decide +kernel
theorem dX1_begin_3 : decode cX1_begin 3 = .ok (.if_icmp .ne 4, 3) := by decide +kernel
theorem dX1_begin_6 : decode cX1_begin 6 = .ok (.return_, 1) := by decide +kernel
theorem dX1_begin_7 : decode cX1_begin 7 = .ok (.aload_n 1, 1) := by decide +kernel
theorem dX1_begin_8 : decode cX1_begin 8 = .ok (.getfield 77, 3) := by decide +kernel
theorem dX1_begin_11 : decode cX1_begin 11 = .ok (.iload 4, 2) := by decide +kernel
theorem dX1_begin_13 : decode cX1_begin 13 = .ok (.imul, 1) := by decide +kernel
theorem dX1_begin_14 : decode cX1_begin 14 = .ok (.aload_n 2, 1) := by decide +kernel
theorem dX1_begin_15 : decode cX1_begin 15 = .ok (.getfield 80, 3) := by decide +kernel
theorem dX1_begin_18 : decode cX1_begin 18 = .ok (.iadd, 1) := by decide +kernel
theorem dX1_begin_19 : decode cX1_begin 19 = .ok (.istore 5, 2) := by decide +kernel
theorem dX1_begin_21 : decode cX1_begin 21 = .ok (.aload_n 2, 1) := by decide +kernel
theorem dX1_begin_22 : decode cX1_begin 22 = .ok (.getfield 95, 3) := by decide +kernel
theorem dX1_begin_25 : decode cX1_begin 25 = .ok (.iconst (-1), 1) := by decide +kernel
theorem dX1_begin_26 : decode cX1_begin 26 = .ok (.if_icmp .ne 24, 3) := by decide +kernel
theorem dX1_begin_29 : decode cX1_begin 29 = .ok (.aload_n 1, 1) := by decide +kernel
theorem dX1_begin_30 : decode cX1_begin 30 = .ok (.aload_n 2, 1) := by decide +kernel
theorem dX1_begin_31 : decode cX1_begin 31 = .ok (.getfield 83, 3) := by decide +kernel
theorem dX1_begin_34 : decode cX1_begin 34 = .ok (.aload_n 2, 1) := by decide +kernel
theorem dX1_begin_35 : decode cX1_begin 35 = .ok (.getfield 98, 3) := by decide +kernel
theorem dX1_begin_38 : decode cX1_begin 38 = .ok (.iload 5, 2) := by decide +kernel
theorem dX1_begin_40 : decode cX1_begin 40 = .ok (.aload_n 0, 1) := by decide +kernel
theorem dX1_begin_41 : decode cX1_begin 41 = .ok (.getfield 12, 3) := by decide +kernel
theorem dX1_begin_44 : decode cX1_begin 44 = .ok (.invokevirtual 101, 3) := by decide +kernel
theorem dX1_begin_47 : decode cX1_begin 47 = .ok (.goto 13, 3) := by decide +kernel
theorem dX1_begin_50 : decode cX1_begin 50 = .ok (.aload_n 0, 1) := by decide +kernel
theorem dX1_begin_51 : decode cX1_begin 51 = .ok (.aload_n 2, 1) := by decide +kernel
theorem dX1_begin_52 : decode cX1_begin 52 = .ok (.getfield 95, 3) := by decide +kernel
theorem dX1_begin_55 : decode cX1_begin 55 = .ok (.iload 4, 2) := by decide +kernel
theorem dX1_begin_57 : decode cX1_begin 57 = .ok (.invokevirtual 87, 3) := by decide +kernel
theorem dX1_begin_60 : decode cX1_begin 60 = .ok (.istore 6, 2) := by decide +kernel
theorem dX1_begin_62 : decode cX1_begin 62 = .ok (.aload_n 2, 1) := by decide +kernel
theorem dX1_begin_63 : decode cX1_begin 63 = .ok (.getfield 105, 3) := by decide +kernel
theorem dX1_begin_66 : decode cX1_begin 66 = .ok (.ifCond .eq 58, 3) := by decide +kernel
theorem dX1_begin_69 : decode cX1_begin 69 = .ok (.aload_n 2, 1) := by decide +kernel
theorem dX1_begin_70 : decode cX1_begin 70 = .ok (.getfield 108, 3) := by decide +kernel
theorem dX1_begin_73 : decode cX1_begin 73 = .ok (.iconst (-1), 1) := by decide +kernel
theorem dX1_begin_74 : decode cX1_begin 74 = .ok (.if_icmp .ne 21, 3) := by decide +kernel
theorem dX1_begin_77 : decode cX1_begin 77 = .ok (.aload_n 1, 1) := by decide +kernel
theorem dX1_begin_78 : decode cX1_begin 78 = .ok (.aload_n 2, 1) := by decide +kernel
theorem dX1_begin_79 : decode cX1_begin 79 = .ok (.getfield 83, 3) := by decide +kernel
theorem dX1_begin_82 : decode cX1_begin 82 = .ok (.iconst 2, 1) := by decide +kernel
theorem dX1_begin_83 : decode cX1_begin 83 = .ok (.iload 5, 2) := by decide +kernel
theorem dX1_begin_85 : decode cX1_begin 85 = .ok (.aload_n 0, 1) := by decide +kernel
theorem dX1_begin_86 : decode cX1_begin 86 = .ok (.getfield 12, 3) := by decide +kernel
theorem dX1_begin_89 : decode cX1_begin 89 = .ok (.invokevirtual 101, 3) := by decide +kernel
theorem dX1_begin_92 : decode cX1_begin 92 = .ok (.goto 13, 3) := by decide +kernel
theorem dX1_begin_95 : decode cX1_begin 95 = .ok (.aload_n 0, 1) := by decide +kernel
theorem dX1_begin_96 : decode cX1_begin 96 = .ok (.aload_n 2, 1) := by decide +kernel
theorem dX1_begin_97 : decode cX1_begin 97 = .ok (.getfield 108, 3) := by decide +kernel
theorem dX1_begin_100 : decode cX1_begin 100 = .ok (.iload 4, 2) := by decide +kernel
theorem dX1_begin_102 : decode cX1_begin 102 = .ok (.invokevirtual 87, 3) := by decide +kernel
theorem dX1_begin_105 : decode cX1_begin 105 = .ok (.istore 7, 2) := by decide +kernel
theorem dX1_begin_107 : decode cX1_begin 107 = .ok (.aload_n 1, 1) := by decide +kernel
theorem dX1_begin_108 : decode cX1_begin 108 = .ok (.aload_n 2, 1) := by decide +kernel
theorem dX1_begin_109 : decode cX1_begin 109 = .ok (.getfield 83, 3) := by decide +kernel
theorem dX1_begin_112 : decode cX1_begin 112 = .ok (.iload 6, 2) := by decide +kernel
theorem dX1_begin_114 : decode cX1_begin 114 = .ok (.iload 7, 2) := by decide +kernel
theorem dX1_begin_116 : decode cX1_begin 116 = .ok (.invokevirtual 111, 3) := by decide +kernel
theorem dX1_begin_119 : decode cX1_begin 119 = .ok (.invokevirtual 116, 3) := by decide +kernel
theorem dX1_begin_122 : decode cX1_begin 122 = .ok (.istore 6, 2) := by decide +kernel
theorem dX1_begin_124 : decode cX1_begin 124 = .ok (.aload_n 0, 1) := by decide +kernel
theorem dX1_begin_125 : decode cX1_begin 125 = .ok (.getfield 18, 3) := by decide +kernel
theorem dX1_begin_128 : decode cX1_begin 128 = .ok (.iload_n 3, 1) := by decide +kernel
theorem dX1_begin_129 : decode cX1_begin 129 = .ok (.bipush 16, 2) := by decide +kernel
theorem dX1_begin_131 : decode cX1_begin 131 = .ok (.imul, 1) := by decide +kernel
theorem dX1_begin_132 : decode cX1_begin 132 = .ok (.iload 4, 2) := by decide +kernel
theorem dX1_begin_134 : decode cX1_begin 134 = .ok (.iadd, 1) := by decide +kernel
theorem dX1_begin_135 : decode cX1_begin 135 = .ok (.iload 6, 2) := by decide +kernel
theorem dX1_begin_137 : decode cX1_begin 137 = .ok (.iastore, 1) := by decide +kernel
theorem dX1_begin_138 : decode cX1_begin 138 = .ok (.return_, 1) := by decide +kernel
theorem dX1_valueFrom_0 : decode cX1_valueFrom 0 = .ok (.aload_n 0, 1) := by decide +kernel
theorem dX1_valueFrom_1 : decode cX1_valueFrom 1 = .ok (.getfield 18, 3) := by decide +kernel
theorem dX1_valueFrom_4 : decode cX1_valueFrom 4 = .ok (.iload_n 1, 1) := by decide +kernel
theorem dX1_valueFrom_5 : decode cX1_valueFrom 5 = .ok (.bipush 16, 2) := by decide +kernel
theorem dX1_valueFrom_7 : decode cX1_valueFrom 7 = .ok (.imul, 1) := by decide +kernel
theorem dX1_valueFrom_8 : decode cX1_valueFrom 8 = .ok (.iload_n 2, 1) := by decide +kernel
theorem dX1_valueFrom_9 : decode cX1_valueFrom 9 = .ok (.iadd, 1) := by decide +kernel
theorem dX1_valueFrom_10 : decode cX1_valueFrom 10 = .ok (.iaload, 1) := by decide +kernel
theorem dX1_valueFrom_11 : decode cX1_valueFrom 11 = .ok (.ireturn, 1) := by decide +kernel
theorem dX2_init_0 : decode cX2_init 0 = .ok (.aload_n 0, 1) := by decide +kernel
theorem dX2_init_1 : decode cX2_init 1 = .ok (.invokespecial 3, 3) := by decide +kernel
theorem dX2_init_4 : decode cX2_init 4 = .ok (.aload_n 0, 1) := by decide +kernel
theorem dX2_init_5 : decode cX2_init 5 = .ok (.bipush 96, 2) := by decide +kernel
theorem dX2_init_7 : decode cX2_init 7 = .ok (.bipush 100, 2) := by decide +kernel
theorem dX2_init_9 : decode cX2_init 9 = .ok (.multianewarray 9 2, 4) := by decide +kernel
theorem dX2_init_13 : decode cX2_init 13 = .ok (.putfield 11, 3) := by decide +kernel
theorem dX2_init_16 : decode cX2_init 16 = .ok (.aload_n 0, 1) := by decide +kernel
theorem dX2_init_17 : decode cX2_init 17 = .ok (.bipush 96, 2) := by decide +kernel
theorem dX2_init_19 : decode cX2_init 19 = .ok (.bipush 100, 2) := by decide +kernel
theorem dX2_init_21 : decode cX2_init 21 = .ok (.multianewarray 9 2, 4) := by decide +kernel
theorem dX2_init_25 : decode cX2_init 25 = .ok (.putfield 16, 3) := by decide +kernel
theorem dX2_init_28 : decode cX2_init 28 = .ok (.aload_n 0, 1) := by decide +kernel
theorem dX2_init_29 : decode cX2_init 29 = .ok (.bipush 96, 2) := by decide +kernel
theorem dX2_init_31 : decode cX2_init 31 = .ok (.bipush 100, 2) := by decide +kernel
theorem dX2_init_33 : decode cX2_init 33 = .ok (.multianewarray 9 2, 4) := by decide +kernel
theorem dX2_init_37 : decode cX2_init 37 = .ok (.putfield 19, 3) := by decide +kernel
theorem dX2_init_40 : decode cX2_init 40 = .ok (.aload_n 0, 1) := by decide +kernel
theorem dX2_init_41 : decode cX2_init 41 = .ok (.bipush 96, 2) := by decide +kernel
theorem dX2_init_43 : decode cX2_init 43 = .ok (.newarray .int, 2) := by decide +kernel
theorem dX2_init_45 : decode cX2_init 45 = .ok (.putfield 22, 3) := by decide +kernel
theorem dX2_init_48 : decode cX2_init 48 = .ok (.return_, 1) := by decide +kernel
theorem dX2_join_0 : decode cX2_join 0 = .ok (.aload_n 0, 1) := by decide +kernel
theorem dX2_join_1 : decode cX2_join 1 = .ok (.iconst 0, 1) := by decide +kernel
theorem dX2_join_2 : decode cX2_join 2 = .ok (.putfield 26, 3) := by decide +kernel
theorem dX2_join_5 : decode cX2_join 5 = .ok (.iconst 0, 1) := by decide +kernel
theorem dX2_join_6 : decode cX2_join 6 = .ok (.istore_n 3, 1) := by decide +kernel
theorem dX2_join_7 : decode cX2_join 7 = .ok (.iload_n 3, 1) := by decide +kernel
theorem dX2_join_8 : decode cX2_join 8 = .ok (.bipush 96, 2) := by decide +kernel
theorem dX2_join_10 : decode cX2_join 10 = .ok (.if_icmp .ge 16, 3) := by decide +kernel
theorem dX2_join_13 : decode cX2_join 13 = .ok (.aload_n 0, 1) := by decide +kernel
theorem dX2_join_14 : decode cX2_join 14 = .ok (.getfield 22, 3) := by decide +kernel
theorem dX2_join_17 : decode cX2_join 17 = .ok (.iload_n 3, 1) := by decide +kernel
theorem dX2_join_18 : decode cX2_join 18 = .ok (.iconst 0, 1) := by decide +kernel
theorem dX2_join_19 : decode cX2_join 19 = .ok (.iastore, 1) := by decide +kernel
theorem dX2_join_20 : decode cX2_join 20 = .ok (.iinc 3 1, 3) := by decide +kernel
theorem dX2_join_23 : decode cX2_join 23 = .ok (.goto (-16), 3) := by decide +kernel
theorem dX2_join_26 : decode cX2_join 26 = .ok (.aload_n 0, 1) := by decide +kernel
theorem dX2_join_27 : decode cX2_join 27 = .ok (.aload_n 1, 1) := by decide +kernel
theorem dX2_join_28 : decode cX2_join 28 = .ok (.invokevirtual 30, 3) := by decide +kernel
theorem dX2_join_31 : decode cX2_join 31 = .ok (.iconst 0, 1) := by decide +kernel
theorem dX2_join_32 : decode cX2_join 32 = .ok (.istore_n 3, 1) := by decide +kernel
theorem dX2_join_33 : decode cX2_join 33 = .ok (.iload_n 3, 1) := by decide +kernel
theorem dX2_join_34 : decode cX2_join 34 = .ok (.bipush 8, 2) := by decide +kernel
theorem dX2_join_36 : decode cX2_join 36 = .ok (.if_icmp .ge 15, 3) := by decide +kernel
theorem dX2_join_39 : decode cX2_join 39 = .ok (.aload_n 0, 1) := by decide +kernel
theorem dX2_join_40 : decode cX2_join 40 = .ok (.aload_n 1, 1) := by decide +kernel
theorem dX2_join_41 : decode cX2_join 41 = .ok (.iload_n 3, 1) := by decide +kernel
theorem dX2_join_42 : decode cX2_join 42 = .ok (.invokevirtual 34, 3) := by decide +kernel
theorem dX2_join_45 : decode cX2_join 45 = .ok (.iinc 3 1, 3) := by decide +kernel
theorem dX2_join_48 : decode cX2_join 48 = .ok (.goto (-15), 3) := by decide +kernel
theorem dX2_join_51 : decode cX2_join 51 = .ok (.iconst 0, 1) := by decide +kernel
theorem dX2_join_52 : decode cX2_join 52 = .ok (.istore_n 3, 1) := by decide +kernel
theorem dX2_join_53 : decode cX2_join 53 = .ok (.iload_n 3, 1) := by decide +kernel
theorem dX2_join_54 : decode cX2_join 54 = .ok (.iconst 2, 1) := by decide +kernel
theorem dX2_join_55 : decode cX2_join 55 = .ok (.if_icmp .ge 18, 3) := by decide +kernel
theorem dX2_join_58 : decode cX2_join 58 = .ok (.aload_n 0, 1) := by decide +kernel
theorem dX2_join_59 : decode cX2_join 59 = .ok (.aload_n 1, 1) := by decide +kernel
theorem dX2_join_60 : decode cX2_join 60 = .ok (.iconst 3, 1) := by decide +kernel
theorem dX2_join_61 : decode cX2_join 61 = .ok (.iload_n 3, 1) := by decide +kernel
theorem dX2_join_62 : decode cX2_join 62 = .ok (.iadd, 1) := by decide +kernel
theorem dX2_join_63 : decode cX2_join 63 = .ok (.iload_n 2, 1) := by decide +kernel
theorem dX2_join_64 : decode cX2_join 64 = .ok (.invokevirtual 38, 3) := by decide +kernel
theorem dX2_join_67 : decode cX2_join 67 = .ok (.iinc 3 1, 3) := by decide +kernel
theorem dX2_join_70 : decode cX2_join 70 = .ok (.goto (-17), 3) := by decide +kernel
theorem dX2_join_73 : decode cX2_join 73 = .ok (.aload_n 0, 1) := by decide +kernel
theorem dX2_join_74 : decode cX2_join 74 = .ok (.aload_n 1, 1) := by decide +kernel
theorem dX2_join_75 : decode cX2_join 75 = .ok (.iconst 5, 1) := by decide +kernel
theorem dX2_join_76 : decode cX2_join 76 = .ok (.invokevirtual 42, 3) := by decide +kernel
theorem dX2_join_79 : decode cX2_join 79 = .ok (.aload_n 0, 1) := by decide +kernel
theorem dX2_join_80 : decode cX2_join 80 = .ok (.aload_n 1, 1) := by decide +kernel
theorem dX2_join_81 : decode cX2_join 81 = .ok (.bipush 6, 2) := by decide +kernel
theorem dX2_join_83 : decode cX2_join 83 = .ok (.invokevirtual 42, 3) := by decide +kernel
theorem dX2_join_86 : decode cX2_join 86 = .ok (.return_, 1) := by decide +kernel
theorem dX2_find_0 : decode cX2_find 0 = .ok (.iconst 0, 1) := by decide +kernel
theorem dX2_find_1 : decode cX2_find 1 = .ok (.istore 4, 2) := by decide +kernel
theorem dX2_find_3 : decode cX2_find 3 = .ok (.iload 4, 2) := by decide +kernel
theorem dX2_find_5 : decode cX2_find 5 = .ok (.aload_n 0, 1) := by decide +kernel
theorem dX2_find_6 : decode cX2_find 6 = .ok (.getfield 22, 3) := by decide +kernel
theorem dX2_find_9 : decode cX2_find 9 = .ok (.iload_n 1, 1) := by decide +kernel
theorem dX2_find_10 : decode cX2_find 10 = .ok (.iaload, 1) := by decide +kernel
theorem dX2_find_11 : decode cX2_find 11 = .ok (.if_icmp .ge 38, 3) := by decide +kernel
theorem dX2_find_14 : decode cX2_find 14 = .ok (.aload_n 0, 1) := by decide +kernel
theorem dX2_find_15 : decode cX2_find 15 = .ok (.getfield 11, 3) := by decide +kernel
theorem dX2_find_18 : decode cX2_find 18 = .ok (.iload_n 1, 1) := by decide +kernel
theorem dX2_find_19 : decode cX2_find 19 = .ok (.aaload, 1) := by decide +kernel
theorem dX2_find_20 : decode cX2_find 20 = .ok (.iload 4, 2) := by decide +kernel
theorem dX2_find_22 : decode cX2_find 22 = .ok (.iaload, 1) := by decide +kernel
theorem dX2_find_23 : decode cX2_find 23 = .ok (.iload_n 2, 1) := by decide +kernel
theorem dX2_find_24 : decode cX2_find 24 = .ok (.if_icmp .ne 19, 3) := by decide +kernel
theorem dX2_find_27 : decode cX2_find 27 = .ok (.aload_n 0, 1) := by decide +kernel
theorem dX2_find_28 : decode cX2_find 28 = .ok (.getfield 16, 3) := by decide +kernel
theorem dX2_find_31 : decode cX2_find 31 = .ok (.iload_n 1, 1) := by decide +kernel
theorem dX2_find_32 : decode cX2_find 32 = .ok (.aaload, 1) := by decide +kernel
theorem dX2_find_33 : decode cX2_find 33 = .ok (.iload 4, 2) := by decide +kernel
theorem dX2_find_35 : decode cX2_find 35 = .ok (.iaload, 1) := by decide +kernel
theorem dX2_find_36 : decode cX2_find 36 = .ok (.iload_n 3, 1) := by decide +kernel
theorem dX2_find_37 : decode cX2_find 37 = .ok (.if_icmp .ne 6, 3) := by decide +kernel
theorem dX2_find_40 : decode cX2_find 40 = .ok (.iload 4, 2) := by decide +kernel
theorem dX2_find_42 : decode cX2_find 42 = .ok (.ireturn, 1) := by decide +kernel
theorem dX2_find_43 : decode cX2_find 43 = .ok (.iinc 4 1, 3) := by decide +kernel
theorem dX2_find_46 : decode cX2_find 46 = .ok (.goto (-43), 3) := by decide +kernel
theorem dX2_find_49 : decode cX2_find 49 = .ok (.iconst (-1), 1) := by decide +kernel
theorem dX2_find_50 : decode cX2_find 50 = .ok (.ireturn, 1) := by decide +kernel
theorem dX2_put_0 : decode cX2_put 0 = .ok (.aload_n 0, 1) := by decide +kernel
theorem dX2_put_1 : decode cX2_put 1 = .ok (.iload_n 1, 1) := by decide +kernel
theorem dX2_put_2 : decode cX2_put 2 = .ok (.iload_n 2, 1) := by decide +kernel
theorem dX2_put_3 : decode cX2_put 3 = .ok (.iload_n 3, 1) := by decide +kernel
theorem dX2_put_4 : decode cX2_put 4 = .ok (.invokevirtual 45, 3) := by decide +kernel
theorem dX2_put_7 : decode cX2_put 7 = .ok (.istore 5, 2) := by decide +kernel
theorem dX2_put_9 : decode cX2_put 9 = .ok (.iload 5, 2) := by decide +kernel
theorem dX2_put_11 : decode cX2_put 11 = .ok (.iconst (-1), 1) := by decide +kernel
theorem dX2_put_12 : decode cX2_put 12 = .ok (.if_icmp .eq 29, 3) := by decide +kernel
theorem dX2_put_15 : decode cX2_put 15 = .ok (.aload_n 0, 1) := by decide +kernel
theorem dX2_put_16 : decode cX2_put 16 = .ok (.getfield 19, 3) := by decide +kernel
theorem dX2_put_19 : decode cX2_put 19 = .ok (.iload_n 1, 1) := by decide +kernel
theorem dX2_put_20 : decode cX2_put 20 = .ok (.aaload, 1) := by decide +kernel
theorem dX2_put_21 : decode cX2_put 21 = .ok (.iload 5, 2) := by decide +kernel
theorem dX2_put_23 : decode cX2_put 23 = .ok (.aload_n 0, 1) := by decide +kernel
theorem dX2_put_24 : decode cX2_put 24 = .ok (.getfield 19, 3) := by decide +kernel
theorem dX2_put_27 : decode cX2_put 27 = .ok (.iload_n 1, 1) := by decide +kernel
theorem dX2_put_28 : decode cX2_put 28 = .ok (.aaload, 1) := by decide +kernel
theorem dX2_put_29 : decode cX2_put 29 = .ok (.iload 5, 2) := by decide +kernel
theorem dX2_put_31 : decode cX2_put 31 = .ok (.iaload, 1) := by decide +kernel
theorem dX2_put_32 : decode cX2_put 32 = .ok (.iload 4, 2) := by decide +kernel
theorem dX2_put_34 : decode cX2_put 34 = .ok (.invokestatic 49, 3) := by decide +kernel
theorem dX2_put_37 : decode cX2_put 37 = .ok (.iastore, 1) := by decide +kernel
theorem dX2_put_38 : decode cX2_put 38 = .ok (.goto 73, 3) := by decide +kernel
theorem dX2_put_41 : decode cX2_put 41 = .ok (.aload_n 0, 1) := by decide +kernel
theorem dX2_put_42 : decode cX2_put 42 = .ok (.getfield 22, 3) := by decide +kernel
theorem dX2_put_45 : decode cX2_put 45 = .ok (.iload_n 1, 1) := by decide +kernel
theorem dX2_put_46 : decode cX2_put 46 = .ok (.iaload, 1) := by decide +kernel
theorem dX2_put_47 : decode cX2_put 47 = .ok (.bipush 100, 2) := by decide +kernel
theorem dX2_put_49 : decode cX2_put 49 = .ok (.if_icmp .ge 62, 3) := by decide +kernel
theorem dX2_put_52 : decode cX2_put 52 = .ok (.aload_n 0, 1) := by decide +kernel
theorem dX2_put_53 : decode cX2_put 53 = .ok (.getfield 22, 3) := by decide +kernel
theorem dX2_put_56 : decode cX2_put 56 = .ok (.iload_n 1, 1) := by decide +kernel
theorem dX2_put_57 : decode cX2_put 57 = .ok (.iaload, 1) := by decide +kernel
theorem dX2_put_58 : decode cX2_put 58 = .ok (.istore 5, 2) := by decide +kernel
theorem dX2_put_60 : decode cX2_put 60 = .ok (.aload_n 0, 1) := by decide +kernel
theorem dX2_put_61 : decode cX2_put 61 = .ok (.getfield 11, 3) := by decide +kernel
theorem dX2_put_64 : decode cX2_put 64 = .ok (.iload_n 1, 1) := by decide +kernel
theorem dX2_put_65 : decode cX2_put 65 = .ok (.aaload, 1) := by decide +kernel
theorem dX2_put_66 : decode cX2_put 66 = .ok (.iload 5, 2) := by decide +kernel
theorem dX2_put_68 : decode cX2_put 68 = .ok (.iload_n 2, 1) := by decide +kernel
theorem dX2_put_69 : decode cX2_put 69 = .ok (.iastore, 1) := by decide +kernel
theorem dX2_put_70 : decode cX2_put 70 = .ok (.aload_n 0, 1) := by decide +kernel
theorem dX2_put_71 : decode cX2_put 71 = .ok (.getfield 16, 3) := by decide +kernel
theorem dX2_put_74 : decode cX2_put 74 = .ok (.iload_n 1, 1) := by decide +kernel
theorem dX2_put_75 : decode cX2_put 75 = .ok (.aaload, 1) := by decide +kernel
theorem dX2_put_76 : decode cX2_put 76 = .ok (.iload 5, 2) := by decide +kernel
theorem dX2_put_78 : decode cX2_put 78 = .ok (.iload_n 3, 1) := by decide +kernel
theorem dX2_put_79 : decode cX2_put 79 = .ok (.iastore, 1) := by decide +kernel
theorem dX2_put_80 : decode cX2_put 80 = .ok (.aload_n 0, 1) := by decide +kernel
theorem dX2_put_81 : decode cX2_put 81 = .ok (.getfield 19, 3) := by decide +kernel
theorem dX2_put_84 : decode cX2_put 84 = .ok (.iload_n 1, 1) := by decide +kernel
theorem dX2_put_85 : decode cX2_put 85 = .ok (.aaload, 1) := by decide +kernel
theorem dX2_put_86 : decode cX2_put 86 = .ok (.iload 5, 2) := by decide +kernel
theorem dX2_put_88 : decode cX2_put 88 = .ok (.iload 4, 2) := by decide +kernel
theorem dX2_put_90 : decode cX2_put 90 = .ok (.iastore, 1) := by decide +kernel
theorem dX2_put_91 : decode cX2_put 91 = .ok (.aload_n 0, 1) := by decide +kernel
theorem dX2_put_92 : decode cX2_put 92 = .ok (.getfield 22, 3) := by decide +kernel
theorem dX2_put_95 : decode cX2_put 95 = .ok (.iload_n 1, 1) := by decide +kernel
theorem dX2_put_96 : decode cX2_put 96 = .ok (.iload 5, 2) := by decide +kernel
theorem dX2_put_98 : decode cX2_put 98 = .ok (.iconst 1, 1) := by decide +kernel
theorem dX2_put_99 : decode cX2_put 99 = .ok (.iadd, 1) := by decide +kernel
theorem dX2_put_100 : decode cX2_put 100 = .ok (.iastore, 1) := by decide +kernel
theorem dX2_put_101 : decode cX2_put 101 = .ok (.aload_n 0, 1) := by decide +kernel
theorem dX2_put_102 : decode cX2_put 102 = .ok (.dup, 1) := by decide +kernel
theorem dX2_put_103 : decode cX2_put 103 = .ok (.getfield 26, 3) := by decide +kernel
theorem dX2_put_106 : decode cX2_put 106 = .ok (.iconst 1, 1) := by decide +kernel
theorem dX2_put_107 : decode cX2_put 107 = .ok (.iadd, 1) := by decide +kernel
theorem dX2_put_108 : decode cX2_put 108 = .ok (.putfield 26, 3) := by decide +kernel
theorem dX2_put_111 : decode cX2_put 111 = .ok (.return_, 1) := by decide +kernel
theorem dX2_joinWithinStatements_0 : decode cX2_joinWithinStatements 0 = .ok (.iconst 0, 1) := by decide +kernel
theorem dX2_joinWithinStatements_1 : decode cX2_joinWithinStatements 1 = .ok (.istore_n 2, 1) := by decide +kernel
theorem dX2_joinWithinStatements_2 : decode cX2_joinWithinStatements 2 = .ok (.iload_n 2, 1) := by decide +kernel
theorem dX2_joinWithinStatements_3 : decode cX2_joinWithinStatements 3 = .ok (.aload_n 1, 1) := by decide +kernel
theorem dX2_joinWithinStatements_4 : decode cX2_joinWithinStatements 4 = .ok (.getfield 55, 3) := by decide +kernel
theorem dX2_joinWithinStatements_7 : decode cX2_joinWithinStatements 7 = .ok (.if_icmp .ge 39, 3) := by decide +kernel
theorem dX2_joinWithinStatements_10 : decode cX2_joinWithinStatements 10 = .ok (.aload_n 0, 1) := by decide +kernel
theorem dX2_joinWithinStatements_11 : decode cX2_joinWithinStatements 11 = .ok (.aload_n 1, 1) := by decide +kernel
theorem dX2_joinWithinStatements_12 : decode cX2_joinWithinStatements 12 = .ok (.aload_n 1, 1) := by decide +kernel
theorem dX2_joinWithinStatements_13 : decode cX2_joinWithinStatements 13 = .ok (.getfield 58, 3) := by decide +kernel
theorem dX2_joinWithinStatements_16 : decode cX2_joinWithinStatements 16 = .ok (.iload_n 2, 1) := by decide +kernel
theorem dX2_joinWithinStatements_17 : decode cX2_joinWithinStatements 17 = .ok (.aaload, 1) := by decide +kernel
theorem dX2_joinWithinStatements_18 : decode cX2_joinWithinStatements 18 = .ok (.getfield 62, 3) := by decide +kernel
theorem dX2_joinWithinStatements_21 : decode cX2_joinWithinStatements 21 = .ok (.iload_n 2, 1) := by decide +kernel
theorem dX2_joinWithinStatements_22 : decode cX2_joinWithinStatements 22 = .ok (.invokevirtual 67, 3) := by decide +kernel
theorem dX2_joinWithinStatements_25 : decode cX2_joinWithinStatements 25 = .ok (.aload_n 0, 1) := by decide +kernel
theorem dX2_joinWithinStatements_26 : decode cX2_joinWithinStatements 26 = .ok (.aload_n 1, 1) := by decide +kernel
theorem dX2_joinWithinStatements_27 : decode cX2_joinWithinStatements 27 = .ok (.aload_n 1, 1) := by decide +kernel
theorem dX2_joinWithinStatements_28 : decode cX2_joinWithinStatements 28 = .ok (.getfield 58, 3) := by decide +kernel
theorem dX2_joinWithinStatements_31 : decode cX2_joinWithinStatements 31 = .ok (.iload_n 2, 1) := by decide +kernel
theorem dX2_joinWithinStatements_32 : decode cX2_joinWithinStatements 32 = .ok (.aaload, 1) := by decide +kernel
theorem dX2_joinWithinStatements_33 : decode cX2_joinWithinStatements 33 = .ok (.getfield 70, 3) := by decide +kernel
theorem dX2_joinWithinStatements_36 : decode cX2_joinWithinStatements 36 = .ok (.iload_n 2, 1) := by decide +kernel
theorem dX2_joinWithinStatements_37 : decode cX2_joinWithinStatements 37 = .ok (.invokevirtual 67, 3) := by decide +kernel
theorem dX2_joinWithinStatements_40 : decode cX2_joinWithinStatements 40 = .ok (.iinc 2 1, 3) := by decide +kernel
theorem dX2_joinWithinStatements_43 : decode cX2_joinWithinStatements 43 = .ok (.goto (-41), 3) := by decide +kernel
theorem dX2_joinWithinStatements_46 : decode cX2_joinWithinStatements 46 = .ok (.return_, 1) := by decide +kernel
theorem dX2_joinGiver_0 : decode cX2_joinGiver 0 = .ok (.iload_n 2, 1) := by decide +kernel
theorem dX2_joinGiver_1 : decode cX2_joinGiver 1 = .ok (.iconst (-1), 1) := by decide +kernel
theorem dX2_joinGiver_2 : decode cX2_joinGiver 2 = .ok (.if_icmp .eq 15, 3) := by decide +kernel
theorem dX2_joinGiver_5 : decode cX2_joinGiver 5 = .ok (.aload_n 0, 1) := by decide +kernel
theorem dX2_joinGiver_6 : decode cX2_joinGiver 6 = .ok (.iload_n 2, 1) := by decide +kernel
theorem dX2_joinGiver_7 : decode cX2_joinGiver 7 = .ok (.iload_n 3, 1) := by decide +kernel
theorem dX2_joinGiver_8 : decode cX2_joinGiver 8 = .ok (.iconst 0, 1) := by decide +kernel
theorem dX2_joinGiver_9 : decode cX2_joinGiver 9 = .ok (.aload_n 1, 1) := by decide +kernel
theorem dX2_joinGiver_10 : decode cX2_joinGiver 10 = .ok (.iload_n 2, 1) := by decide +kernel
theorem dX2_joinGiver_11 : decode cX2_joinGiver 11 = .ok (.invokevirtual 73, 3) := by decide +kernel
theorem dX2_joinGiver_14 : decode cX2_joinGiver 14 = .ok (.invokevirtual 77, 3) := by decide +kernel
theorem dX2_joinGiver_17 : decode cX2_joinGiver 17 = .ok (.return_, 1) := by decide +kernel
theorem dX2_joinRegister_0 : decode cX2_joinRegister 0 = .ok (.aload_n 1, 1) := by decide +kernel
theorem dX2_joinRegister_1 : decode cX2_joinRegister 1 = .ok (.iload_n 2, 1) := by decide +kernel
theorem dX2_joinRegister_2 : decode cX2_joinRegister 2 = .ok (.iconst (-1), 1) := by decide +kernel
theorem dX2_joinRegister_3 : decode cX2_joinRegister 3 = .ok (.invokevirtual 81, 3) := by decide +kernel
theorem dX2_joinRegister_6 : decode cX2_joinRegister 6 = .ok (.iconst (-1), 1) := by decide +kernel
theorem dX2_joinRegister_7 : decode cX2_joinRegister 7 = .ok (.if_icmp .ne 4, 3) := by decide +kernel
theorem dX2_joinRegister_10 : decode cX2_joinRegister 10 = .ok (.return_, 1) := by decide +kernel
theorem dX2_joinRegister_11 : decode cX2_joinRegister 11 = .ok (.iconst 0, 1) := by decide +kernel
theorem dX2_joinRegister_12 : decode cX2_joinRegister 12 = .ok (.istore_n 3, 1) := by decide +kernel
theorem dX2_joinRegister_13 : decode cX2_joinRegister 13 = .ok (.iload_n 3, 1) := by decide +kernel
theorem dX2_joinRegister_14 : decode cX2_joinRegister 14 = .ok (.aload_n 1, 1) := by decide +kernel
theorem dX2_joinRegister_15 : decode cX2_joinRegister 15 = .ok (.getfield 55, 3) := by decide +kernel
theorem dX2_joinRegister_18 : decode cX2_joinRegister 18 = .ok (.if_icmp .ge 70, 3) := by decide +kernel
theorem dX2_joinRegister_21 : decode cX2_joinRegister 21 = .ok (.aload_n 1, 1) := by decide +kernel
theorem dX2_joinRegister_22 : decode cX2_joinRegister 22 = .ok (.getfield 58, 3) := by decide +kernel
theorem dX2_joinRegister_25 : decode cX2_joinRegister 25 = .ok (.iload_n 3, 1) := by decide +kernel
theorem dX2_joinRegister_26 : decode cX2_joinRegister 26 = .ok (.aaload, 1) := by decide +kernel
theorem dX2_joinRegister_27 : decode cX2_joinRegister 27 = .ok (.iload_n 2, 1) := by decide +kernel
theorem dX2_joinRegister_28 : decode cX2_joinRegister 28 = .ok (.invokevirtual 84, 3) := by decide +kernel
theorem dX2_joinRegister_31 : decode cX2_joinRegister 31 = .ok (.istore 4, 2) := by decide +kernel
theorem dX2_joinRegister_33 : decode cX2_joinRegister 33 = .ok (.aload_n 1, 1) := by decide +kernel
theorem dX2_joinRegister_34 : decode cX2_joinRegister 34 = .ok (.getfield 58, 3) := by decide +kernel
theorem dX2_joinRegister_37 : decode cX2_joinRegister 37 = .ok (.iload_n 3, 1) := by decide +kernel
theorem dX2_joinRegister_38 : decode cX2_joinRegister 38 = .ok (.aaload, 1) := by decide +kernel
theorem dX2_joinRegister_39 : decode cX2_joinRegister 39 = .ok (.getfield 88, 3) := by decide +kernel
theorem dX2_joinRegister_42 : decode cX2_joinRegister 42 = .ok (.iload_n 2, 1) := by decide +kernel
theorem dX2_joinRegister_43 : decode cX2_joinRegister 43 = .ok (.if_icmp .ne 7, 3) := by decide +kernel
theorem dX2_joinRegister_46 : decode cX2_joinRegister 46 = .ok (.iconst 1, 1) := by decide +kernel
theorem dX2_joinRegister_47 : decode cX2_joinRegister 47 = .ok (.goto 4, 3) := by decide +kernel
theorem dX2_joinRegister_50 : decode cX2_joinRegister 50 = .ok (.iconst 0, 1) := by decide +kernel
theorem dX2_joinRegister_51 : decode cX2_joinRegister 51 = .ok (.istore 5, 2) := by decide +kernel
theorem dX2_joinRegister_53 : decode cX2_joinRegister 53 = .ok (.iload 4, 2) := by decide +kernel
theorem dX2_joinRegister_55 : decode cX2_joinRegister 55 = .ok (.ifCond .eq 10, 3) := by decide +kernel
theorem dX2_joinRegister_58 : decode cX2_joinRegister 58 = .ok (.aload_n 0, 1) := by decide +kernel
theorem dX2_joinRegister_59 : decode cX2_joinRegister 59 = .ok (.aload_n 1, 1) := by decide +kernel
theorem dX2_joinRegister_60 : decode cX2_joinRegister 60 = .ok (.iload_n 2, 1) := by decide +kernel
theorem dX2_joinRegister_61 : decode cX2_joinRegister 61 = .ok (.iload_n 3, 1) := by decide +kernel
theorem dX2_joinRegister_62 : decode cX2_joinRegister 62 = .ok (.invokevirtual 91, 3) := by decide +kernel
theorem dX2_joinRegister_65 : decode cX2_joinRegister 65 = .ok (.iload 4, 2) := by decide +kernel
theorem dX2_joinRegister_67 : decode cX2_joinRegister 67 = .ok (.ifCond .ne 8, 3) := by decide +kernel
theorem dX2_joinRegister_70 : decode cX2_joinRegister 70 = .ok (.iload 5, 2) := by decide +kernel
theorem dX2_joinRegister_72 : decode cX2_joinRegister 72 = .ok (.ifCond .eq 10, 3) := by decide +kernel
theorem dX2_joinRegister_75 : decode cX2_joinRegister 75 = .ok (.aload_n 0, 1) := by decide +kernel
theorem dX2_joinRegister_76 : decode cX2_joinRegister 76 = .ok (.aload_n 1, 1) := by decide +kernel
theorem dX2_joinRegister_77 : decode cX2_joinRegister 77 = .ok (.iload_n 2, 1) := by decide +kernel
theorem dX2_joinRegister_78 : decode cX2_joinRegister 78 = .ok (.iload_n 3, 1) := by decide +kernel
theorem dX2_joinRegister_79 : decode cX2_joinRegister 79 = .ok (.invokevirtual 94, 3) := by decide +kernel
theorem dX2_joinRegister_82 : decode cX2_joinRegister 82 = .ok (.iinc 3 1, 3) := by decide +kernel
theorem dX2_joinRegister_85 : decode cX2_joinRegister 85 = .ok (.goto (-72), 3) := by decide +kernel
theorem dX2_joinRegister_88 : decode cX2_joinRegister 88 = .ok (.return_, 1) := by decide +kernel
theorem dX2_joinMakerAhead_0 : decode cX2_joinMakerAhead 0 = .ok (.iconst 0, 1) := by decide +kernel
theorem dX2_joinMakerAhead_1 : decode cX2_joinMakerAhead 1 = .ok (.istore 4, 2) := by decide +kernel
theorem dX2_joinMakerAhead_3 : decode cX2_joinMakerAhead 3 = .ok (.aload_n 1, 1) := by decide +kernel
theorem dX2_joinMakerAhead_4 : decode cX2_joinMakerAhead 4 = .ok (.iload_n 2, 1) := by decide +kernel
theorem dX2_joinMakerAhead_5 : decode cX2_joinMakerAhead 5 = .ok (.iload_n 3, 1) := by decide +kernel
theorem dX2_joinMakerAhead_6 : decode cX2_joinMakerAhead 6 = .ok (.invokevirtual 97, 3) := by decide +kernel
theorem dX2_joinMakerAhead_9 : decode cX2_joinMakerAhead 9 = .ok (.istore 5, 2) := by decide +kernel
theorem dX2_joinMakerAhead_11 : decode cX2_joinMakerAhead 11 = .ok (.iload 5, 2) := by decide +kernel
theorem dX2_joinMakerAhead_13 : decode cX2_joinMakerAhead 13 = .ok (.iconst (-1), 1) := by decide +kernel
theorem dX2_joinMakerAhead_14 : decode cX2_joinMakerAhead 14 = .ok (.if_icmp .ne 17, 3) := by decide +kernel
theorem dX2_joinMakerAhead_17 : decode cX2_joinMakerAhead 17 = .ok (.iconst 1, 1) := by decide +kernel
theorem dX2_joinMakerAhead_18 : decode cX2_joinMakerAhead 18 = .ok (.istore 4, 2) := by decide +kernel
theorem dX2_joinMakerAhead_20 : decode cX2_joinMakerAhead 20 = .ok (.aload_n 1, 1) := by decide +kernel
theorem dX2_joinMakerAhead_21 : decode cX2_joinMakerAhead 21 = .ok (.iload_n 2, 1) := by decide +kernel
theorem dX2_joinMakerAhead_22 : decode cX2_joinMakerAhead 22 = .ok (.aload_n 1, 1) := by decide +kernel
theorem dX2_joinMakerAhead_23 : decode cX2_joinMakerAhead 23 = .ok (.getfield 55, 3) := by decide +kernel
theorem dX2_joinMakerAhead_26 : decode cX2_joinMakerAhead 26 = .ok (.invokevirtual 97, 3) := by decide +kernel
theorem dX2_joinMakerAhead_29 : decode cX2_joinMakerAhead 29 = .ok (.istore 5, 2) := by decide +kernel
theorem dX2_joinMakerAhead_31 : decode cX2_joinMakerAhead 31 = .ok (.iload 5, 2) := by decide +kernel
theorem dX2_joinMakerAhead_33 : decode cX2_joinMakerAhead 33 = .ok (.iconst (-1), 1) := by decide +kernel
theorem dX2_joinMakerAhead_34 : decode cX2_joinMakerAhead 34 = .ok (.if_icmp .eq 18, 3) := by decide +kernel
theorem dX2_joinMakerAhead_37 : decode cX2_joinMakerAhead 37 = .ok (.aload_n 0, 1) := by decide +kernel
theorem dX2_joinMakerAhead_38 : decode cX2_joinMakerAhead 38 = .ok (.iload 5, 2) := by decide +kernel
theorem dX2_joinMakerAhead_40 : decode cX2_joinMakerAhead 40 = .ok (.iload_n 3, 1) := by decide +kernel
theorem dX2_joinMakerAhead_41 : decode cX2_joinMakerAhead 41 = .ok (.iload 4, 2) := by decide +kernel
theorem dX2_joinMakerAhead_43 : decode cX2_joinMakerAhead 43 = .ok (.aload_n 1, 1) := by decide +kernel
theorem dX2_joinMakerAhead_44 : decode cX2_joinMakerAhead 44 = .ok (.iload 5, 2) := by decide +kernel
theorem dX2_joinMakerAhead_46 : decode cX2_joinMakerAhead 46 = .ok (.invokevirtual 73, 3) := by decide +kernel
theorem dX2_joinMakerAhead_49 : decode cX2_joinMakerAhead 49 = .ok (.invokevirtual 77, 3) := by decide +kernel
theorem dX2_joinMakerAhead_52 : decode cX2_joinMakerAhead 52 = .ok (.return_, 1) := by decide +kernel
theorem dX2_joinMakerBehind_0 : decode cX2_joinMakerBehind 0 = .ok (.iconst 0, 1) := by decide +kernel
theorem dX2_joinMakerBehind_1 : decode cX2_joinMakerBehind 1 = .ok (.istore 4, 2) := by decide +kernel
theorem dX2_joinMakerBehind_3 : decode cX2_joinMakerBehind 3 = .ok (.aload_n 1, 1) := by decide +kernel
theorem dX2_joinMakerBehind_4 : decode cX2_joinMakerBehind 4 = .ok (.iload_n 2, 1) := by decide +kernel
theorem dX2_joinMakerBehind_5 : decode cX2_joinMakerBehind 5 = .ok (.iload_n 3, 1) := by decide +kernel
theorem dX2_joinMakerBehind_6 : decode cX2_joinMakerBehind 6 = .ok (.invokevirtual 81, 3) := by decide +kernel
theorem dX2_joinMakerBehind_9 : decode cX2_joinMakerBehind 9 = .ok (.istore 5, 2) := by decide +kernel
theorem dX2_joinMakerBehind_11 : decode cX2_joinMakerBehind 11 = .ok (.iload 5, 2) := by decide +kernel
theorem dX2_joinMakerBehind_13 : decode cX2_joinMakerBehind 13 = .ok (.iconst (-1), 1) := by decide +kernel
theorem dX2_joinMakerBehind_14 : decode cX2_joinMakerBehind 14 = .ok (.if_icmp .ne 14, 3) := by decide +kernel
theorem dX2_joinMakerBehind_17 : decode cX2_joinMakerBehind 17 = .ok (.iconst 1, 1) := by decide +kernel
theorem dX2_joinMakerBehind_18 : decode cX2_joinMakerBehind 18 = .ok (.istore 4, 2) := by decide +kernel
theorem dX2_joinMakerBehind_20 : decode cX2_joinMakerBehind 20 = .ok (.aload_n 1, 1) := by decide +kernel
theorem dX2_joinMakerBehind_21 : decode cX2_joinMakerBehind 21 = .ok (.iload_n 2, 1) := by decide +kernel
theorem dX2_joinMakerBehind_22 : decode cX2_joinMakerBehind 22 = .ok (.iconst (-1), 1) := by decide +kernel
theorem dX2_joinMakerBehind_23 : decode cX2_joinMakerBehind 23 = .ok (.invokevirtual 81, 3) := by decide +kernel
theorem dX2_joinMakerBehind_26 : decode cX2_joinMakerBehind 26 = .ok (.istore 5, 2) := by decide +kernel
theorem dX2_joinMakerBehind_28 : decode cX2_joinMakerBehind 28 = .ok (.iload 5, 2) := by decide +kernel
theorem dX2_joinMakerBehind_30 : decode cX2_joinMakerBehind 30 = .ok (.iconst (-1), 1) := by decide +kernel
theorem dX2_joinMakerBehind_31 : decode cX2_joinMakerBehind 31 = .ok (.if_icmp .eq 9, 3) := by decide +kernel
theorem dX2_joinMakerBehind_34 : decode cX2_joinMakerBehind 34 = .ok (.iload 5, 2) := by decide +kernel
theorem dX2_joinMakerBehind_36 : decode cX2_joinMakerBehind 36 = .ok (.iload_n 3, 1) := by decide +kernel
theorem dX2_joinMakerBehind_37 : decode cX2_joinMakerBehind 37 = .ok (.if_icmp .ne 4, 3) := by decide +kernel
theorem dX2_joinMakerBehind_40 : decode cX2_joinMakerBehind 40 = .ok (.return_, 1) := by decide +kernel
theorem dX2_joinMakerBehind_41 : decode cX2_joinMakerBehind 41 = .ok (.iconst 1, 1) := by decide +kernel
theorem dX2_joinMakerBehind_42 : decode cX2_joinMakerBehind 42 = .ok (.aload_n 1, 1) := by decide +kernel
theorem dX2_joinMakerBehind_43 : decode cX2_joinMakerBehind 43 = .ok (.iload 5, 2) := by decide +kernel
theorem dX2_joinMakerBehind_45 : decode cX2_joinMakerBehind 45 = .ok (.invokevirtual 73, 3) := by decide +kernel
theorem dX2_joinMakerBehind_48 : decode cX2_joinMakerBehind 48 = .ok (.isub, 1) := by decide +kernel
theorem dX2_joinMakerBehind_49 : decode cX2_joinMakerBehind 49 = .ok (.istore 6, 2) := by decide +kernel
theorem dX2_joinMakerBehind_51 : decode cX2_joinMakerBehind 51 = .ok (.aload_n 1, 1) := by decide +kernel
theorem dX2_joinMakerBehind_52 : decode cX2_joinMakerBehind 52 = .ok (.getfield 58, 3) := by decide +kernel
theorem dX2_joinMakerBehind_55 : decode cX2_joinMakerBehind 55 = .ok (.iload_n 3, 1) := by decide +kernel
theorem dX2_joinMakerBehind_56 : decode cX2_joinMakerBehind 56 = .ok (.aaload, 1) := by decide +kernel
theorem dX2_joinMakerBehind_57 : decode cX2_joinMakerBehind 57 = .ok (.iload_n 2, 1) := by decide +kernel
theorem dX2_joinMakerBehind_58 : decode cX2_joinMakerBehind 58 = .ok (.invokevirtual 84, 3) := by decide +kernel
theorem dX2_joinMakerBehind_61 : decode cX2_joinMakerBehind 61 = .ok (.ifCond .eq 14, 3) := by decide +kernel
theorem dX2_joinMakerBehind_64 : decode cX2_joinMakerBehind 64 = .ok (.aload_n 0, 1) := by decide +kernel
theorem dX2_joinMakerBehind_65 : decode cX2_joinMakerBehind 65 = .ok (.iload_n 3, 1) := by decide +kernel
theorem dX2_joinMakerBehind_66 : decode cX2_joinMakerBehind 66 = .ok (.iload 5, 2) := by decide +kernel
theorem dX2_joinMakerBehind_68 : decode cX2_joinMakerBehind 68 = .ok (.iload 4, 2) := by decide +kernel
theorem dX2_joinMakerBehind_70 : decode cX2_joinMakerBehind 70 = .ok (.iload 6, 2) := by decide +kernel
theorem dX2_joinMakerBehind_72 : decode cX2_joinMakerBehind 72 = .ok (.invokevirtual 77, 3) := by decide +kernel
theorem dX2_joinMakerBehind_75 : decode cX2_joinMakerBehind 75 = .ok (.aload_n 1, 1) := by decide +kernel
theorem dX2_joinMakerBehind_76 : decode cX2_joinMakerBehind 76 = .ok (.getfield 58, 3) := by decide +kernel
theorem dX2_joinMakerBehind_79 : decode cX2_joinMakerBehind 79 = .ok (.iload_n 3, 1) := by decide +kernel
theorem dX2_joinMakerBehind_80 : decode cX2_joinMakerBehind 80 = .ok (.aaload, 1) := by decide +kernel
theorem dX2_joinMakerBehind_81 : decode cX2_joinMakerBehind 81 = .ok (.getfield 88, 3) := by decide +kernel
theorem dX2_joinMakerBehind_84 : decode cX2_joinMakerBehind 84 = .ok (.iload_n 2, 1) := by decide +kernel
theorem dX2_joinMakerBehind_85 : decode cX2_joinMakerBehind 85 = .ok (.if_icmp .ne 20, 3) := by decide +kernel
theorem dX2_joinMakerBehind_88 : decode cX2_joinMakerBehind 88 = .ok (.aload_n 0, 1) := by decide +kernel
theorem dX2_joinMakerBehind_89 : decode cX2_joinMakerBehind 89 = .ok (.iload_n 3, 1) := by decide +kernel
theorem dX2_joinMakerBehind_90 : decode cX2_joinMakerBehind 90 = .ok (.iload 5, 2) := by decide +kernel
theorem dX2_joinMakerBehind_92 : decode cX2_joinMakerBehind 92 = .ok (.iload 4, 2) := by decide +kernel
theorem dX2_joinMakerBehind_94 : decode cX2_joinMakerBehind 94 = .ok (.iload 6, 2) := by decide +kernel
theorem dX2_joinMakerBehind_96 : decode cX2_joinMakerBehind 96 = .ok (.aload_n 1, 1) := by decide +kernel
theorem dX2_joinMakerBehind_97 : decode cX2_joinMakerBehind 97 = .ok (.iload_n 3, 1) := by decide +kernel
theorem dX2_joinMakerBehind_98 : decode cX2_joinMakerBehind 98 = .ok (.invokevirtual 73, 3) := by decide +kernel
theorem dX2_joinMakerBehind_101 : decode cX2_joinMakerBehind 101 = .ok (.iadd, 1) := by decide +kernel
theorem dX2_joinMakerBehind_102 : decode cX2_joinMakerBehind 102 = .ok (.invokevirtual 77, 3) := by decide +kernel
theorem dX2_joinMakerBehind_105 : decode cX2_joinMakerBehind 105 = .ok (.return_, 1) := by decide +kernel
theorem dX2_joinMemory_0 : decode cX2_joinMemory 0 = .ok (.iconst 0, 1) := by decide +kernel
theorem dX2_joinMemory_1 : decode cX2_joinMemory 1 = .ok (.istore 4, 2) := by decide +kernel
theorem dX2_joinMemory_3 : decode cX2_joinMemory 3 = .ok (.iload 4, 2) := by decide +kernel
theorem dX2_joinMemory_5 : decode cX2_joinMemory 5 = .ok (.aload_n 1, 1) := by decide +kernel
theorem dX2_joinMemory_6 : decode cX2_joinMemory 6 = .ok (.getfield 55, 3) := by decide +kernel
theorem dX2_joinMemory_9 : decode cX2_joinMemory 9 = .ok (.if_icmp .ge 75, 3) := by decide +kernel
theorem dX2_joinMemory_12 : decode cX2_joinMemory 12 = .ok (.aload_n 1, 1) := by decide +kernel
theorem dX2_joinMemory_13 : decode cX2_joinMemory 13 = .ok (.getfield 58, 3) := by decide +kernel
theorem dX2_joinMemory_16 : decode cX2_joinMemory 16 = .ok (.iload 4, 2) := by decide +kernel
theorem dX2_joinMemory_18 : decode cX2_joinMemory 18 = .ok (.aaload, 1) := by decide +kernel
theorem dX2_joinMemory_19 : decode cX2_joinMemory 19 = .ok (.getfield 100, 3) := by decide +kernel
theorem dX2_joinMemory_22 : decode cX2_joinMemory 22 = .ok (.iload_n 2, 1) := by decide +kernel
theorem dX2_joinMemory_23 : decode cX2_joinMemory 23 = .ok (.if_icmp .eq 6, 3) := by decide +kernel
theorem dX2_joinMemory_26 : decode cX2_joinMemory 26 = .ok (.goto 52, 3) := by decide +kernel
theorem dX2_joinMemory_29 : decode cX2_joinMemory 29 = .ok (.iconst 0, 1) := by decide +kernel
theorem dX2_joinMemory_30 : decode cX2_joinMemory 30 = .ok (.istore 5, 2) := by decide +kernel
theorem dX2_joinMemory_32 : decode cX2_joinMemory 32 = .ok (.iload 5, 2) := by decide +kernel
theorem dX2_joinMemory_34 : decode cX2_joinMemory 34 = .ok (.aload_n 1, 1) := by decide +kernel
theorem dX2_joinMemory_35 : decode cX2_joinMemory 35 = .ok (.getfield 55, 3) := by decide +kernel
theorem dX2_joinMemory_38 : decode cX2_joinMemory 38 = .ok (.if_icmp .ge 40, 3) := by decide +kernel
theorem dX2_joinMemory_41 : decode cX2_joinMemory 41 = .ok (.iload 5, 2) := by decide +kernel
theorem dX2_joinMemory_43 : decode cX2_joinMemory 43 = .ok (.iload 4, 2) := by decide +kernel
theorem dX2_joinMemory_45 : decode cX2_joinMemory 45 = .ok (.if_icmp .eq 27, 3) := by decide +kernel
theorem dX2_joinMemory_48 : decode cX2_joinMemory 48 = .ok (.aload_n 1, 1) := by decide +kernel
theorem dX2_joinMemory_49 : decode cX2_joinMemory 49 = .ok (.getfield 58, 3) := by decide +kernel
theorem dX2_joinMemory_52 : decode cX2_joinMemory 52 = .ok (.iload 5, 2) := by decide +kernel
theorem dX2_joinMemory_54 : decode cX2_joinMemory 54 = .ok (.aaload, 1) := by decide +kernel
theorem dX2_joinMemory_55 : decode cX2_joinMemory 55 = .ok (.getfield 100, 3) := by decide +kernel
theorem dX2_joinMemory_58 : decode cX2_joinMemory 58 = .ok (.iload_n 2, 1) := by decide +kernel
theorem dX2_joinMemory_59 : decode cX2_joinMemory 59 = .ok (.if_icmp .ne 13, 3) := by decide +kernel
theorem dX2_joinMemory_62 : decode cX2_joinMemory 62 = .ok (.aload_n 0, 1) := by decide +kernel
theorem dX2_joinMemory_63 : decode cX2_joinMemory 63 = .ok (.aload_n 1, 1) := by decide +kernel
theorem dX2_joinMemory_64 : decode cX2_joinMemory 64 = .ok (.iload 4, 2) := by decide +kernel
theorem dX2_joinMemory_66 : decode cX2_joinMemory 66 = .ok (.iload 5, 2) := by decide +kernel
theorem dX2_joinMemory_68 : decode cX2_joinMemory 68 = .ok (.iload_n 3, 1) := by decide +kernel
theorem dX2_joinMemory_69 : decode cX2_joinMemory 69 = .ok (.invokevirtual 103, 3) := by decide +kernel
theorem dX2_joinMemory_72 : decode cX2_joinMemory 72 = .ok (.iinc 5 1, 3) := by decide +kernel
theorem dX2_joinMemory_75 : decode cX2_joinMemory 75 = .ok (.goto (-43), 3) := by decide +kernel
theorem dX2_joinMemory_78 : decode cX2_joinMemory 78 = .ok (.iinc 4 1, 3) := by decide +kernel
theorem dX2_joinMemory_81 : decode cX2_joinMemory 81 = .ok (.goto (-78), 3) := by decide +kernel
theorem dX2_joinMemory_84 : decode cX2_joinMemory 84 = .ok (.return_, 1) := by decide +kernel
theorem dX2_joinPlaces_0 : decode cX2_joinPlaces 0 = .ok (.aload_n 1, 1) := by decide +kernel
theorem dX2_joinPlaces_1 : decode cX2_joinPlaces 1 = .ok (.getfield 58, 3) := by decide +kernel
theorem dX2_joinPlaces_4 : decode cX2_joinPlaces 4 = .ok (.iload_n 2, 1) := by decide +kernel
theorem dX2_joinPlaces_5 : decode cX2_joinPlaces 5 = .ok (.aaload, 1) := by decide +kernel
theorem dX2_joinPlaces_6 : decode cX2_joinPlaces 6 = .ok (.astore 5, 2) := by decide +kernel
theorem dX2_joinPlaces_8 : decode cX2_joinPlaces 8 = .ok (.aload_n 1, 1) := by decide +kernel
theorem dX2_joinPlaces_9 : decode cX2_joinPlaces 9 = .ok (.getfield 58, 3) := by decide +kernel
theorem dX2_joinPlaces_12 : decode cX2_joinPlaces 12 = .ok (.iload_n 3, 1) := by decide +kernel
theorem dX2_joinPlaces_13 : decode cX2_joinPlaces 13 = .ok (.aaload, 1) := by decide +kernel
theorem dX2_joinPlaces_14 : decode cX2_joinPlaces 14 = .ok (.astore 6, 2) := by decide +kernel
theorem dX2_joinPlaces_16 : decode cX2_joinPlaces 16 = .ok (.aload 5, 2) := by decide +kernel
theorem dX2_joinPlaces_18 : decode cX2_joinPlaces 18 = .ok (.getfield 107, 3) := by decide +kernel
theorem dX2_joinPlaces_21 : decode cX2_joinPlaces 21 = .ok (.ifCond .ne 12, 3) := by decide +kernel
theorem dX2_joinPlaces_24 : decode cX2_joinPlaces 24 = .ok (.aload 6, 2) := by decide +kernel
theorem dX2_joinPlaces_26 : decode cX2_joinPlaces 26 = .ok (.getfield 107, 3) := by decide +kernel
theorem dX2_joinPlaces_29 : decode cX2_joinPlaces 29 = .ok (.ifCond .ne 4, 3) := by decide +kernel
theorem dX2_joinPlaces_32 : decode cX2_joinPlaces 32 = .ok (.return_, 1) := by decide +kernel
theorem dX2_joinPlaces_33 : decode cX2_joinPlaces 33 = .ok (.aload 5, 2) := by decide +kernel
theorem dX2_joinPlaces_35 : decode cX2_joinPlaces 35 = .ok (.aload 6, 2) := by decide +kernel
theorem dX2_joinPlaces_37 : decode cX2_joinPlaces 37 = .ok (.iload_n 2, 1) := by decide +kernel
theorem dX2_joinPlaces_38 : decode cX2_joinPlaces 38 = .ok (.iload_n 3, 1) := by decide +kernel
theorem dX2_joinPlaces_39 : decode cX2_joinPlaces 39 = .ok (.if_icmp .ge 7, 3) := by decide +kernel
theorem dX2_joinPlaces_42 : decode cX2_joinPlaces 42 = .ok (.iconst 1, 1) := by decide +kernel
theorem dX2_joinPlaces_43 : decode cX2_joinPlaces 43 = .ok (.goto 4, 3) := by decide +kernel
theorem dX2_joinPlaces_46 : decode cX2_joinPlaces 46 = .ok (.iconst 0, 1) := by decide +kernel
theorem dX2_joinPlaces_47 : decode cX2_joinPlaces 47 = .ok (.iload 4, 2) := by decide +kernel
theorem dX2_joinPlaces_49 : decode cX2_joinPlaces 49 = .ok (.invokestatic 111, 3) := by decide +kernel
theorem dX2_joinPlaces_52 : decode cX2_joinPlaces 52 = .ok (.istore 7, 2) := by decide +kernel
theorem dX2_joinPlaces_54 : decode cX2_joinPlaces 54 = .ok (.iload 7, 2) := by decide +kernel
theorem dX2_joinPlaces_56 : decode cX2_joinPlaces 56 = .ok (.iconst (-1), 1) := by decide +kernel
theorem dX2_joinPlaces_57 : decode cX2_joinPlaces 57 = .ok (.if_icmp .ne 4, 3) := by decide +kernel
theorem dX2_joinPlaces_60 : decode cX2_joinPlaces 60 = .ok (.return_, 1) := by decide +kernel
theorem dX2_joinPlaces_61 : decode cX2_joinPlaces 61 = .ok (.aload 6, 2) := by decide +kernel
theorem dX2_joinPlaces_63 : decode cX2_joinPlaces 63 = .ok (.getfield 107, 3) := by decide +kernel
theorem dX2_joinPlaces_66 : decode cX2_joinPlaces 66 = .ok (.ifCond .ne 19, 3) := by decide +kernel
theorem dX2_joinPlaces_69 : decode cX2_joinPlaces 69 = .ok (.aload_n 0, 1) := by decide +kernel
theorem dX2_joinPlaces_70 : decode cX2_joinPlaces 70 = .ok (.iload_n 2, 1) := by decide +kernel
theorem dX2_joinPlaces_71 : decode cX2_joinPlaces 71 = .ok (.iload_n 3, 1) := by decide +kernel
theorem dX2_joinPlaces_72 : decode cX2_joinPlaces 72 = .ok (.iload 7, 2) := by decide +kernel
theorem dX2_joinPlaces_74 : decode cX2_joinPlaces 74 = .ok (.aload_n 1, 1) := by decide +kernel
theorem dX2_joinPlaces_75 : decode cX2_joinPlaces 75 = .ok (.iload_n 2, 1) := by decide +kernel
theorem dX2_joinPlaces_76 : decode cX2_joinPlaces 76 = .ok (.invokevirtual 73, 3) := by decide +kernel
theorem dX2_joinPlaces_79 : decode cX2_joinPlaces 79 = .ok (.invokevirtual 77, 3) := by decide +kernel
theorem dX2_joinPlaces_82 : decode cX2_joinPlaces 82 = .ok (.goto 38, 3) := by decide +kernel
theorem dX2_joinPlaces_85 : decode cX2_joinPlaces 85 = .ok (.aload 5, 2) := by decide +kernel
theorem dX2_joinPlaces_87 : decode cX2_joinPlaces 87 = .ok (.getfield 107, 3) := by decide +kernel
theorem dX2_joinPlaces_90 : decode cX2_joinPlaces 90 = .ok (.ifCond .ne 21, 3) := by decide +kernel
theorem dX2_joinPlaces_93 : decode cX2_joinPlaces 93 = .ok (.aload_n 0, 1) := by decide +kernel
theorem dX2_joinPlaces_94 : decode cX2_joinPlaces 94 = .ok (.iload_n 2, 1) := by decide +kernel
theorem dX2_joinPlaces_95 : decode cX2_joinPlaces 95 = .ok (.iload_n 3, 1) := by decide +kernel
theorem dX2_joinPlaces_96 : decode cX2_joinPlaces 96 = .ok (.iload 7, 2) := by decide +kernel
theorem dX2_joinPlaces_98 : decode cX2_joinPlaces 98 = .ok (.iconst 1, 1) := by decide +kernel
theorem dX2_joinPlaces_99 : decode cX2_joinPlaces 99 = .ok (.aload_n 1, 1) := by decide +kernel
theorem dX2_joinPlaces_100 : decode cX2_joinPlaces 100 = .ok (.iload_n 3, 1) := by decide +kernel
theorem dX2_joinPlaces_101 : decode cX2_joinPlaces 101 = .ok (.invokevirtual 73, 3) := by decide +kernel
theorem dX2_joinPlaces_104 : decode cX2_joinPlaces 104 = .ok (.isub, 1) := by decide +kernel
theorem dX2_joinPlaces_105 : decode cX2_joinPlaces 105 = .ok (.invokevirtual 77, 3) := by decide +kernel
theorem dX2_joinPlaces_108 : decode cX2_joinPlaces 108 = .ok (.goto 12, 3) := by decide +kernel
theorem dX2_joinPlaces_111 : decode cX2_joinPlaces 111 = .ok (.aload_n 0, 1) := by decide +kernel
theorem dX2_joinPlaces_112 : decode cX2_joinPlaces 112 = .ok (.iload_n 2, 1) := by decide +kernel
theorem dX2_joinPlaces_113 : decode cX2_joinPlaces 113 = .ok (.iload_n 3, 1) := by decide +kernel
theorem dX2_joinPlaces_114 : decode cX2_joinPlaces 114 = .ok (.iload 7, 2) := by decide +kernel
theorem dX2_joinPlaces_116 : decode cX2_joinPlaces 116 = .ok (.iconst 1, 1) := by decide +kernel
theorem dX2_joinPlaces_117 : decode cX2_joinPlaces 117 = .ok (.invokevirtual 77, 3) := by decide +kernel
theorem dX2_joinPlaces_120 : decode cX2_joinPlaces 120 = .ok (.return_, 1) := by decide +kernel
theorem dX2_distanceTo_0 : decode cX2_distanceTo 0 = .ok (.aload_n 0, 1) := by decide +kernel
theorem dX2_distanceTo_1 : decode cX2_distanceTo 1 = .ok (.getfield 115, 3) := by decide +kernel
theorem dX2_distanceTo_4 : decode cX2_distanceTo 4 = .ok (.aload_n 1, 1) := by decide +kernel
theorem dX2_distanceTo_5 : decode cX2_distanceTo 5 = .ok (.getfield 115, 3) := by decide +kernel
theorem dX2_distanceTo_8 : decode cX2_distanceTo 8 = .ok (.isub, 1) := by decide +kernel
theorem dX2_distanceTo_9 : decode cX2_distanceTo 9 = .ok (.istore 4, 2) := by decide +kernel
theorem dX2_distanceTo_11 : decode cX2_distanceTo 11 = .ok (.aload_n 0, 1) := by decide +kernel
theorem dX2_distanceTo_12 : decode cX2_distanceTo 12 = .ok (.getfield 118, 3) := by decide +kernel
theorem dX2_distanceTo_15 : decode cX2_distanceTo 15 = .ok (.ifCond .eq 48, 3) := by decide +kernel
theorem dX2_distanceTo_18 : decode cX2_distanceTo 18 = .ok (.aload_n 1, 1) := by decide +kernel
theorem dX2_distanceTo_19 : decode cX2_distanceTo 19 = .ok (.getfield 118, 3) := by decide +kernel
theorem dX2_distanceTo_22 : decode cX2_distanceTo 22 = .ok (.ifCond .eq 41, 3) := by decide +kernel
theorem dX2_distanceTo_25 : decode cX2_distanceTo 25 = .ok (.iload 4, 2) := by decide +kernel
theorem dX2_distanceTo_27 : decode cX2_distanceTo 27 = .ok (.ifCond .lt 21, 3) := by decide +kernel
theorem dX2_distanceTo_30 : decode cX2_distanceTo 30 = .ok (.iload 4, 2) := by decide +kernel
theorem dX2_distanceTo_32 : decode cX2_distanceTo 32 = .ok (.iload_n 3, 1) := by decide +kernel
theorem dX2_distanceTo_33 : decode cX2_distanceTo 33 = .ok (.invokestatic 121, 3) := by decide +kernel
theorem dX2_distanceTo_36 : decode cX2_distanceTo 36 = .ok (.ifCond .eq 12, 3) := by decide +kernel
theorem dX2_distanceTo_39 : decode cX2_distanceTo 39 = .ok (.iload 4, 2) := by decide +kernel
theorem dX2_distanceTo_41 : decode cX2_distanceTo 41 = .ok (.ifCond .ne 9, 3) := by decide +kernel
theorem dX2_distanceTo_44 : decode cX2_distanceTo 44 = .ok (.iload_n 2, 1) := by decide +kernel
theorem dX2_distanceTo_45 : decode cX2_distanceTo 45 = .ok (.ifCond .ne 5, 3) := by decide +kernel
theorem dX2_distanceTo_48 : decode cX2_distanceTo 48 = .ok (.iconst (-1), 1) := by decide +kernel
theorem dX2_distanceTo_49 : decode cX2_distanceTo 49 = .ok (.ireturn, 1) := by decide +kernel
theorem dX2_distanceTo_50 : decode cX2_distanceTo 50 = .ok (.iload_n 3, 1) := by decide +kernel
theorem dX2_distanceTo_51 : decode cX2_distanceTo 51 = .ok (.ifCond .le 10, 3) := by decide +kernel
theorem dX2_distanceTo_54 : decode cX2_distanceTo 54 = .ok (.iload 4, 2) := by decide +kernel
theorem dX2_distanceTo_56 : decode cX2_distanceTo 56 = .ok (.iload_n 3, 1) := by decide +kernel
theorem dX2_distanceTo_57 : decode cX2_distanceTo 57 = .ok (.idiv, 1) := by decide +kernel
theorem dX2_distanceTo_58 : decode cX2_distanceTo 58 = .ok (.goto 4, 3) := by decide +kernel
theorem dX2_distanceTo_61 : decode cX2_distanceTo 61 = .ok (.iconst (-1), 1) := by decide +kernel
theorem dX2_distanceTo_62 : decode cX2_distanceTo 62 = .ok (.ireturn, 1) := by decide +kernel
theorem dX2_distanceTo_63 : decode cX2_distanceTo 63 = .ok (.aload_n 0, 1) := by decide +kernel
theorem dX2_distanceTo_64 : decode cX2_distanceTo 64 = .ok (.getfield 118, 3) := by decide +kernel
theorem dX2_distanceTo_67 : decode cX2_distanceTo 67 = .ok (.ifCond .ne 17, 3) := by decide +kernel
theorem dX2_distanceTo_70 : decode cX2_distanceTo 70 = .ok (.aload_n 1, 1) := by decide +kernel
theorem dX2_distanceTo_71 : decode cX2_distanceTo 71 = .ok (.getfield 118, 3) := by decide +kernel
theorem dX2_distanceTo_74 : decode cX2_distanceTo 74 = .ok (.ifCond .ne 10, 3) := by decide +kernel
theorem dX2_distanceTo_77 : decode cX2_distanceTo 77 = .ok (.iload 4, 2) := by decide +kernel
theorem dX2_distanceTo_79 : decode cX2_distanceTo 79 = .ok (.ifCond .eq 5, 3) := by decide +kernel
theorem dX2_distanceTo_82 : decode cX2_distanceTo 82 = .ok (.iconst (-1), 1) := by decide +kernel
theorem dX2_distanceTo_83 : decode cX2_distanceTo 83 = .ok (.ireturn, 1) := by decide +kernel
theorem dX2_distanceTo_84 : decode cX2_distanceTo 84 = .ok (.iload_n 2, 1) := by decide +kernel
theorem dX2_distanceTo_85 : decode cX2_distanceTo 85 = .ok (.ifCond .eq 7, 3) := by decide +kernel
theorem dX2_distanceTo_88 : decode cX2_distanceTo 88 = .ok (.iconst 0, 1) := by decide +kernel
theorem dX2_distanceTo_89 : decode cX2_distanceTo 89 = .ok (.goto 4, 3) := by decide +kernel
theorem dX2_distanceTo_92 : decode cX2_distanceTo 92 = .ok (.iconst 1, 1) := by decide +kernel
theorem dX2_distanceTo_93 : decode cX2_distanceTo 93 = .ok (.ireturn, 1) := by decide +kernel
theorem dX2_joinChannel_0 : decode cX2_joinChannel 0 = .ok (.iconst (-1), 1) := by decide +kernel
theorem dX2_joinChannel_1 : decode cX2_joinChannel 1 = .ok (.istore_n 3, 1) := by decide +kernel
theorem dX2_joinChannel_2 : decode cX2_joinChannel 2 = .ok (.iconst (-1), 1) := by decide +kernel
theorem dX2_joinChannel_3 : decode cX2_joinChannel 3 = .ok (.istore 4, 2) := by decide +kernel
theorem dX2_joinChannel_5 : decode cX2_joinChannel 5 = .ok (.iconst 0, 1) := by decide +kernel
theorem dX2_joinChannel_6 : decode cX2_joinChannel 6 = .ok (.istore 5, 2) := by decide +kernel
theorem dX2_joinChannel_8 : decode cX2_joinChannel 8 = .ok (.iload 5, 2) := by decide +kernel
theorem dX2_joinChannel_10 : decode cX2_joinChannel 10 = .ok (.aload_n 1, 1) := by decide +kernel
theorem dX2_joinChannel_11 : decode cX2_joinChannel 11 = .ok (.getfield 55, 3) := by decide +kernel
theorem dX2_joinChannel_14 : decode cX2_joinChannel 14 = .ok (.if_icmp .ge 49, 3) := by decide +kernel
theorem dX2_joinChannel_17 : decode cX2_joinChannel 17 = .ok (.aload_n 1, 1) := by decide +kernel
theorem dX2_joinChannel_18 : decode cX2_joinChannel 18 = .ok (.getfield 58, 3) := by decide +kernel
theorem dX2_joinChannel_21 : decode cX2_joinChannel 21 = .ok (.iload 5, 2) := by decide +kernel
theorem dX2_joinChannel_23 : decode cX2_joinChannel 23 = .ok (.aaload, 1) := by decide +kernel
theorem dX2_joinChannel_24 : decode cX2_joinChannel 24 = .ok (.getfield 100, 3) := by decide +kernel
theorem dX2_joinChannel_27 : decode cX2_joinChannel 27 = .ok (.iload_n 2, 1) := by decide +kernel
theorem dX2_joinChannel_28 : decode cX2_joinChannel 28 = .ok (.if_icmp .ne 29, 3) := by decide +kernel
theorem dX2_joinChannel_31 : decode cX2_joinChannel 31 = .ok (.iload 4, 2) := by decide +kernel
theorem dX2_joinChannel_33 : decode cX2_joinChannel 33 = .ok (.iconst (-1), 1) := by decide +kernel
theorem dX2_joinChannel_34 : decode cX2_joinChannel 34 = .ok (.if_icmp .ne 9, 3) := by decide +kernel
theorem dX2_joinChannel_37 : decode cX2_joinChannel 37 = .ok (.iload 5, 2) := by decide +kernel
theorem dX2_joinChannel_39 : decode cX2_joinChannel 39 = .ok (.istore_n 3, 1) := by decide +kernel
theorem dX2_joinChannel_40 : decode cX2_joinChannel 40 = .ok (.goto 13, 3) := by decide +kernel
theorem dX2_joinChannel_43 : decode cX2_joinChannel 43 = .ok (.aload_n 0, 1) := by decide +kernel
theorem dX2_joinChannel_44 : decode cX2_joinChannel 44 = .ok (.iload 4, 2) := by decide +kernel
theorem dX2_joinChannel_46 : decode cX2_joinChannel 46 = .ok (.iload 5, 2) := by decide +kernel
theorem dX2_joinChannel_48 : decode cX2_joinChannel 48 = .ok (.iconst 0, 1) := by decide +kernel
theorem dX2_joinChannel_49 : decode cX2_joinChannel 49 = .ok (.iconst 1, 1) := by decide +kernel
theorem dX2_joinChannel_50 : decode cX2_joinChannel 50 = .ok (.invokevirtual 77, 3) := by decide +kernel
theorem dX2_joinChannel_53 : decode cX2_joinChannel 53 = .ok (.iload 5, 2) := by decide +kernel
theorem dX2_joinChannel_55 : decode cX2_joinChannel 55 = .ok (.istore 4, 2) := by decide +kernel
theorem dX2_joinChannel_57 : decode cX2_joinChannel 57 = .ok (.iinc 5 1, 3) := by decide +kernel
theorem dX2_joinChannel_60 : decode cX2_joinChannel 60 = .ok (.goto (-52), 3) := by decide +kernel
theorem dX2_joinChannel_63 : decode cX2_joinChannel 63 = .ok (.iload 4, 2) := by decide +kernel
theorem dX2_joinChannel_65 : decode cX2_joinChannel 65 = .ok (.iload_n 3, 1) := by decide +kernel
theorem dX2_joinChannel_66 : decode cX2_joinChannel 66 = .ok (.if_icmp .eq 12, 3) := by decide +kernel
theorem dX2_joinChannel_69 : decode cX2_joinChannel 69 = .ok (.aload_n 0, 1) := by decide +kernel
theorem dX2_joinChannel_70 : decode cX2_joinChannel 70 = .ok (.iload 4, 2) := by decide +kernel
theorem dX2_joinChannel_72 : decode cX2_joinChannel 72 = .ok (.iload_n 3, 1) := by decide +kernel
theorem dX2_joinChannel_73 : decode cX2_joinChannel 73 = .ok (.iconst 1, 1) := by decide +kernel
theorem dX2_joinChannel_74 : decode cX2_joinChannel 74 = .ok (.iconst 1, 1) := by decide +kernel
theorem dX2_joinChannel_75 : decode cX2_joinChannel 75 = .ok (.invokevirtual 77, 3) := by decide +kernel
theorem dX2_joinChannel_78 : decode cX2_joinChannel 78 = .ok (.return_, 1) := by decide +kernel
theorem dX2_isKept_0 : decode cX2_isKept 0 = .ok (.iconst 0, 1) := by decide +kernel
theorem dX2_isKept_1 : decode cX2_isKept 1 = .ok (.istore 5, 2) := by decide +kernel
theorem dX2_isKept_3 : decode cX2_isKept 3 = .ok (.iload 5, 2) := by decide +kernel
theorem dX2_isKept_5 : decode cX2_isKept 5 = .ok (.aload_n 1, 1) := by decide +kernel
theorem dX2_isKept_6 : decode cX2_isKept 6 = .ok (.getfield 55, 3) := by decide +kernel
theorem dX2_isKept_9 : decode cX2_isKept 9 = .ok (.if_icmp .ge 90, 3) := by decide +kernel
theorem dX2_isKept_12 : decode cX2_isKept 12 = .ok (.iconst 0, 1) := by decide +kernel
theorem dX2_isKept_13 : decode cX2_isKept 13 = .ok (.istore 6, 2) := by decide +kernel
theorem dX2_isKept_15 : decode cX2_isKept 15 = .ok (.iload 6, 2) := by decide +kernel
theorem dX2_isKept_17 : decode cX2_isKept 17 = .ok (.aload_n 0, 1) := by decide +kernel
theorem dX2_isKept_18 : decode cX2_isKept 18 = .ok (.getfield 22, 3) := by decide +kernel
theorem dX2_isKept_21 : decode cX2_isKept 21 = .ok (.iload 5, 2) := by decide +kernel
theorem dX2_isKept_23 : decode cX2_isKept 23 = .ok (.iaload, 1) := by decide +kernel
theorem dX2_isKept_24 : decode cX2_isKept 24 = .ok (.if_icmp .ge 69, 3) := by decide +kernel
theorem dX2_isKept_27 : decode cX2_isKept 27 = .ok (.aload_n 0, 1) := by decide +kernel
theorem dX2_isKept_28 : decode cX2_isKept 28 = .ok (.getfield 16, 3) := by decide +kernel
theorem dX2_isKept_31 : decode cX2_isKept 31 = .ok (.iload 5, 2) := by decide +kernel
theorem dX2_isKept_33 : decode cX2_isKept 33 = .ok (.aaload, 1) := by decide +kernel
theorem dX2_isKept_34 : decode cX2_isKept 34 = .ok (.iload 6, 2) := by decide +kernel
theorem dX2_isKept_36 : decode cX2_isKept 36 = .ok (.iaload, 1) := by decide +kernel
theorem dX2_isKept_37 : decode cX2_isKept 37 = .ok (.istore 7, 2) := by decide +kernel
theorem dX2_isKept_39 : decode cX2_isKept 39 = .ok (.aload_n 2, 1) := by decide +kernel
theorem dX2_isKept_40 : decode cX2_isKept 40 = .ok (.aload_n 0, 1) := by decide +kernel
theorem dX2_isKept_41 : decode cX2_isKept 41 = .ok (.getfield 11, 3) := by decide +kernel
theorem dX2_isKept_44 : decode cX2_isKept 44 = .ok (.iload 5, 2) := by decide +kernel
theorem dX2_isKept_46 : decode cX2_isKept 46 = .ok (.aaload, 1) := by decide +kernel
theorem dX2_isKept_47 : decode cX2_isKept 47 = .ok (.iload 6, 2) := by decide +kernel
theorem dX2_isKept_49 : decode cX2_isKept 49 = .ok (.iaload, 1) := by decide +kernel
theorem dX2_isKept_50 : decode cX2_isKept 50 = .ok (.iaload, 1) := by decide +kernel
theorem dX2_isKept_51 : decode cX2_isKept 51 = .ok (.iload_n 3, 1) := by decide +kernel
theorem dX2_isKept_52 : decode cX2_isKept 52 = .ok (.iload 7, 2) := by decide +kernel
theorem dX2_isKept_54 : decode cX2_isKept 54 = .ok (.imul, 1) := by decide +kernel
theorem dX2_isKept_55 : decode cX2_isKept 55 = .ok (.iadd, 1) := by decide +kernel
theorem dX2_isKept_56 : decode cX2_isKept 56 = .ok (.aload_n 2, 1) := by decide +kernel
theorem dX2_isKept_57 : decode cX2_isKept 57 = .ok (.iload 5, 2) := by decide +kernel
theorem dX2_isKept_59 : decode cX2_isKept 59 = .ok (.iaload, 1) := by decide +kernel
theorem dX2_isKept_60 : decode cX2_isKept 60 = .ok (.isub, 1) := by decide +kernel
theorem dX2_isKept_61 : decode cX2_isKept 61 = .ok (.istore 8, 2) := by decide +kernel
theorem dX2_isKept_63 : decode cX2_isKept 63 = .ok (.iload 7, 2) := by decide +kernel
theorem dX2_isKept_65 : decode cX2_isKept 65 = .ok (.iload 4, 2) := by decide +kernel
theorem dX2_isKept_67 : decode cX2_isKept 67 = .ok (.if_icmp .gt 20, 3) := by decide +kernel
theorem dX2_isKept_70 : decode cX2_isKept 70 = .ok (.iload 8, 2) := by decide +kernel
theorem dX2_isKept_72 : decode cX2_isKept 72 = .ok (.aload_n 0, 1) := by decide +kernel
theorem dX2_isKept_73 : decode cX2_isKept 73 = .ok (.getfield 19, 3) := by decide +kernel
theorem dX2_isKept_76 : decode cX2_isKept 76 = .ok (.iload 5, 2) := by decide +kernel
theorem dX2_isKept_78 : decode cX2_isKept 78 = .ok (.aaload, 1) := by decide +kernel
theorem dX2_isKept_79 : decode cX2_isKept 79 = .ok (.iload 6, 2) := by decide +kernel
theorem dX2_isKept_81 : decode cX2_isKept 81 = .ok (.iaload, 1) := by decide +kernel
theorem dX2_isKept_82 : decode cX2_isKept 82 = .ok (.if_icmp .ge 5, 3) := by decide +kernel
theorem dX2_isKept_85 : decode cX2_isKept 85 = .ok (.iconst 0, 1) := by decide +kernel
theorem dX2_isKept_86 : decode cX2_isKept 86 = .ok (.ireturn, 1) := by decide +kernel
theorem dX2_isKept_87 : decode cX2_isKept 87 = .ok (.iinc 6 1, 3) := by decide +kernel
theorem dX2_isKept_90 : decode cX2_isKept 90 = .ok (.goto (-75), 3) := by decide +kernel
theorem dX2_isKept_93 : decode cX2_isKept 93 = .ok (.iinc 5 1, 3) := by decide +kernel
theorem dX2_isKept_96 : decode cX2_isKept 96 = .ok (.goto (-93), 3) := by decide +kernel
theorem dX2_isKept_99 : decode cX2_isKept 99 = .ok (.iconst 1, 1) := by decide +kernel
theorem dX2_isKept_100 : decode cX2_isKept 100 = .ok (.ireturn, 1) := by decide +kernel
theorem dX3_init_0 : decode cX3_init 0 = .ok (.aload_n 0, 1) := by decide +kernel
theorem dX3_init_1 : decode cX3_init 1 = .ok (.invokespecial 3, 3) := by decide +kernel
theorem dX3_init_4 : decode cX3_init 4 = .ok (.return_, 1) := by decide +kernel
theorem dX3_set_0 : decode cX3_set 0 = .ok (.aload_n 0, 1) := by decide +kernel
theorem dX3_set_1 : decode cX3_set 1 = .ok (.aload_n 1, 1) := by decide +kernel
theorem dX3_set_2 : decode cX3_set 2 = .ok (.putfield 9, 3) := by decide +kernel
theorem dX3_set_5 : decode cX3_set 5 = .ok (.aload_n 0, 1) := by decide +kernel
theorem dX3_set_6 : decode cX3_set 6 = .ok (.iload_n 2, 1) := by decide +kernel
theorem dX3_set_7 : decode cX3_set 7 = .ok (.putfield 15, 3) := by decide +kernel
theorem dX3_set_10 : decode cX3_set 10 = .ok (.aload_n 0, 1) := by decide +kernel
theorem dX3_set_11 : decode cX3_set 11 = .ok (.iload_n 3, 1) := by decide +kernel
theorem dX3_set_12 : decode cX3_set 12 = .ok (.putfield 19, 3) := by decide +kernel
theorem dX3_set_15 : decode cX3_set 15 = .ok (.aload_n 0, 1) := by decide +kernel
theorem dX3_set_16 : decode cX3_set 16 = .ok (.iload 4, 2) := by decide +kernel
theorem dX3_set_18 : decode cX3_set 18 = .ok (.putfield 22, 3) := by decide +kernel
theorem dX3_set_21 : decode cX3_set 21 = .ok (.aload_n 0, 1) := by decide +kernel
theorem dX3_set_22 : decode cX3_set 22 = .ok (.iconst 1, 1) := by decide +kernel
theorem dX3_set_23 : decode cX3_set 23 = .ok (.putfield 25, 3) := by decide +kernel
theorem dX3_set_26 : decode cX3_set 26 = .ok (.aload_n 0, 1) := by decide +kernel
theorem dX3_set_27 : decode cX3_set 27 = .ok (.iconst (-1), 1) := by decide +kernel
theorem dX3_set_28 : decode cX3_set 28 = .ok (.putfield 28, 3) := by decide +kernel
theorem dX3_set_31 : decode cX3_set 31 = .ok (.aload_n 0, 1) := by decide +kernel
theorem dX3_set_32 : decode cX3_set 32 = .ok (.iconst (-1), 1) := by decide +kernel
theorem dX3_set_33 : decode cX3_set 33 = .ok (.putfield 31, 3) := by decide +kernel
theorem dX3_set_36 : decode cX3_set 36 = .ok (.aload_n 0, 1) := by decide +kernel
theorem dX3_set_37 : decode cX3_set 37 = .ok (.iconst 0, 1) := by decide +kernel
theorem dX3_set_38 : decode cX3_set 38 = .ok (.putfield 34, 3) := by decide +kernel
theorem dX3_set_41 : decode cX3_set 41 = .ok (.aload_n 0, 1) := by decide +kernel
theorem dX3_set_42 : decode cX3_set 42 = .ok (.iconst (-1), 1) := by decide +kernel
theorem dX3_set_43 : decode cX3_set 43 = .ok (.putfield 37, 3) := by decide +kernel
theorem dX3_set_46 : decode cX3_set 46 = .ok (.aload_n 0, 1) := by decide +kernel
theorem dX3_set_47 : decode cX3_set 47 = .ok (.iconst 0, 1) := by decide +kernel
theorem dX3_set_48 : decode cX3_set 48 = .ok (.putfield 40, 3) := by decide +kernel
theorem dX3_set_51 : decode cX3_set 51 = .ok (.aload_n 0, 1) := by decide +kernel
theorem dX3_set_52 : decode cX3_set 52 = .ok (.iconst 0, 1) := by decide +kernel
theorem dX3_set_53 : decode cX3_set 53 = .ok (.putfield 43, 3) := by decide +kernel
theorem dX3_set_56 : decode cX3_set 56 = .ok (.aload_n 0, 1) := by decide +kernel
theorem dX3_set_57 : decode cX3_set 57 = .ok (.iconst 0, 1) := by decide +kernel
theorem dX3_set_58 : decode cX3_set 58 = .ok (.putfield 47, 3) := by decide +kernel
theorem dX3_set_61 : decode cX3_set 61 = .ok (.aload_n 0, 1) := by decide +kernel
theorem dX3_set_62 : decode cX3_set 62 = .ok (.iconst 0, 1) := by decide +kernel
theorem dX3_set_63 : decode cX3_set 63 = .ok (.putfield 50, 3) := by decide +kernel
theorem dX3_set_66 : decode cX3_set 66 = .ok (.return_, 1) := by decide +kernel
theorem dX3_setPlace_0 : decode cX3_setPlace 0 = .ok (.aload_n 0, 1) := by decide +kernel
theorem dX3_setPlace_1 : decode cX3_setPlace 1 = .ok (.aload_n 0, 1) := by decide +kernel
theorem dX3_setPlace_2 : decode cX3_setPlace 2 = .ok (.getfield 9, 3) := by decide +kernel
theorem dX3_setPlace_5 : decode cX3_setPlace 5 = .ok (.iload_n 1, 1) := by decide +kernel
theorem dX3_setPlace_6 : decode cX3_setPlace 6 = .ok (.aload_n 0, 1) := by decide +kernel
theorem dX3_setPlace_7 : decode cX3_setPlace 7 = .ok (.getfield 19, 3) := by decide +kernel
theorem dX3_setPlace_10 : decode cX3_setPlace 10 = .ok (.invokevirtual 53, 3) := by decide +kernel
theorem dX3_setPlace_13 : decode cX3_setPlace 13 = .ok (.putfield 40, 3) := by decide +kernel
theorem dX3_setPlace_16 : decode cX3_setPlace 16 = .ok (.aload_n 0, 1) := by decide +kernel
theorem dX3_setPlace_17 : decode cX3_setPlace 17 = .ok (.aload_n 0, 1) := by decide +kernel
theorem dX3_setPlace_18 : decode cX3_setPlace 18 = .ok (.getfield 9, 3) := by decide +kernel
theorem dX3_setPlace_21 : decode cX3_setPlace 21 = .ok (.getfield 59, 3) := by decide +kernel
theorem dX3_setPlace_24 : decode cX3_setPlace 24 = .ok (.iload_n 1, 1) := by decide +kernel
theorem dX3_setPlace_25 : decode cX3_setPlace 25 = .ok (.baload, 1) := by decide +kernel
theorem dX3_setPlace_26 : decode cX3_setPlace 26 = .ok (.putfield 43, 3) := by decide +kernel
theorem dX3_setPlace_29 : decode cX3_setPlace 29 = .ok (.return_, 1) := by decide +kernel
theorem dX3_isUsing_0 : decode cX3_isUsing 0 = .ok (.aload_n 0, 1) := by decide +kernel
theorem dX3_isUsing_1 : decode cX3_isUsing 1 = .ok (.getfield 34, 3) := by decide +kernel
theorem dX3_isUsing_4 : decode cX3_isUsing 4 = .ok (.iconst 1, 1) := by decide +kernel
theorem dX3_isUsing_5 : decode cX3_isUsing 5 = .ok (.iload_n 1, 1) := by decide +kernel
theorem dX3_isUsing_6 : decode cX3_isUsing 6 = .ok (.ishl, 1) := by decide +kernel
theorem dX3_isUsing_7 : decode cX3_isUsing 7 = .ok (.iand, 1) := by decide +kernel
theorem dX3_isUsing_8 : decode cX3_isUsing 8 = .ok (.ifCond .eq 7, 3) := by decide +kernel
theorem dX3_isUsing_11 : decode cX3_isUsing 11 = .ok (.iconst 1, 1) := by decide +kernel
theorem dX3_isUsing_12 : decode cX3_isUsing 12 = .ok (.goto 4, 3) := by decide +kernel
theorem dX3_isUsing_15 : decode cX3_isUsing 15 = .ok (.iconst 0, 1) := by decide +kernel
theorem dX3_isUsing_16 : decode cX3_isUsing 16 = .ok (.ireturn, 1) := by decide +kernel
theorem dX4_init_0 : decode cX4_init 0 = .ok (.aload_n 0, 1) := by decide +kernel
theorem dX4_init_1 : decode cX4_init 1 = .ok (.invokespecial 3, 3) := by decide +kernel
theorem dX4_init_4 : decode cX4_init 4 = .ok (.aload_n 0, 1) := by decide +kernel
theorem dX4_init_5 : decode cX4_init 5 = .ok (.bipush 96, 2) := by decide +kernel
theorem dX4_init_7 : decode cX4_init 7 = .ok (.newarray .int, 2) := by decide +kernel
theorem dX4_init_9 : decode cX4_init 9 = .ok (.putfield 9, 3) := by decide +kernel
theorem dX4_init_12 : decode cX4_init 12 = .ok (.aload_n 0, 1) := by decide +kernel
theorem dX4_init_13 : decode cX4_init 13 = .ok (.bipush 96, 2) := by decide +kernel
theorem dX4_init_15 : decode cX4_init 15 = .ok (.newarray .int, 2) := by decide +kernel
theorem dX4_init_17 : decode cX4_init 17 = .ok (.putfield 15, 3) := by decide +kernel
theorem dX4_init_20 : decode cX4_init 20 = .ok (.aload_n 0, 1) := by decide +kernel
theorem dX4_init_21 : decode cX4_init 21 = .ok (.bipush 7, 2) := by decide +kernel
theorem dX4_init_23 : decode cX4_init 23 = .ok (.sipush 481, 3) := by decide +kernel
theorem dX4_init_26 : decode cX4_init 26 = .ok (.multianewarray 18 2, 4) := by decide +kernel
theorem dX4_init_30 : decode cX4_init 30 = .ok (.putfield 20, 3) := by decide +kernel
theorem dX4_init_33 : decode cX4_init 33 = .ok (.aload_n 0, 1) := by decide +kernel
theorem dX4_init_34 : decode cX4_init 34 = .ok (.iconst 1, 1) := by decide +kernel
theorem dX4_init_35 : decode cX4_init 35 = .ok (.putfield 23, 3) := by decide +kernel
theorem dX4_init_38 : decode cX4_init 38 = .ok (.aload_n 0, 1) := by decide +kernel
theorem dX4_init_39 : decode cX4_init 39 = .ok (.iconst 1, 1) := by decide +kernel
theorem dX4_init_40 : decode cX4_init 40 = .ok (.putfield 27, 3) := by decide +kernel
theorem dX4_init_43 : decode cX4_init 43 = .ok (.aload_n 0, 1) := by decide +kernel
theorem dX4_init_44 : decode cX4_init 44 = .ok (.iconst 1, 1) := by decide +kernel
theorem dX4_init_45 : decode cX4_init 45 = .ok (.putfield 30, 3) := by decide +kernel
theorem dX4_init_48 : decode cX4_init 48 = .ok (.return_, 1) := by decide +kernel
theorem dX4_find_0 : decode cX4_find 0 = .ok (.aload_n 0, 1) := by decide +kernel
theorem dX4_find_1 : decode cX4_find 1 = .ok (.aload_n 0, 1) := by decide +kernel
theorem dX4_find_2 : decode cX4_find 2 = .ok (.aload_n 1, 1) := by decide +kernel
theorem dX4_find_3 : decode cX4_find 3 = .ok (.aload_n 2, 1) := by decide +kernel
theorem dX4_find_4 : decode cX4_find 4 = .ok (.invokevirtual 33, 3) := by decide +kernel
theorem dX4_find_7 : decode cX4_find 7 = .ok (.putfield 23, 3) := by decide +kernel
theorem dX4_find_10 : decode cX4_find 10 = .ok (.aload_n 0, 1) := by decide +kernel
theorem dX4_find_11 : decode cX4_find 11 = .ok (.aload_n 1, 1) := by decide +kernel
theorem dX4_find_12 : decode cX4_find 12 = .ok (.invokestatic 37, 3) := by decide +kernel
theorem dX4_find_15 : decode cX4_find 15 = .ok (.putfield 27, 3) := by decide +kernel
theorem dX4_find_18 : decode cX4_find 18 = .ok (.aload_n 0, 1) := by decide +kernel
theorem dX4_find_19 : decode cX4_find 19 = .ok (.aload_n 0, 1) := by decide +kernel
theorem dX4_find_20 : decode cX4_find 20 = .ok (.getfield 23, 3) := by decide +kernel
theorem dX4_find_23 : decode cX4_find 23 = .ok (.aload_n 0, 1) := by decide +kernel
theorem dX4_find_24 : decode cX4_find 24 = .ok (.getfield 27, 3) := by decide +kernel
theorem dX4_find_27 : decode cX4_find 27 = .ok (.invokestatic 41, 3) := by decide +kernel
theorem dX4_find_30 : decode cX4_find 30 = .ok (.putfield 30, 3) := by decide +kernel
theorem dX4_find_33 : decode cX4_find 33 = .ok (.aload_n 0, 1) := by decide +kernel
theorem dX4_find_34 : decode cX4_find 34 = .ok (.aload_n 1, 1) := by decide +kernel
theorem dX4_find_35 : decode cX4_find 35 = .ok (.aload_n 2, 1) := by decide +kernel
theorem dX4_find_36 : decode cX4_find 36 = .ok (.invokevirtual 47, 3) := by decide +kernel
theorem dX4_find_39 : decode cX4_find 39 = .ok (.istore_n 3, 1) := by decide +kernel
theorem dX4_find_40 : decode cX4_find 40 = .ok (.aload_n 1, 1) := by decide +kernel
theorem dX4_find_41 : decode cX4_find 41 = .ok (.invokevirtual 51, 3) := by decide +kernel
theorem dX4_find_44 : decode cX4_find 44 = .ok (.istore 4, 2) := by decide +kernel
theorem dX4_find_46 : decode cX4_find 46 = .ok (.aload_n 0, 1) := by decide +kernel
theorem dX4_find_47 : decode cX4_find 47 = .ok (.getfield 30, 3) := by decide +kernel
theorem dX4_find_50 : decode cX4_find 50 = .ok (.iconst 1, 1) := by decide +kernel
theorem dX4_find_51 : decode cX4_find 51 = .ok (.iadd, 1) := by decide +kernel
theorem dX4_find_52 : decode cX4_find 52 = .ok (.istore 5, 2) := by decide +kernel
theorem dX4_find_54 : decode cX4_find 54 = .ok (.iload 5, 2) := by decide +kernel
theorem dX4_find_56 : decode cX4_find 56 = .ok (.iload 4, 2) := by decide +kernel
theorem dX4_find_58 : decode cX4_find 58 = .ok (.if_icmp .gt 26, 3) := by decide +kernel
theorem dX4_find_61 : decode cX4_find 61 = .ok (.iload_n 3, 1) := by decide +kernel
theorem dX4_find_62 : decode cX4_find 62 = .ok (.ifCond .ne 22, 3) := by decide +kernel
theorem dX4_find_65 : decode cX4_find 65 = .ok (.aload_n 0, 1) := by decide +kernel
theorem dX4_find_66 : decode cX4_find 66 = .ok (.iload 5, 2) := by decide +kernel
theorem dX4_find_68 : decode cX4_find 68 = .ok (.putfield 30, 3) := by decide +kernel
theorem dX4_find_71 : decode cX4_find 71 = .ok (.aload_n 0, 1) := by decide +kernel
theorem dX4_find_72 : decode cX4_find 72 = .ok (.aload_n 1, 1) := by decide +kernel
theorem dX4_find_73 : decode cX4_find 73 = .ok (.aload_n 2, 1) := by decide +kernel
theorem dX4_find_74 : decode cX4_find 74 = .ok (.invokevirtual 47, 3) := by decide +kernel
theorem dX4_find_77 : decode cX4_find 77 = .ok (.istore_n 3, 1) := by decide +kernel
theorem dX4_find_78 : decode cX4_find 78 = .ok (.iinc 5 1, 3) := by decide +kernel
theorem dX4_find_81 : decode cX4_find 81 = .ok (.goto (-27), 3) := by decide +kernel
theorem dX4_find_84 : decode cX4_find 84 = .ok (.return_, 1) := by decide +kernel
theorem dX4_findByRings_0 : decode cX4_findByRings 0 = .ok (.iconst 1, 1) := by decide +kernel
theorem dX4_findByRings_1 : decode cX4_findByRings 1 = .ok (.istore_n 3, 1) := by decide +kernel
theorem dX4_findByRings_2 : decode cX4_findByRings 2 = .ok (.iconst 1, 1) := by decide +kernel
theorem dX4_findByRings_3 : decode cX4_findByRings 3 = .ok (.aload_n 1, 1) := by decide +kernel
theorem dX4_findByRings_4 : decode cX4_findByRings 4 = .ok (.invokevirtual 51, 3) := by decide +kernel
theorem dX4_findByRings_7 : decode cX4_findByRings 7 = .ok (.invokestatic 41, 3) := by decide +kernel
theorem dX4_findByRings_10 : decode cX4_findByRings 10 = .ok (.istore 4, 2) := by decide +kernel
theorem dX4_findByRings_12 : decode cX4_findByRings 12 = .ok (.iconst 0, 1) := by decide +kernel
theorem dX4_findByRings_13 : decode cX4_findByRings 13 = .ok (.istore 5, 2) := by decide +kernel
theorem dX4_findByRings_15 : decode cX4_findByRings 15 = .ok (.iload 5, 2) := by decide +kernel
theorem dX4_findByRings_17 : decode cX4_findByRings 17 = .ok (.sipush 481, 3) := by decide +kernel
theorem dX4_findByRings_20 : decode cX4_findByRings 20 = .ok (.if_icmp .ge 46, 3) := by decide +kernel
theorem dX4_findByRings_23 : decode cX4_findByRings 23 = .ok (.iload_n 3, 1) := by decide +kernel
theorem dX4_findByRings_24 : decode cX4_findByRings 24 = .ok (.iload 4, 2) := by decide +kernel
theorem dX4_findByRings_26 : decode cX4_findByRings 26 = .ok (.if_icmp .ge 40, 3) := by decide +kernel
theorem dX4_findByRings_29 : decode cX4_findByRings 29 = .ok (.iload_n 3, 1) := by decide +kernel
theorem dX4_findByRings_30 : decode cX4_findByRings 30 = .ok (.iload 4, 2) := by decide +kernel
theorem dX4_findByRings_32 : decode cX4_findByRings 32 = .ok (.iadd, 1) := by decide +kernel
theorem dX4_findByRings_33 : decode cX4_findByRings 33 = .ok (.iconst 2, 1) := by decide +kernel
theorem dX4_findByRings_34 : decode cX4_findByRings 34 = .ok (.idiv, 1) := by decide +kernel
theorem dX4_findByRings_35 : decode cX4_findByRings 35 = .ok (.istore 6, 2) := by decide +kernel
theorem dX4_findByRings_37 : decode cX4_findByRings 37 = .ok (.aload_n 0, 1) := by decide +kernel
theorem dX4_findByRings_38 : decode cX4_findByRings 38 = .ok (.aload_n 1, 1) := by decide +kernel
theorem dX4_findByRings_39 : decode cX4_findByRings 39 = .ok (.aload_n 2, 1) := by decide +kernel
theorem dX4_findByRings_40 : decode cX4_findByRings 40 = .ok (.iload 6, 2) := by decide +kernel
theorem dX4_findByRings_42 : decode cX4_findByRings 42 = .ok (.invokevirtual 57, 3) := by decide +kernel
theorem dX4_findByRings_45 : decode cX4_findByRings 45 = .ok (.ifCond .eq 10, 3) := by decide +kernel
theorem dX4_findByRings_48 : decode cX4_findByRings 48 = .ok (.iload 6, 2) := by decide +kernel
theorem dX4_findByRings_50 : decode cX4_findByRings 50 = .ok (.istore 4, 2) := by decide +kernel
theorem dX4_findByRings_52 : decode cX4_findByRings 52 = .ok (.goto 8, 3) := by decide +kernel
theorem dX4_findByRings_55 : decode cX4_findByRings 55 = .ok (.iload 6, 2) := by decide +kernel
theorem dX4_findByRings_57 : decode cX4_findByRings 57 = .ok (.iconst 1, 1) := by decide +kernel
theorem dX4_findByRings_58 : decode cX4_findByRings 58 = .ok (.iadd, 1) := by decide +kernel
theorem dX4_findByRings_59 : decode cX4_findByRings 59 = .ok (.istore_n 3, 1) := by decide +kernel
theorem dX4_findByRings_60 : decode cX4_findByRings 60 = .ok (.iinc 5 1, 3) := by decide +kernel
theorem dX4_findByRings_63 : decode cX4_findByRings 63 = .ok (.goto (-48), 3) := by decide +kernel
theorem dX4_findByRings_66 : decode cX4_findByRings 66 = .ok (.iload_n 3, 1) := by decide +kernel
theorem dX4_findByRings_67 : decode cX4_findByRings 67 = .ok (.ireturn, 1) := by decide +kernel
theorem dX4_isAllowedByRings_0 : decode cX4_isAllowedByRings 0 = .ok (.iconst 0, 1) := by decide +kernel
theorem dX4_isAllowedByRings_1 : decode cX4_isAllowedByRings 1 = .ok (.istore 4, 2) := by decide +kernel
theorem dX4_isAllowedByRings_3 : decode cX4_isAllowedByRings 3 = .ok (.iload 4, 2) := by decide +kernel
theorem dX4_isAllowedByRings_5 : decode cX4_isAllowedByRings 5 = .ok (.aload_n 1, 1) := by decide +kernel
theorem dX4_isAllowedByRings_6 : decode cX4_isAllowedByRings 6 = .ok (.getfield 61, 3) := by decide +kernel
theorem dX4_isAllowedByRings_9 : decode cX4_isAllowedByRings 9 = .ok (.if_icmp .ge 17, 3) := by decide +kernel
theorem dX4_isAllowedByRings_12 : decode cX4_isAllowedByRings 12 = .ok (.aload_n 0, 1) := by decide +kernel
theorem dX4_isAllowedByRings_13 : decode cX4_isAllowedByRings 13 = .ok (.getfield 15, 3) := by decide +kernel
theorem dX4_isAllowedByRings_16 : decode cX4_isAllowedByRings 16 = .ok (.iload 4, 2) := by decide +kernel
theorem dX4_isAllowedByRings_18 : decode cX4_isAllowedByRings 18 = .ok (.iconst 0, 1) := by decide +kernel
theorem dX4_isAllowedByRings_19 : decode cX4_isAllowedByRings 19 = .ok (.iastore, 1) := by decide +kernel
theorem dX4_isAllowedByRings_20 : decode cX4_isAllowedByRings 20 = .ok (.iinc 4 1, 3) := by decide +kernel
theorem dX4_isAllowedByRings_23 : decode cX4_isAllowedByRings 23 = .ok (.goto (-20), 3) := by decide +kernel
theorem dX4_isAllowedByRings_26 : decode cX4_isAllowedByRings 26 = .ok (.aload_n 1, 1) := by decide +kernel
theorem dX4_isAllowedByRings_27 : decode cX4_isAllowedByRings 27 = .ok (.invokevirtual 51, 3) := by decide +kernel
theorem dX4_isAllowedByRings_30 : decode cX4_isAllowedByRings 30 = .ok (.istore 4, 2) := by decide +kernel
theorem dX4_isAllowedByRings_32 : decode cX4_isAllowedByRings 32 = .ok (.iconst 0, 1) := by decide +kernel
theorem dX4_isAllowedByRings_33 : decode cX4_isAllowedByRings 33 = .ok (.istore 5, 2) := by decide +kernel
theorem dX4_isAllowedByRings_35 : decode cX4_isAllowedByRings 35 = .ok (.iload 5, 2) := by decide +kernel
theorem dX4_isAllowedByRings_37 : decode cX4_isAllowedByRings 37 = .ok (.aload_n 1, 1) := by decide +kernel
theorem dX4_isAllowedByRings_38 : decode cX4_isAllowedByRings 38 = .ok (.getfield 61, 3) := by decide +kernel
theorem dX4_isAllowedByRings_41 : decode cX4_isAllowedByRings 41 = .ok (.if_icmp .gt 35, 3) := by decide +kernel
theorem dX4_isAllowedByRings_44 : decode cX4_isAllowedByRings 44 = .ok (.aload_n 0, 1) := by decide +kernel
theorem dX4_isAllowedByRings_45 : decode cX4_isAllowedByRings 45 = .ok (.aload_n 1, 1) := by decide +kernel
theorem dX4_isAllowedByRings_46 : decode cX4_isAllowedByRings 46 = .ok (.aload_n 2, 1) := by decide +kernel
theorem dX4_isAllowedByRings_47 : decode cX4_isAllowedByRings 47 = .ok (.iload_n 3, 1) := by decide +kernel
theorem dX4_isAllowedByRings_48 : decode cX4_isAllowedByRings 48 = .ok (.invokevirtual 64, 3) := by decide +kernel
theorem dX4_isAllowedByRings_51 : decode cX4_isAllowedByRings 51 = .ok (.istore 6, 2) := by decide +kernel
theorem dX4_isAllowedByRings_53 : decode cX4_isAllowedByRings 53 = .ok (.iload 6, 2) := by decide +kernel
theorem dX4_isAllowedByRings_55 : decode cX4_isAllowedByRings 55 = .ok (.iconst (-1), 1) := by decide +kernel
theorem dX4_isAllowedByRings_56 : decode cX4_isAllowedByRings 56 = .ok (.if_icmp .ne 5, 3) := by decide +kernel
theorem dX4_isAllowedByRings_59 : decode cX4_isAllowedByRings 59 = .ok (.iconst 1, 1) := by decide +kernel
theorem dX4_isAllowedByRings_60 : decode cX4_isAllowedByRings 60 = .ok (.ireturn, 1) := by decide +kernel
theorem dX4_isAllowedByRings_61 : decode cX4_isAllowedByRings 61 = .ok (.iload 6, 2) := by decide +kernel
theorem dX4_isAllowedByRings_63 : decode cX4_isAllowedByRings 63 = .ok (.iload 4, 2) := by decide +kernel
theorem dX4_isAllowedByRings_65 : decode cX4_isAllowedByRings 65 = .ok (.if_icmp .le 5, 3) := by decide +kernel
theorem dX4_isAllowedByRings_68 : decode cX4_isAllowedByRings 68 = .ok (.iconst 0, 1) := by decide +kernel
theorem dX4_isAllowedByRings_69 : decode cX4_isAllowedByRings 69 = .ok (.ireturn, 1) := by decide +kernel
theorem dX4_isAllowedByRings_70 : decode cX4_isAllowedByRings 70 = .ok (.iinc 5 1, 3) := by decide +kernel
theorem dX4_isAllowedByRings_73 : decode cX4_isAllowedByRings 73 = .ok (.goto (-38), 3) := by decide +kernel
theorem dX4_isAllowedByRings_76 : decode cX4_isAllowedByRings 76 = .ok (.iconst 0, 1) := by decide +kernel
theorem dX4_isAllowedByRings_77 : decode cX4_isAllowedByRings 77 = .ok (.ireturn, 1) := by decide +kernel
theorem dX4_pushAll_0 : decode cX4_pushAll 0 = .ok (.iconst (-1), 1) := by decide +kernel
theorem dX4_pushAll_1 : decode cX4_pushAll 1 = .ok (.istore 4, 2) := by decide +kernel
theorem dX4_pushAll_3 : decode cX4_pushAll 3 = .ok (.iconst 0, 1) := by decide +kernel
theorem dX4_pushAll_4 : decode cX4_pushAll 4 = .ok (.istore 5, 2) := by decide +kernel
theorem dX4_pushAll_6 : decode cX4_pushAll 6 = .ok (.iload 5, 2) := by decide +kernel
theorem dX4_pushAll_8 : decode cX4_pushAll 8 = .ok (.aload_n 1, 1) := by decide +kernel
theorem dX4_pushAll_9 : decode cX4_pushAll 9 = .ok (.getfield 61, 3) := by decide +kernel
theorem dX4_pushAll_12 : decode cX4_pushAll 12 = .ok (.if_icmp .ge 105, 3) := by decide +kernel
theorem dX4_pushAll_15 : decode cX4_pushAll 15 = .ok (.iconst 0, 1) := by decide +kernel
theorem dX4_pushAll_16 : decode cX4_pushAll 16 = .ok (.istore 6, 2) := by decide +kernel
theorem dX4_pushAll_18 : decode cX4_pushAll 18 = .ok (.iload 6, 2) := by decide +kernel
theorem dX4_pushAll_20 : decode cX4_pushAll 20 = .ok (.aload_n 2, 1) := by decide +kernel
theorem dX4_pushAll_21 : decode cX4_pushAll 21 = .ok (.getfield 68, 3) := by decide +kernel
theorem dX4_pushAll_24 : decode cX4_pushAll 24 = .ok (.iload 5, 2) := by decide +kernel
theorem dX4_pushAll_26 : decode cX4_pushAll 26 = .ok (.iaload, 1) := by decide +kernel
theorem dX4_pushAll_27 : decode cX4_pushAll 27 = .ok (.if_icmp .ge 84, 3) := by decide +kernel
theorem dX4_pushAll_30 : decode cX4_pushAll 30 = .ok (.aload_n 2, 1) := by decide +kernel
theorem dX4_pushAll_31 : decode cX4_pushAll 31 = .ok (.getfield 73, 3) := by decide +kernel
theorem dX4_pushAll_34 : decode cX4_pushAll 34 = .ok (.iload 5, 2) := by decide +kernel
theorem dX4_pushAll_36 : decode cX4_pushAll 36 = .ok (.aaload, 1) := by decide +kernel
theorem dX4_pushAll_37 : decode cX4_pushAll 37 = .ok (.iload 6, 2) := by decide +kernel
theorem dX4_pushAll_39 : decode cX4_pushAll 39 = .ok (.iaload, 1) := by decide +kernel
theorem dX4_pushAll_40 : decode cX4_pushAll 40 = .ok (.istore 7, 2) := by decide +kernel
theorem dX4_pushAll_42 : decode cX4_pushAll 42 = .ok (.aload_n 0, 1) := by decide +kernel
theorem dX4_pushAll_43 : decode cX4_pushAll 43 = .ok (.getfield 15, 3) := by decide +kernel
theorem dX4_pushAll_46 : decode cX4_pushAll 46 = .ok (.iload 5, 2) := by decide +kernel
theorem dX4_pushAll_48 : decode cX4_pushAll 48 = .ok (.iaload, 1) := by decide +kernel
theorem dX4_pushAll_49 : decode cX4_pushAll 49 = .ok (.aload_n 2, 1) := by decide +kernel
theorem dX4_pushAll_50 : decode cX4_pushAll 50 = .ok (.getfield 76, 3) := by decide +kernel
theorem dX4_pushAll_53 : decode cX4_pushAll 53 = .ok (.iload 5, 2) := by decide +kernel
theorem dX4_pushAll_55 : decode cX4_pushAll 55 = .ok (.aaload, 1) := by decide +kernel
theorem dX4_pushAll_56 : decode cX4_pushAll 56 = .ok (.iload 6, 2) := by decide +kernel
theorem dX4_pushAll_58 : decode cX4_pushAll 58 = .ok (.iaload, 1) := by decide +kernel
theorem dX4_pushAll_59 : decode cX4_pushAll 59 = .ok (.iadd, 1) := by decide +kernel
theorem dX4_pushAll_60 : decode cX4_pushAll 60 = .ok (.iload_n 3, 1) := by decide +kernel
theorem dX4_pushAll_61 : decode cX4_pushAll 61 = .ok (.aload_n 2, 1) := by decide +kernel
theorem dX4_pushAll_62 : decode cX4_pushAll 62 = .ok (.getfield 79, 3) := by decide +kernel
theorem dX4_pushAll_65 : decode cX4_pushAll 65 = .ok (.iload 5, 2) := by decide +kernel
theorem dX4_pushAll_67 : decode cX4_pushAll 67 = .ok (.aaload, 1) := by decide +kernel
theorem dX4_pushAll_68 : decode cX4_pushAll 68 = .ok (.iload 6, 2) := by decide +kernel
theorem dX4_pushAll_70 : decode cX4_pushAll 70 = .ok (.iaload, 1) := by decide +kernel
theorem dX4_pushAll_71 : decode cX4_pushAll 71 = .ok (.imul, 1) := by decide +kernel
theorem dX4_pushAll_72 : decode cX4_pushAll 72 = .ok (.isub, 1) := by decide +kernel
theorem dX4_pushAll_73 : decode cX4_pushAll 73 = .ok (.istore 8, 2) := by decide +kernel
theorem dX4_pushAll_75 : decode cX4_pushAll 75 = .ok (.iload 8, 2) := by decide +kernel
theorem dX4_pushAll_77 : decode cX4_pushAll 77 = .ok (.aload_n 0, 1) := by decide +kernel
theorem dX4_pushAll_78 : decode cX4_pushAll 78 = .ok (.getfield 15, 3) := by decide +kernel
theorem dX4_pushAll_81 : decode cX4_pushAll 81 = .ok (.iload 7, 2) := by decide +kernel
theorem dX4_pushAll_83 : decode cX4_pushAll 83 = .ok (.iaload, 1) := by decide +kernel
theorem dX4_pushAll_84 : decode cX4_pushAll 84 = .ok (.if_icmp .le 21, 3) := by decide +kernel
theorem dX4_pushAll_87 : decode cX4_pushAll 87 = .ok (.aload_n 0, 1) := by decide +kernel
theorem dX4_pushAll_88 : decode cX4_pushAll 88 = .ok (.getfield 15, 3) := by decide +kernel
theorem dX4_pushAll_91 : decode cX4_pushAll 91 = .ok (.iload 7, 2) := by decide +kernel
theorem dX4_pushAll_93 : decode cX4_pushAll 93 = .ok (.iload 8, 2) := by decide +kernel
theorem dX4_pushAll_95 : decode cX4_pushAll 95 = .ok (.iastore, 1) := by decide +kernel
theorem dX4_pushAll_96 : decode cX4_pushAll 96 = .ok (.iload 4, 2) := by decide +kernel
theorem dX4_pushAll_98 : decode cX4_pushAll 98 = .ok (.iload 8, 2) := by decide +kernel
theorem dX4_pushAll_100 : decode cX4_pushAll 100 = .ok (.invokestatic 41, 3) := by decide +kernel
theorem dX4_pushAll_103 : decode cX4_pushAll 103 = .ok (.istore 4, 2) := by decide +kernel
theorem dX4_pushAll_105 : decode cX4_pushAll 105 = .ok (.iinc 6 1, 3) := by decide +kernel
theorem dX4_pushAll_108 : decode cX4_pushAll 108 = .ok (.goto (-90), 3) := by decide +kernel
theorem dX4_pushAll_111 : decode cX4_pushAll 111 = .ok (.iinc 5 1, 3) := by decide +kernel
theorem dX4_pushAll_114 : decode cX4_pushAll 114 = .ok (.goto (-108), 3) := by decide +kernel
theorem dX4_pushAll_117 : decode cX4_pushAll 117 = .ok (.iload 4, 2) := by decide +kernel
theorem dX4_pushAll_119 : decode cX4_pushAll 119 = .ok (.ireturn, 1) := by decide +kernel
theorem dX4_findByUnits_0 : decode cX4_findByUnits 0 = .ok (.iconst 1, 1) := by decide +kernel
theorem dX4_findByUnits_1 : decode cX4_findByUnits 1 = .ok (.istore_n 1, 1) := by decide +kernel
theorem dX4_findByUnits_2 : decode cX4_findByUnits 2 = .ok (.iconst 0, 1) := by decide +kernel
theorem dX4_findByUnits_3 : decode cX4_findByUnits 3 = .ok (.istore_n 2, 1) := by decide +kernel
theorem dX4_findByUnits_4 : decode cX4_findByUnits 4 = .ok (.iload_n 2, 1) := by decide +kernel
theorem dX4_findByUnits_5 : decode cX4_findByUnits 5 = .ok (.bipush 7, 2) := by decide +kernel
theorem dX4_findByUnits_7 : decode cX4_findByUnits 7 = .ok (.if_icmp .ge 19, 3) := by decide +kernel
theorem dX4_findByUnits_10 : decode cX4_findByUnits 10 = .ok (.iload_n 1, 1) := by decide +kernel
theorem dX4_findByUnits_11 : decode cX4_findByUnits 11 = .ok (.aload_n 0, 1) := by decide +kernel
theorem dX4_findByUnits_12 : decode cX4_findByUnits 12 = .ok (.iload_n 2, 1) := by decide +kernel
theorem dX4_findByUnits_13 : decode cX4_findByUnits 13 = .ok (.invokevirtual 82, 3) := by decide +kernel
theorem dX4_findByUnits_16 : decode cX4_findByUnits 16 = .ok (.invokestatic 41, 3) := by decide +kernel
theorem dX4_findByUnits_19 : decode cX4_findByUnits 19 = .ok (.istore_n 1, 1) := by decide +kernel
theorem dX4_findByUnits_20 : decode cX4_findByUnits 20 = .ok (.iinc 2 1, 3) := by decide +kernel
theorem dX4_findByUnits_23 : decode cX4_findByUnits 23 = .ok (.goto (-19), 3) := by decide +kernel
theorem dX4_findByUnits_26 : decode cX4_findByUnits 26 = .ok (.iload_n 1, 1) := by decide +kernel
theorem dX4_findByUnits_27 : decode cX4_findByUnits 27 = .ok (.ireturn, 1) := by decide +kernel
theorem dX4_placeAll_0 : decode cX4_placeAll 0 = .ok (.iconst 0, 1) := by decide +kernel
theorem dX4_placeAll_1 : decode cX4_placeAll 1 = .ok (.istore_n 3, 1) := by decide +kernel
theorem dX4_placeAll_2 : decode cX4_placeAll 2 = .ok (.iload_n 3, 1) := by decide +kernel
theorem dX4_placeAll_3 : decode cX4_placeAll 3 = .ok (.bipush 7, 2) := by decide +kernel
theorem dX4_placeAll_5 : decode cX4_placeAll 5 = .ok (.if_icmp .ge 45, 3) := by decide +kernel
theorem dX4_placeAll_8 : decode cX4_placeAll 8 = .ok (.iconst 0, 1) := by decide +kernel
theorem dX4_placeAll_9 : decode cX4_placeAll 9 = .ok (.istore 4, 2) := by decide +kernel
theorem dX4_placeAll_11 : decode cX4_placeAll 11 = .ok (.iload 4, 2) := by decide +kernel
theorem dX4_placeAll_13 : decode cX4_placeAll 13 = .ok (.aload_n 0, 1) := by decide +kernel
theorem dX4_placeAll_14 : decode cX4_placeAll 14 = .ok (.getfield 30, 3) := by decide +kernel
theorem dX4_placeAll_17 : decode cX4_placeAll 17 = .ok (.if_icmp .ge 27, 3) := by decide +kernel
theorem dX4_placeAll_20 : decode cX4_placeAll 20 = .ok (.iload 4, 2) := by decide +kernel
theorem dX4_placeAll_22 : decode cX4_placeAll 22 = .ok (.sipush 481, 3) := by decide +kernel
theorem dX4_placeAll_25 : decode cX4_placeAll 25 = .ok (.if_icmp .ge 19, 3) := by decide +kernel
theorem dX4_placeAll_28 : decode cX4_placeAll 28 = .ok (.aload_n 0, 1) := by decide +kernel
theorem dX4_placeAll_29 : decode cX4_placeAll 29 = .ok (.getfield 20, 3) := by decide +kernel
theorem dX4_placeAll_32 : decode cX4_placeAll 32 = .ok (.iload_n 3, 1) := by decide +kernel
theorem dX4_placeAll_33 : decode cX4_placeAll 33 = .ok (.aaload, 1) := by decide +kernel
theorem dX4_placeAll_34 : decode cX4_placeAll 34 = .ok (.iload 4, 2) := by decide +kernel
theorem dX4_placeAll_36 : decode cX4_placeAll 36 = .ok (.iconst 0, 1) := by decide +kernel
theorem dX4_placeAll_37 : decode cX4_placeAll 37 = .ok (.iastore, 1) := by decide +kernel
theorem dX4_placeAll_38 : decode cX4_placeAll 38 = .ok (.iinc 4 1, 3) := by decide +kernel
theorem dX4_placeAll_41 : decode cX4_placeAll 41 = .ok (.goto (-30), 3) := by decide +kernel
theorem dX4_placeAll_44 : decode cX4_placeAll 44 = .ok (.iinc 3 1, 3) := by decide +kernel
theorem dX4_placeAll_47 : decode cX4_placeAll 47 = .ok (.goto (-45), 3) := by decide +kernel
theorem dX4_placeAll_50 : decode cX4_placeAll 50 = .ok (.iconst 0, 1) := by decide +kernel
theorem dX4_placeAll_51 : decode cX4_placeAll 51 = .ok (.istore_n 3, 1) := by decide +kernel
theorem dX4_placeAll_52 : decode cX4_placeAll 52 = .ok (.iload_n 3, 1) := by decide +kernel
theorem dX4_placeAll_53 : decode cX4_placeAll 53 = .ok (.aload_n 1, 1) := by decide +kernel
theorem dX4_placeAll_54 : decode cX4_placeAll 54 = .ok (.getfield 61, 3) := by decide +kernel
theorem dX4_placeAll_57 : decode cX4_placeAll 57 = .ok (.if_icmp .ge 16, 3) := by decide +kernel
theorem dX4_placeAll_60 : decode cX4_placeAll 60 = .ok (.aload_n 0, 1) := by decide +kernel
theorem dX4_placeAll_61 : decode cX4_placeAll 61 = .ok (.getfield 15, 3) := by decide +kernel
theorem dX4_placeAll_64 : decode cX4_placeAll 64 = .ok (.iload_n 3, 1) := by decide +kernel
theorem dX4_placeAll_65 : decode cX4_placeAll 65 = .ok (.iconst 0, 1) := by decide +kernel
theorem dX4_placeAll_66 : decode cX4_placeAll 66 = .ok (.iastore, 1) := by decide +kernel
theorem dX4_placeAll_67 : decode cX4_placeAll 67 = .ok (.iinc 3 1, 3) := by decide +kernel
theorem dX4_placeAll_70 : decode cX4_placeAll 70 = .ok (.goto (-18), 3) := by decide +kernel
theorem dX4_placeAll_73 : decode cX4_placeAll 73 = .ok (.iconst 0, 1) := by decide +kernel
theorem dX4_placeAll_74 : decode cX4_placeAll 74 = .ok (.istore_n 3, 1) := by decide +kernel
theorem dX4_placeAll_75 : decode cX4_placeAll 75 = .ok (.iload_n 3, 1) := by decide +kernel
theorem dX4_placeAll_76 : decode cX4_placeAll 76 = .ok (.aload_n 1, 1) := by decide +kernel
theorem dX4_placeAll_77 : decode cX4_placeAll 77 = .ok (.getfield 61, 3) := by decide +kernel
theorem dX4_placeAll_80 : decode cX4_placeAll 80 = .ok (.if_icmp .ge 55, 3) := by decide +kernel
theorem dX4_placeAll_83 : decode cX4_placeAll 83 = .ok (.aload_n 1, 1) := by decide +kernel
theorem dX4_placeAll_84 : decode cX4_placeAll 84 = .ok (.getfield 86, 3) := by decide +kernel
theorem dX4_placeAll_87 : decode cX4_placeAll 87 = .ok (.iload_n 3, 1) := by decide +kernel
theorem dX4_placeAll_88 : decode cX4_placeAll 88 = .ok (.aaload, 1) := by decide +kernel
theorem dX4_placeAll_89 : decode cX4_placeAll 89 = .ok (.getfield 90, 3) := by decide +kernel
theorem dX4_placeAll_92 : decode cX4_placeAll 92 = .ok (.istore 4, 2) := by decide +kernel
theorem dX4_placeAll_94 : decode cX4_placeAll 94 = .ok (.aload_n 0, 1) := by decide +kernel
theorem dX4_placeAll_95 : decode cX4_placeAll 95 = .ok (.aload_n 2, 1) := by decide +kernel
theorem dX4_placeAll_96 : decode cX4_placeAll 96 = .ok (.iload_n 3, 1) := by decide +kernel
theorem dX4_placeAll_97 : decode cX4_placeAll 97 = .ok (.iload 4, 2) := by decide +kernel
theorem dX4_placeAll_99 : decode cX4_placeAll 99 = .ok (.aload_n 1, 1) := by decide +kernel
theorem dX4_placeAll_100 : decode cX4_placeAll 100 = .ok (.getfield 95, 3) := by decide +kernel
theorem dX4_placeAll_103 : decode cX4_placeAll 103 = .ok (.iload 4, 2) := by decide +kernel
theorem dX4_placeAll_105 : decode cX4_placeAll 105 = .ok (.iaload, 1) := by decide +kernel
theorem dX4_placeAll_106 : decode cX4_placeAll 106 = .ok (.invokevirtual 98, 3) := by decide +kernel
theorem dX4_placeAll_109 : decode cX4_placeAll 109 = .ok (.istore 5, 2) := by decide +kernel
theorem dX4_placeAll_111 : decode cX4_placeAll 111 = .ok (.iload 5, 2) := by decide +kernel
theorem dX4_placeAll_113 : decode cX4_placeAll 113 = .ok (.iconst (-1), 1) := by decide +kernel
theorem dX4_placeAll_114 : decode cX4_placeAll 114 = .ok (.if_icmp .ne 5, 3) := by decide +kernel
theorem dX4_placeAll_117 : decode cX4_placeAll 117 = .ok (.iconst 0, 1) := by decide +kernel
theorem dX4_placeAll_118 : decode cX4_placeAll 118 = .ok (.ireturn, 1) := by decide +kernel
theorem dX4_placeAll_119 : decode cX4_placeAll 119 = .ok (.aload_n 0, 1) := by decide +kernel
theorem dX4_placeAll_120 : decode cX4_placeAll 120 = .ok (.aload_n 2, 1) := by decide +kernel
theorem dX4_placeAll_121 : decode cX4_placeAll 121 = .ok (.iload_n 3, 1) := by decide +kernel
theorem dX4_placeAll_122 : decode cX4_placeAll 122 = .ok (.iload 4, 2) := by decide +kernel
theorem dX4_placeAll_124 : decode cX4_placeAll 124 = .ok (.iload 5, 2) := by decide +kernel
theorem dX4_placeAll_126 : decode cX4_placeAll 126 = .ok (.invokevirtual 102, 3) := by decide +kernel
theorem dX4_placeAll_129 : decode cX4_placeAll 129 = .ok (.iinc 3 1, 3) := by decide +kernel
theorem dX4_placeAll_132 : decode cX4_placeAll 132 = .ok (.goto (-57), 3) := by decide +kernel
theorem dX4_placeAll_135 : decode cX4_placeAll 135 = .ok (.iconst 1, 1) := by decide +kernel
theorem dX4_placeAll_136 : decode cX4_placeAll 136 = .ok (.ireturn, 1) := by decide +kernel
theorem dX4_findStep_0 : decode cX4_findStep 0 = .ok (.aload_n 0, 1) := by decide +kernel
theorem dX4_findStep_1 : decode cX4_findStep 1 = .ok (.getfield 15, 3) := by decide +kernel
theorem dX4_findStep_4 : decode cX4_findStep 4 = .ok (.iload_n 2, 1) := by decide +kernel
theorem dX4_findStep_5 : decode cX4_findStep 5 = .ok (.iaload, 1) := by decide +kernel
theorem dX4_findStep_6 : decode cX4_findStep 6 = .ok (.istore 5, 2) := by decide +kernel
theorem dX4_findStep_8 : decode cX4_findStep 8 = .ok (.iload 5, 2) := by decide +kernel
theorem dX4_findStep_10 : decode cX4_findStep 10 = .ok (.aload_n 0, 1) := by decide +kernel
theorem dX4_findStep_11 : decode cX4_findStep 11 = .ok (.getfield 30, 3) := by decide +kernel
theorem dX4_findStep_14 : decode cX4_findStep 14 = .ok (.iadd, 1) := by decide +kernel
theorem dX4_findStep_15 : decode cX4_findStep 15 = .ok (.iconst 1, 1) := by decide +kernel
theorem dX4_findStep_16 : decode cX4_findStep 16 = .ok (.isub, 1) := by decide +kernel
theorem dX4_findStep_17 : decode cX4_findStep 17 = .ok (.istore 6, 2) := by decide +kernel
theorem dX4_findStep_19 : decode cX4_findStep 19 = .ok (.iconst 0, 1) := by decide +kernel
theorem dX4_findStep_20 : decode cX4_findStep 20 = .ok (.istore 7, 2) := by decide +kernel
theorem dX4_findStep_22 : decode cX4_findStep 22 = .ok (.iload 7, 2) := by decide +kernel
theorem dX4_findStep_24 : decode cX4_findStep 24 = .ok (.aload_n 1, 1) := by decide +kernel
theorem dX4_findStep_25 : decode cX4_findStep 25 = .ok (.getfield 68, 3) := by decide +kernel
theorem dX4_findStep_28 : decode cX4_findStep 28 = .ok (.iload_n 2, 1) := by decide +kernel
theorem dX4_findStep_29 : decode cX4_findStep 29 = .ok (.iaload, 1) := by decide +kernel
theorem dX4_findStep_30 : decode cX4_findStep 30 = .ok (.if_icmp .ge 69, 3) := by decide +kernel
theorem dX4_findStep_33 : decode cX4_findStep 33 = .ok (.aload_n 1, 1) := by decide +kernel
theorem dX4_findStep_34 : decode cX4_findStep 34 = .ok (.getfield 73, 3) := by decide +kernel
theorem dX4_findStep_37 : decode cX4_findStep 37 = .ok (.iload_n 2, 1) := by decide +kernel
theorem dX4_findStep_38 : decode cX4_findStep 38 = .ok (.aaload, 1) := by decide +kernel
theorem dX4_findStep_39 : decode cX4_findStep 39 = .ok (.iload 7, 2) := by decide +kernel
theorem dX4_findStep_41 : decode cX4_findStep 41 = .ok (.iaload, 1) := by decide +kernel
theorem dX4_findStep_42 : decode cX4_findStep 42 = .ok (.istore 8, 2) := by decide +kernel
theorem dX4_findStep_44 : decode cX4_findStep 44 = .ok (.iload 8, 2) := by decide +kernel
theorem dX4_findStep_46 : decode cX4_findStep 46 = .ok (.iload_n 2, 1) := by decide +kernel
theorem dX4_findStep_47 : decode cX4_findStep 47 = .ok (.if_icmp .ge 46, 3) := by decide +kernel
theorem dX4_findStep_50 : decode cX4_findStep 50 = .ok (.aload_n 0, 1) := by decide +kernel
theorem dX4_findStep_51 : decode cX4_findStep 51 = .ok (.getfield 9, 3) := by decide +kernel
theorem dX4_findStep_54 : decode cX4_findStep 54 = .ok (.iload 8, 2) := by decide +kernel
theorem dX4_findStep_56 : decode cX4_findStep 56 = .ok (.iaload, 1) := by decide +kernel
theorem dX4_findStep_57 : decode cX4_findStep 57 = .ok (.aload_n 0, 1) := by decide +kernel
theorem dX4_findStep_58 : decode cX4_findStep 58 = .ok (.getfield 30, 3) := by decide +kernel
theorem dX4_findStep_61 : decode cX4_findStep 61 = .ok (.aload_n 1, 1) := by decide +kernel
theorem dX4_findStep_62 : decode cX4_findStep 62 = .ok (.getfield 79, 3) := by decide +kernel
theorem dX4_findStep_65 : decode cX4_findStep 65 = .ok (.iload_n 2, 1) := by decide +kernel
theorem dX4_findStep_66 : decode cX4_findStep 66 = .ok (.aaload, 1) := by decide +kernel
theorem dX4_findStep_67 : decode cX4_findStep 67 = .ok (.iload 7, 2) := by decide +kernel
theorem dX4_findStep_69 : decode cX4_findStep 69 = .ok (.iaload, 1) := by decide +kernel
theorem dX4_findStep_70 : decode cX4_findStep 70 = .ok (.imul, 1) := by decide +kernel
theorem dX4_findStep_71 : decode cX4_findStep 71 = .ok (.iadd, 1) := by decide +kernel
theorem dX4_findStep_72 : decode cX4_findStep 72 = .ok (.istore 9, 2) := by decide +kernel
theorem dX4_findStep_74 : decode cX4_findStep 74 = .ok (.iload 6, 2) := by decide +kernel
theorem dX4_findStep_76 : decode cX4_findStep 76 = .ok (.iload 9, 2) := by decide +kernel
theorem dX4_findStep_78 : decode cX4_findStep 78 = .ok (.aload_n 1, 1) := by decide +kernel
theorem dX4_findStep_79 : decode cX4_findStep 79 = .ok (.getfield 76, 3) := by decide +kernel
theorem dX4_findStep_82 : decode cX4_findStep 82 = .ok (.iload_n 2, 1) := by decide +kernel
theorem dX4_findStep_83 : decode cX4_findStep 83 = .ok (.aaload, 1) := by decide +kernel
theorem dX4_findStep_84 : decode cX4_findStep 84 = .ok (.iload 7, 2) := by decide +kernel
theorem dX4_findStep_86 : decode cX4_findStep 86 = .ok (.iaload, 1) := by decide +kernel
theorem dX4_findStep_87 : decode cX4_findStep 87 = .ok (.isub, 1) := by decide +kernel
theorem dX4_findStep_88 : decode cX4_findStep 88 = .ok (.invokestatic 106, 3) := by decide +kernel
theorem dX4_findStep_91 : decode cX4_findStep 91 = .ok (.istore 6, 2) := by decide +kernel
theorem dX4_findStep_93 : decode cX4_findStep 93 = .ok (.iinc 7 1, 3) := by decide +kernel
theorem dX4_findStep_96 : decode cX4_findStep 96 = .ok (.goto (-74), 3) := by decide +kernel
theorem dX4_findStep_99 : decode cX4_findStep 99 = .ok (.iload 5, 2) := by decide +kernel
theorem dX4_findStep_101 : decode cX4_findStep 101 = .ok (.istore 7, 2) := by decide +kernel
theorem dX4_findStep_103 : decode cX4_findStep 103 = .ok (.iload 7, 2) := by decide +kernel
theorem dX4_findStep_105 : decode cX4_findStep 105 = .ok (.iload 6, 2) := by decide +kernel
theorem dX4_findStep_107 : decode cX4_findStep 107 = .ok (.if_icmp .gt 30, 3) := by decide +kernel
theorem dX4_findStep_110 : decode cX4_findStep 110 = .ok (.aload_n 0, 1) := by decide +kernel
theorem dX4_findStep_111 : decode cX4_findStep 111 = .ok (.getfield 20, 3) := by decide +kernel
theorem dX4_findStep_114 : decode cX4_findStep 114 = .ok (.iload_n 3, 1) := by decide +kernel
theorem dX4_findStep_115 : decode cX4_findStep 115 = .ok (.aaload, 1) := by decide +kernel
theorem dX4_findStep_116 : decode cX4_findStep 116 = .ok (.aload_n 0, 1) := by decide +kernel
theorem dX4_findStep_117 : decode cX4_findStep 117 = .ok (.iload 7, 2) := by decide +kernel
theorem dX4_findStep_119 : decode cX4_findStep 119 = .ok (.invokevirtual 109, 3) := by decide +kernel
theorem dX4_findStep_122 : decode cX4_findStep 122 = .ok (.iaload, 1) := by decide +kernel
theorem dX4_findStep_123 : decode cX4_findStep 123 = .ok (.iload 4, 2) := by decide +kernel
theorem dX4_findStep_125 : decode cX4_findStep 125 = .ok (.if_icmp .ge 6, 3) := by decide +kernel
theorem dX4_findStep_128 : decode cX4_findStep 128 = .ok (.iload 7, 2) := by decide +kernel
theorem dX4_findStep_130 : decode cX4_findStep 130 = .ok (.ireturn, 1) := by decide +kernel
theorem dX4_findStep_131 : decode cX4_findStep 131 = .ok (.iinc 7 1, 3) := by decide +kernel
theorem dX4_findStep_134 : decode cX4_findStep 134 = .ok (.goto (-31), 3) := by decide +kernel
theorem dX4_findStep_137 : decode cX4_findStep 137 = .ok (.iconst (-1), 1) := by decide +kernel
theorem dX4_findStep_138 : decode cX4_findStep 138 = .ok (.ireturn, 1) := by decide +kernel
theorem dX4_placeAt_0 : decode cX4_placeAt 0 = .ok (.aload_n 0, 1) := by decide +kernel
theorem dX4_placeAt_1 : decode cX4_placeAt 1 = .ok (.getfield 9, 3) := by decide +kernel
theorem dX4_placeAt_4 : decode cX4_placeAt 4 = .ok (.iload_n 2, 1) := by decide +kernel
theorem dX4_placeAt_5 : decode cX4_placeAt 5 = .ok (.iload 4, 2) := by decide +kernel
theorem dX4_placeAt_7 : decode cX4_placeAt 7 = .ok (.iastore, 1) := by decide +kernel
theorem dX4_placeAt_8 : decode cX4_placeAt 8 = .ok (.aload_n 0, 1) := by decide +kernel
theorem dX4_placeAt_9 : decode cX4_placeAt 9 = .ok (.getfield 20, 3) := by decide +kernel
theorem dX4_placeAt_12 : decode cX4_placeAt 12 = .ok (.iload_n 3, 1) := by decide +kernel
theorem dX4_placeAt_13 : decode cX4_placeAt 13 = .ok (.aaload, 1) := by decide +kernel
theorem dX4_placeAt_14 : decode cX4_placeAt 14 = .ok (.aload_n 0, 1) := by decide +kernel
theorem dX4_placeAt_15 : decode cX4_placeAt 15 = .ok (.iload 4, 2) := by decide +kernel
theorem dX4_placeAt_17 : decode cX4_placeAt 17 = .ok (.invokevirtual 109, 3) := by decide +kernel
theorem dX4_placeAt_20 : decode cX4_placeAt 20 = .ok (.dup2, 1) := by decide +kernel
theorem dX4_placeAt_21 : decode cX4_placeAt 21 = .ok (.iaload, 1) := by decide +kernel
theorem dX4_placeAt_22 : decode cX4_placeAt 22 = .ok (.iconst 1, 1) := by decide +kernel
theorem dX4_placeAt_23 : decode cX4_placeAt 23 = .ok (.iadd, 1) := by decide +kernel
theorem dX4_placeAt_24 : decode cX4_placeAt 24 = .ok (.iastore, 1) := by decide +kernel
theorem dX4_placeAt_25 : decode cX4_placeAt 25 = .ok (.iconst 0, 1) := by decide +kernel
theorem dX4_placeAt_26 : decode cX4_placeAt 26 = .ok (.istore 5, 2) := by decide +kernel
theorem dX4_placeAt_28 : decode cX4_placeAt 28 = .ok (.iload 5, 2) := by decide +kernel
theorem dX4_placeAt_30 : decode cX4_placeAt 30 = .ok (.aload_n 1, 1) := by decide +kernel
theorem dX4_placeAt_31 : decode cX4_placeAt 31 = .ok (.getfield 68, 3) := by decide +kernel
theorem dX4_placeAt_34 : decode cX4_placeAt 34 = .ok (.iload_n 2, 1) := by decide +kernel
theorem dX4_placeAt_35 : decode cX4_placeAt 35 = .ok (.iaload, 1) := by decide +kernel
theorem dX4_placeAt_36 : decode cX4_placeAt 36 = .ok (.if_icmp .ge 68, 3) := by decide +kernel
theorem dX4_placeAt_39 : decode cX4_placeAt 39 = .ok (.aload_n 1, 1) := by decide +kernel
theorem dX4_placeAt_40 : decode cX4_placeAt 40 = .ok (.getfield 73, 3) := by decide +kernel
theorem dX4_placeAt_43 : decode cX4_placeAt 43 = .ok (.iload_n 2, 1) := by decide +kernel
theorem dX4_placeAt_44 : decode cX4_placeAt 44 = .ok (.aaload, 1) := by decide +kernel
theorem dX4_placeAt_45 : decode cX4_placeAt 45 = .ok (.iload 5, 2) := by decide +kernel
theorem dX4_placeAt_47 : decode cX4_placeAt 47 = .ok (.iaload, 1) := by decide +kernel
theorem dX4_placeAt_48 : decode cX4_placeAt 48 = .ok (.istore 6, 2) := by decide +kernel
theorem dX4_placeAt_50 : decode cX4_placeAt 50 = .ok (.iload 4, 2) := by decide +kernel
theorem dX4_placeAt_52 : decode cX4_placeAt 52 = .ok (.aload_n 1, 1) := by decide +kernel
theorem dX4_placeAt_53 : decode cX4_placeAt 53 = .ok (.getfield 76, 3) := by decide +kernel
theorem dX4_placeAt_56 : decode cX4_placeAt 56 = .ok (.iload_n 2, 1) := by decide +kernel
theorem dX4_placeAt_57 : decode cX4_placeAt 57 = .ok (.aaload, 1) := by decide +kernel
theorem dX4_placeAt_58 : decode cX4_placeAt 58 = .ok (.iload 5, 2) := by decide +kernel
theorem dX4_placeAt_60 : decode cX4_placeAt 60 = .ok (.iaload, 1) := by decide +kernel
theorem dX4_placeAt_61 : decode cX4_placeAt 61 = .ok (.iadd, 1) := by decide +kernel
theorem dX4_placeAt_62 : decode cX4_placeAt 62 = .ok (.aload_n 0, 1) := by decide +kernel
theorem dX4_placeAt_63 : decode cX4_placeAt 63 = .ok (.getfield 30, 3) := by decide +kernel
theorem dX4_placeAt_66 : decode cX4_placeAt 66 = .ok (.aload_n 1, 1) := by decide +kernel
theorem dX4_placeAt_67 : decode cX4_placeAt 67 = .ok (.getfield 79, 3) := by decide +kernel
theorem dX4_placeAt_70 : decode cX4_placeAt 70 = .ok (.iload_n 2, 1) := by decide +kernel
theorem dX4_placeAt_71 : decode cX4_placeAt 71 = .ok (.aaload, 1) := by decide +kernel
theorem dX4_placeAt_72 : decode cX4_placeAt 72 = .ok (.iload 5, 2) := by decide +kernel
theorem dX4_placeAt_74 : decode cX4_placeAt 74 = .ok (.iaload, 1) := by decide +kernel
theorem dX4_placeAt_75 : decode cX4_placeAt 75 = .ok (.imul, 1) := by decide +kernel
theorem dX4_placeAt_76 : decode cX4_placeAt 76 = .ok (.isub, 1) := by decide +kernel
theorem dX4_placeAt_77 : decode cX4_placeAt 77 = .ok (.istore 7, 2) := by decide +kernel
theorem dX4_placeAt_79 : decode cX4_placeAt 79 = .ok (.aload_n 0, 1) := by decide +kernel
theorem dX4_placeAt_80 : decode cX4_placeAt 80 = .ok (.getfield 15, 3) := by decide +kernel
theorem dX4_placeAt_83 : decode cX4_placeAt 83 = .ok (.iload 6, 2) := by decide +kernel
theorem dX4_placeAt_85 : decode cX4_placeAt 85 = .ok (.aload_n 0, 1) := by decide +kernel
theorem dX4_placeAt_86 : decode cX4_placeAt 86 = .ok (.getfield 15, 3) := by decide +kernel
theorem dX4_placeAt_89 : decode cX4_placeAt 89 = .ok (.iload 6, 2) := by decide +kernel
theorem dX4_placeAt_91 : decode cX4_placeAt 91 = .ok (.iaload, 1) := by decide +kernel
theorem dX4_placeAt_92 : decode cX4_placeAt 92 = .ok (.iload 7, 2) := by decide +kernel
theorem dX4_placeAt_94 : decode cX4_placeAt 94 = .ok (.invokestatic 41, 3) := by decide +kernel
theorem dX4_placeAt_97 : decode cX4_placeAt 97 = .ok (.iastore, 1) := by decide +kernel
theorem dX4_placeAt_98 : decode cX4_placeAt 98 = .ok (.iinc 5 1, 3) := by decide +kernel
theorem dX4_placeAt_101 : decode cX4_placeAt 101 = .ok (.goto (-73), 3) := by decide +kernel
theorem dX4_placeAt_104 : decode cX4_placeAt 104 = .ok (.return_, 1) := by decide +kernel
theorem dX4_restOf_0 : decode cX4_restOf 0 = .ok (.aload_n 0, 1) := by decide +kernel
theorem dX4_restOf_1 : decode cX4_restOf 1 = .ok (.getfield 30, 3) := by decide +kernel
theorem dX4_restOf_4 : decode cX4_restOf 4 = .ok (.ifCond .le 12, 3) := by decide +kernel
theorem dX4_restOf_7 : decode cX4_restOf 7 = .ok (.iload_n 1, 1) := by decide +kernel
theorem dX4_restOf_8 : decode cX4_restOf 8 = .ok (.aload_n 0, 1) := by decide +kernel
theorem dX4_restOf_9 : decode cX4_restOf 9 = .ok (.getfield 30, 3) := by decide +kernel
theorem dX4_restOf_12 : decode cX4_restOf 12 = .ok (.irem, 1) := by decide +kernel
theorem dX4_restOf_13 : decode cX4_restOf 13 = .ok (.goto 4, 3) := by decide +kernel
theorem dX4_restOf_16 : decode cX4_restOf 16 = .ok (.iconst 0, 1) := by decide +kernel
theorem dX4_restOf_17 : decode cX4_restOf 17 = .ok (.istore_n 2, 1) := by decide +kernel
theorem dX4_restOf_18 : decode cX4_restOf 18 = .ok (.iload_n 2, 1) := by decide +kernel
theorem dX4_restOf_19 : decode cX4_restOf 19 = .ok (.iconst 0, 1) := by decide +kernel
theorem dX4_restOf_20 : decode cX4_restOf 20 = .ok (.sipush 480, 3) := by decide +kernel
theorem dX4_restOf_23 : decode cX4_restOf 23 = .ok (.invokestatic 112, 3) := by decide +kernel
theorem dX4_restOf_26 : decode cX4_restOf 26 = .ok (.ifCond .eq 7, 3) := by decide +kernel
theorem dX4_restOf_29 : decode cX4_restOf 29 = .ok (.iload_n 2, 1) := by decide +kernel
theorem dX4_restOf_30 : decode cX4_restOf 30 = .ok (.goto 4, 3) := by decide +kernel
theorem dX4_restOf_33 : decode cX4_restOf 33 = .ok (.iconst 0, 1) := by decide +kernel
theorem dX4_restOf_34 : decode cX4_restOf 34 = .ok (.ireturn, 1) := by decide +kernel
theorem dX4_countCycles_0 : decode cX4_countCycles 0 = .ok (.aload_n 1, 1) := by decide +kernel
theorem dX4_countCycles_1 : decode cX4_countCycles 1 = .ok (.getfield 61, 3) := by decide +kernel
theorem dX4_countCycles_4 : decode cX4_countCycles 4 = .ok (.ifCond .ne 7, 3) := by decide +kernel
theorem dX4_countCycles_7 : decode cX4_countCycles 7 = .ok (.iconst 0, 1) := by decide +kernel
theorem dX4_countCycles_8 : decode cX4_countCycles 8 = .ok (.goto 20, 3) := by decide +kernel
theorem dX4_countCycles_11 : decode cX4_countCycles 11 = .ok (.aload_n 1, 1) := by decide +kernel
theorem dX4_countCycles_12 : decode cX4_countCycles 12 = .ok (.aload_n 0, 1) := by decide +kernel
theorem dX4_countCycles_13 : decode cX4_countCycles 13 = .ok (.getfield 9, 3) := by decide +kernel
theorem dX4_countCycles_16 : decode cX4_countCycles 16 = .ok (.invokevirtual 124, 3) := by decide +kernel
theorem dX4_countCycles_19 : decode cX4_countCycles 19 = .ok (.aload_n 0, 1) := by decide +kernel
theorem dX4_countCycles_20 : decode cX4_countCycles 20 = .ok (.getfield 30, 3) := by decide +kernel
theorem dX4_countCycles_23 : decode cX4_countCycles 23 = .ok (.iload_n 2, 1) := by decide +kernel
theorem dX4_countCycles_24 : decode cX4_countCycles 24 = .ok (.iconst 1, 1) := by decide +kernel
theorem dX4_countCycles_25 : decode cX4_countCycles 25 = .ok (.isub, 1) := by decide +kernel
theorem dX4_countCycles_26 : decode cX4_countCycles 26 = .ok (.imul, 1) := by decide +kernel
theorem dX4_countCycles_27 : decode cX4_countCycles 27 = .ok (.iadd, 1) := by decide +kernel
theorem dX4_countCycles_28 : decode cX4_countCycles 28 = .ok (.ireturn, 1) := by decide +kernel
theorem dX4_isKept_0 : decode cX4_isKept 0 = .ok (.aload_n 2, 1) := by decide +kernel
theorem dX4_isKept_1 : decode cX4_isKept 1 = .ok (.aload_n 1, 1) := by decide +kernel
theorem dX4_isKept_2 : decode cX4_isKept 2 = .ok (.aload_n 0, 1) := by decide +kernel
theorem dX4_isKept_3 : decode cX4_isKept 3 = .ok (.getfield 9, 3) := by decide +kernel
theorem dX4_isKept_6 : decode cX4_isKept 6 = .ok (.aload_n 0, 1) := by decide +kernel
theorem dX4_isKept_7 : decode cX4_isKept 7 = .ok (.getfield 30, 3) := by decide +kernel
theorem dX4_isKept_10 : decode cX4_isKept 10 = .ok (.bipush 21, 2) := by decide +kernel
theorem dX4_isKept_12 : decode cX4_isKept 12 = .ok (.invokevirtual 128, 3) := by decide +kernel
theorem dX4_isKept_15 : decode cX4_isKept 15 = .ok (.ifCond .eq 22, 3) := by decide +kernel
theorem dX4_isKept_18 : decode cX4_isKept 18 = .ok (.aload_n 1, 1) := by decide +kernel
theorem dX4_isKept_19 : decode cX4_isKept 19 = .ok (.aload_n 0, 1) := by decide +kernel
theorem dX4_isKept_20 : decode cX4_isKept 20 = .ok (.getfield 9, 3) := by decide +kernel
theorem dX4_isKept_23 : decode cX4_isKept 23 = .ok (.aload_n 0, 1) := by decide +kernel
theorem dX4_isKept_24 : decode cX4_isKept 24 = .ok (.getfield 30, 3) := by decide +kernel
theorem dX4_isKept_27 : decode cX4_isKept 27 = .ok (.invokevirtual 132, 3) := by decide +kernel
theorem dX4_isKept_30 : decode cX4_isKept 30 = .ok (.ifCond .eq 7, 3) := by decide +kernel
theorem dX4_isKept_33 : decode cX4_isKept 33 = .ok (.iconst 1, 1) := by decide +kernel
theorem dX4_isKept_34 : decode cX4_isKept 34 = .ok (.goto 4, 3) := by decide +kernel
theorem dX4_isKept_37 : decode cX4_isKept 37 = .ok (.iconst 0, 1) := by decide +kernel
theorem dX4_isKept_38 : decode cX4_isKept 38 = .ok (.ireturn, 1) := by decide +kernel
theorem dX5_init_0 : decode cX5_init 0 = .ok (.aload_n 0, 1) := by decide +kernel
theorem dX5_init_1 : decode cX5_init 1 = .ok (.invokespecial 3, 3) := by decide +kernel
theorem dX5_init_4 : decode cX5_init 4 = .ok (.aload_n 0, 1) := by decide +kernel
theorem dX5_init_5 : decode cX5_init 5 = .ok (.iconst 4, 1) := by decide +kernel
theorem dX5_init_6 : decode cX5_init 6 = .ok (.bipush 16, 2) := by decide +kernel
theorem dX5_init_8 : decode cX5_init 8 = .ok (.multianewarray 9 2, 4) := by decide +kernel
theorem dX5_init_12 : decode cX5_init 12 = .ok (.putfield 11, 3) := by decide +kernel
theorem dX5_init_15 : decode cX5_init 15 = .ok (.aload_n 0, 1) := by decide +kernel
theorem dX5_init_16 : decode cX5_init 16 = .ok (.iconst 4, 1) := by decide +kernel
theorem dX5_init_17 : decode cX5_init 17 = .ok (.bipush 16, 2) := by decide +kernel
theorem dX5_init_19 : decode cX5_init 19 = .ok (.multianewarray 9 2, 4) := by decide +kernel
theorem dX5_init_23 : decode cX5_init 23 = .ok (.putfield 16, 3) := by decide +kernel
theorem dX5_init_26 : decode cX5_init 26 = .ok (.aload_n 0, 1) := by decide +kernel
theorem dX5_init_27 : decode cX5_init 27 = .ok (.iconst 4, 1) := by decide +kernel
theorem dX5_init_28 : decode cX5_init 28 = .ok (.newarray .int, 2) := by decide +kernel
theorem dX5_init_30 : decode cX5_init 30 = .ok (.putfield 19, 3) := by decide +kernel
theorem dX5_init_33 : decode cX5_init 33 = .ok (.aload_n 0, 1) := by decide +kernel
theorem dX5_init_34 : decode cX5_init 34 = .ok (.iconst 4, 1) := by decide +kernel
theorem dX5_init_35 : decode cX5_init 35 = .ok (.newarray .int, 2) := by decide +kernel
theorem dX5_init_37 : decode cX5_init 37 = .ok (.putfield 23, 3) := by decide +kernel
theorem dX5_init_40 : decode cX5_init 40 = .ok (.aload_n 0, 1) := by decide +kernel
theorem dX5_init_41 : decode cX5_init 41 = .ok (.iconst 4, 1) := by decide +kernel
theorem dX5_init_42 : decode cX5_init 42 = .ok (.newarray .int, 2) := by decide +kernel
theorem dX5_init_44 : decode cX5_init 44 = .ok (.putfield 26, 3) := by decide +kernel
theorem dX5_init_47 : decode cX5_init 47 = .ok (.aload_n 0, 1) := by decide +kernel
theorem dX5_init_48 : decode cX5_init 48 = .ok (.iconst 4, 1) := by decide +kernel
theorem dX5_init_49 : decode cX5_init 49 = .ok (.newarray .int, 2) := by decide +kernel
theorem dX5_init_51 : decode cX5_init 51 = .ok (.putfield 29, 3) := by decide +kernel
theorem dX5_init_54 : decode cX5_init 54 = .ok (.aload_n 0, 1) := by decide +kernel
theorem dX5_init_55 : decode cX5_init 55 = .ok (.iconst 4, 1) := by decide +kernel
theorem dX5_init_56 : decode cX5_init 56 = .ok (.newarray .int, 2) := by decide +kernel
theorem dX5_init_58 : decode cX5_init 58 = .ok (.putfield 32, 3) := by decide +kernel
theorem dX5_init_61 : decode cX5_init 61 = .ok (.iconst 0, 1) := by decide +kernel
theorem dX5_init_62 : decode cX5_init 62 = .ok (.istore_n 1, 1) := by decide +kernel
theorem dX5_init_63 : decode cX5_init 63 = .ok (.iload_n 1, 1) := by decide +kernel
theorem dX5_init_64 : decode cX5_init 64 = .ok (.iconst 4, 1) := by decide +kernel
theorem dX5_init_65 : decode cX5_init 65 = .ok (.if_icmp .ge 16, 3) := by decide +kernel
theorem dX5_init_68 : decode cX5_init 68 = .ok (.aload_n 0, 1) := by decide +kernel
theorem dX5_init_69 : decode cX5_init 69 = .ok (.getfield 23, 3) := by decide +kernel
theorem dX5_init_72 : decode cX5_init 72 = .ok (.iload_n 1, 1) := by decide +kernel
theorem dX5_init_73 : decode cX5_init 73 = .ok (.iconst 1, 1) := by decide +kernel
theorem dX5_init_74 : decode cX5_init 74 = .ok (.iastore, 1) := by decide +kernel
theorem dX5_init_75 : decode cX5_init 75 = .ok (.iinc 1 1, 3) := by decide +kernel
theorem dX5_init_78 : decode cX5_init 78 = .ok (.goto (-15), 3) := by decide +kernel
theorem dX5_init_81 : decode cX5_init 81 = .ok (.return_, 1) := by decide +kernel
theorem dX5_append_0 : decode cX5_append 0 = .ok (.aload_n 0, 1) := by decide +kernel
theorem dX5_append_1 : decode cX5_append 1 = .ok (.getfield 19, 3) := by decide +kernel
theorem dX5_append_4 : decode cX5_append 4 = .ok (.iload_n 1, 1) := by decide +kernel
theorem dX5_append_5 : decode cX5_append 5 = .ok (.iaload, 1) := by decide +kernel
theorem dX5_append_6 : decode cX5_append 6 = .ok (.istore 4, 2) := by decide +kernel
theorem dX5_append_8 : decode cX5_append 8 = .ok (.iload 4, 2) := by decide +kernel
theorem dX5_append_10 : decode cX5_append 10 = .ok (.bipush 16, 2) := by decide +kernel
theorem dX5_append_12 : decode cX5_append 12 = .ok (.if_icmp .ge 41, 3) := by decide +kernel
theorem dX5_append_15 : decode cX5_append 15 = .ok (.aload_n 0, 1) := by decide +kernel
theorem dX5_append_16 : decode cX5_append 16 = .ok (.getfield 11, 3) := by decide +kernel
theorem dX5_append_19 : decode cX5_append 19 = .ok (.iload_n 1, 1) := by decide +kernel
theorem dX5_append_20 : decode cX5_append 20 = .ok (.aaload, 1) := by decide +kernel
theorem dX5_append_21 : decode cX5_append 21 = .ok (.iload 4, 2) := by decide +kernel
theorem dX5_append_23 : decode cX5_append 23 = .ok (.iload_n 2, 1) := by decide +kernel
theorem dX5_append_24 : decode cX5_append 24 = .ok (.iastore, 1) := by decide +kernel
theorem dX5_append_25 : decode cX5_append 25 = .ok (.aload_n 0, 1) := by decide +kernel
theorem dX5_append_26 : decode cX5_append 26 = .ok (.getfield 16, 3) := by decide +kernel
theorem dX5_append_29 : decode cX5_append 29 = .ok (.iload_n 1, 1) := by decide +kernel
theorem dX5_append_30 : decode cX5_append 30 = .ok (.aaload, 1) := by decide +kernel
theorem dX5_append_31 : decode cX5_append 31 = .ok (.iload 4, 2) := by decide +kernel
theorem dX5_append_33 : decode cX5_append 33 = .ok (.iload_n 3, 1) := by decide +kernel
theorem dX5_append_34 : decode cX5_append 34 = .ok (.ifCond .eq 7, 3) := by decide +kernel
theorem dX5_append_37 : decode cX5_append 37 = .ok (.iconst 1, 1) := by decide +kernel
theorem dX5_append_38 : decode cX5_append 38 = .ok (.goto 4, 3) := by decide +kernel
theorem dX5_append_41 : decode cX5_append 41 = .ok (.iconst (-1), 1) := by decide +kernel
theorem dX5_append_42 : decode cX5_append 42 = .ok (.iastore, 1) := by decide +kernel
theorem dX5_append_43 : decode cX5_append 43 = .ok (.aload_n 0, 1) := by decide +kernel
theorem dX5_append_44 : decode cX5_append 44 = .ok (.getfield 19, 3) := by decide +kernel
theorem dX5_append_47 : decode cX5_append 47 = .ok (.iload_n 1, 1) := by decide +kernel
theorem dX5_append_48 : decode cX5_append 48 = .ok (.iload 4, 2) := by decide +kernel
theorem dX5_append_50 : decode cX5_append 50 = .ok (.iconst 1, 1) := by decide +kernel
theorem dX5_append_51 : decode cX5_append 51 = .ok (.iadd, 1) := by decide +kernel
theorem dX5_append_52 : decode cX5_append 52 = .ok (.iastore, 1) := by decide +kernel
theorem dX5_append_53 : decode cX5_append 53 = .ok (.aload_n 0, 1) := by decide +kernel
theorem dX5_append_54 : decode cX5_append 54 = .ok (.getfield 19, 3) := by decide +kernel
theorem dX5_append_57 : decode cX5_append 57 = .ok (.iload_n 1, 1) := by decide +kernel
theorem dX5_append_58 : decode cX5_append 58 = .ok (.iaload, 1) := by decide +kernel
theorem dX5_append_59 : decode cX5_append 59 = .ok (.ireturn, 1) := by decide +kernel
theorem dX5_goWithTheirDepths_0 : decode cX5_goWithTheirDepths 0 = .ok (.iconst 0, 1) := by decide +kernel
theorem dX5_goWithTheirDepths_1 : decode cX5_goWithTheirDepths 1 = .ok (.istore_n 1, 1) := by decide +kernel
theorem dX5_goWithTheirDepths_2 : decode cX5_goWithTheirDepths 2 = .ok (.iload_n 1, 1) := by decide +kernel
theorem dX5_goWithTheirDepths_3 : decode cX5_goWithTheirDepths 3 = .ok (.iconst 4, 1) := by decide +kernel
theorem dX5_goWithTheirDepths_4 : decode cX5_goWithTheirDepths 4 = .ok (.if_icmp .ge 21, 3) := by decide +kernel
theorem dX5_goWithTheirDepths_7 : decode cX5_goWithTheirDepths 7 = .ok (.aload_n 0, 1) := by decide +kernel
theorem dX5_goWithTheirDepths_8 : decode cX5_goWithTheirDepths 8 = .ok (.getfield 26, 3) := by decide +kernel
theorem dX5_goWithTheirDepths_11 : decode cX5_goWithTheirDepths 11 = .ok (.iload_n 1, 1) := by decide +kernel
theorem dX5_goWithTheirDepths_12 : decode cX5_goWithTheirDepths 12 = .ok (.aload_n 0, 1) := by decide +kernel
theorem dX5_goWithTheirDepths_13 : decode cX5_goWithTheirDepths 13 = .ok (.getfield 23, 3) := by decide +kernel
theorem dX5_goWithTheirDepths_16 : decode cX5_goWithTheirDepths 16 = .ok (.iload_n 1, 1) := by decide +kernel
theorem dX5_goWithTheirDepths_17 : decode cX5_goWithTheirDepths 17 = .ok (.iaload, 1) := by decide +kernel
theorem dX5_goWithTheirDepths_18 : decode cX5_goWithTheirDepths 18 = .ok (.iastore, 1) := by decide +kernel
theorem dX5_goWithTheirDepths_19 : decode cX5_goWithTheirDepths 19 = .ok (.iinc 1 1, 3) := by decide +kernel
theorem dX5_goWithTheirDepths_22 : decode cX5_goWithTheirDepths 22 = .ok (.goto (-20), 3) := by decide +kernel
theorem dX5_goWithTheirDepths_25 : decode cX5_goWithTheirDepths 25 = .ok (.aload_n 0, 1) := by decide +kernel
theorem dX5_goWithTheirDepths_26 : decode cX5_goWithTheirDepths 26 = .ok (.invokevirtual 35, 3) := by decide +kernel
theorem dX5_goWithTheirDepths_29 : decode cX5_goWithTheirDepths 29 = .ok (.return_, 1) := by decide +kernel
theorem dX5_findLeastDepth_0 : decode cX5_findLeastDepth 0 = .ok (.iconst 1, 1) := by decide +kernel
theorem dX5_findLeastDepth_1 : decode cX5_findLeastDepth 1 = .ok (.istore_n 1, 1) := by decide +kernel
theorem dX5_findLeastDepth_2 : decode cX5_findLeastDepth 2 = .ok (.iload_n 1, 1) := by decide +kernel
theorem dX5_findLeastDepth_3 : decode cX5_findLeastDepth 3 = .ok (.bipush 16, 2) := by decide +kernel
theorem dX5_findLeastDepth_5 : decode cX5_findLeastDepth 5 = .ok (.if_icmp .gt 42, 3) := by decide +kernel
theorem dX5_findLeastDepth_8 : decode cX5_findLeastDepth 8 = .ok (.iconst 0, 1) := by decide +kernel
theorem dX5_findLeastDepth_9 : decode cX5_findLeastDepth 9 = .ok (.istore_n 2, 1) := by decide +kernel
theorem dX5_findLeastDepth_10 : decode cX5_findLeastDepth 10 = .ok (.iload_n 2, 1) := by decide +kernel
theorem dX5_findLeastDepth_11 : decode cX5_findLeastDepth 11 = .ok (.iconst 4, 1) := by decide +kernel
theorem dX5_findLeastDepth_12 : decode cX5_findLeastDepth 12 = .ok (.if_icmp .ge 16, 3) := by decide +kernel
theorem dX5_findLeastDepth_15 : decode cX5_findLeastDepth 15 = .ok (.aload_n 0, 1) := by decide +kernel
theorem dX5_findLeastDepth_16 : decode cX5_findLeastDepth 16 = .ok (.getfield 26, 3) := by decide +kernel
theorem dX5_findLeastDepth_19 : decode cX5_findLeastDepth 19 = .ok (.iload_n 2, 1) := by decide +kernel
theorem dX5_findLeastDepth_20 : decode cX5_findLeastDepth 20 = .ok (.iload_n 1, 1) := by decide +kernel
theorem dX5_findLeastDepth_21 : decode cX5_findLeastDepth 21 = .ok (.iastore, 1) := by decide +kernel
theorem dX5_findLeastDepth_22 : decode cX5_findLeastDepth 22 = .ok (.iinc 2 1, 3) := by decide +kernel
theorem dX5_findLeastDepth_25 : decode cX5_findLeastDepth 25 = .ok (.goto (-15), 3) := by decide +kernel
theorem dX5_findLeastDepth_28 : decode cX5_findLeastDepth 28 = .ok (.aload_n 0, 1) := by decide +kernel
theorem dX5_findLeastDepth_29 : decode cX5_findLeastDepth 29 = .ok (.invokevirtual 35, 3) := by decide +kernel
theorem dX5_findLeastDepth_32 : decode cX5_findLeastDepth 32 = .ok (.aload_n 0, 1) := by decide +kernel
theorem dX5_findLeastDepth_33 : decode cX5_findLeastDepth 33 = .ok (.invokevirtual 38, 3) := by decide +kernel
theorem dX5_findLeastDepth_36 : decode cX5_findLeastDepth 36 = .ok (.ifCond .ne 5, 3) := by decide +kernel
theorem dX5_findLeastDepth_39 : decode cX5_findLeastDepth 39 = .ok (.iload_n 1, 1) := by decide +kernel
theorem dX5_findLeastDepth_40 : decode cX5_findLeastDepth 40 = .ok (.ireturn, 1) := by decide +kernel
theorem dX5_findLeastDepth_41 : decode cX5_findLeastDepth 41 = .ok (.iinc 1 1, 3) := by decide +kernel
theorem dX5_findLeastDepth_44 : decode cX5_findLeastDepth 44 = .ok (.goto (-42), 3) := by decide +kernel
theorem dX5_findLeastDepth_47 : decode cX5_findLeastDepth 47 = .ok (.iconst (-1), 1) := by decide +kernel
theorem dX5_findLeastDepth_48 : decode cX5_findLeastDepth 48 = .ok (.ireturn, 1) := by decide +kernel
theorem dX5_go_0 : decode cX5_go 0 = .ok (.iconst 0, 1) := by decide +kernel
theorem dX5_go_1 : decode cX5_go 1 = .ok (.istore_n 1, 1) := by decide +kernel
theorem dX5_go_2 : decode cX5_go 2 = .ok (.iload_n 1, 1) := by decide +kernel
theorem dX5_go_3 : decode cX5_go 3 = .ok (.iconst 4, 1) := by decide +kernel
theorem dX5_go_4 : decode cX5_go 4 = .ok (.if_icmp .ge 16, 3) := by decide +kernel
theorem dX5_go_7 : decode cX5_go 7 = .ok (.aload_n 0, 1) := by decide +kernel
theorem dX5_go_8 : decode cX5_go 8 = .ok (.getfield 29, 3) := by decide +kernel
theorem dX5_go_11 : decode cX5_go 11 = .ok (.iload_n 1, 1) := by decide +kernel
theorem dX5_go_12 : decode cX5_go 12 = .ok (.iconst 0, 1) := by decide +kernel
theorem dX5_go_13 : decode cX5_go 13 = .ok (.iastore, 1) := by decide +kernel
theorem dX5_go_14 : decode cX5_go 14 = .ok (.iinc 1 1, 3) := by decide +kernel
theorem dX5_go_17 : decode cX5_go 17 = .ok (.goto (-15), 3) := by decide +kernel
theorem dX5_go_20 : decode cX5_go 20 = .ok (.iconst 0, 1) := by decide +kernel
theorem dX5_go_21 : decode cX5_go 21 = .ok (.istore_n 1, 1) := by decide +kernel
theorem dX5_go_22 : decode cX5_go 22 = .ok (.iload_n 1, 1) := by decide +kernel
theorem dX5_go_23 : decode cX5_go 23 = .ok (.iconst 4, 1) := by decide +kernel
theorem dX5_go_24 : decode cX5_go 24 = .ok (.if_icmp .ge 16, 3) := by decide +kernel
theorem dX5_go_27 : decode cX5_go 27 = .ok (.aload_n 0, 1) := by decide +kernel
theorem dX5_go_28 : decode cX5_go 28 = .ok (.getfield 32, 3) := by decide +kernel
theorem dX5_go_31 : decode cX5_go 31 = .ok (.iload_n 1, 1) := by decide +kernel
theorem dX5_go_32 : decode cX5_go 32 = .ok (.iconst 0, 1) := by decide +kernel
theorem dX5_go_33 : decode cX5_go 33 = .ok (.iastore, 1) := by decide +kernel
theorem dX5_go_34 : decode cX5_go 34 = .ok (.iinc 1 1, 3) := by decide +kernel
theorem dX5_go_37 : decode cX5_go 37 = .ok (.goto (-15), 3) := by decide +kernel
theorem dX5_go_40 : decode cX5_go 40 = .ok (.iconst 1, 1) := by decide +kernel
theorem dX5_go_41 : decode cX5_go 41 = .ok (.istore_n 1, 1) := by decide +kernel
theorem dX5_go_42 : decode cX5_go 42 = .ok (.iconst 0, 1) := by decide +kernel
theorem dX5_go_43 : decode cX5_go 43 = .ok (.istore_n 2, 1) := by decide +kernel
theorem dX5_go_44 : decode cX5_go 44 = .ok (.iload_n 2, 1) := by decide +kernel
theorem dX5_go_45 : decode cX5_go 45 = .ok (.bipush 64, 2) := by decide +kernel
theorem dX5_go_47 : decode cX5_go 47 = .ok (.if_icmp .gt 62, 3) := by decide +kernel
theorem dX5_go_50 : decode cX5_go 50 = .ok (.iload_n 1, 1) := by decide +kernel
theorem dX5_go_51 : decode cX5_go 51 = .ok (.ifCond .eq 58, 3) := by decide +kernel
theorem dX5_go_54 : decode cX5_go 54 = .ok (.iconst 0, 1) := by decide +kernel
theorem dX5_go_55 : decode cX5_go 55 = .ok (.istore_n 1, 1) := by decide +kernel
theorem dX5_go_56 : decode cX5_go 56 = .ok (.iconst 0, 1) := by decide +kernel
theorem dX5_go_57 : decode cX5_go 57 = .ok (.istore_n 3, 1) := by decide +kernel
theorem dX5_go_58 : decode cX5_go 58 = .ok (.iload_n 3, 1) := by decide +kernel
theorem dX5_go_59 : decode cX5_go 59 = .ok (.iconst 4, 1) := by decide +kernel
theorem dX5_go_60 : decode cX5_go 60 = .ok (.if_icmp .ge 43, 3) := by decide +kernel
theorem dX5_go_63 : decode cX5_go 63 = .ok (.aload_n 0, 1) := by decide +kernel
theorem dX5_go_64 : decode cX5_go 64 = .ok (.getfield 32, 3) := by decide +kernel
theorem dX5_go_67 : decode cX5_go 67 = .ok (.iload_n 3, 1) := by decide +kernel
theorem dX5_go_68 : decode cX5_go 68 = .ok (.iaload, 1) := by decide +kernel
theorem dX5_go_69 : decode cX5_go 69 = .ok (.istore 4, 2) := by decide +kernel
theorem dX5_go_71 : decode cX5_go 71 = .ok (.aload_n 0, 1) := by decide +kernel
theorem dX5_go_72 : decode cX5_go 72 = .ok (.iload_n 3, 1) := by decide +kernel
theorem dX5_go_73 : decode cX5_go 73 = .ok (.invokevirtual 42, 3) := by decide +kernel
theorem dX5_go_76 : decode cX5_go 76 = .ok (.iload_n 1, 1) := by decide +kernel
theorem dX5_go_77 : decode cX5_go 77 = .ok (.ifCond .ne 14, 3) := by decide +kernel
theorem dX5_go_80 : decode cX5_go 80 = .ok (.aload_n 0, 1) := by decide +kernel
theorem dX5_go_81 : decode cX5_go 81 = .ok (.getfield 32, 3) := by decide +kernel
theorem dX5_go_84 : decode cX5_go 84 = .ok (.iload_n 3, 1) := by decide +kernel
theorem dX5_go_85 : decode cX5_go 85 = .ok (.iaload, 1) := by decide +kernel
theorem dX5_go_86 : decode cX5_go 86 = .ok (.iload 4, 2) := by decide +kernel
theorem dX5_go_88 : decode cX5_go 88 = .ok (.if_icmp .le 7, 3) := by decide +kernel
theorem dX5_go_91 : decode cX5_go 91 = .ok (.iconst 1, 1) := by decide +kernel
theorem dX5_go_92 : decode cX5_go 92 = .ok (.goto 4, 3) := by decide +kernel
theorem dX5_go_95 : decode cX5_go 95 = .ok (.iconst 0, 1) := by decide +kernel
theorem dX5_go_96 : decode cX5_go 96 = .ok (.istore_n 1, 1) := by decide +kernel
theorem dX5_go_97 : decode cX5_go 97 = .ok (.iinc 3 1, 3) := by decide +kernel
theorem dX5_go_100 : decode cX5_go 100 = .ok (.goto (-42), 3) := by decide +kernel
theorem dX5_go_103 : decode cX5_go 103 = .ok (.iinc 2 1, 3) := by decide +kernel
theorem dX5_go_106 : decode cX5_go 106 = .ok (.goto (-62), 3) := by decide +kernel
theorem dX5_go_109 : decode cX5_go 109 = .ok (.return_, 1) := by decide +kernel
theorem dX5_goOn_0 : decode cX5_goOn 0 = .ok (.aload_n 0, 1) := by decide +kernel
theorem dX5_goOn_1 : decode cX5_goOn 1 = .ok (.getfield 32, 3) := by decide +kernel
theorem dX5_goOn_4 : decode cX5_goOn 4 = .ok (.iload_n 1, 1) := by decide +kernel
theorem dX5_goOn_5 : decode cX5_goOn 5 = .ok (.iaload, 1) := by decide +kernel
theorem dX5_goOn_6 : decode cX5_goOn 6 = .ok (.istore_n 2, 1) := by decide +kernel
theorem dX5_goOn_7 : decode cX5_goOn 7 = .ok (.iload_n 2, 1) := by decide +kernel
theorem dX5_goOn_8 : decode cX5_goOn 8 = .ok (.aload_n 0, 1) := by decide +kernel
theorem dX5_goOn_9 : decode cX5_goOn 9 = .ok (.getfield 19, 3) := by decide +kernel
theorem dX5_goOn_12 : decode cX5_goOn 12 = .ok (.iload_n 1, 1) := by decide +kernel
theorem dX5_goOn_13 : decode cX5_goOn 13 = .ok (.iaload, 1) := by decide +kernel
theorem dX5_goOn_14 : decode cX5_goOn 14 = .ok (.if_icmp .ge 69, 3) := by decide +kernel
theorem dX5_goOn_17 : decode cX5_goOn 17 = .ok (.aload_n 0, 1) := by decide +kernel
theorem dX5_goOn_18 : decode cX5_goOn 18 = .ok (.getfield 11, 3) := by decide +kernel
theorem dX5_goOn_21 : decode cX5_goOn 21 = .ok (.iload_n 1, 1) := by decide +kernel
theorem dX5_goOn_22 : decode cX5_goOn 22 = .ok (.aaload, 1) := by decide +kernel
theorem dX5_goOn_23 : decode cX5_goOn 23 = .ok (.iload_n 2, 1) := by decide +kernel
theorem dX5_goOn_24 : decode cX5_goOn 24 = .ok (.iaload, 1) := by decide +kernel
theorem dX5_goOn_25 : decode cX5_goOn 25 = .ok (.istore_n 3, 1) := by decide +kernel
theorem dX5_goOn_26 : decode cX5_goOn 26 = .ok (.aload_n 0, 1) := by decide +kernel
theorem dX5_goOn_27 : decode cX5_goOn 27 = .ok (.getfield 29, 3) := by decide +kernel
theorem dX5_goOn_30 : decode cX5_goOn 30 = .ok (.iload_n 3, 1) := by decide +kernel
theorem dX5_goOn_31 : decode cX5_goOn 31 = .ok (.iaload, 1) := by decide +kernel
theorem dX5_goOn_32 : decode cX5_goOn 32 = .ok (.aload_n 0, 1) := by decide +kernel
theorem dX5_goOn_33 : decode cX5_goOn 33 = .ok (.getfield 16, 3) := by decide +kernel
theorem dX5_goOn_36 : decode cX5_goOn 36 = .ok (.iload_n 1, 1) := by decide +kernel
theorem dX5_goOn_37 : decode cX5_goOn 37 = .ok (.aaload, 1) := by decide +kernel
theorem dX5_goOn_38 : decode cX5_goOn 38 = .ok (.iload_n 2, 1) := by decide +kernel
theorem dX5_goOn_39 : decode cX5_goOn 39 = .ok (.iaload, 1) := by decide +kernel
theorem dX5_goOn_40 : decode cX5_goOn 40 = .ok (.iadd, 1) := by decide +kernel
theorem dX5_goOn_41 : decode cX5_goOn 41 = .ok (.istore 4, 2) := by decide +kernel
theorem dX5_goOn_43 : decode cX5_goOn 43 = .ok (.iload 4, 2) := by decide +kernel
theorem dX5_goOn_45 : decode cX5_goOn 45 = .ok (.ifCond .lt 14, 3) := by decide +kernel
theorem dX5_goOn_48 : decode cX5_goOn 48 = .ok (.iload 4, 2) := by decide +kernel
theorem dX5_goOn_50 : decode cX5_goOn 50 = .ok (.aload_n 0, 1) := by decide +kernel
theorem dX5_goOn_51 : decode cX5_goOn 51 = .ok (.getfield 26, 3) := by decide +kernel
theorem dX5_goOn_54 : decode cX5_goOn 54 = .ok (.iload_n 3, 1) := by decide +kernel
theorem dX5_goOn_55 : decode cX5_goOn 55 = .ok (.iaload, 1) := by decide +kernel
theorem dX5_goOn_56 : decode cX5_goOn 56 = .ok (.if_icmp .le 4, 3) := by decide +kernel
theorem dX5_goOn_59 : decode cX5_goOn 59 = .ok (.return_, 1) := by decide +kernel
theorem dX5_goOn_60 : decode cX5_goOn 60 = .ok (.aload_n 0, 1) := by decide +kernel
theorem dX5_goOn_61 : decode cX5_goOn 61 = .ok (.getfield 29, 3) := by decide +kernel
theorem dX5_goOn_64 : decode cX5_goOn 64 = .ok (.iload_n 3, 1) := by decide +kernel
theorem dX5_goOn_65 : decode cX5_goOn 65 = .ok (.iload 4, 2) := by decide +kernel
theorem dX5_goOn_67 : decode cX5_goOn 67 = .ok (.iastore, 1) := by decide +kernel
theorem dX5_goOn_68 : decode cX5_goOn 68 = .ok (.aload_n 0, 1) := by decide +kernel
theorem dX5_goOn_69 : decode cX5_goOn 69 = .ok (.getfield 32, 3) := by decide +kernel
theorem dX5_goOn_72 : decode cX5_goOn 72 = .ok (.iload_n 1, 1) := by decide +kernel
theorem dX5_goOn_73 : decode cX5_goOn 73 = .ok (.iload_n 2, 1) := by decide +kernel
theorem dX5_goOn_74 : decode cX5_goOn 74 = .ok (.iconst 1, 1) := by decide +kernel
theorem dX5_goOn_75 : decode cX5_goOn 75 = .ok (.iadd, 1) := by decide +kernel
theorem dX5_goOn_76 : decode cX5_goOn 76 = .ok (.iastore, 1) := by decide +kernel
theorem dX5_goOn_77 : decode cX5_goOn 77 = .ok (.iinc 2 1, 3) := by decide +kernel
theorem dX5_goOn_80 : decode cX5_goOn 80 = .ok (.goto (-73), 3) := by decide +kernel
theorem dX5_goOn_83 : decode cX5_goOn 83 = .ok (.return_, 1) := by decide +kernel
theorem dX5_countDone_0 : decode cX5_countDone 0 = .ok (.iconst 0, 1) := by decide +kernel
theorem dX5_countDone_1 : decode cX5_countDone 1 = .ok (.istore_n 1, 1) := by decide +kernel
theorem dX5_countDone_2 : decode cX5_countDone 2 = .ok (.iconst 0, 1) := by decide +kernel
theorem dX5_countDone_3 : decode cX5_countDone 3 = .ok (.istore_n 2, 1) := by decide +kernel
theorem dX5_countDone_4 : decode cX5_countDone 4 = .ok (.iload_n 2, 1) := by decide +kernel
theorem dX5_countDone_5 : decode cX5_countDone 5 = .ok (.iconst 4, 1) := by decide +kernel
theorem dX5_countDone_6 : decode cX5_countDone 6 = .ok (.if_icmp .ge 18, 3) := by decide +kernel
theorem dX5_countDone_9 : decode cX5_countDone 9 = .ok (.iload_n 1, 1) := by decide +kernel
theorem dX5_countDone_10 : decode cX5_countDone 10 = .ok (.aload_n 0, 1) := by decide +kernel
theorem dX5_countDone_11 : decode cX5_countDone 11 = .ok (.getfield 32, 3) := by decide +kernel
theorem dX5_countDone_14 : decode cX5_countDone 14 = .ok (.iload_n 2, 1) := by decide +kernel
theorem dX5_countDone_15 : decode cX5_countDone 15 = .ok (.iaload, 1) := by decide +kernel
theorem dX5_countDone_16 : decode cX5_countDone 16 = .ok (.iadd, 1) := by decide +kernel
theorem dX5_countDone_17 : decode cX5_countDone 17 = .ok (.istore_n 1, 1) := by decide +kernel
theorem dX5_countDone_18 : decode cX5_countDone 18 = .ok (.iinc 2 1, 3) := by decide +kernel
theorem dX5_countDone_21 : decode cX5_countDone 21 = .ok (.goto (-17), 3) := by decide +kernel
theorem dX5_countDone_24 : decode cX5_countDone 24 = .ok (.iload_n 1, 1) := by decide +kernel
theorem dX5_countDone_25 : decode cX5_countDone 25 = .ok (.ireturn, 1) := by decide +kernel
theorem dX5_nextChannel_0 : decode cX5_nextChannel 0 = .ok (.aload_n 0, 1) := by decide +kernel
theorem dX5_nextChannel_1 : decode cX5_nextChannel 1 = .ok (.getfield 32, 3) := by decide +kernel
theorem dX5_nextChannel_4 : decode cX5_nextChannel 4 = .ok (.iload_n 1, 1) := by decide +kernel
theorem dX5_nextChannel_5 : decode cX5_nextChannel 5 = .ok (.iaload, 1) := by decide +kernel
theorem dX5_nextChannel_6 : decode cX5_nextChannel 6 = .ok (.istore_n 2, 1) := by decide +kernel
theorem dX5_nextChannel_7 : decode cX5_nextChannel 7 = .ok (.iload_n 2, 1) := by decide +kernel
theorem dX5_nextChannel_8 : decode cX5_nextChannel 8 = .ok (.aload_n 0, 1) := by decide +kernel
theorem dX5_nextChannel_9 : decode cX5_nextChannel 9 = .ok (.getfield 19, 3) := by decide +kernel
theorem dX5_nextChannel_12 : decode cX5_nextChannel 12 = .ok (.iload_n 1, 1) := by decide +kernel
theorem dX5_nextChannel_13 : decode cX5_nextChannel 13 = .ok (.iaload, 1) := by decide +kernel
theorem dX5_nextChannel_14 : decode cX5_nextChannel 14 = .ok (.if_icmp .ge 14, 3) := by decide +kernel
theorem dX5_nextChannel_17 : decode cX5_nextChannel 17 = .ok (.aload_n 0, 1) := by decide +kernel
theorem dX5_nextChannel_18 : decode cX5_nextChannel 18 = .ok (.getfield 11, 3) := by decide +kernel
theorem dX5_nextChannel_21 : decode cX5_nextChannel 21 = .ok (.iload_n 1, 1) := by decide +kernel
theorem dX5_nextChannel_22 : decode cX5_nextChannel 22 = .ok (.aaload, 1) := by decide +kernel
theorem dX5_nextChannel_23 : decode cX5_nextChannel 23 = .ok (.iload_n 2, 1) := by decide +kernel
theorem dX5_nextChannel_24 : decode cX5_nextChannel 24 = .ok (.iaload, 1) := by decide +kernel
theorem dX5_nextChannel_25 : decode cX5_nextChannel 25 = .ok (.goto 4, 3) := by decide +kernel
theorem dX5_nextChannel_28 : decode cX5_nextChannel 28 = .ok (.iconst (-1), 1) := by decide +kernel
theorem dX5_nextChannel_29 : decode cX5_nextChannel 29 = .ok (.ireturn, 1) := by decide +kernel
theorem dX5_isSomeLeft_0 : decode cX5_isSomeLeft 0 = .ok (.iconst 0, 1) := by decide +kernel
theorem dX5_isSomeLeft_1 : decode cX5_isSomeLeft 1 = .ok (.istore_n 1, 1) := by decide +kernel
theorem dX5_isSomeLeft_2 : decode cX5_isSomeLeft 2 = .ok (.iload_n 1, 1) := by decide +kernel
theorem dX5_isSomeLeft_3 : decode cX5_isSomeLeft 3 = .ok (.iconst 4, 1) := by decide +kernel
theorem dX5_isSomeLeft_4 : decode cX5_isSomeLeft 4 = .ok (.if_icmp .ge 26, 3) := by decide +kernel
theorem dX5_isSomeLeft_7 : decode cX5_isSomeLeft 7 = .ok (.aload_n 0, 1) := by decide +kernel
theorem dX5_isSomeLeft_8 : decode cX5_isSomeLeft 8 = .ok (.getfield 32, 3) := by decide +kernel
theorem dX5_isSomeLeft_11 : decode cX5_isSomeLeft 11 = .ok (.iload_n 1, 1) := by decide +kernel
theorem dX5_isSomeLeft_12 : decode cX5_isSomeLeft 12 = .ok (.iaload, 1) := by decide +kernel
theorem dX5_isSomeLeft_13 : decode cX5_isSomeLeft 13 = .ok (.aload_n 0, 1) := by decide +kernel
theorem dX5_isSomeLeft_14 : decode cX5_isSomeLeft 14 = .ok (.getfield 19, 3) := by decide +kernel
theorem dX5_isSomeLeft_17 : decode cX5_isSomeLeft 17 = .ok (.iload_n 1, 1) := by decide +kernel
theorem dX5_isSomeLeft_18 : decode cX5_isSomeLeft 18 = .ok (.iaload, 1) := by decide +kernel
theorem dX5_isSomeLeft_19 : decode cX5_isSomeLeft 19 = .ok (.if_icmp .ge 5, 3) := by decide +kernel
theorem dX5_isSomeLeft_22 : decode cX5_isSomeLeft 22 = .ok (.iconst 1, 1) := by decide +kernel
theorem dX5_isSomeLeft_23 : decode cX5_isSomeLeft 23 = .ok (.ireturn, 1) := by decide +kernel
theorem dX5_isSomeLeft_24 : decode cX5_isSomeLeft 24 = .ok (.iinc 1 1, 3) := by decide +kernel
theorem dX5_isSomeLeft_27 : decode cX5_isSomeLeft 27 = .ok (.goto (-25), 3) := by decide +kernel
theorem dX5_isSomeLeft_30 : decode cX5_isSomeLeft 30 = .ok (.iconst 0, 1) := by decide +kernel
theorem dX5_isSomeLeft_31 : decode cX5_isSomeLeft 31 = .ok (.ireturn, 1) := by decide +kernel
theorem dX6_init_0 : decode cX6_init 0 = .ok (.aload_n 0, 1) := by decide +kernel
theorem dX6_init_1 : decode cX6_init 1 = .ok (.invokespecial 3, 3) := by decide +kernel
theorem dX6_init_4 : decode cX6_init 4 = .ok (.aload_n 0, 1) := by decide +kernel
theorem dX6_init_5 : decode cX6_init 5 = .ok (.bipush 12, 2) := by decide +kernel
theorem dX6_init_7 : decode cX6_init 7 = .ok (.anewarray 9, 3) := by decide +kernel
theorem dX6_init_10 : decode cX6_init 10 = .ok (.putfield 11, 3) := by decide +kernel
theorem dX6_init_13 : decode cX6_init 13 = .ok (.aload_n 0, 1) := by decide +kernel
theorem dX6_init_14 : decode cX6_init 14 = .ok (.bipush 32, 2) := by decide +kernel
theorem dX6_init_16 : decode cX6_init 16 = .ok (.newarray .int, 2) := by decide +kernel
theorem dX6_init_18 : decode cX6_init 18 = .ok (.putfield 17, 3) := by decide +kernel
theorem dX6_init_21 : decode cX6_init 21 = .ok (.aload_n 0, 1) := by decide +kernel
theorem dX6_init_22 : decode cX6_init 22 = .ok (.iconst 2, 1) := by decide +kernel
theorem dX6_init_23 : decode cX6_init 23 = .ok (.bipush 16, 2) := by decide +kernel
theorem dX6_init_25 : decode cX6_init 25 = .ok (.multianewarray 21 2, 4) := by decide +kernel
theorem dX6_init_29 : decode cX6_init 29 = .ok (.putfield 23, 3) := by decide +kernel
theorem dX6_init_32 : decode cX6_init 32 = .ok (.aload_n 0, 1) := by decide +kernel
theorem dX6_init_33 : decode cX6_init 33 = .ok (.new 9, 3) := by decide +kernel
theorem dX6_init_36 : decode cX6_init 36 = .ok (.dup, 1) := by decide +kernel
theorem dX6_init_37 : decode cX6_init 37 = .ok (.invokespecial 26, 3) := by decide +kernel
theorem dX6_init_40 : decode cX6_init 40 = .ok (.putfield 27, 3) := by decide +kernel
theorem dX6_init_43 : decode cX6_init 43 = .ok (.aload_n 0, 1) := by decide +kernel
theorem dX6_init_44 : decode cX6_init 44 = .ok (.bipush 8, 2) := by decide +kernel
theorem dX6_init_46 : decode cX6_init 46 = .ok (.putfield 31, 3) := by decide +kernel
theorem dX6_init_49 : decode cX6_init 49 = .ok (.aload_n 0, 1) := by decide +kernel
theorem dX6_init_50 : decode cX6_init 50 = .ok (.bipush 8, 2) := by decide +kernel
theorem dX6_init_52 : decode cX6_init 52 = .ok (.putfield 35, 3) := by decide +kernel
theorem dX6_init_55 : decode cX6_init 55 = .ok (.aload_n 0, 1) := by decide +kernel
theorem dX6_init_56 : decode cX6_init 56 = .ok (.iconst 1, 1) := by decide +kernel
theorem dX6_init_57 : decode cX6_init 57 = .ok (.putfield 38, 3) := by decide +kernel
theorem dX6_init_60 : decode cX6_init 60 = .ok (.iconst 0, 1) := by decide +kernel
theorem dX6_init_61 : decode cX6_init 61 = .ok (.istore_n 1, 1) := by decide +kernel
theorem dX6_init_62 : decode cX6_init 62 = .ok (.iload_n 1, 1) := by decide +kernel
theorem dX6_init_63 : decode cX6_init 63 = .ok (.bipush 12, 2) := by decide +kernel
theorem dX6_init_65 : decode cX6_init 65 = .ok (.if_icmp .ge 22, 3) := by decide +kernel
theorem dX6_init_68 : decode cX6_init 68 = .ok (.aload_n 0, 1) := by decide +kernel
theorem dX6_init_69 : decode cX6_init 69 = .ok (.getfield 11, 3) := by decide +kernel
theorem dX6_init_72 : decode cX6_init 72 = .ok (.iload_n 1, 1) := by decide +kernel
theorem dX6_init_73 : decode cX6_init 73 = .ok (.new 9, 3) := by decide +kernel
theorem dX6_init_76 : decode cX6_init 76 = .ok (.dup, 1) := by decide +kernel
theorem dX6_init_77 : decode cX6_init 77 = .ok (.invokespecial 26, 3) := by decide +kernel
theorem dX6_init_80 : decode cX6_init 80 = .ok (.aastore, 1) := by decide +kernel
theorem dX6_init_81 : decode cX6_init 81 = .ok (.iinc 1 1, 3) := by decide +kernel
theorem dX6_init_84 : decode cX6_init 84 = .ok (.goto (-22), 3) := by decide +kernel
theorem dX6_init_87 : decode cX6_init 87 = .ok (.return_, 1) := by decide +kernel
theorem dX6_useSpare_0 : decode cX6_useSpare 0 = .ok (.aload_n 0, 1) := by decide +kernel
theorem dX6_useSpare_1 : decode cX6_useSpare 1 = .ok (.getfield 11, 3) := by decide +kernel
theorem dX6_useSpare_4 : decode cX6_useSpare 4 = .ok (.iload_n 1, 1) := by decide +kernel
theorem dX6_useSpare_5 : decode cX6_useSpare 5 = .ok (.aaload, 1) := by decide +kernel
theorem dX6_useSpare_6 : decode cX6_useSpare 6 = .ok (.astore_n 2, 1) := by decide +kernel
theorem dX6_useSpare_7 : decode cX6_useSpare 7 = .ok (.aload_n 0, 1) := by decide +kernel
theorem dX6_useSpare_8 : decode cX6_useSpare 8 = .ok (.getfield 11, 3) := by decide +kernel
theorem dX6_useSpare_11 : decode cX6_useSpare 11 = .ok (.iload_n 1, 1) := by decide +kernel
theorem dX6_useSpare_12 : decode cX6_useSpare 12 = .ok (.aload_n 0, 1) := by decide +kernel
theorem dX6_useSpare_13 : decode cX6_useSpare 13 = .ok (.getfield 27, 3) := by decide +kernel
theorem dX6_useSpare_16 : decode cX6_useSpare 16 = .ok (.aastore, 1) := by decide +kernel
theorem dX6_useSpare_17 : decode cX6_useSpare 17 = .ok (.aload_n 0, 1) := by decide +kernel
theorem dX6_useSpare_18 : decode cX6_useSpare 18 = .ok (.aload_n 2, 1) := by decide +kernel
theorem dX6_useSpare_19 : decode cX6_useSpare 19 = .ok (.putfield 27, 3) := by decide +kernel
theorem dX6_useSpare_22 : decode cX6_useSpare 22 = .ok (.return_, 1) := by decide +kernel
theorem dX6_bodyTurns_0 : decode cX6_bodyTurns 0 = .ok (.aload_n 0, 1) := by decide +kernel
theorem dX6_bodyTurns_1 : decode cX6_bodyTurns 1 = .ok (.getfield 38, 3) := by decide +kernel
theorem dX6_bodyTurns_4 : decode cX6_bodyTurns 4 = .ok (.ifCond .le 15, 3) := by decide +kernel
theorem dX6_bodyTurns_7 : decode cX6_bodyTurns 7 = .ok (.aload_n 0, 1) := by decide +kernel
theorem dX6_bodyTurns_8 : decode cX6_bodyTurns 8 = .ok (.getfield 31, 3) := by decide +kernel
theorem dX6_bodyTurns_11 : decode cX6_bodyTurns 11 = .ok (.aload_n 0, 1) := by decide +kernel
theorem dX6_bodyTurns_12 : decode cX6_bodyTurns 12 = .ok (.getfield 38, 3) := by decide +kernel
theorem dX6_bodyTurns_15 : decode cX6_bodyTurns 15 = .ok (.idiv, 1) := by decide +kernel
theorem dX6_bodyTurns_16 : decode cX6_bodyTurns 16 = .ok (.goto 7, 3) := by decide +kernel
theorem dX6_bodyTurns_19 : decode cX6_bodyTurns 19 = .ok (.aload_n 0, 1) := by decide +kernel
theorem dX6_bodyTurns_20 : decode cX6_bodyTurns 20 = .ok (.getfield 31, 3) := by decide +kernel
theorem dX6_bodyTurns_23 : decode cX6_bodyTurns 23 = .ok (.ireturn, 1) := by decide +kernel
theorem dX6_cut_0 : decode cX6_cut 0 = .ok (.iload_n 1, 1) := by decide +kernel
theorem dX6_cut_1 : decode cX6_cut 1 = .ok (.iconst 1, 1) := by decide +kernel
theorem dX6_cut_2 : decode cX6_cut 2 = .ok (.aload_n 0, 1) := by decide +kernel
theorem dX6_cut_3 : decode cX6_cut 3 = .ok (.getfield 35, 3) := by decide +kernel
theorem dX6_cut_6 : decode cX6_cut 6 = .ok (.ishl, 1) := by decide +kernel
theorem dX6_cut_7 : decode cX6_cut 7 = .ok (.iconst 1, 1) := by decide +kernel
theorem dX6_cut_8 : decode cX6_cut 8 = .ok (.isub, 1) := by decide +kernel
theorem dX6_cut_9 : decode cX6_cut 9 = .ok (.iand, 1) := by decide +kernel
theorem dX6_cut_10 : decode cX6_cut 10 = .ok (.ireturn, 1) := by decide +kernel
theorem dX6_carryOut_0 : decode cX6_carryOut 0 = .ok (.aload_n 1, 1) := by decide +kernel
theorem dX6_carryOut_1 : decode cX6_carryOut 1 = .ok (.aload_n 0, 1) := by decide +kernel
theorem dX6_carryOut_2 : decode cX6_carryOut 2 = .ok (.invokevirtual 41, 3) := by decide +kernel
theorem dX6_carryOut_5 : decode cX6_carryOut 5 = .ok (.iconst 0, 1) := by decide +kernel
theorem dX6_carryOut_6 : decode cX6_carryOut 6 = .ok (.istore_n 2, 1) := by decide +kernel
theorem dX6_carryOut_7 : decode cX6_carryOut 7 = .ok (.iload_n 2, 1) := by decide +kernel
theorem dX6_carryOut_8 : decode cX6_carryOut 8 = .ok (.aload_n 0, 1) := by decide +kernel
theorem dX6_carryOut_9 : decode cX6_carryOut 9 = .ok (.getfield 31, 3) := by decide +kernel
theorem dX6_carryOut_12 : decode cX6_carryOut 12 = .ok (.if_icmp .ge 37, 3) := by decide +kernel
theorem dX6_carryOut_15 : decode cX6_carryOut 15 = .ok (.iconst 0, 1) := by decide +kernel
theorem dX6_carryOut_16 : decode cX6_carryOut 16 = .ok (.istore_n 3, 1) := by decide +kernel
theorem dX6_carryOut_17 : decode cX6_carryOut 17 = .ok (.iload_n 3, 1) := by decide +kernel
theorem dX6_carryOut_18 : decode cX6_carryOut 18 = .ok (.aload_n 0, 1) := by decide +kernel
theorem dX6_carryOut_19 : decode cX6_carryOut 19 = .ok (.getfield 47, 3) := by decide +kernel
theorem dX6_carryOut_22 : decode cX6_carryOut 22 = .ok (.if_icmp .ge 21, 3) := by decide +kernel
theorem dX6_carryOut_25 : decode cX6_carryOut 25 = .ok (.aload_n 0, 1) := by decide +kernel
theorem dX6_carryOut_26 : decode cX6_carryOut 26 = .ok (.aload_n 0, 1) := by decide +kernel
theorem dX6_carryOut_27 : decode cX6_carryOut 27 = .ok (.getfield 11, 3) := by decide +kernel
theorem dX6_carryOut_30 : decode cX6_carryOut 30 = .ok (.iload_n 3, 1) := by decide +kernel
theorem dX6_carryOut_31 : decode cX6_carryOut 31 = .ok (.aaload, 1) := by decide +kernel
theorem dX6_carryOut_32 : decode cX6_carryOut 32 = .ok (.iload_n 2, 1) := by decide +kernel
theorem dX6_carryOut_33 : decode cX6_carryOut 33 = .ok (.aload_n 1, 1) := by decide +kernel
theorem dX6_carryOut_34 : decode cX6_carryOut 34 = .ok (.invokevirtual 50, 3) := by decide +kernel
theorem dX6_carryOut_37 : decode cX6_carryOut 37 = .ok (.iinc 3 1, 3) := by decide +kernel
theorem dX6_carryOut_40 : decode cX6_carryOut 40 = .ok (.goto (-23), 3) := by decide +kernel
theorem dX6_carryOut_43 : decode cX6_carryOut 43 = .ok (.iinc 2 1, 3) := by decide +kernel
theorem dX6_carryOut_46 : decode cX6_carryOut 46 = .ok (.goto (-39), 3) := by decide +kernel
theorem dX6_carryOut_49 : decode cX6_carryOut 49 = .ok (.return_, 1) := by decide +kernel
theorem dX6_carryOutOne_0 : decode cX6_carryOutOne 0 = .ok (.aload_n 0, 1) := by decide +kernel
theorem dX6_carryOutOne_1 : decode cX6_carryOutOne 1 = .ok (.aload_n 1, 1) := by decide +kernel
theorem dX6_carryOutOne_2 : decode cX6_carryOutOne 2 = .ok (.iconst 1, 1) := by decide +kernel
theorem dX6_carryOutOne_3 : decode cX6_carryOutOne 3 = .ok (.iload_n 2, 1) := by decide +kernel
theorem dX6_carryOutOne_4 : decode cX6_carryOutOne 4 = .ok (.aload_n 3, 1) := by decide +kernel
theorem dX6_carryOutOne_5 : decode cX6_carryOutOne 5 = .ok (.invokevirtual 54, 3) := by decide +kernel
theorem dX6_carryOutOne_8 : decode cX6_carryOutOne 8 = .ok (.istore 4, 2) := by decide +kernel
theorem dX6_carryOutOne_10 : decode cX6_carryOutOne 10 = .ok (.aload_n 1, 1) := by decide +kernel
theorem dX6_carryOutOne_11 : decode cX6_carryOutOne 11 = .ok (.invokevirtual 58, 3) := by decide +kernel
theorem dX6_carryOutOne_14 : decode cX6_carryOutOne 14 = .ok (.ifCond .eq 23, 3) := by decide +kernel
theorem dX6_carryOutOne_17 : decode cX6_carryOutOne 17 = .ok (.aload_n 0, 1) := by decide +kernel
theorem dX6_carryOutOne_18 : decode cX6_carryOutOne 18 = .ok (.aload_n 1, 1) := by decide +kernel
theorem dX6_carryOutOne_19 : decode cX6_carryOutOne 19 = .ok (.iload 4, 2) := by decide +kernel
theorem dX6_carryOutOne_21 : decode cX6_carryOutOne 21 = .ok (.aload_n 0, 1) := by decide +kernel
theorem dX6_carryOutOne_22 : decode cX6_carryOutOne 22 = .ok (.aload_n 1, 1) := by decide +kernel
theorem dX6_carryOutOne_23 : decode cX6_carryOutOne 23 = .ok (.iconst 2, 1) := by decide +kernel
theorem dX6_carryOutOne_24 : decode cX6_carryOutOne 24 = .ok (.iload_n 2, 1) := by decide +kernel
theorem dX6_carryOutOne_25 : decode cX6_carryOutOne 25 = .ok (.aload_n 3, 1) := by decide +kernel
theorem dX6_carryOutOne_26 : decode cX6_carryOutOne 26 = .ok (.invokevirtual 54, 3) := by decide +kernel
theorem dX6_carryOutOne_29 : decode cX6_carryOutOne 29 = .ok (.invokevirtual 62, 3) := by decide +kernel
theorem dX6_carryOutOne_32 : decode cX6_carryOutOne 32 = .ok (.invokevirtual 66, 3) := by decide +kernel
theorem dX6_carryOutOne_35 : decode cX6_carryOutOne 35 = .ok (.istore 4, 2) := by decide +kernel
theorem dX6_carryOutOne_37 : decode cX6_carryOutOne 37 = .ok (.aload_n 0, 1) := by decide +kernel
theorem dX6_carryOutOne_38 : decode cX6_carryOutOne 38 = .ok (.aload_n 1, 1) := by decide +kernel
theorem dX6_carryOutOne_39 : decode cX6_carryOutOne 39 = .ok (.iload_n 2, 1) := by decide +kernel
theorem dX6_carryOutOne_40 : decode cX6_carryOutOne 40 = .ok (.iload 4, 2) := by decide +kernel
theorem dX6_carryOutOne_42 : decode cX6_carryOutOne 42 = .ok (.aload_n 3, 1) := by decide +kernel
theorem dX6_carryOutOne_43 : decode cX6_carryOutOne 43 = .ok (.invokevirtual 70, 3) := by decide +kernel
theorem dX6_carryOutOne_46 : decode cX6_carryOutOne 46 = .ok (.return_, 1) := by decide +kernel
theorem dX6_valueOf_0 : decode cX6_valueOf 0 = .ok (.aload_n 1, 1) := by decide +kernel
theorem dX6_valueOf_1 : decode cX6_valueOf 1 = .ok (.getfield 74, 3) := by decide +kernel
theorem dX6_valueOf_4 : decode cX6_valueOf 4 = .ok (.iload_n 2, 1) := by decide +kernel
theorem dX6_valueOf_5 : decode cX6_valueOf 5 = .ok (.iaload, 1) := by decide +kernel
theorem dX6_valueOf_6 : decode cX6_valueOf 6 = .ok (.tableswitch 75 0 5 #[38, 51, 62, 75, 75, 68], 38) := by decide +kernel
theorem dX6_valueOf_44 : decode cX6_valueOf 44 = .ok (.aload 4, 2) := by decide +kernel
theorem dX6_valueOf_46 : decode cX6_valueOf 46 = .ok (.getfield 77, 3) := by decide +kernel
theorem dX6_valueOf_49 : decode cX6_valueOf 49 = .ok (.aload_n 1, 1) := by decide +kernel
theorem dX6_valueOf_50 : decode cX6_valueOf 50 = .ok (.getfield 80, 3) := by decide +kernel
theorem dX6_valueOf_53 : decode cX6_valueOf 53 = .ok (.iload_n 2, 1) := by decide +kernel
theorem dX6_valueOf_54 : decode cX6_valueOf 54 = .ok (.iaload, 1) := by decide +kernel
theorem dX6_valueOf_55 : decode cX6_valueOf 55 = .ok (.iaload, 1) := by decide +kernel
theorem dX6_valueOf_56 : decode cX6_valueOf 56 = .ok (.ireturn, 1) := by decide +kernel
theorem dX6_valueOf_57 : decode cX6_valueOf 57 = .ok (.aload_n 0, 1) := by decide +kernel
theorem dX6_valueOf_58 : decode cX6_valueOf 58 = .ok (.aload_n 1, 1) := by decide +kernel
theorem dX6_valueOf_59 : decode cX6_valueOf 59 = .ok (.getfield 80, 3) := by decide +kernel
theorem dX6_valueOf_62 : decode cX6_valueOf 62 = .ok (.iload_n 2, 1) := by decide +kernel
theorem dX6_valueOf_63 : decode cX6_valueOf 63 = .ok (.iaload, 1) := by decide +kernel
theorem dX6_valueOf_64 : decode cX6_valueOf 64 = .ok (.invokevirtual 66, 3) := by decide +kernel
theorem dX6_valueOf_67 : decode cX6_valueOf 67 = .ok (.ireturn, 1) := by decide +kernel
theorem dX6_valueOf_68 : decode cX6_valueOf 68 = .ok (.aload_n 0, 1) := by decide +kernel
theorem dX6_valueOf_69 : decode cX6_valueOf 69 = .ok (.iload_n 3, 1) := by decide +kernel
theorem dX6_valueOf_70 : decode cX6_valueOf 70 = .ok (.invokevirtual 66, 3) := by decide +kernel
theorem dX6_valueOf_73 : decode cX6_valueOf 73 = .ok (.ireturn, 1) := by decide +kernel
theorem dX6_valueOf_74 : decode cX6_valueOf 74 = .ok (.aload_n 0, 1) := by decide +kernel
theorem dX6_valueOf_75 : decode cX6_valueOf 75 = .ok (.aload 4, 2) := by decide +kernel
theorem dX6_valueOf_77 : decode cX6_valueOf 77 = .ok (.invokevirtual 83, 3) := by decide +kernel
theorem dX6_valueOf_80 : decode cX6_valueOf 80 = .ok (.ireturn, 1) := by decide +kernel
theorem dX6_valueOf_81 : decode cX6_valueOf 81 = .ok (.aload 4, 2) := by decide +kernel
theorem dX6_valueOf_83 : decode cX6_valueOf 83 = .ok (.aload_n 1, 1) := by decide +kernel
theorem dX6_valueOf_84 : decode cX6_valueOf 84 = .ok (.getfield 74, 3) := by decide +kernel
theorem dX6_valueOf_87 : decode cX6_valueOf 87 = .ok (.iload_n 2, 1) := by decide +kernel
theorem dX6_valueOf_88 : decode cX6_valueOf 88 = .ok (.iaload, 1) := by decide +kernel
theorem dX6_valueOf_89 : decode cX6_valueOf 89 = .ok (.iconst 3, 1) := by decide +kernel
theorem dX6_valueOf_90 : decode cX6_valueOf 90 = .ok (.isub, 1) := by decide +kernel
theorem dX6_valueOf_91 : decode cX6_valueOf 91 = .ok (.aload_n 1, 1) := by decide +kernel
theorem dX6_valueOf_92 : decode cX6_valueOf 92 = .ok (.iload_n 2, 1) := by decide +kernel
theorem dX6_valueOf_93 : decode cX6_valueOf 93 = .ok (.iload_n 3, 1) := by decide +kernel
theorem dX6_valueOf_94 : decode cX6_valueOf 94 = .ok (.invokevirtual 87, 3) := by decide +kernel
theorem dX6_valueOf_97 : decode cX6_valueOf 97 = .ok (.invokevirtual 90, 3) := by decide +kernel
theorem dX6_valueOf_100 : decode cX6_valueOf 100 = .ok (.ireturn, 1) := by decide +kernel
theorem dX6_takeInput_0 : decode cX6_takeInput 0 = .ok (.aload_n 1, 1) := by decide +kernel
theorem dX6_takeInput_1 : decode cX6_takeInput 1 = .ok (.getfield 93, 3) := by decide +kernel
theorem dX6_takeInput_4 : decode cX6_takeInput 4 = .ok (.aload_n 0, 1) := by decide +kernel
theorem dX6_takeInput_5 : decode cX6_takeInput 5 = .ok (.getfield 96, 3) := by decide +kernel
theorem dX6_takeInput_8 : decode cX6_takeInput 8 = .ok (.if_icmp .lt 5, 3) := by decide +kernel
theorem dX6_takeInput_11 : decode cX6_takeInput 11 = .ok (.iconst 0, 1) := by decide +kernel
theorem dX6_takeInput_12 : decode cX6_takeInput 12 = .ok (.ireturn, 1) := by decide +kernel
theorem dX6_takeInput_13 : decode cX6_takeInput 13 = .ok (.aload_n 0, 1) := by decide +kernel
theorem dX6_takeInput_14 : decode cX6_takeInput 14 = .ok (.aload_n 0, 1) := by decide +kernel
theorem dX6_takeInput_15 : decode cX6_takeInput 15 = .ok (.getfield 17, 3) := by decide +kernel
theorem dX6_takeInput_18 : decode cX6_takeInput 18 = .ok (.aload_n 1, 1) := by decide +kernel
theorem dX6_takeInput_19 : decode cX6_takeInput 19 = .ok (.getfield 93, 3) := by decide +kernel
theorem dX6_takeInput_22 : decode cX6_takeInput 22 = .ok (.iaload, 1) := by decide +kernel
theorem dX6_takeInput_23 : decode cX6_takeInput 23 = .ok (.invokevirtual 66, 3) := by decide +kernel
theorem dX6_takeInput_26 : decode cX6_takeInput 26 = .ok (.istore_n 2, 1) := by decide +kernel
theorem dX6_takeInput_27 : decode cX6_takeInput 27 = .ok (.aload_n 1, 1) := by decide +kernel
theorem dX6_takeInput_28 : decode cX6_takeInput 28 = .ok (.dup, 1) := by decide +kernel
theorem dX6_takeInput_29 : decode cX6_takeInput 29 = .ok (.getfield 93, 3) := by decide +kernel
theorem dX6_takeInput_32 : decode cX6_takeInput 32 = .ok (.iconst 1, 1) := by decide +kernel
theorem dX6_takeInput_33 : decode cX6_takeInput 33 = .ok (.iadd, 1) := by decide +kernel
theorem dX6_takeInput_34 : decode cX6_takeInput 34 = .ok (.putfield 93, 3) := by decide +kernel
theorem dX6_takeInput_37 : decode cX6_takeInput 37 = .ok (.iload_n 2, 1) := by decide +kernel
theorem dX6_takeInput_38 : decode cX6_takeInput 38 = .ok (.ireturn, 1) := by decide +kernel
theorem dX6_write_0 : decode cX6_write 0 = .ok (.aload_n 1, 1) := by decide +kernel
theorem dX6_write_1 : decode cX6_write 1 = .ok (.getfield 74, 3) := by decide +kernel
theorem dX6_write_4 : decode cX6_write 4 = .ok (.iconst 0, 1) := by decide +kernel
theorem dX6_write_5 : decode cX6_write 5 = .ok (.iaload, 1) := by decide +kernel
theorem dX6_write_6 : decode cX6_write 6 = .ok (.istore 5, 2) := by decide +kernel
theorem dX6_write_8 : decode cX6_write 8 = .ok (.iload 5, 2) := by decide +kernel
theorem dX6_write_10 : decode cX6_write 10 = .ok (.ifCond .ne 19, 3) := by decide +kernel
theorem dX6_write_13 : decode cX6_write 13 = .ok (.aload 4, 2) := by decide +kernel
theorem dX6_write_15 : decode cX6_write 15 = .ok (.getfield 77, 3) := by decide +kernel
theorem dX6_write_18 : decode cX6_write 18 = .ok (.aload_n 1, 1) := by decide +kernel
theorem dX6_write_19 : decode cX6_write 19 = .ok (.getfield 80, 3) := by decide +kernel
theorem dX6_write_22 : decode cX6_write 22 = .ok (.iconst 0, 1) := by decide +kernel
theorem dX6_write_23 : decode cX6_write 23 = .ok (.iaload, 1) := by decide +kernel
theorem dX6_write_24 : decode cX6_write 24 = .ok (.iload_n 3, 1) := by decide +kernel
theorem dX6_write_25 : decode cX6_write 25 = .ok (.iastore, 1) := by decide +kernel
theorem dX6_write_26 : decode cX6_write 26 = .ok (.goto 35, 3) := by decide +kernel
theorem dX6_write_29 : decode cX6_write 29 = .ok (.iload 5, 2) := by decide +kernel
theorem dX6_write_31 : decode cX6_write 31 = .ok (.bipush 6, 2) := by decide +kernel
theorem dX6_write_33 : decode cX6_write 33 = .ok (.if_icmp .ne 12, 3) := by decide +kernel
theorem dX6_write_36 : decode cX6_write 36 = .ok (.aload 4, 2) := by decide +kernel
theorem dX6_write_38 : decode cX6_write 38 = .ok (.iload_n 3, 1) := by decide +kernel
theorem dX6_write_39 : decode cX6_write 39 = .ok (.invokevirtual 99, 3) := by decide +kernel
theorem dX6_write_42 : decode cX6_write 42 = .ok (.goto 19, 3) := by decide +kernel
theorem dX6_write_45 : decode cX6_write 45 = .ok (.aload 4, 2) := by decide +kernel
theorem dX6_write_47 : decode cX6_write 47 = .ok (.iload 5, 2) := by decide +kernel
theorem dX6_write_49 : decode cX6_write 49 = .ok (.iconst 3, 1) := by decide +kernel
theorem dX6_write_50 : decode cX6_write 50 = .ok (.isub, 1) := by decide +kernel
theorem dX6_write_51 : decode cX6_write 51 = .ok (.aload_n 1, 1) := by decide +kernel
theorem dX6_write_52 : decode cX6_write 52 = .ok (.iconst 0, 1) := by decide +kernel
theorem dX6_write_53 : decode cX6_write 53 = .ok (.iload_n 2, 1) := by decide +kernel
theorem dX6_write_54 : decode cX6_write 54 = .ok (.invokevirtual 87, 3) := by decide +kernel
theorem dX6_write_57 : decode cX6_write 57 = .ok (.iload_n 3, 1) := by decide +kernel
theorem dX6_write_58 : decode cX6_write 58 = .ok (.invokevirtual 103, 3) := by decide +kernel
theorem dX6_write_61 : decode cX6_write 61 = .ok (.return_, 1) := by decide +kernel
theorem dX7_init_0 : decode cX7_init 0 = .ok (.aload_n 0, 1) := by decide +kernel
theorem dX7_init_1 : decode cX7_init 1 = .ok (.invokespecial 3, 3) := by decide +kernel
theorem dX7_init_4 : decode cX7_init 4 = .ok (.aload_n 0, 1) := by decide +kernel
theorem dX7_init_5 : decode cX7_init 5 = .ok (.bipush 8, 2) := by decide +kernel
theorem dX7_init_7 : decode cX7_init 7 = .ok (.newarray .int, 2) := by decide +kernel
theorem dX7_init_9 : decode cX7_init 9 = .ok (.putfield 9, 3) := by decide +kernel
theorem dX7_init_12 : decode cX7_init 12 = .ok (.aload_n 0, 1) := by decide +kernel
theorem dX7_init_13 : decode cX7_init 13 = .ok (.iconst 2, 1) := by decide +kernel
theorem dX7_init_14 : decode cX7_init 14 = .ok (.bipush 16, 2) := by decide +kernel
theorem dX7_init_16 : decode cX7_init 16 = .ok (.multianewarray 15 2, 4) := by decide +kernel
theorem dX7_init_20 : decode cX7_init 20 = .ok (.putfield 17, 3) := by decide +kernel
theorem dX7_init_23 : decode cX7_init 23 = .ok (.aload_n 0, 1) := by decide +kernel
theorem dX7_init_24 : decode cX7_init 24 = .ok (.sipush 192, 3) := by decide +kernel
theorem dX7_init_27 : decode cX7_init 27 = .ok (.newarray .int, 2) := by decide +kernel
theorem dX7_init_29 : decode cX7_init 29 = .ok (.putfield 20, 3) := by decide +kernel
theorem dX7_init_32 : decode cX7_init 32 = .ok (.return_, 1) := by decide +kernel
theorem dX7_begin_0 : decode cX7_begin 0 = .ok (.iconst 0, 1) := by decide +kernel
theorem dX7_begin_1 : decode cX7_begin 1 = .ok (.istore_n 2, 1) := by decide +kernel
theorem dX7_begin_2 : decode cX7_begin 2 = .ok (.iload_n 2, 1) := by decide +kernel
theorem dX7_begin_3 : decode cX7_begin 3 = .ok (.bipush 8, 2) := by decide +kernel
theorem dX7_begin_5 : decode cX7_begin 5 = .ok (.if_icmp .ge 16, 3) := by decide +kernel
theorem dX7_begin_8 : decode cX7_begin 8 = .ok (.aload_n 0, 1) := by decide +kernel
theorem dX7_begin_9 : decode cX7_begin 9 = .ok (.getfield 9, 3) := by decide +kernel
theorem dX7_begin_12 : decode cX7_begin 12 = .ok (.iload_n 2, 1) := by decide +kernel
theorem dX7_begin_13 : decode cX7_begin 13 = .ok (.iconst 0, 1) := by decide +kernel
theorem dX7_begin_14 : decode cX7_begin 14 = .ok (.iastore, 1) := by decide +kernel
theorem dX7_begin_15 : decode cX7_begin 15 = .ok (.iinc 2 1, 3) := by decide +kernel
theorem dX7_begin_18 : decode cX7_begin 18 = .ok (.goto (-16), 3) := by decide +kernel
theorem dX7_begin_21 : decode cX7_begin 21 = .ok (.iconst 0, 1) := by decide +kernel
theorem dX7_begin_22 : decode cX7_begin 22 = .ok (.istore_n 2, 1) := by decide +kernel
theorem dX7_begin_23 : decode cX7_begin 23 = .ok (.iload_n 2, 1) := by decide +kernel
theorem dX7_begin_24 : decode cX7_begin 24 = .ok (.iconst 2, 1) := by decide +kernel
theorem dX7_begin_25 : decode cX7_begin 25 = .ok (.if_icmp .ge 43, 3) := by decide +kernel
theorem dX7_begin_28 : decode cX7_begin 28 = .ok (.iconst 0, 1) := by decide +kernel
theorem dX7_begin_29 : decode cX7_begin 29 = .ok (.istore_n 3, 1) := by decide +kernel
theorem dX7_begin_30 : decode cX7_begin 30 = .ok (.iload_n 3, 1) := by decide +kernel
theorem dX7_begin_31 : decode cX7_begin 31 = .ok (.bipush 16, 2) := by decide +kernel
theorem dX7_begin_33 : decode cX7_begin 33 = .ok (.if_icmp .ge 29, 3) := by decide +kernel
theorem dX7_begin_36 : decode cX7_begin 36 = .ok (.aload_n 0, 1) := by decide +kernel
theorem dX7_begin_37 : decode cX7_begin 37 = .ok (.getfield 17, 3) := by decide +kernel
theorem dX7_begin_40 : decode cX7_begin 40 = .ok (.iload_n 2, 1) := by decide +kernel
theorem dX7_begin_41 : decode cX7_begin 41 = .ok (.aaload, 1) := by decide +kernel
theorem dX7_begin_42 : decode cX7_begin 42 = .ok (.iload_n 3, 1) := by decide +kernel
theorem dX7_begin_43 : decode cX7_begin 43 = .ok (.aload_n 1, 1) := by decide +kernel
theorem dX7_begin_44 : decode cX7_begin 44 = .ok (.aload_n 1, 1) := by decide +kernel
theorem dX7_begin_45 : decode cX7_begin 45 = .ok (.getfield 23, 3) := by decide +kernel
theorem dX7_begin_48 : decode cX7_begin 48 = .ok (.iload_n 2, 1) := by decide +kernel
theorem dX7_begin_49 : decode cX7_begin 49 = .ok (.aaload, 1) := by decide +kernel
theorem dX7_begin_50 : decode cX7_begin 50 = .ok (.iload_n 3, 1) := by decide +kernel
theorem dX7_begin_51 : decode cX7_begin 51 = .ok (.iaload, 1) := by decide +kernel
theorem dX7_begin_52 : decode cX7_begin 52 = .ok (.invokevirtual 28, 3) := by decide +kernel
theorem dX7_begin_55 : decode cX7_begin 55 = .ok (.iastore, 1) := by decide +kernel
theorem dX7_begin_56 : decode cX7_begin 56 = .ok (.iinc 3 1, 3) := by decide +kernel
theorem dX7_begin_59 : decode cX7_begin 59 = .ok (.goto (-29), 3) := by decide +kernel
theorem dX7_begin_62 : decode cX7_begin 62 = .ok (.iinc 2 1, 3) := by decide +kernel
theorem dX7_begin_65 : decode cX7_begin 65 = .ok (.goto (-42), 3) := by decide +kernel
theorem dX7_begin_68 : decode cX7_begin 68 = .ok (.aload_n 0, 1) := by decide +kernel
theorem dX7_begin_69 : decode cX7_begin 69 = .ok (.iconst 0, 1) := by decide +kernel
theorem dX7_begin_70 : decode cX7_begin 70 = .ok (.putfield 32, 3) := by decide +kernel
theorem dX7_begin_73 : decode cX7_begin 73 = .ok (.aload_n 0, 1) := by decide +kernel
theorem dX7_begin_74 : decode cX7_begin 74 = .ok (.iconst 0, 1) := by decide +kernel
theorem dX7_begin_75 : decode cX7_begin 75 = .ok (.putfield 36, 3) := by decide +kernel
theorem dX7_begin_78 : decode cX7_begin 78 = .ok (.return_, 1) := by decide +kernel
theorem dX7_isInside_0 : decode cX7_isInside 0 = .ok (.iload_n 0, 1) := by decide +kernel
theorem dX7_isInside_1 : decode cX7_isInside 1 = .ok (.ifCond .lt 22, 3) := by decide +kernel
theorem dX7_isInside_4 : decode cX7_isInside 4 = .ok (.iload_n 0, 1) := by decide +kernel
theorem dX7_isInside_5 : decode cX7_isInside 5 = .ok (.iconst 2, 1) := by decide +kernel
theorem dX7_isInside_6 : decode cX7_isInside 6 = .ok (.if_icmp .ge 17, 3) := by decide +kernel
theorem dX7_isInside_9 : decode cX7_isInside 9 = .ok (.iload_n 1, 1) := by decide +kernel
theorem dX7_isInside_10 : decode cX7_isInside 10 = .ok (.ifCond .lt 13, 3) := by decide +kernel
theorem dX7_isInside_13 : decode cX7_isInside 13 = .ok (.iload_n 1, 1) := by decide +kernel
theorem dX7_isInside_14 : decode cX7_isInside 14 = .ok (.bipush 16, 2) := by decide +kernel
theorem dX7_isInside_16 : decode cX7_isInside 16 = .ok (.if_icmp .ge 7, 3) := by decide +kernel
theorem dX7_isInside_19 : decode cX7_isInside 19 = .ok (.iconst 1, 1) := by decide +kernel
theorem dX7_isInside_20 : decode cX7_isInside 20 = .ok (.goto 4, 3) := by decide +kernel
theorem dX7_isInside_23 : decode cX7_isInside 23 = .ok (.iconst 0, 1) := by decide +kernel
theorem dX7_isInside_24 : decode cX7_isInside 24 = .ok (.ireturn, 1) := by decide +kernel
theorem dX7_look_0 : decode cX7_look 0 = .ok (.iload_n 1, 1) := by decide +kernel
theorem dX7_look_1 : decode cX7_look 1 = .ok (.iload_n 2, 1) := by decide +kernel
theorem dX7_look_2 : decode cX7_look 2 = .ok (.invokestatic 39, 3) := by decide +kernel
