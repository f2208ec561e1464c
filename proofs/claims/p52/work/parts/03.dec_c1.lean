theorem dX7_look_5 : decode cX7_look 5 = .ok (.ifCond .eq 14, 3) := by decide +kernel
theorem dX7_look_8 : decode cX7_look 8 = .ok (.aload_n 0, 1) := by decide +kernel
theorem dX7_look_9 : decode cX7_look 9 = .ok (.getfield 17, 3) := by decide +kernel
theorem dX7_look_12 : decode cX7_look 12 = .ok (.iload_n 1, 1) := by decide +kernel
theorem dX7_look_13 : decode cX7_look 13 = .ok (.aaload, 1) := by decide +kernel
theorem dX7_look_14 : decode cX7_look 14 = .ok (.iload_n 2, 1) := by decide +kernel
theorem dX7_look_15 : decode cX7_look 15 = .ok (.iaload, 1) := by decide +kernel
theorem dX7_look_16 : decode cX7_look 16 = .ok (.goto 4, 3) := by decide +kernel
theorem dX7_look_19 : decode cX7_look 19 = .ok (.iconst 0, 1) := by decide +kernel
theorem dX7_look_20 : decode cX7_look 20 = .ok (.ireturn, 1) := by decide +kernel
theorem dX7_keep_0 : decode cX7_keep 0 = .ok (.iload_n 1, 1) := by decide +kernel
theorem dX7_keep_1 : decode cX7_keep 1 = .ok (.iload_n 2, 1) := by decide +kernel
theorem dX7_keep_2 : decode cX7_keep 2 = .ok (.invokestatic 39, 3) := by decide +kernel
theorem dX7_keep_5 : decode cX7_keep 5 = .ok (.ifCond .eq 12, 3) := by decide +kernel
theorem dX7_keep_8 : decode cX7_keep 8 = .ok (.aload_n 0, 1) := by decide +kernel
theorem dX7_keep_9 : decode cX7_keep 9 = .ok (.getfield 17, 3) := by decide +kernel
theorem dX7_keep_12 : decode cX7_keep 12 = .ok (.iload_n 1, 1) := by decide +kernel
theorem dX7_keep_13 : decode cX7_keep 13 = .ok (.aaload, 1) := by decide +kernel
theorem dX7_keep_14 : decode cX7_keep 14 = .ok (.iload_n 2, 1) := by decide +kernel
theorem dX7_keep_15 : decode cX7_keep 15 = .ok (.iload_n 3, 1) := by decide +kernel
theorem dX7_keep_16 : decode cX7_keep 16 = .ok (.iastore, 1) := by decide +kernel
theorem dX7_keep_17 : decode cX7_keep 17 = .ok (.return_, 1) := by decide +kernel
theorem dX7_putOut_0 : decode cX7_putOut 0 = .ok (.aload_n 0, 1) := by decide +kernel
theorem dX7_putOut_1 : decode cX7_putOut 1 = .ok (.getfield 32, 3) := by decide +kernel
theorem dX7_putOut_4 : decode cX7_putOut 4 = .ok (.sipush 192, 3) := by decide +kernel
theorem dX7_putOut_7 : decode cX7_putOut 7 = .ok (.if_icmp .ge 23, 3) := by decide +kernel
theorem dX7_putOut_10 : decode cX7_putOut 10 = .ok (.aload_n 0, 1) := by decide +kernel
theorem dX7_putOut_11 : decode cX7_putOut 11 = .ok (.getfield 20, 3) := by decide +kernel
theorem dX7_putOut_14 : decode cX7_putOut 14 = .ok (.aload_n 0, 1) := by decide +kernel
theorem dX7_putOut_15 : decode cX7_putOut 15 = .ok (.getfield 32, 3) := by decide +kernel
theorem dX7_putOut_18 : decode cX7_putOut 18 = .ok (.iload_n 1, 1) := by decide +kernel
theorem dX7_putOut_19 : decode cX7_putOut 19 = .ok (.iastore, 1) := by decide +kernel
theorem dX7_putOut_20 : decode cX7_putOut 20 = .ok (.aload_n 0, 1) := by decide +kernel
theorem dX7_putOut_21 : decode cX7_putOut 21 = .ok (.dup, 1) := by decide +kernel
theorem dX7_putOut_22 : decode cX7_putOut 22 = .ok (.getfield 32, 3) := by decide +kernel
theorem dX7_putOut_25 : decode cX7_putOut 25 = .ok (.iconst 1, 1) := by decide +kernel
theorem dX7_putOut_26 : decode cX7_putOut 26 = .ok (.iadd, 1) := by decide +kernel
theorem dX7_putOut_27 : decode cX7_putOut 27 = .ok (.putfield 32, 3) := by decide +kernel
theorem dX7_putOut_30 : decode cX7_putOut 30 = .ok (.return_, 1) := by decide +kernel
theorem dX7_isLike_0 : decode cX7_isLike 0 = .ok (.aload_n 0, 1) := by decide +kernel
theorem dX7_isLike_1 : decode cX7_isLike 1 = .ok (.getfield 32, 3) := by decide +kernel
theorem dX7_isLike_4 : decode cX7_isLike 4 = .ok (.aload_n 1, 1) := by decide +kernel
theorem dX7_isLike_5 : decode cX7_isLike 5 = .ok (.getfield 32, 3) := by decide +kernel
theorem dX7_isLike_8 : decode cX7_isLike 8 = .ok (.if_icmp .eq 5, 3) := by decide +kernel
theorem dX7_isLike_11 : decode cX7_isLike 11 = .ok (.iconst 0, 1) := by decide +kernel
theorem dX7_isLike_12 : decode cX7_isLike 12 = .ok (.ireturn, 1) := by decide +kernel
theorem dX7_isLike_13 : decode cX7_isLike 13 = .ok (.iconst 0, 1) := by decide +kernel
theorem dX7_isLike_14 : decode cX7_isLike 14 = .ok (.istore_n 2, 1) := by decide +kernel
theorem dX7_isLike_15 : decode cX7_isLike 15 = .ok (.iload_n 2, 1) := by decide +kernel
theorem dX7_isLike_16 : decode cX7_isLike 16 = .ok (.aload_n 0, 1) := by decide +kernel
theorem dX7_isLike_17 : decode cX7_isLike 17 = .ok (.getfield 32, 3) := by decide +kernel
theorem dX7_isLike_20 : decode cX7_isLike 20 = .ok (.if_icmp .ge 26, 3) := by decide +kernel
theorem dX7_isLike_23 : decode cX7_isLike 23 = .ok (.aload_n 0, 1) := by decide +kernel
theorem dX7_isLike_24 : decode cX7_isLike 24 = .ok (.getfield 20, 3) := by decide +kernel
theorem dX7_isLike_27 : decode cX7_isLike 27 = .ok (.iload_n 2, 1) := by decide +kernel
theorem dX7_isLike_28 : decode cX7_isLike 28 = .ok (.iaload, 1) := by decide +kernel
theorem dX7_isLike_29 : decode cX7_isLike 29 = .ok (.aload_n 1, 1) := by decide +kernel
theorem dX7_isLike_30 : decode cX7_isLike 30 = .ok (.getfield 20, 3) := by decide +kernel
theorem dX7_isLike_33 : decode cX7_isLike 33 = .ok (.iload_n 2, 1) := by decide +kernel
theorem dX7_isLike_34 : decode cX7_isLike 34 = .ok (.iaload, 1) := by decide +kernel
theorem dX7_isLike_35 : decode cX7_isLike 35 = .ok (.if_icmp .eq 5, 3) := by decide +kernel
theorem dX7_isLike_38 : decode cX7_isLike 38 = .ok (.iconst 0, 1) := by decide +kernel
theorem dX7_isLike_39 : decode cX7_isLike 39 = .ok (.ireturn, 1) := by decide +kernel
theorem dX7_isLike_40 : decode cX7_isLike 40 = .ok (.iinc 2 1, 3) := by decide +kernel
theorem dX7_isLike_43 : decode cX7_isLike 43 = .ok (.goto (-28), 3) := by decide +kernel
theorem dX7_isLike_46 : decode cX7_isLike 46 = .ok (.aload_n 0, 1) := by decide +kernel
theorem dX7_isLike_47 : decode cX7_isLike 47 = .ok (.aload_n 1, 1) := by decide +kernel
theorem dX7_isLike_48 : decode cX7_isLike 48 = .ok (.invokevirtual 43, 3) := by decide +kernel
theorem dX7_isLike_51 : decode cX7_isLike 51 = .ok (.ifCond .eq 15, 3) := by decide +kernel
theorem dX7_isLike_54 : decode cX7_isLike 54 = .ok (.aload_n 0, 1) := by decide +kernel
theorem dX7_isLike_55 : decode cX7_isLike 55 = .ok (.aload_n 1, 1) := by decide +kernel
theorem dX7_isLike_56 : decode cX7_isLike 56 = .ok (.invokevirtual 47, 3) := by decide +kernel
theorem dX7_isLike_59 : decode cX7_isLike 59 = .ok (.ifCond .eq 7, 3) := by decide +kernel
theorem dX7_isLike_62 : decode cX7_isLike 62 = .ok (.iconst 1, 1) := by decide +kernel
theorem dX7_isLike_63 : decode cX7_isLike 63 = .ok (.goto 4, 3) := by decide +kernel
theorem dX7_isLike_66 : decode cX7_isLike 66 = .ok (.iconst 0, 1) := by decide +kernel
theorem dX7_isLike_67 : decode cX7_isLike 67 = .ok (.ireturn, 1) := by decide +kernel
theorem dX7_hasRegistersOf_0 : decode cX7_hasRegistersOf 0 = .ok (.iconst 0, 1) := by decide +kernel
theorem dX7_hasRegistersOf_1 : decode cX7_hasRegistersOf 1 = .ok (.istore_n 2, 1) := by decide +kernel
theorem dX7_hasRegistersOf_2 : decode cX7_hasRegistersOf 2 = .ok (.iload_n 2, 1) := by decide +kernel
theorem dX7_hasRegistersOf_3 : decode cX7_hasRegistersOf 3 = .ok (.bipush 8, 2) := by decide +kernel
theorem dX7_hasRegistersOf_5 : decode cX7_hasRegistersOf 5 = .ok (.if_icmp .ge 26, 3) := by decide +kernel
theorem dX7_hasRegistersOf_8 : decode cX7_hasRegistersOf 8 = .ok (.aload_n 0, 1) := by decide +kernel
theorem dX7_hasRegistersOf_9 : decode cX7_hasRegistersOf 9 = .ok (.getfield 9, 3) := by decide +kernel
theorem dX7_hasRegistersOf_12 : decode cX7_hasRegistersOf 12 = .ok (.iload_n 2, 1) := by decide +kernel
theorem dX7_hasRegistersOf_13 : decode cX7_hasRegistersOf 13 = .ok (.iaload, 1) := by decide +kernel
theorem dX7_hasRegistersOf_14 : decode cX7_hasRegistersOf 14 = .ok (.aload_n 1, 1) := by decide +kernel
theorem dX7_hasRegistersOf_15 : decode cX7_hasRegistersOf 15 = .ok (.getfield 9, 3) := by decide +kernel
theorem dX7_hasRegistersOf_18 : decode cX7_hasRegistersOf 18 = .ok (.iload_n 2, 1) := by decide +kernel
theorem dX7_hasRegistersOf_19 : decode cX7_hasRegistersOf 19 = .ok (.iaload, 1) := by decide +kernel
theorem dX7_hasRegistersOf_20 : decode cX7_hasRegistersOf 20 = .ok (.if_icmp .eq 5, 3) := by decide +kernel
theorem dX7_hasRegistersOf_23 : decode cX7_hasRegistersOf 23 = .ok (.iconst 0, 1) := by decide +kernel
theorem dX7_hasRegistersOf_24 : decode cX7_hasRegistersOf 24 = .ok (.ireturn, 1) := by decide +kernel
theorem dX7_hasRegistersOf_25 : decode cX7_hasRegistersOf 25 = .ok (.iinc 2 1, 3) := by decide +kernel
theorem dX7_hasRegistersOf_28 : decode cX7_hasRegistersOf 28 = .ok (.goto (-26), 3) := by decide +kernel
theorem dX7_hasRegistersOf_31 : decode cX7_hasRegistersOf 31 = .ok (.iconst 1, 1) := by decide +kernel
theorem dX7_hasRegistersOf_32 : decode cX7_hasRegistersOf 32 = .ok (.ireturn, 1) := by decide +kernel
theorem dX7_hasMemoriesOf_0 : decode cX7_hasMemoriesOf 0 = .ok (.iconst 0, 1) := by decide +kernel
theorem dX7_hasMemoriesOf_1 : decode cX7_hasMemoriesOf 1 = .ok (.istore_n 2, 1) := by decide +kernel
theorem dX7_hasMemoriesOf_2 : decode cX7_hasMemoriesOf 2 = .ok (.iload_n 2, 1) := by decide +kernel
theorem dX7_hasMemoriesOf_3 : decode cX7_hasMemoriesOf 3 = .ok (.iconst 2, 1) := by decide +kernel
theorem dX7_hasMemoriesOf_4 : decode cX7_hasMemoriesOf 4 = .ok (.if_icmp .ge 44, 3) := by decide +kernel
theorem dX7_hasMemoriesOf_7 : decode cX7_hasMemoriesOf 7 = .ok (.iconst 0, 1) := by decide +kernel
theorem dX7_hasMemoriesOf_8 : decode cX7_hasMemoriesOf 8 = .ok (.istore_n 3, 1) := by decide +kernel
theorem dX7_hasMemoriesOf_9 : decode cX7_hasMemoriesOf 9 = .ok (.iload_n 3, 1) := by decide +kernel
theorem dX7_hasMemoriesOf_10 : decode cX7_hasMemoriesOf 10 = .ok (.bipush 16, 2) := by decide +kernel
theorem dX7_hasMemoriesOf_12 : decode cX7_hasMemoriesOf 12 = .ok (.if_icmp .ge 30, 3) := by decide +kernel
theorem dX7_hasMemoriesOf_15 : decode cX7_hasMemoriesOf 15 = .ok (.aload_n 0, 1) := by decide +kernel
theorem dX7_hasMemoriesOf_16 : decode cX7_hasMemoriesOf 16 = .ok (.getfield 17, 3) := by decide +kernel
theorem dX7_hasMemoriesOf_19 : decode cX7_hasMemoriesOf 19 = .ok (.iload_n 2, 1) := by decide +kernel
theorem dX7_hasMemoriesOf_20 : decode cX7_hasMemoriesOf 20 = .ok (.aaload, 1) := by decide +kernel
theorem dX7_hasMemoriesOf_21 : decode cX7_hasMemoriesOf 21 = .ok (.iload_n 3, 1) := by decide +kernel
theorem dX7_hasMemoriesOf_22 : decode cX7_hasMemoriesOf 22 = .ok (.iaload, 1) := by decide +kernel
theorem dX7_hasMemoriesOf_23 : decode cX7_hasMemoriesOf 23 = .ok (.aload_n 1, 1) := by decide +kernel
theorem dX7_hasMemoriesOf_24 : decode cX7_hasMemoriesOf 24 = .ok (.getfield 17, 3) := by decide +kernel
theorem dX7_hasMemoriesOf_27 : decode cX7_hasMemoriesOf 27 = .ok (.iload_n 2, 1) := by decide +kernel
theorem dX7_hasMemoriesOf_28 : decode cX7_hasMemoriesOf 28 = .ok (.aaload, 1) := by decide +kernel
theorem dX7_hasMemoriesOf_29 : decode cX7_hasMemoriesOf 29 = .ok (.iload_n 3, 1) := by decide +kernel
theorem dX7_hasMemoriesOf_30 : decode cX7_hasMemoriesOf 30 = .ok (.iaload, 1) := by decide +kernel
theorem dX7_hasMemoriesOf_31 : decode cX7_hasMemoriesOf 31 = .ok (.if_icmp .eq 5, 3) := by decide +kernel
theorem dX7_hasMemoriesOf_34 : decode cX7_hasMemoriesOf 34 = .ok (.iconst 0, 1) := by decide +kernel
theorem dX7_hasMemoriesOf_35 : decode cX7_hasMemoriesOf 35 = .ok (.ireturn, 1) := by decide +kernel
theorem dX7_hasMemoriesOf_36 : decode cX7_hasMemoriesOf 36 = .ok (.iinc 3 1, 3) := by decide +kernel
theorem dX7_hasMemoriesOf_39 : decode cX7_hasMemoriesOf 39 = .ok (.goto (-30), 3) := by decide +kernel
theorem dX7_hasMemoriesOf_42 : decode cX7_hasMemoriesOf 42 = .ok (.iinc 2 1, 3) := by decide +kernel
theorem dX7_hasMemoriesOf_45 : decode cX7_hasMemoriesOf 45 = .ok (.goto (-43), 3) := by decide +kernel
theorem dX7_hasMemoriesOf_48 : decode cX7_hasMemoriesOf 48 = .ok (.iconst 1, 1) := by decide +kernel
theorem dX7_hasMemoriesOf_49 : decode cX7_hasMemoriesOf 49 = .ok (.ireturn, 1) := by decide +kernel
theorem dX8_init_0 : decode cX8_init 0 = .ok (.aload_n 0, 1) := by decide +kernel
theorem dX8_init_1 : decode cX8_init 1 = .ok (.invokespecial 3, 3) := by decide +kernel
theorem dX8_init_4 : decode cX8_init 4 = .ok (.aload_n 0, 1) := by decide +kernel
theorem dX8_init_5 : decode cX8_init 5 = .ok (.iconst 3, 1) := by decide +kernel
theorem dX8_init_6 : decode cX8_init 6 = .ok (.newarray .int, 2) := by decide +kernel
theorem dX8_init_8 : decode cX8_init 8 = .ok (.putfield 9, 3) := by decide +kernel
theorem dX8_init_11 : decode cX8_init 11 = .ok (.aload_n 0, 1) := by decide +kernel
theorem dX8_init_12 : decode cX8_init 12 = .ok (.iconst 3, 1) := by decide +kernel
theorem dX8_init_13 : decode cX8_init 13 = .ok (.newarray .int, 2) := by decide +kernel
theorem dX8_init_15 : decode cX8_init 15 = .ok (.putfield 15, 3) := by decide +kernel
theorem dX8_init_18 : decode cX8_init 18 = .ok (.aload_n 0, 1) := by decide +kernel
theorem dX8_init_19 : decode cX8_init 19 = .ok (.iconst 3, 1) := by decide +kernel
theorem dX8_init_20 : decode cX8_init 20 = .ok (.newarray .boolean, 2) := by decide +kernel
theorem dX8_init_22 : decode cX8_init 22 = .ok (.putfield 18, 3) := by decide +kernel
theorem dX8_init_25 : decode cX8_init 25 = .ok (.aload_n 0, 1) := by decide +kernel
theorem dX8_init_26 : decode cX8_init 26 = .ok (.bipush 32, 2) := by decide +kernel
theorem dX8_init_28 : decode cX8_init 28 = .ok (.putfield 22, 3) := by decide +kernel
theorem dX8_init_31 : decode cX8_init 31 = .ok (.return_, 1) := by decide +kernel
theorem dX8_forget_0 : decode cX8_forget 0 = .ok (.iconst 0, 1) := by decide +kernel
theorem dX8_forget_1 : decode cX8_forget 1 = .ok (.istore_n 1, 1) := by decide +kernel
theorem dX8_forget_2 : decode cX8_forget 2 = .ok (.iload_n 1, 1) := by decide +kernel
theorem dX8_forget_3 : decode cX8_forget 3 = .ok (.iconst 3, 1) := by decide +kernel
theorem dX8_forget_4 : decode cX8_forget 4 = .ok (.if_icmp .ge 30, 3) := by decide +kernel
theorem dX8_forget_7 : decode cX8_forget 7 = .ok (.aload_n 0, 1) := by decide +kernel
theorem dX8_forget_8 : decode cX8_forget 8 = .ok (.getfield 9, 3) := by decide +kernel
theorem dX8_forget_11 : decode cX8_forget 11 = .ok (.iload_n 1, 1) := by decide +kernel
theorem dX8_forget_12 : decode cX8_forget 12 = .ok (.iconst (-1), 1) := by decide +kernel
theorem dX8_forget_13 : decode cX8_forget 13 = .ok (.iastore, 1) := by decide +kernel
theorem dX8_forget_14 : decode cX8_forget 14 = .ok (.aload_n 0, 1) := by decide +kernel
theorem dX8_forget_15 : decode cX8_forget 15 = .ok (.getfield 15, 3) := by decide +kernel
theorem dX8_forget_18 : decode cX8_forget 18 = .ok (.iload_n 1, 1) := by decide +kernel
theorem dX8_forget_19 : decode cX8_forget 19 = .ok (.iconst 0, 1) := by decide +kernel
theorem dX8_forget_20 : decode cX8_forget 20 = .ok (.iastore, 1) := by decide +kernel
theorem dX8_forget_21 : decode cX8_forget 21 = .ok (.aload_n 0, 1) := by decide +kernel
theorem dX8_forget_22 : decode cX8_forget 22 = .ok (.getfield 18, 3) := by decide +kernel
theorem dX8_forget_25 : decode cX8_forget 25 = .ok (.iload_n 1, 1) := by decide +kernel
theorem dX8_forget_26 : decode cX8_forget 26 = .ok (.iconst 0, 1) := by decide +kernel
theorem dX8_forget_27 : decode cX8_forget 27 = .ok (.bastore, 1) := by decide +kernel
theorem dX8_forget_28 : decode cX8_forget 28 = .ok (.iinc 1 1, 3) := by decide +kernel
theorem dX8_forget_31 : decode cX8_forget 31 = .ok (.goto (-29), 3) := by decide +kernel
theorem dX8_forget_34 : decode cX8_forget 34 = .ok (.aload_n 0, 1) := by decide +kernel
theorem dX8_forget_35 : decode cX8_forget 35 = .ok (.bipush 32, 2) := by decide +kernel
theorem dX8_forget_37 : decode cX8_forget 37 = .ok (.putfield 22, 3) := by decide +kernel
theorem dX8_forget_40 : decode cX8_forget 40 = .ok (.return_, 1) := by decide +kernel
theorem dX8_hasOperation_0 : decode cX8_hasOperation 0 = .ok (.aload_n 0, 1) := by decide +kernel
theorem dX8_hasOperation_1 : decode cX8_hasOperation 1 = .ok (.getfield 22, 3) := by decide +kernel
theorem dX8_hasOperation_4 : decode cX8_hasOperation 4 = .ok (.bipush 32, 2) := by decide +kernel
theorem dX8_hasOperation_6 : decode cX8_hasOperation 6 = .ok (.if_icmp .eq 7, 3) := by decide +kernel
theorem dX8_hasOperation_9 : decode cX8_hasOperation 9 = .ok (.iconst 1, 1) := by decide +kernel
theorem dX8_hasOperation_10 : decode cX8_hasOperation 10 = .ok (.goto 4, 3) := by decide +kernel
theorem dX8_hasOperation_13 : decode cX8_hasOperation 13 = .ok (.iconst 0, 1) := by decide +kernel
theorem dX8_hasOperation_14 : decode cX8_hasOperation 14 = .ok (.ireturn, 1) := by decide +kernel
theorem dX8_isReading_0 : decode cX8_isReading 0 = .ok (.aload_n 0, 1) := by decide +kernel
theorem dX8_isReading_1 : decode cX8_isReading 1 = .ok (.getfield 9, 3) := by decide +kernel
theorem dX8_isReading_4 : decode cX8_isReading 4 = .ok (.iload_n 1, 1) := by decide +kernel
theorem dX8_isReading_5 : decode cX8_isReading 5 = .ok (.iaload, 1) := by decide +kernel
theorem dX8_isReading_6 : decode cX8_isReading 6 = .ok (.iconst 3, 1) := by decide +kernel
theorem dX8_isReading_7 : decode cX8_isReading 7 = .ok (.if_icmp .lt 17, 3) := by decide +kernel
theorem dX8_isReading_10 : decode cX8_isReading 10 = .ok (.aload_n 0, 1) := by decide +kernel
theorem dX8_isReading_11 : decode cX8_isReading 11 = .ok (.getfield 9, 3) := by decide +kernel
theorem dX8_isReading_14 : decode cX8_isReading 14 = .ok (.iload_n 1, 1) := by decide +kernel
theorem dX8_isReading_15 : decode cX8_isReading 15 = .ok (.iaload, 1) := by decide +kernel
theorem dX8_isReading_16 : decode cX8_isReading 16 = .ok (.iconst 5, 1) := by decide +kernel
theorem dX8_isReading_17 : decode cX8_isReading 17 = .ok (.if_icmp .gt 7, 3) := by decide +kernel
theorem dX8_isReading_20 : decode cX8_isReading 20 = .ok (.iconst 1, 1) := by decide +kernel
theorem dX8_isReading_21 : decode cX8_isReading 21 = .ok (.goto 4, 3) := by decide +kernel
theorem dX8_isReading_24 : decode cX8_isReading 24 = .ok (.iconst 0, 1) := by decide +kernel
theorem dX8_isReading_25 : decode cX8_isReading 25 = .ok (.ireturn, 1) := by decide +kernel
theorem dX8_placeOf_0 : decode cX8_placeOf 0 = .ok (.aload_n 0, 1) := by decide +kernel
theorem dX8_placeOf_1 : decode cX8_placeOf 1 = .ok (.getfield 18, 3) := by decide +kernel
theorem dX8_placeOf_4 : decode cX8_placeOf 4 = .ok (.iload_n 1, 1) := by decide +kernel
theorem dX8_placeOf_5 : decode cX8_placeOf 5 = .ok (.baload, 1) := by decide +kernel
theorem dX8_placeOf_6 : decode cX8_placeOf 6 = .ok (.ifCond .eq 14, 3) := by decide +kernel
theorem dX8_placeOf_9 : decode cX8_placeOf 9 = .ok (.iload_n 2, 1) := by decide +kernel
theorem dX8_placeOf_10 : decode cX8_placeOf 10 = .ok (.aload_n 0, 1) := by decide +kernel
theorem dX8_placeOf_11 : decode cX8_placeOf 11 = .ok (.getfield 15, 3) := by decide +kernel
theorem dX8_placeOf_14 : decode cX8_placeOf 14 = .ok (.iload_n 1, 1) := by decide +kernel
theorem dX8_placeOf_15 : decode cX8_placeOf 15 = .ok (.iaload, 1) := by decide +kernel
theorem dX8_placeOf_16 : decode cX8_placeOf 16 = .ok (.iadd, 1) := by decide +kernel
theorem dX8_placeOf_17 : decode cX8_placeOf 17 = .ok (.goto 9, 3) := by decide +kernel
theorem dX8_placeOf_20 : decode cX8_placeOf 20 = .ok (.aload_n 0, 1) := by decide +kernel
theorem dX8_placeOf_21 : decode cX8_placeOf 21 = .ok (.getfield 15, 3) := by decide +kernel
theorem dX8_placeOf_24 : decode cX8_placeOf 24 = .ok (.iload_n 1, 1) := by decide +kernel
theorem dX8_placeOf_25 : decode cX8_placeOf 25 = .ok (.iaload, 1) := by decide +kernel
theorem dX8_placeOf_26 : decode cX8_placeOf 26 = .ok (.ireturn, 1) := by decide +kernel
theorem dX8_registerIn_0 : decode cX8_registerIn 0 = .ok (.aload_n 0, 1) := by decide +kernel
theorem dX8_registerIn_1 : decode cX8_registerIn 1 = .ok (.getfield 9, 3) := by decide +kernel
theorem dX8_registerIn_4 : decode cX8_registerIn 4 = .ok (.iload_n 1, 1) := by decide +kernel
theorem dX8_registerIn_5 : decode cX8_registerIn 5 = .ok (.iaload, 1) := by decide +kernel
theorem dX8_registerIn_6 : decode cX8_registerIn 6 = .ok (.ifCond .ne 12, 3) := by decide +kernel
theorem dX8_registerIn_9 : decode cX8_registerIn 9 = .ok (.aload_n 0, 1) := by decide +kernel
theorem dX8_registerIn_10 : decode cX8_registerIn 10 = .ok (.getfield 15, 3) := by decide +kernel
theorem dX8_registerIn_13 : decode cX8_registerIn 13 = .ok (.iload_n 1, 1) := by decide +kernel
theorem dX8_registerIn_14 : decode cX8_registerIn 14 = .ok (.iaload, 1) := by decide +kernel
theorem dX8_registerIn_15 : decode cX8_registerIn 15 = .ok (.goto 4, 3) := by decide +kernel
theorem dX8_registerIn_18 : decode cX8_registerIn 18 = .ok (.iconst (-1), 1) := by decide +kernel
theorem dX8_registerIn_19 : decode cX8_registerIn 19 = .ok (.ireturn, 1) := by decide +kernel
theorem dX8_maskOfRegister_0 : decode cX8_maskOfRegister 0 = .ok (.aload_n 0, 1) := by decide +kernel
theorem dX8_maskOfRegister_1 : decode cX8_maskOfRegister 1 = .ok (.getfield 9, 3) := by decide +kernel
theorem dX8_maskOfRegister_4 : decode cX8_maskOfRegister 4 = .ok (.iload_n 1, 1) := by decide +kernel
theorem dX8_maskOfRegister_5 : decode cX8_maskOfRegister 5 = .ok (.iaload, 1) := by decide +kernel
theorem dX8_maskOfRegister_6 : decode cX8_maskOfRegister 6 = .ok (.ifCond .ne 14, 3) := by decide +kernel
theorem dX8_maskOfRegister_9 : decode cX8_maskOfRegister 9 = .ok (.iconst 1, 1) := by decide +kernel
theorem dX8_maskOfRegister_10 : decode cX8_maskOfRegister 10 = .ok (.aload_n 0, 1) := by decide +kernel
theorem dX8_maskOfRegister_11 : decode cX8_maskOfRegister 11 = .ok (.getfield 15, 3) := by decide +kernel
theorem dX8_maskOfRegister_14 : decode cX8_maskOfRegister 14 = .ok (.iload_n 1, 1) := by decide +kernel
theorem dX8_maskOfRegister_15 : decode cX8_maskOfRegister 15 = .ok (.iaload, 1) := by decide +kernel
theorem dX8_maskOfRegister_16 : decode cX8_maskOfRegister 16 = .ok (.ishl, 1) := by decide +kernel
theorem dX8_maskOfRegister_17 : decode cX8_maskOfRegister 17 = .ok (.goto 4, 3) := by decide +kernel
theorem dX8_maskOfRegister_20 : decode cX8_maskOfRegister 20 = .ok (.iconst 0, 1) := by decide +kernel
theorem dX8_maskOfRegister_21 : decode cX8_maskOfRegister 21 = .ok (.ireturn, 1) := by decide +kernel
theorem dX8_kindOfOperation_0 : decode cX8_kindOfOperation 0 = .ok (.aload_n 0, 1) := by decide +kernel
theorem dX8_kindOfOperation_1 : decode cX8_kindOfOperation 1 = .ok (.getfield 22, 3) := by decide +kernel
theorem dX8_kindOfOperation_4 : decode cX8_kindOfOperation 4 = .ok (.lookupswitch 48 #[(42, 46), (43, 44), (45, 44), (108, 44)], 44) := by decide +kernel
theorem dX8_kindOfOperation_48 : decode cX8_kindOfOperation 48 = .ok (.iconst 0, 1) := by decide +kernel
theorem dX8_kindOfOperation_49 : decode cX8_kindOfOperation 49 = .ok (.ireturn, 1) := by decide +kernel
theorem dX8_kindOfOperation_50 : decode cX8_kindOfOperation 50 = .ok (.iconst 1, 1) := by decide +kernel
theorem dX8_kindOfOperation_51 : decode cX8_kindOfOperation 51 = .ok (.ireturn, 1) := by decide +kernel
theorem dX8_kindOfOperation_52 : decode cX8_kindOfOperation 52 = .ok (.iconst 2, 1) := by decide +kernel
theorem dX8_kindOfOperation_53 : decode cX8_kindOfOperation 53 = .ok (.ireturn, 1) := by decide +kernel
theorem dX8_operate_0 : decode cX8_operate 0 = .ok (.aload_n 0, 1) := by decide +kernel
theorem dX8_operate_1 : decode cX8_operate 1 = .ok (.getfield 22, 3) := by decide +kernel
theorem dX8_operate_4 : decode cX8_operate 4 = .ok (.lookupswitch 84 #[(38, 72), (42, 68), (43, 60), (45, 64), (94, 80), (124, 76)], 60) := by decide +kernel
theorem dX8_operate_64 : decode cX8_operate 64 = .ok (.iload_n 1, 1) := by decide +kernel
theorem dX8_operate_65 : decode cX8_operate 65 = .ok (.iload_n 2, 1) := by decide +kernel
theorem dX8_operate_66 : decode cX8_operate 66 = .ok (.iadd, 1) := by decide +kernel
theorem dX8_operate_67 : decode cX8_operate 67 = .ok (.ireturn, 1) := by decide +kernel
theorem dX8_operate_68 : decode cX8_operate 68 = .ok (.iload_n 1, 1) := by decide +kernel
theorem dX8_operate_69 : decode cX8_operate 69 = .ok (.iload_n 2, 1) := by decide +kernel
theorem dX8_operate_70 : decode cX8_operate 70 = .ok (.isub, 1) := by decide +kernel
theorem dX8_operate_71 : decode cX8_operate 71 = .ok (.ireturn, 1) := by decide +kernel
theorem dX8_operate_72 : decode cX8_operate 72 = .ok (.iload_n 1, 1) := by decide +kernel
theorem dX8_operate_73 : decode cX8_operate 73 = .ok (.iload_n 2, 1) := by decide +kernel
theorem dX8_operate_74 : decode cX8_operate 74 = .ok (.imul, 1) := by decide +kernel
theorem dX8_operate_75 : decode cX8_operate 75 = .ok (.ireturn, 1) := by decide +kernel
theorem dX8_operate_76 : decode cX8_operate 76 = .ok (.iload_n 1, 1) := by decide +kernel
theorem dX8_operate_77 : decode cX8_operate 77 = .ok (.iload_n 2, 1) := by decide +kernel
theorem dX8_operate_78 : decode cX8_operate 78 = .ok (.iand, 1) := by decide +kernel
theorem dX8_operate_79 : decode cX8_operate 79 = .ok (.ireturn, 1) := by decide +kernel
theorem dX8_operate_80 : decode cX8_operate 80 = .ok (.iload_n 1, 1) := by decide +kernel
theorem dX8_operate_81 : decode cX8_operate 81 = .ok (.iload_n 2, 1) := by decide +kernel
theorem dX8_operate_82 : decode cX8_operate 82 = .ok (.ior, 1) := by decide +kernel
theorem dX8_operate_83 : decode cX8_operate 83 = .ok (.ireturn, 1) := by decide +kernel
theorem dX8_operate_84 : decode cX8_operate 84 = .ok (.iload_n 1, 1) := by decide +kernel
theorem dX8_operate_85 : decode cX8_operate 85 = .ok (.iload_n 2, 1) := by decide +kernel
theorem dX8_operate_86 : decode cX8_operate 86 = .ok (.ixor, 1) := by decide +kernel
theorem dX8_operate_87 : decode cX8_operate 87 = .ok (.ireturn, 1) := by decide +kernel
theorem dX8_operate_88 : decode cX8_operate 88 = .ok (.iload_n 1, 1) := by decide +kernel
theorem dX8_operate_89 : decode cX8_operate 89 = .ok (.iload_n 2, 1) := by decide +kernel
theorem dX8_operate_90 : decode cX8_operate 90 = .ok (.if_icmp .ge 7, 3) := by decide +kernel
theorem dX8_operate_93 : decode cX8_operate 93 = .ok (.iconst 1, 1) := by decide +kernel
theorem dX8_operate_94 : decode cX8_operate 94 = .ok (.goto 4, 3) := by decide +kernel
theorem dX8_operate_97 : decode cX8_operate 97 = .ok (.iconst 0, 1) := by decide +kernel
theorem dX8_operate_98 : decode cX8_operate 98 = .ok (.ireturn, 1) := by decide +kernel
theorem dX9_init_0 : decode cX9_init 0 = .ok (.aload_n 0, 1) := by decide +kernel
theorem dX9_init_1 : decode cX9_init 1 = .ok (.invokespecial 3, 3) := by decide +kernel
theorem dX9_init_4 : decode cX9_init 4 = .ok (.aload_n 0, 1) := by decide +kernel
theorem dX9_init_5 : decode cX9_init 5 = .ok (.bipush 96, 2) := by decide +kernel
theorem dX9_init_7 : decode cX9_init 7 = .ok (.newarray .int, 2) := by decide +kernel
theorem dX9_init_9 : decode cX9_init 9 = .ok (.putfield 9, 3) := by decide +kernel
theorem dX9_init_12 : decode cX9_init 12 = .ok (.aload_n 0, 1) := by decide +kernel
theorem dX9_init_13 : decode cX9_init 13 = .ok (.bipush 96, 2) := by decide +kernel
theorem dX9_init_15 : decode cX9_init 15 = .ok (.newarray .int, 2) := by decide +kernel
theorem dX9_init_17 : decode cX9_init 17 = .ok (.putfield 15, 3) := by decide +kernel
theorem dX9_init_20 : decode cX9_init 20 = .ok (.aload_n 0, 1) := by decide +kernel
theorem dX9_init_21 : decode cX9_init 21 = .ok (.bipush 96, 2) := by decide +kernel
theorem dX9_init_23 : decode cX9_init 23 = .ok (.newarray .int, 2) := by decide +kernel
theorem dX9_init_25 : decode cX9_init 25 = .ok (.putfield 18, 3) := by decide +kernel
theorem dX9_init_28 : decode cX9_init 28 = .ok (.aload_n 0, 1) := by decide +kernel
theorem dX9_init_29 : decode cX9_init 29 = .ok (.bipush 96, 2) := by decide +kernel
theorem dX9_init_31 : decode cX9_init 31 = .ok (.newarray .int, 2) := by decide +kernel
theorem dX9_init_33 : decode cX9_init 33 = .ok (.putfield 21, 3) := by decide +kernel
theorem dX9_init_36 : decode cX9_init 36 = .ok (.aload_n 0, 1) := by decide +kernel
theorem dX9_init_37 : decode cX9_init 37 = .ok (.bipush 96, 2) := by decide +kernel
theorem dX9_init_39 : decode cX9_init 39 = .ok (.newarray .int, 2) := by decide +kernel
theorem dX9_init_41 : decode cX9_init 41 = .ok (.putfield 24, 3) := by decide +kernel
theorem dX9_init_44 : decode cX9_init 44 = .ok (.aload_n 0, 1) := by decide +kernel
theorem dX9_init_45 : decode cX9_init 45 = .ok (.bipush 7, 2) := by decide +kernel
theorem dX9_init_47 : decode cX9_init 47 = .ok (.newarray .int, 2) := by decide +kernel
theorem dX9_init_49 : decode cX9_init 49 = .ok (.putfield 27, 3) := by decide +kernel
theorem dX9_init_52 : decode cX9_init 52 = .ok (.aload_n 0, 1) := by decide +kernel
theorem dX9_init_53 : decode cX9_init 53 = .ok (.sipush 481, 3) := by decide +kernel
theorem dX9_init_56 : decode cX9_init 56 = .ok (.newarray .int, 2) := by decide +kernel
theorem dX9_init_58 : decode cX9_init 58 = .ok (.putfield 30, 3) := by decide +kernel
theorem dX9_init_61 : decode cX9_init 61 = .ok (.return_, 1) := by decide +kernel
theorem dX9_order_0 : decode cX9_order 0 = .ok (.aload_n 0, 1) := by decide +kernel
theorem dX9_order_1 : decode cX9_order 1 = .ok (.aload_n 1, 1) := by decide +kernel
theorem dX9_order_2 : decode cX9_order 2 = .ok (.aload_n 2, 1) := by decide +kernel
theorem dX9_order_3 : decode cX9_order 3 = .ok (.invokevirtual 33, 3) := by decide +kernel
theorem dX9_order_6 : decode cX9_order 6 = .ok (.aload_n 0, 1) := by decide +kernel
theorem dX9_order_7 : decode cX9_order 7 = .ok (.aload_n 1, 1) := by decide +kernel
theorem dX9_order_8 : decode cX9_order 8 = .ok (.aload_n 2, 1) := by decide +kernel
theorem dX9_order_9 : decode cX9_order 9 = .ok (.invokevirtual 37, 3) := by decide +kernel
theorem dX9_order_12 : decode cX9_order 12 = .ok (.aload_n 0, 1) := by decide +kernel
theorem dX9_order_13 : decode cX9_order 13 = .ok (.aload_n 1, 1) := by decide +kernel
theorem dX9_order_14 : decode cX9_order 14 = .ok (.aload_n 2, 1) := by decide +kernel
theorem dX9_order_15 : decode cX9_order 15 = .ok (.invokevirtual 40, 3) := by decide +kernel
theorem dX9_order_18 : decode cX9_order 18 = .ok (.return_, 1) := by decide +kernel
theorem dX9_orderSoonest_0 : decode cX9_orderSoonest 0 = .ok (.iconst 0, 1) := by decide +kernel
theorem dX9_orderSoonest_1 : decode cX9_orderSoonest 1 = .ok (.istore_n 3, 1) := by decide +kernel
theorem dX9_orderSoonest_2 : decode cX9_orderSoonest 2 = .ok (.iload_n 3, 1) := by decide +kernel
theorem dX9_orderSoonest_3 : decode cX9_orderSoonest 3 = .ok (.aload_n 1, 1) := by decide +kernel
theorem dX9_orderSoonest_4 : decode cX9_orderSoonest 4 = .ok (.getfield 43, 3) := by decide +kernel
theorem dX9_orderSoonest_7 : decode cX9_orderSoonest 7 = .ok (.if_icmp .ge 16, 3) := by decide +kernel
theorem dX9_orderSoonest_10 : decode cX9_orderSoonest 10 = .ok (.aload_n 0, 1) := by decide +kernel
theorem dX9_orderSoonest_11 : decode cX9_orderSoonest 11 = .ok (.getfield 9, 3) := by decide +kernel
theorem dX9_orderSoonest_14 : decode cX9_orderSoonest 14 = .ok (.iload_n 3, 1) := by decide +kernel
theorem dX9_orderSoonest_15 : decode cX9_orderSoonest 15 = .ok (.iconst 0, 1) := by decide +kernel
theorem dX9_orderSoonest_16 : decode cX9_orderSoonest 16 = .ok (.iastore, 1) := by decide +kernel
theorem dX9_orderSoonest_17 : decode cX9_orderSoonest 17 = .ok (.iinc 3 1, 3) := by decide +kernel
theorem dX9_orderSoonest_20 : decode cX9_orderSoonest 20 = .ok (.goto (-18), 3) := by decide +kernel
theorem dX9_orderSoonest_23 : decode cX9_orderSoonest 23 = .ok (.iconst 0, 1) := by decide +kernel
theorem dX9_orderSoonest_24 : decode cX9_orderSoonest 24 = .ok (.istore_n 3, 1) := by decide +kernel
theorem dX9_orderSoonest_25 : decode cX9_orderSoonest 25 = .ok (.iload_n 3, 1) := by decide +kernel
theorem dX9_orderSoonest_26 : decode cX9_orderSoonest 26 = .ok (.aload_n 1, 1) := by decide +kernel
theorem dX9_orderSoonest_27 : decode cX9_orderSoonest 27 = .ok (.getfield 43, 3) := by decide +kernel
theorem dX9_orderSoonest_30 : decode cX9_orderSoonest 30 = .ok (.if_icmp .ge 85, 3) := by decide +kernel
theorem dX9_orderSoonest_33 : decode cX9_orderSoonest 33 = .ok (.iconst 0, 1) := by decide +kernel
theorem dX9_orderSoonest_34 : decode cX9_orderSoonest 34 = .ok (.istore 4, 2) := by decide +kernel
theorem dX9_orderSoonest_36 : decode cX9_orderSoonest 36 = .ok (.iload 4, 2) := by decide +kernel
theorem dX9_orderSoonest_38 : decode cX9_orderSoonest 38 = .ok (.aload_n 2, 1) := by decide +kernel
theorem dX9_orderSoonest_39 : decode cX9_orderSoonest 39 = .ok (.getfield 49, 3) := by decide +kernel
theorem dX9_orderSoonest_42 : decode cX9_orderSoonest 42 = .ok (.iload_n 3, 1) := by decide +kernel
theorem dX9_orderSoonest_43 : decode cX9_orderSoonest 43 = .ok (.iaload, 1) := by decide +kernel
theorem dX9_orderSoonest_44 : decode cX9_orderSoonest 44 = .ok (.if_icmp .ge 65, 3) := by decide +kernel
theorem dX9_orderSoonest_47 : decode cX9_orderSoonest 47 = .ok (.aload_n 2, 1) := by decide +kernel
theorem dX9_orderSoonest_48 : decode cX9_orderSoonest 48 = .ok (.getfield 54, 3) := by decide +kernel
theorem dX9_orderSoonest_51 : decode cX9_orderSoonest 51 = .ok (.iload_n 3, 1) := by decide +kernel
theorem dX9_orderSoonest_52 : decode cX9_orderSoonest 52 = .ok (.aaload, 1) := by decide +kernel
theorem dX9_orderSoonest_53 : decode cX9_orderSoonest 53 = .ok (.iload 4, 2) := by decide +kernel
theorem dX9_orderSoonest_55 : decode cX9_orderSoonest 55 = .ok (.iaload, 1) := by decide +kernel
theorem dX9_orderSoonest_56 : decode cX9_orderSoonest 56 = .ok (.ifCond .ne 47, 3) := by decide +kernel
theorem dX9_orderSoonest_59 : decode cX9_orderSoonest 59 = .ok (.aload_n 2, 1) := by decide +kernel
theorem dX9_orderSoonest_60 : decode cX9_orderSoonest 60 = .ok (.getfield 58, 3) := by decide +kernel
theorem dX9_orderSoonest_63 : decode cX9_orderSoonest 63 = .ok (.iload_n 3, 1) := by decide +kernel
theorem dX9_orderSoonest_64 : decode cX9_orderSoonest 64 = .ok (.aaload, 1) := by decide +kernel
theorem dX9_orderSoonest_65 : decode cX9_orderSoonest 65 = .ok (.iload 4, 2) := by decide +kernel
theorem dX9_orderSoonest_67 : decode cX9_orderSoonest 67 = .ok (.iaload, 1) := by decide +kernel
theorem dX9_orderSoonest_68 : decode cX9_orderSoonest 68 = .ok (.istore 5, 2) := by decide +kernel
theorem dX9_orderSoonest_70 : decode cX9_orderSoonest 70 = .ok (.aload_n 0, 1) := by decide +kernel
theorem dX9_orderSoonest_71 : decode cX9_orderSoonest 71 = .ok (.getfield 9, 3) := by decide +kernel
theorem dX9_orderSoonest_74 : decode cX9_orderSoonest 74 = .ok (.iload 5, 2) := by decide +kernel
theorem dX9_orderSoonest_76 : decode cX9_orderSoonest 76 = .ok (.aload_n 0, 1) := by decide +kernel
theorem dX9_orderSoonest_77 : decode cX9_orderSoonest 77 = .ok (.getfield 9, 3) := by decide +kernel
theorem dX9_orderSoonest_80 : decode cX9_orderSoonest 80 = .ok (.iload 5, 2) := by decide +kernel
theorem dX9_orderSoonest_82 : decode cX9_orderSoonest 82 = .ok (.iaload, 1) := by decide +kernel
theorem dX9_orderSoonest_83 : decode cX9_orderSoonest 83 = .ok (.aload_n 0, 1) := by decide +kernel
theorem dX9_orderSoonest_84 : decode cX9_orderSoonest 84 = .ok (.getfield 9, 3) := by decide +kernel
theorem dX9_orderSoonest_87 : decode cX9_orderSoonest 87 = .ok (.iload_n 3, 1) := by decide +kernel
theorem dX9_orderSoonest_88 : decode cX9_orderSoonest 88 = .ok (.iaload, 1) := by decide +kernel
theorem dX9_orderSoonest_89 : decode cX9_orderSoonest 89 = .ok (.aload_n 2, 1) := by decide +kernel
theorem dX9_orderSoonest_90 : decode cX9_orderSoonest 90 = .ok (.getfield 61, 3) := by decide +kernel
theorem dX9_orderSoonest_93 : decode cX9_orderSoonest 93 = .ok (.iload_n 3, 1) := by decide +kernel
theorem dX9_orderSoonest_94 : decode cX9_orderSoonest 94 = .ok (.aaload, 1) := by decide +kernel
theorem dX9_orderSoonest_95 : decode cX9_orderSoonest 95 = .ok (.iload 4, 2) := by decide +kernel
theorem dX9_orderSoonest_97 : decode cX9_orderSoonest 97 = .ok (.iaload, 1) := by decide +kernel
theorem dX9_orderSoonest_98 : decode cX9_orderSoonest 98 = .ok (.iadd, 1) := by decide +kernel
theorem dX9_orderSoonest_99 : decode cX9_orderSoonest 99 = .ok (.invokestatic 64, 3) := by decide +kernel
theorem dX9_orderSoonest_102 : decode cX9_orderSoonest 102 = .ok (.iastore, 1) := by decide +kernel
theorem dX9_orderSoonest_103 : decode cX9_orderSoonest 103 = .ok (.iinc 4 1, 3) := by decide +kernel
theorem dX9_orderSoonest_106 : decode cX9_orderSoonest 106 = .ok (.goto (-70), 3) := by decide +kernel
theorem dX9_orderSoonest_109 : decode cX9_orderSoonest 109 = .ok (.iinc 3 1, 3) := by decide +kernel
theorem dX9_orderSoonest_112 : decode cX9_orderSoonest 112 = .ok (.goto (-87), 3) := by decide +kernel
theorem dX9_orderSoonest_115 : decode cX9_orderSoonest 115 = .ok (.return_, 1) := by decide +kernel
theorem dX9_orderLatest_0 : decode cX9_orderLatest 0 = .ok (.aload_n 1, 1) := by decide +kernel
theorem dX9_orderLatest_1 : decode cX9_orderLatest 1 = .ok (.aload_n 0, 1) := by decide +kernel
theorem dX9_orderLatest_2 : decode cX9_orderLatest 2 = .ok (.getfield 9, 3) := by decide +kernel
theorem dX9_orderLatest_5 : decode cX9_orderLatest 5 = .ok (.invokevirtual 70, 3) := by decide +kernel
theorem dX9_orderLatest_8 : decode cX9_orderLatest 8 = .ok (.istore_n 3, 1) := by decide +kernel
theorem dX9_orderLatest_9 : decode cX9_orderLatest 9 = .ok (.aload_n 1, 1) := by decide +kernel
theorem dX9_orderLatest_10 : decode cX9_orderLatest 10 = .ok (.getfield 43, 3) := by decide +kernel
theorem dX9_orderLatest_13 : decode cX9_orderLatest 13 = .ok (.iconst 1, 1) := by decide +kernel
theorem dX9_orderLatest_14 : decode cX9_orderLatest 14 = .ok (.isub, 1) := by decide +kernel
theorem dX9_orderLatest_15 : decode cX9_orderLatest 15 = .ok (.istore 4, 2) := by decide +kernel
theorem dX9_orderLatest_17 : decode cX9_orderLatest 17 = .ok (.iload 4, 2) := by decide +kernel
theorem dX9_orderLatest_19 : decode cX9_orderLatest 19 = .ok (.ifCond .lt 105, 3) := by decide +kernel
theorem dX9_orderLatest_22 : decode cX9_orderLatest 22 = .ok (.aload_n 0, 1) := by decide +kernel
theorem dX9_orderLatest_23 : decode cX9_orderLatest 23 = .ok (.getfield 15, 3) := by decide +kernel
theorem dX9_orderLatest_26 : decode cX9_orderLatest 26 = .ok (.iload 4, 2) := by decide +kernel
theorem dX9_orderLatest_28 : decode cX9_orderLatest 28 = .ok (.iload_n 3, 1) := by decide +kernel
theorem dX9_orderLatest_29 : decode cX9_orderLatest 29 = .ok (.aload_n 1, 1) := by decide +kernel
theorem dX9_orderLatest_30 : decode cX9_orderLatest 30 = .ok (.iload 4, 2) := by decide +kernel
theorem dX9_orderLatest_32 : decode cX9_orderLatest 32 = .ok (.invokevirtual 74, 3) := by decide +kernel
theorem dX9_orderLatest_35 : decode cX9_orderLatest 35 = .ok (.isub, 1) := by decide +kernel
theorem dX9_orderLatest_36 : decode cX9_orderLatest 36 = .ok (.iastore, 1) := by decide +kernel
theorem dX9_orderLatest_37 : decode cX9_orderLatest 37 = .ok (.iconst 0, 1) := by decide +kernel
theorem dX9_orderLatest_38 : decode cX9_orderLatest 38 = .ok (.istore 5, 2) := by decide +kernel
theorem dX9_orderLatest_40 : decode cX9_orderLatest 40 = .ok (.iload 5, 2) := by decide +kernel
theorem dX9_orderLatest_42 : decode cX9_orderLatest 42 = .ok (.aload_n 2, 1) := by decide +kernel
theorem dX9_orderLatest_43 : decode cX9_orderLatest 43 = .ok (.getfield 49, 3) := by decide +kernel
theorem dX9_orderLatest_46 : decode cX9_orderLatest 46 = .ok (.iload 4, 2) := by decide +kernel
theorem dX9_orderLatest_48 : decode cX9_orderLatest 48 = .ok (.iaload, 1) := by decide +kernel
theorem dX9_orderLatest_49 : decode cX9_orderLatest 49 = .ok (.if_icmp .ge 69, 3) := by decide +kernel
theorem dX9_orderLatest_52 : decode cX9_orderLatest 52 = .ok (.aload_n 2, 1) := by decide +kernel
theorem dX9_orderLatest_53 : decode cX9_orderLatest 53 = .ok (.getfield 54, 3) := by decide +kernel
theorem dX9_orderLatest_56 : decode cX9_orderLatest 56 = .ok (.iload 4, 2) := by decide +kernel
theorem dX9_orderLatest_58 : decode cX9_orderLatest 58 = .ok (.aaload, 1) := by decide +kernel
theorem dX9_orderLatest_59 : decode cX9_orderLatest 59 = .ok (.iload 5, 2) := by decide +kernel
theorem dX9_orderLatest_61 : decode cX9_orderLatest 61 = .ok (.iaload, 1) := by decide +kernel
theorem dX9_orderLatest_62 : decode cX9_orderLatest 62 = .ok (.ifCond .ne 50, 3) := by decide +kernel
theorem dX9_orderLatest_65 : decode cX9_orderLatest 65 = .ok (.aload_n 2, 1) := by decide +kernel
theorem dX9_orderLatest_66 : decode cX9_orderLatest 66 = .ok (.getfield 58, 3) := by decide +kernel
theorem dX9_orderLatest_69 : decode cX9_orderLatest 69 = .ok (.iload 4, 2) := by decide +kernel
theorem dX9_orderLatest_71 : decode cX9_orderLatest 71 = .ok (.aaload, 1) := by decide +kernel
theorem dX9_orderLatest_72 : decode cX9_orderLatest 72 = .ok (.iload 5, 2) := by decide +kernel
theorem dX9_orderLatest_74 : decode cX9_orderLatest 74 = .ok (.iaload, 1) := by decide +kernel
theorem dX9_orderLatest_75 : decode cX9_orderLatest 75 = .ok (.istore 6, 2) := by decide +kernel
theorem dX9_orderLatest_77 : decode cX9_orderLatest 77 = .ok (.aload_n 0, 1) := by decide +kernel
theorem dX9_orderLatest_78 : decode cX9_orderLatest 78 = .ok (.getfield 15, 3) := by decide +kernel
theorem dX9_orderLatest_81 : decode cX9_orderLatest 81 = .ok (.iload 4, 2) := by decide +kernel
theorem dX9_orderLatest_83 : decode cX9_orderLatest 83 = .ok (.aload_n 0, 1) := by decide +kernel
theorem dX9_orderLatest_84 : decode cX9_orderLatest 84 = .ok (.getfield 15, 3) := by decide +kernel
theorem dX9_orderLatest_87 : decode cX9_orderLatest 87 = .ok (.iload 4, 2) := by decide +kernel
theorem dX9_orderLatest_89 : decode cX9_orderLatest 89 = .ok (.iaload, 1) := by decide +kernel
theorem dX9_orderLatest_90 : decode cX9_orderLatest 90 = .ok (.aload_n 0, 1) := by decide +kernel
theorem dX9_orderLatest_91 : decode cX9_orderLatest 91 = .ok (.getfield 15, 3) := by decide +kernel
theorem dX9_orderLatest_94 : decode cX9_orderLatest 94 = .ok (.iload 6, 2) := by decide +kernel
theorem dX9_orderLatest_96 : decode cX9_orderLatest 96 = .ok (.iaload, 1) := by decide +kernel
theorem dX9_orderLatest_97 : decode cX9_orderLatest 97 = .ok (.aload_n 2, 1) := by decide +kernel
theorem dX9_orderLatest_98 : decode cX9_orderLatest 98 = .ok (.getfield 61, 3) := by decide +kernel
theorem dX9_orderLatest_101 : decode cX9_orderLatest 101 = .ok (.iload 4, 2) := by decide +kernel
theorem dX9_orderLatest_103 : decode cX9_orderLatest 103 = .ok (.aaload, 1) := by decide +kernel
theorem dX9_orderLatest_104 : decode cX9_orderLatest 104 = .ok (.iload 5, 2) := by decide +kernel
theorem dX9_orderLatest_106 : decode cX9_orderLatest 106 = .ok (.iaload, 1) := by decide +kernel
theorem dX9_orderLatest_107 : decode cX9_orderLatest 107 = .ok (.isub, 1) := by decide +kernel
theorem dX9_orderLatest_108 : decode cX9_orderLatest 108 = .ok (.invokestatic 78, 3) := by decide +kernel
theorem dX9_orderLatest_111 : decode cX9_orderLatest 111 = .ok (.iastore, 1) := by decide +kernel
theorem dX9_orderLatest_112 : decode cX9_orderLatest 112 = .ok (.iinc 5 1, 3) := by decide +kernel
theorem dX9_orderLatest_115 : decode cX9_orderLatest 115 = .ok (.goto (-75), 3) := by decide +kernel
theorem dX9_orderLatest_118 : decode cX9_orderLatest 118 = .ok (.iinc 4 (-1), 3) := by decide +kernel
theorem dX9_orderLatest_121 : decode cX9_orderLatest 121 = .ok (.goto (-104), 3) := by decide +kernel
theorem dX9_orderLatest_124 : decode cX9_orderLatest 124 = .ok (.return_, 1) := by decide +kernel
theorem dX9_orderByLists_0 : decode cX9_orderByLists 0 = .ok (.aload_n 0, 1) := by decide +kernel
theorem dX9_orderByLists_1 : decode cX9_orderByLists 1 = .ok (.aload_n 1, 1) := by decide +kernel
theorem dX9_orderByLists_2 : decode cX9_orderByLists 2 = .ok (.aload_n 2, 1) := by decide +kernel
theorem dX9_orderByLists_3 : decode cX9_orderByLists 3 = .ok (.invokevirtual 81, 3) := by decide +kernel
theorem dX9_orderByLists_6 : decode cX9_orderByLists 6 = .ok (.aload_n 1, 1) := by decide +kernel
theorem dX9_orderByLists_7 : decode cX9_orderByLists 7 = .ok (.getfield 43, 3) := by decide +kernel
theorem dX9_orderByLists_10 : decode cX9_orderByLists 10 = .ok (.istore_n 3, 1) := by decide +kernel
theorem dX9_orderByLists_11 : decode cX9_orderByLists 11 = .ok (.iconst 0, 1) := by decide +kernel
theorem dX9_orderByLists_12 : decode cX9_orderByLists 12 = .ok (.istore 4, 2) := by decide +kernel
theorem dX9_orderByLists_14 : decode cX9_orderByLists 14 = .ok (.iload 4, 2) := by decide +kernel
theorem dX9_orderByLists_16 : decode cX9_orderByLists 16 = .ok (.sipush 481, 3) := by decide +kernel
theorem dX9_orderByLists_19 : decode cX9_orderByLists 19 = .ok (.if_icmp .ge 24, 3) := by decide +kernel
theorem dX9_orderByLists_22 : decode cX9_orderByLists 22 = .ok (.iload_n 3, 1) := by decide +kernel
theorem dX9_orderByLists_23 : decode cX9_orderByLists 23 = .ok (.ifCond .le 20, 3) := by decide +kernel
theorem dX9_orderByLists_26 : decode cX9_orderByLists 26 = .ok (.iload_n 3, 1) := by decide +kernel
theorem dX9_orderByLists_27 : decode cX9_orderByLists 27 = .ok (.aload_n 0, 1) := by decide +kernel
theorem dX9_orderByLists_28 : decode cX9_orderByLists 28 = .ok (.aload_n 1, 1) := by decide +kernel
theorem dX9_orderByLists_29 : decode cX9_orderByLists 29 = .ok (.aload_n 2, 1) := by decide +kernel
theorem dX9_orderByLists_30 : decode cX9_orderByLists 30 = .ok (.iload 4, 2) := by decide +kernel
theorem dX9_orderByLists_32 : decode cX9_orderByLists 32 = .ok (.invokevirtual 84, 3) := by decide +kernel
theorem dX9_orderByLists_35 : decode cX9_orderByLists 35 = .ok (.isub, 1) := by decide +kernel
theorem dX9_orderByLists_36 : decode cX9_orderByLists 36 = .ok (.istore_n 3, 1) := by decide +kernel
theorem dX9_orderByLists_37 : decode cX9_orderByLists 37 = .ok (.iinc 4 1, 3) := by decide +kernel
theorem dX9_orderByLists_40 : decode cX9_orderByLists 40 = .ok (.goto (-26), 3) := by decide +kernel
theorem dX9_orderByLists_43 : decode cX9_orderByLists 43 = .ok (.return_, 1) := by decide +kernel
theorem dX9_beginAllAt_0 : decode cX9_beginAllAt 0 = .ok (.iconst 0, 1) := by decide +kernel
theorem dX9_beginAllAt_1 : decode cX9_beginAllAt 1 = .ok (.istore 4, 2) := by decide +kernel
theorem dX9_beginAllAt_3 : decode cX9_beginAllAt 3 = .ok (.iload 4, 2) := by decide +kernel
theorem dX9_beginAllAt_5 : decode cX9_beginAllAt 5 = .ok (.bipush 7, 2) := by decide +kernel
theorem dX9_beginAllAt_7 : decode cX9_beginAllAt 7 = .ok (.if_icmp .ge 17, 3) := by decide +kernel
theorem dX9_beginAllAt_10 : decode cX9_beginAllAt 10 = .ok (.aload_n 0, 1) := by decide +kernel
theorem dX9_beginAllAt_11 : decode cX9_beginAllAt 11 = .ok (.getfield 27, 3) := by decide +kernel
theorem dX9_beginAllAt_14 : decode cX9_beginAllAt 14 = .ok (.iload 4, 2) := by decide +kernel
theorem dX9_beginAllAt_16 : decode cX9_beginAllAt 16 = .ok (.iconst 0, 1) := by decide +kernel
theorem dX9_beginAllAt_17 : decode cX9_beginAllAt 17 = .ok (.iastore, 1) := by decide +kernel
theorem dX9_beginAllAt_18 : decode cX9_beginAllAt 18 = .ok (.iinc 4 1, 3) := by decide +kernel
theorem dX9_beginAllAt_21 : decode cX9_beginAllAt 21 = .ok (.goto (-18), 3) := by decide +kernel
theorem dX9_beginAllAt_24 : decode cX9_beginAllAt 24 = .ok (.iconst 0, 1) := by decide +kernel
theorem dX9_beginAllAt_25 : decode cX9_beginAllAt 25 = .ok (.istore 4, 2) := by decide +kernel
theorem dX9_beginAllAt_27 : decode cX9_beginAllAt 27 = .ok (.iload 4, 2) := by decide +kernel
theorem dX9_beginAllAt_29 : decode cX9_beginAllAt 29 = .ok (.aload_n 1, 1) := by decide +kernel
theorem dX9_beginAllAt_30 : decode cX9_beginAllAt 30 = .ok (.getfield 43, 3) := by decide +kernel
theorem dX9_beginAllAt_33 : decode cX9_beginAllAt 33 = .ok (.if_icmp .ge 35, 3) := by decide +kernel
theorem dX9_beginAllAt_36 : decode cX9_beginAllAt 36 = .ok (.aload_n 0, 1) := by decide +kernel
theorem dX9_beginAllAt_37 : decode cX9_beginAllAt 37 = .ok (.aload_n 1, 1) := by decide +kernel
theorem dX9_beginAllAt_38 : decode cX9_beginAllAt 38 = .ok (.iload_n 3, 1) := by decide +kernel
theorem dX9_beginAllAt_39 : decode cX9_beginAllAt 39 = .ok (.invokevirtual 88, 3) := by decide +kernel
theorem dX9_beginAllAt_42 : decode cX9_beginAllAt 42 = .ok (.istore 5, 2) := by decide +kernel
theorem dX9_beginAllAt_44 : decode cX9_beginAllAt 44 = .ok (.iload 5, 2) := by decide +kernel
theorem dX9_beginAllAt_46 : decode cX9_beginAllAt 46 = .ok (.iconst (-1), 1) := by decide +kernel
theorem dX9_beginAllAt_47 : decode cX9_beginAllAt 47 = .ok (.if_icmp .ne 6, 3) := by decide +kernel
theorem dX9_beginAllAt_50 : decode cX9_beginAllAt 50 = .ok (.iload 4, 2) := by decide +kernel
theorem dX9_beginAllAt_52 : decode cX9_beginAllAt 52 = .ok (.ireturn, 1) := by decide +kernel
theorem dX9_beginAllAt_53 : decode cX9_beginAllAt 53 = .ok (.aload_n 0, 1) := by decide +kernel
theorem dX9_beginAllAt_54 : decode cX9_beginAllAt 54 = .ok (.aload_n 1, 1) := by decide +kernel
theorem dX9_beginAllAt_55 : decode cX9_beginAllAt 55 = .ok (.aload_n 2, 1) := by decide +kernel
theorem dX9_beginAllAt_56 : decode cX9_beginAllAt 56 = .ok (.iload 5, 2) := by decide +kernel
theorem dX9_beginAllAt_58 : decode cX9_beginAllAt 58 = .ok (.iload_n 3, 1) := by decide +kernel
theorem dX9_beginAllAt_59 : decode cX9_beginAllAt 59 = .ok (.invokevirtual 92, 3) := by decide +kernel
theorem dX9_beginAllAt_62 : decode cX9_beginAllAt 62 = .ok (.iinc 4 1, 3) := by decide +kernel
theorem dX9_beginAllAt_65 : decode cX9_beginAllAt 65 = .ok (.goto (-38), 3) := by decide +kernel
theorem dX9_beginAllAt_68 : decode cX9_beginAllAt 68 = .ok (.aload_n 1, 1) := by decide +kernel
theorem dX9_beginAllAt_69 : decode cX9_beginAllAt 69 = .ok (.getfield 43, 3) := by decide +kernel
theorem dX9_beginAllAt_72 : decode cX9_beginAllAt 72 = .ok (.ireturn, 1) := by decide +kernel
theorem dX9_startLists_0 : decode cX9_startLists 0 = .ok (.iconst 0, 1) := by decide +kernel
theorem dX9_startLists_1 : decode cX9_startLists 1 = .ok (.istore_n 3, 1) := by decide +kernel
theorem dX9_startLists_2 : decode cX9_startLists 2 = .ok (.iload_n 3, 1) := by decide +kernel
theorem dX9_startLists_3 : decode cX9_startLists 3 = .ok (.aload_n 1, 1) := by decide +kernel
theorem dX9_startLists_4 : decode cX9_startLists 4 = .ok (.getfield 43, 3) := by decide +kernel
theorem dX9_startLists_7 : decode cX9_startLists 7 = .ok (.if_icmp .ge 30, 3) := by decide +kernel
theorem dX9_startLists_10 : decode cX9_startLists 10 = .ok (.aload_n 0, 1) := by decide +kernel
theorem dX9_startLists_11 : decode cX9_startLists 11 = .ok (.getfield 18, 3) := by decide +kernel
theorem dX9_startLists_14 : decode cX9_startLists 14 = .ok (.iload_n 3, 1) := by decide +kernel
theorem dX9_startLists_15 : decode cX9_startLists 15 = .ok (.iconst (-1), 1) := by decide +kernel
theorem dX9_startLists_16 : decode cX9_startLists 16 = .ok (.iastore, 1) := by decide +kernel
theorem dX9_startLists_17 : decode cX9_startLists 17 = .ok (.aload_n 0, 1) := by decide +kernel
theorem dX9_startLists_18 : decode cX9_startLists 18 = .ok (.getfield 21, 3) := by decide +kernel
theorem dX9_startLists_21 : decode cX9_startLists 21 = .ok (.iload_n 3, 1) := by decide +kernel
theorem dX9_startLists_22 : decode cX9_startLists 22 = .ok (.iconst 0, 1) := by decide +kernel
theorem dX9_startLists_23 : decode cX9_startLists 23 = .ok (.iastore, 1) := by decide +kernel
theorem dX9_startLists_24 : decode cX9_startLists 24 = .ok (.aload_n 0, 1) := by decide +kernel
theorem dX9_startLists_25 : decode cX9_startLists 25 = .ok (.getfield 24, 3) := by decide +kernel
theorem dX9_startLists_28 : decode cX9_startLists 28 = .ok (.iload_n 3, 1) := by decide +kernel
theorem dX9_startLists_29 : decode cX9_startLists 29 = .ok (.iconst 0, 1) := by decide +kernel
theorem dX9_startLists_30 : decode cX9_startLists 30 = .ok (.iastore, 1) := by decide +kernel
theorem dX9_startLists_31 : decode cX9_startLists 31 = .ok (.iinc 3 1, 3) := by decide +kernel
theorem dX9_startLists_34 : decode cX9_startLists 34 = .ok (.goto (-32), 3) := by decide +kernel
theorem dX9_startLists_37 : decode cX9_startLists 37 = .ok (.iconst 0, 1) := by decide +kernel
theorem dX9_startLists_38 : decode cX9_startLists 38 = .ok (.istore_n 3, 1) := by decide +kernel
theorem dX9_startLists_39 : decode cX9_startLists 39 = .ok (.iload_n 3, 1) := by decide +kernel
theorem dX9_startLists_40 : decode cX9_startLists 40 = .ok (.aload_n 1, 1) := by decide +kernel
theorem dX9_startLists_41 : decode cX9_startLists 41 = .ok (.getfield 43, 3) := by decide +kernel
theorem dX9_startLists_44 : decode cX9_startLists 44 = .ok (.if_icmp .ge 59, 3) := by decide +kernel
theorem dX9_startLists_47 : decode cX9_startLists 47 = .ok (.iconst 0, 1) := by decide +kernel
theorem dX9_startLists_48 : decode cX9_startLists 48 = .ok (.istore 4, 2) := by decide +kernel
theorem dX9_startLists_50 : decode cX9_startLists 50 = .ok (.iload 4, 2) := by decide +kernel
theorem dX9_startLists_52 : decode cX9_startLists 52 = .ok (.aload_n 2, 1) := by decide +kernel
theorem dX9_startLists_53 : decode cX9_startLists 53 = .ok (.getfield 49, 3) := by decide +kernel
theorem dX9_startLists_56 : decode cX9_startLists 56 = .ok (.iload_n 3, 1) := by decide +kernel
theorem dX9_startLists_57 : decode cX9_startLists 57 = .ok (.iaload, 1) := by decide +kernel
theorem dX9_startLists_58 : decode cX9_startLists 58 = .ok (.if_icmp .ge 39, 3) := by decide +kernel
theorem dX9_startLists_61 : decode cX9_startLists 61 = .ok (.aload_n 2, 1) := by decide +kernel
theorem dX9_startLists_62 : decode cX9_startLists 62 = .ok (.getfield 54, 3) := by decide +kernel
theorem dX9_startLists_65 : decode cX9_startLists 65 = .ok (.iload_n 3, 1) := by decide +kernel
theorem dX9_startLists_66 : decode cX9_startLists 66 = .ok (.aaload, 1) := by decide +kernel
theorem dX9_startLists_67 : decode cX9_startLists 67 = .ok (.iload 4, 2) := by decide +kernel
theorem dX9_startLists_69 : decode cX9_startLists 69 = .ok (.iaload, 1) := by decide +kernel
theorem dX9_startLists_70 : decode cX9_startLists 70 = .ok (.ifCond .ne 21, 3) := by decide +kernel
theorem dX9_startLists_73 : decode cX9_startLists 73 = .ok (.aload_n 0, 1) := by decide +kernel
theorem dX9_startLists_74 : decode cX9_startLists 74 = .ok (.getfield 24, 3) := by decide +kernel
theorem dX9_startLists_77 : decode cX9_startLists 77 = .ok (.aload_n 2, 1) := by decide +kernel
theorem dX9_startLists_78 : decode cX9_startLists 78 = .ok (.getfield 58, 3) := by decide +kernel
theorem dX9_startLists_81 : decode cX9_startLists 81 = .ok (.iload_n 3, 1) := by decide +kernel
theorem dX9_startLists_82 : decode cX9_startLists 82 = .ok (.aaload, 1) := by decide +kernel
theorem dX9_startLists_83 : decode cX9_startLists 83 = .ok (.iload 4, 2) := by decide +kernel
theorem dX9_startLists_85 : decode cX9_startLists 85 = .ok (.iaload, 1) := by decide +kernel
theorem dX9_startLists_86 : decode cX9_startLists 86 = .ok (.dup2, 1) := by decide +kernel
theorem dX9_startLists_87 : decode cX9_startLists 87 = .ok (.iaload, 1) := by decide +kernel
theorem dX9_startLists_88 : decode cX9_startLists 88 = .ok (.iconst 1, 1) := by decide +kernel
theorem dX9_startLists_89 : decode cX9_startLists 89 = .ok (.iadd, 1) := by decide +kernel
theorem dX9_startLists_90 : decode cX9_startLists 90 = .ok (.iastore, 1) := by decide +kernel
theorem dX9_startLists_91 : decode cX9_startLists 91 = .ok (.iinc 4 1, 3) := by decide +kernel
theorem dX9_startLists_94 : decode cX9_startLists 94 = .ok (.goto (-44), 3) := by decide +kernel
theorem dX9_startLists_97 : decode cX9_startLists 97 = .ok (.iinc 3 1, 3) := by decide +kernel
theorem dX9_startLists_100 : decode cX9_startLists 100 = .ok (.goto (-61), 3) := by decide +kernel
theorem dX9_startLists_103 : decode cX9_startLists 103 = .ok (.return_, 1) := by decide +kernel
theorem dX9_chooseFor_0 : decode cX9_chooseFor 0 = .ok (.iconst (-1), 1) := by decide +kernel
theorem dX9_chooseFor_1 : decode cX9_chooseFor 1 = .ok (.istore_n 3, 1) := by decide +kernel
theorem dX9_chooseFor_2 : decode cX9_chooseFor 2 = .ok (.iconst 0, 1) := by decide +kernel
theorem dX9_chooseFor_3 : decode cX9_chooseFor 3 = .ok (.istore 4, 2) := by decide +kernel
theorem dX9_chooseFor_5 : decode cX9_chooseFor 5 = .ok (.iload 4, 2) := by decide +kernel
theorem dX9_chooseFor_7 : decode cX9_chooseFor 7 = .ok (.aload_n 1, 1) := by decide +kernel
theorem dX9_chooseFor_8 : decode cX9_chooseFor 8 = .ok (.getfield 43, 3) := by decide +kernel
theorem dX9_chooseFor_11 : decode cX9_chooseFor 11 = .ok (.if_icmp .ge 94, 3) := by decide +kernel
theorem dX9_chooseFor_14 : decode cX9_chooseFor 14 = .ok (.aload_n 1, 1) := by decide +kernel
theorem dX9_chooseFor_15 : decode cX9_chooseFor 15 = .ok (.getfield 96, 3) := by decide +kernel
theorem dX9_chooseFor_18 : decode cX9_chooseFor 18 = .ok (.iload 4, 2) := by decide +kernel
theorem dX9_chooseFor_20 : decode cX9_chooseFor 20 = .ok (.aaload, 1) := by decide +kernel
theorem dX9_chooseFor_21 : decode cX9_chooseFor 21 = .ok (.getfield 100, 3) := by decide +kernel
theorem dX9_chooseFor_24 : decode cX9_chooseFor 24 = .ok (.istore 5, 2) := by decide +kernel
theorem dX9_chooseFor_26 : decode cX9_chooseFor 26 = .ok (.aload_n 0, 1) := by decide +kernel
theorem dX9_chooseFor_27 : decode cX9_chooseFor 27 = .ok (.getfield 18, 3) := by decide +kernel
theorem dX9_chooseFor_30 : decode cX9_chooseFor 30 = .ok (.iload 4, 2) := by decide +kernel
theorem dX9_chooseFor_32 : decode cX9_chooseFor 32 = .ok (.iaload, 1) := by decide +kernel
theorem dX9_chooseFor_33 : decode cX9_chooseFor 33 = .ok (.iconst (-1), 1) := by decide +kernel
theorem dX9_chooseFor_34 : decode cX9_chooseFor 34 = .ok (.if_icmp .ne 65, 3) := by decide +kernel
theorem dX9_chooseFor_37 : decode cX9_chooseFor 37 = .ok (.aload_n 0, 1) := by decide +kernel
theorem dX9_chooseFor_38 : decode cX9_chooseFor 38 = .ok (.getfield 24, 3) := by decide +kernel
theorem dX9_chooseFor_41 : decode cX9_chooseFor 41 = .ok (.iload 4, 2) := by decide +kernel
theorem dX9_chooseFor_43 : decode cX9_chooseFor 43 = .ok (.iaload, 1) := by decide +kernel
theorem dX9_chooseFor_44 : decode cX9_chooseFor 44 = .ok (.ifCond .ne 55, 3) := by decide +kernel
theorem dX9_chooseFor_47 : decode cX9_chooseFor 47 = .ok (.aload_n 0, 1) := by decide +kernel
theorem dX9_chooseFor_48 : decode cX9_chooseFor 48 = .ok (.getfield 21, 3) := by decide +kernel
theorem dX9_chooseFor_51 : decode cX9_chooseFor 51 = .ok (.iload 4, 2) := by decide +kernel
theorem dX9_chooseFor_53 : decode cX9_chooseFor 53 = .ok (.iaload, 1) := by decide +kernel
theorem dX9_chooseFor_54 : decode cX9_chooseFor 54 = .ok (.iload_n 2, 1) := by decide +kernel
theorem dX9_chooseFor_55 : decode cX9_chooseFor 55 = .ok (.if_icmp .gt 44, 3) := by decide +kernel
theorem dX9_chooseFor_58 : decode cX9_chooseFor 58 = .ok (.aload_n 0, 1) := by decide +kernel
theorem dX9_chooseFor_59 : decode cX9_chooseFor 59 = .ok (.getfield 27, 3) := by decide +kernel
theorem dX9_chooseFor_62 : decode cX9_chooseFor 62 = .ok (.iload 5, 2) := by decide +kernel
theorem dX9_chooseFor_64 : decode cX9_chooseFor 64 = .ok (.iaload, 1) := by decide +kernel
theorem dX9_chooseFor_65 : decode cX9_chooseFor 65 = .ok (.aload_n 1, 1) := by decide +kernel
theorem dX9_chooseFor_66 : decode cX9_chooseFor 66 = .ok (.getfield 105, 3) := by decide +kernel
theorem dX9_chooseFor_69 : decode cX9_chooseFor 69 = .ok (.iload 5, 2) := by decide +kernel
theorem dX9_chooseFor_71 : decode cX9_chooseFor 71 = .ok (.iaload, 1) := by decide +kernel
theorem dX9_chooseFor_72 : decode cX9_chooseFor 72 = .ok (.if_icmp .ge 27, 3) := by decide +kernel
theorem dX9_chooseFor_75 : decode cX9_chooseFor 75 = .ok (.iload_n 3, 1) := by decide +kernel
theorem dX9_chooseFor_76 : decode cX9_chooseFor 76 = .ok (.iconst (-1), 1) := by decide +kernel
theorem dX9_chooseFor_77 : decode cX9_chooseFor 77 = .ok (.if_icmp .eq 19, 3) := by decide +kernel
theorem dX9_chooseFor_80 : decode cX9_chooseFor 80 = .ok (.aload_n 0, 1) := by decide +kernel
theorem dX9_chooseFor_81 : decode cX9_chooseFor 81 = .ok (.getfield 15, 3) := by decide +kernel
theorem dX9_chooseFor_84 : decode cX9_chooseFor 84 = .ok (.iload 4, 2) := by decide +kernel
theorem dX9_chooseFor_86 : decode cX9_chooseFor 86 = .ok (.iaload, 1) := by decide +kernel
theorem dX9_chooseFor_87 : decode cX9_chooseFor 87 = .ok (.aload_n 0, 1) := by decide +kernel
theorem dX9_chooseFor_88 : decode cX9_chooseFor 88 = .ok (.getfield 15, 3) := by decide +kernel
theorem dX9_chooseFor_91 : decode cX9_chooseFor 91 = .ok (.iload_n 3, 1) := by decide +kernel
theorem dX9_chooseFor_92 : decode cX9_chooseFor 92 = .ok (.iaload, 1) := by decide +kernel
theorem dX9_chooseFor_93 : decode cX9_chooseFor 93 = .ok (.if_icmp .ge 6, 3) := by decide +kernel
theorem dX9_chooseFor_96 : decode cX9_chooseFor 96 = .ok (.iload 4, 2) := by decide +kernel
theorem dX9_chooseFor_98 : decode cX9_chooseFor 98 = .ok (.istore_n 3, 1) := by decide +kernel
theorem dX9_chooseFor_99 : decode cX9_chooseFor 99 = .ok (.iinc 4 1, 3) := by decide +kernel
theorem dX9_chooseFor_102 : decode cX9_chooseFor 102 = .ok (.goto (-97), 3) := by decide +kernel
theorem dX9_chooseFor_105 : decode cX9_chooseFor 105 = .ok (.iload_n 3, 1) := by decide +kernel
theorem dX9_chooseFor_106 : decode cX9_chooseFor 106 = .ok (.ireturn, 1) := by decide +kernel
theorem dX9_beginAt_0 : decode cX9_beginAt 0 = .ok (.aload_n 0, 1) := by decide +kernel
theorem dX9_beginAt_1 : decode cX9_beginAt 1 = .ok (.getfield 18, 3) := by decide +kernel
theorem dX9_beginAt_4 : decode cX9_beginAt 4 = .ok (.iload_n 3, 1) := by decide +kernel
theorem dX9_beginAt_5 : decode cX9_beginAt 5 = .ok (.iload 4, 2) := by decide +kernel
theorem dX9_beginAt_7 : decode cX9_beginAt 7 = .ok (.iastore, 1) := by decide +kernel
theorem dX9_beginAt_8 : decode cX9_beginAt 8 = .ok (.aload_n 0, 1) := by decide +kernel
theorem dX9_beginAt_9 : decode cX9_beginAt 9 = .ok (.getfield 27, 3) := by decide +kernel
theorem dX9_beginAt_12 : decode cX9_beginAt 12 = .ok (.aload_n 1, 1) := by decide +kernel
theorem dX9_beginAt_13 : decode cX9_beginAt 13 = .ok (.getfield 96, 3) := by decide +kernel
theorem dX9_beginAt_16 : decode cX9_beginAt 16 = .ok (.iload_n 3, 1) := by decide +kernel
theorem dX9_beginAt_17 : decode cX9_beginAt 17 = .ok (.aaload, 1) := by decide +kernel
theorem dX9_beginAt_18 : decode cX9_beginAt 18 = .ok (.getfield 100, 3) := by decide +kernel
theorem dX9_beginAt_21 : decode cX9_beginAt 21 = .ok (.dup2, 1) := by decide +kernel
theorem dX9_beginAt_22 : decode cX9_beginAt 22 = .ok (.iaload, 1) := by decide +kernel
theorem dX9_beginAt_23 : decode cX9_beginAt 23 = .ok (.iconst 1, 1) := by decide +kernel
theorem dX9_beginAt_24 : decode cX9_beginAt 24 = .ok (.iadd, 1) := by decide +kernel
theorem dX9_beginAt_25 : decode cX9_beginAt 25 = .ok (.iastore, 1) := by decide +kernel
theorem dX9_beginAt_26 : decode cX9_beginAt 26 = .ok (.iconst 0, 1) := by decide +kernel
theorem dX9_beginAt_27 : decode cX9_beginAt 27 = .ok (.istore 5, 2) := by decide +kernel
theorem dX9_beginAt_29 : decode cX9_beginAt 29 = .ok (.iload 5, 2) := by decide +kernel
theorem dX9_beginAt_31 : decode cX9_beginAt 31 = .ok (.aload_n 2, 1) := by decide +kernel
theorem dX9_beginAt_32 : decode cX9_beginAt 32 = .ok (.getfield 49, 3) := by decide +kernel
theorem dX9_beginAt_35 : decode cX9_beginAt 35 = .ok (.iload_n 3, 1) := by decide +kernel
theorem dX9_beginAt_36 : decode cX9_beginAt 36 = .ok (.iaload, 1) := by decide +kernel
theorem dX9_beginAt_37 : decode cX9_beginAt 37 = .ok (.if_icmp .ge 72, 3) := by decide +kernel
theorem dX9_beginAt_40 : decode cX9_beginAt 40 = .ok (.aload_n 2, 1) := by decide +kernel
theorem dX9_beginAt_41 : decode cX9_beginAt 41 = .ok (.getfield 54, 3) := by decide +kernel
theorem dX9_beginAt_44 : decode cX9_beginAt 44 = .ok (.iload_n 3, 1) := by decide +kernel
theorem dX9_beginAt_45 : decode cX9_beginAt 45 = .ok (.aaload, 1) := by decide +kernel
theorem dX9_beginAt_46 : decode cX9_beginAt 46 = .ok (.iload 5, 2) := by decide +kernel
theorem dX9_beginAt_48 : decode cX9_beginAt 48 = .ok (.iaload, 1) := by decide +kernel
theorem dX9_beginAt_49 : decode cX9_beginAt 49 = .ok (.ifCond .ne 54, 3) := by decide +kernel
theorem dX9_beginAt_52 : decode cX9_beginAt 52 = .ok (.aload_n 2, 1) := by decide +kernel
theorem dX9_beginAt_53 : decode cX9_beginAt 53 = .ok (.getfield 58, 3) := by decide +kernel
theorem dX9_beginAt_56 : decode cX9_beginAt 56 = .ok (.iload_n 3, 1) := by decide +kernel
theorem dX9_beginAt_57 : decode cX9_beginAt 57 = .ok (.aaload, 1) := by decide +kernel
theorem dX9_beginAt_58 : decode cX9_beginAt 58 = .ok (.iload 5, 2) := by decide +kernel
theorem dX9_beginAt_60 : decode cX9_beginAt 60 = .ok (.iaload, 1) := by decide +kernel
theorem dX9_beginAt_61 : decode cX9_beginAt 61 = .ok (.istore 6, 2) := by decide +kernel
theorem dX9_beginAt_63 : decode cX9_beginAt 63 = .ok (.aload_n 0, 1) := by decide +kernel
theorem dX9_beginAt_64 : decode cX9_beginAt 64 = .ok (.getfield 24, 3) := by decide +kernel
theorem dX9_beginAt_67 : decode cX9_beginAt 67 = .ok (.iload 6, 2) := by decide +kernel
theorem dX9_beginAt_69 : decode cX9_beginAt 69 = .ok (.dup2, 1) := by decide +kernel
theorem dX9_beginAt_70 : decode cX9_beginAt 70 = .ok (.iaload, 1) := by decide +kernel
theorem dX9_beginAt_71 : decode cX9_beginAt 71 = .ok (.iconst 1, 1) := by decide +kernel
theorem dX9_beginAt_72 : decode cX9_beginAt 72 = .ok (.isub, 1) := by decide +kernel
theorem dX9_beginAt_73 : decode cX9_beginAt 73 = .ok (.iastore, 1) := by decide +kernel
theorem dX9_beginAt_74 : decode cX9_beginAt 74 = .ok (.aload_n 0, 1) := by decide +kernel
theorem dX9_beginAt_75 : decode cX9_beginAt 75 = .ok (.getfield 21, 3) := by decide +kernel
theorem dX9_beginAt_78 : decode cX9_beginAt 78 = .ok (.iload 6, 2) := by decide +kernel
theorem dX9_beginAt_80 : decode cX9_beginAt 80 = .ok (.aload_n 0, 1) := by decide +kernel
theorem dX9_beginAt_81 : decode cX9_beginAt 81 = .ok (.getfield 21, 3) := by decide +kernel
theorem dX9_beginAt_84 : decode cX9_beginAt 84 = .ok (.iload 6, 2) := by decide +kernel
theorem dX9_beginAt_86 : decode cX9_beginAt 86 = .ok (.iaload, 1) := by decide +kernel
theorem dX9_beginAt_87 : decode cX9_beginAt 87 = .ok (.iload 4, 2) := by decide +kernel
theorem dX9_beginAt_89 : decode cX9_beginAt 89 = .ok (.aload_n 2, 1) := by decide +kernel
theorem dX9_beginAt_90 : decode cX9_beginAt 90 = .ok (.getfield 61, 3) := by decide +kernel
theorem dX9_beginAt_93 : decode cX9_beginAt 93 = .ok (.iload_n 3, 1) := by decide +kernel
theorem dX9_beginAt_94 : decode cX9_beginAt 94 = .ok (.aaload, 1) := by decide +kernel
theorem dX9_beginAt_95 : decode cX9_beginAt 95 = .ok (.iload 5, 2) := by decide +kernel
theorem dX9_beginAt_97 : decode cX9_beginAt 97 = .ok (.iaload, 1) := by decide +kernel
theorem dX9_beginAt_98 : decode cX9_beginAt 98 = .ok (.iadd, 1) := by decide +kernel
theorem dX9_beginAt_99 : decode cX9_beginAt 99 = .ok (.invokestatic 64, 3) := by decide +kernel
theorem dX9_beginAt_102 : decode cX9_beginAt 102 = .ok (.iastore, 1) := by decide +kernel
theorem dX9_beginAt_103 : decode cX9_beginAt 103 = .ok (.iinc 5 1, 3) := by decide +kernel
theorem dX9_beginAt_106 : decode cX9_beginAt 106 = .ok (.goto (-77), 3) := by decide +kernel
theorem dX9_beginAt_109 : decode cX9_beginAt 109 = .ok (.return_, 1) := by decide +kernel
theorem dX9_areInOrder_0 : decode cX9_areInOrder 0 = .ok (.iconst 0, 1) := by decide +kernel
theorem dX9_areInOrder_1 : decode cX9_areInOrder 1 = .ok (.istore_n 2, 1) := by decide +kernel
theorem dX9_areInOrder_2 : decode cX9_areInOrder 2 = .ok (.iload_n 2, 1) := by decide +kernel
theorem dX9_areInOrder_3 : decode cX9_areInOrder 3 = .ok (.aload_n 1, 1) := by decide +kernel
theorem dX9_areInOrder_4 : decode cX9_areInOrder 4 = .ok (.getfield 43, 3) := by decide +kernel
theorem dX9_areInOrder_7 : decode cX9_areInOrder 7 = .ok (.if_icmp .ge 26, 3) := by decide +kernel
theorem dX9_areInOrder_10 : decode cX9_areInOrder 10 = .ok (.aload_n 0, 1) := by decide +kernel
theorem dX9_areInOrder_11 : decode cX9_areInOrder 11 = .ok (.getfield 15, 3) := by decide +kernel
theorem dX9_areInOrder_14 : decode cX9_areInOrder 14 = .ok (.iload_n 2, 1) := by decide +kernel
theorem dX9_areInOrder_15 : decode cX9_areInOrder 15 = .ok (.iaload, 1) := by decide +kernel
theorem dX9_areInOrder_16 : decode cX9_areInOrder 16 = .ok (.aload_n 0, 1) := by decide +kernel
theorem dX9_areInOrder_17 : decode cX9_areInOrder 17 = .ok (.getfield 9, 3) := by decide +kernel
theorem dX9_areInOrder_20 : decode cX9_areInOrder 20 = .ok (.iload_n 2, 1) := by decide +kernel
theorem dX9_areInOrder_21 : decode cX9_areInOrder 21 = .ok (.iaload, 1) := by decide +kernel
theorem dX9_areInOrder_22 : decode cX9_areInOrder 22 = .ok (.if_icmp .ge 5, 3) := by decide +kernel
theorem dX9_areInOrder_25 : decode cX9_areInOrder 25 = .ok (.iconst 0, 1) := by decide +kernel
theorem dX9_areInOrder_26 : decode cX9_areInOrder 26 = .ok (.ireturn, 1) := by decide +kernel
theorem dX9_areInOrder_27 : decode cX9_areInOrder 27 = .ok (.iinc 2 1, 3) := by decide +kernel
theorem dX9_areInOrder_30 : decode cX9_areInOrder 30 = .ok (.goto (-28), 3) := by decide +kernel
theorem dX9_areInOrder_33 : decode cX9_areInOrder 33 = .ok (.iconst 1, 1) := by decide +kernel
theorem dX9_areInOrder_34 : decode cX9_areInOrder 34 = .ok (.ireturn, 1) := by decide +kernel
theorem dX9_areKept_0 : decode cX9_areKept 0 = .ok (.aload_n 2, 1) := by decide +kernel
theorem dX9_areKept_1 : decode cX9_areKept 1 = .ok (.aload_n 1, 1) := by decide +kernel
theorem dX9_areKept_2 : decode cX9_areKept 2 = .ok (.aload_n 0, 1) := by decide +kernel
theorem dX9_areKept_3 : decode cX9_areKept 3 = .ok (.getfield 18, 3) := by decide +kernel
theorem dX9_areKept_6 : decode cX9_areKept 6 = .ok (.iconst 0, 1) := by decide +kernel
theorem dX9_areKept_7 : decode cX9_areKept 7 = .ok (.iconst 0, 1) := by decide +kernel
theorem dX9_areKept_8 : decode cX9_areKept 8 = .ok (.invokevirtual 126, 3) := by decide +kernel
theorem dX9_areKept_11 : decode cX9_areKept 11 = .ok (.ifCond .eq 21, 3) := by decide +kernel
theorem dX9_areKept_14 : decode cX9_areKept 14 = .ok (.aload_n 1, 1) := by decide +kernel
theorem dX9_areKept_15 : decode cX9_areKept 15 = .ok (.aload_n 0, 1) := by decide +kernel
theorem dX9_areKept_16 : decode cX9_areKept 16 = .ok (.getfield 18, 3) := by decide +kernel
theorem dX9_areKept_19 : decode cX9_areKept 19 = .ok (.sipush 481, 3) := by decide +kernel
theorem dX9_areKept_22 : decode cX9_areKept 22 = .ok (.invokevirtual 130, 3) := by decide +kernel
theorem dX9_areKept_25 : decode cX9_areKept 25 = .ok (.ifCond .eq 7, 3) := by decide +kernel
theorem dX9_areKept_28 : decode cX9_areKept 28 = .ok (.iconst 1, 1) := by decide +kernel
theorem dX9_areKept_29 : decode cX9_areKept 29 = .ok (.goto 4, 3) := by decide +kernel
theorem dX9_areKept_32 : decode cX9_areKept 32 = .ok (.iconst 0, 1) := by decide +kernel
theorem dX9_areKept_33 : decode cX9_areKept 33 = .ok (.ireturn, 1) := by decide +kernel
theorem dX10_init_0 : decode cX10_init 0 = .ok (.aload_n 0, 1) := by decide +kernel
theorem dX10_init_1 : decode cX10_init 1 = .ok (.invokespecial 3, 3) := by decide +kernel
theorem dX10_init_4 : decode cX10_init 4 = .ok (.aload_n 0, 1) := by decide +kernel
theorem dX10_init_5 : decode cX10_init 5 = .ok (.bipush 24, 2) := by decide +kernel
theorem dX10_init_7 : decode cX10_init 7 = .ok (.newarray .char, 2) := by decide +kernel
theorem dX10_init_9 : decode cX10_init 9 = .ok (.putfield 9, 3) := by decide +kernel
theorem dX10_init_12 : decode cX10_init 12 = .ok (.return_, 1) := by decide +kernel
theorem dX10_append_0 : decode cX10_append 0 = .ok (.aload_n 0, 1) := by decide +kernel
theorem dX10_append_1 : decode cX10_append 1 = .ok (.getfield 15, 3) := by decide +kernel
theorem dX10_append_4 : decode cX10_append 4 = .ok (.bipush 24, 2) := by decide +kernel
theorem dX10_append_6 : decode cX10_append 6 = .ok (.if_icmp .ge 23, 3) := by decide +kernel
theorem dX10_append_9 : decode cX10_append 9 = .ok (.aload_n 0, 1) := by decide +kernel
theorem dX10_append_10 : decode cX10_append 10 = .ok (.getfield 9, 3) := by decide +kernel
theorem dX10_append_13 : decode cX10_append 13 = .ok (.aload_n 0, 1) := by decide +kernel
theorem dX10_append_14 : decode cX10_append 14 = .ok (.getfield 15, 3) := by decide +kernel
theorem dX10_append_17 : decode cX10_append 17 = .ok (.iload_n 1, 1) := by decide +kernel
theorem dX10_append_18 : decode cX10_append 18 = .ok (.castore, 1) := by decide +kernel
theorem dX10_append_19 : decode cX10_append 19 = .ok (.aload_n 0, 1) := by decide +kernel
theorem dX10_append_20 : decode cX10_append 20 = .ok (.dup, 1) := by decide +kernel
theorem dX10_append_21 : decode cX10_append 21 = .ok (.getfield 15, 3) := by decide +kernel
theorem dX10_append_24 : decode cX10_append 24 = .ok (.iconst 1, 1) := by decide +kernel
theorem dX10_append_25 : decode cX10_append 25 = .ok (.iadd, 1) := by decide +kernel
theorem dX10_append_26 : decode cX10_append 26 = .ok (.putfield 15, 3) := by decide +kernel
theorem dX10_append_29 : decode cX10_append 29 = .ok (.return_, 1) := by decide +kernel
theorem dX10_empty_0 : decode cX10_empty 0 = .ok (.aload_n 0, 1) := by decide +kernel
theorem dX10_empty_1 : decode cX10_empty 1 = .ok (.getfield 15, 3) := by decide +kernel
theorem dX10_empty_4 : decode cX10_empty 4 = .ok (.istore_n 1, 1) := by decide +kernel
theorem dX10_empty_5 : decode cX10_empty 5 = .ok (.aload_n 0, 1) := by decide +kernel
theorem dX10_empty_6 : decode cX10_empty 6 = .ok (.iconst 0, 1) := by decide +kernel
theorem dX10_empty_7 : decode cX10_empty 7 = .ok (.putfield 15, 3) := by decide +kernel
theorem dX10_empty_10 : decode cX10_empty 10 = .ok (.iload_n 1, 1) := by decide +kernel
theorem dX10_empty_11 : decode cX10_empty 11 = .ok (.ireturn, 1) := by decide +kernel
theorem dX10_readInto_0 : decode cX10_readInto 0 = .ok (.aload_n 0, 1) := by decide +kernel
theorem dX10_readInto_1 : decode cX10_readInto 1 = .ok (.iconst 0, 1) := by decide +kernel
theorem dX10_readInto_2 : decode cX10_readInto 2 = .ok (.putfield 19, 3) := by decide +kernel
theorem dX10_readInto_5 : decode cX10_readInto 5 = .ok (.aload_n 1, 1) := by decide +kernel
theorem dX10_readInto_6 : decode cX10_readInto 6 = .ok (.invokevirtual 22, 3) := by decide +kernel
theorem dX10_readInto_9 : decode cX10_readInto 9 = .ok (.aload_n 0, 1) := by decide +kernel
theorem dX10_readInto_10 : decode cX10_readInto 10 = .ok (.aload_n 1, 1) := by decide +kernel
theorem dX10_readInto_11 : decode cX10_readInto 11 = .ok (.invokevirtual 27, 3) := by decide +kernel
theorem dX10_readInto_14 : decode cX10_readInto 14 = .ok (.ifCond .eq 64, 3) := by decide +kernel
theorem dX10_readInto_17 : decode cX10_readInto 17 = .ok (.aload_n 0, 1) := by decide +kernel
theorem dX10_readInto_18 : decode cX10_readInto 18 = .ok (.bipush 61, 2) := by decide +kernel
theorem dX10_readInto_20 : decode cX10_readInto 20 = .ok (.invokevirtual 31, 3) := by decide +kernel
theorem dX10_readInto_23 : decode cX10_readInto 23 = .ok (.ifCond .eq 55, 3) := by decide +kernel
theorem dX10_readInto_26 : decode cX10_readInto 26 = .ok (.aload_n 0, 1) := by decide +kernel
theorem dX10_readInto_27 : decode cX10_readInto 27 = .ok (.aload_n 1, 1) := by decide +kernel
theorem dX10_readInto_28 : decode cX10_readInto 28 = .ok (.iconst 1, 1) := by decide +kernel
theorem dX10_readInto_29 : decode cX10_readInto 29 = .ok (.invokevirtual 35, 3) := by decide +kernel
theorem dX10_readInto_32 : decode cX10_readInto 32 = .ok (.ifCond .eq 46, 3) := by decide +kernel
theorem dX10_readInto_35 : decode cX10_readInto 35 = .ok (.aload_n 0, 1) := by decide +kernel
theorem dX10_readInto_36 : decode cX10_readInto 36 = .ok (.getfield 19, 3) := by decide +kernel
theorem dX10_readInto_39 : decode cX10_readInto 39 = .ok (.aload_n 0, 1) := by decide +kernel
theorem dX10_readInto_40 : decode cX10_readInto 40 = .ok (.getfield 15, 3) := by decide +kernel
theorem dX10_readInto_43 : decode cX10_readInto 43 = .ok (.if_icmp .eq 31, 3) := by decide +kernel
theorem dX10_readInto_46 : decode cX10_readInto 46 = .ok (.aload_n 0, 1) := by decide +kernel
theorem dX10_readInto_47 : decode cX10_readInto 47 = .ok (.aload_n 1, 1) := by decide +kernel
theorem dX10_readInto_48 : decode cX10_readInto 48 = .ok (.invokevirtual 39, 3) := by decide +kernel
theorem dX10_readInto_51 : decode cX10_readInto 51 = .ok (.ifCond .eq 27, 3) := by decide +kernel
theorem dX10_readInto_54 : decode cX10_readInto 54 = .ok (.aload_n 0, 1) := by decide +kernel
theorem dX10_readInto_55 : decode cX10_readInto 55 = .ok (.aload_n 1, 1) := by decide +kernel
theorem dX10_readInto_56 : decode cX10_readInto 56 = .ok (.iconst 2, 1) := by decide +kernel
theorem dX10_readInto_57 : decode cX10_readInto 57 = .ok (.invokevirtual 35, 3) := by decide +kernel
theorem dX10_readInto_60 : decode cX10_readInto 60 = .ok (.ifCond .eq 18, 3) := by decide +kernel
theorem dX10_readInto_63 : decode cX10_readInto 63 = .ok (.aload_n 0, 1) := by decide +kernel
theorem dX10_readInto_64 : decode cX10_readInto 64 = .ok (.getfield 19, 3) := by decide +kernel
theorem dX10_readInto_67 : decode cX10_readInto 67 = .ok (.aload_n 0, 1) := by decide +kernel
theorem dX10_readInto_68 : decode cX10_readInto 68 = .ok (.getfield 15, 3) := by decide +kernel
theorem dX10_readInto_71 : decode cX10_readInto 71 = .ok (.if_icmp .ne 7, 3) := by decide +kernel
theorem dX10_readInto_74 : decode cX10_readInto 74 = .ok (.iconst 1, 1) := by decide +kernel
theorem dX10_readInto_75 : decode cX10_readInto 75 = .ok (.goto 4, 3) := by decide +kernel
theorem dX10_readInto_78 : decode cX10_readInto 78 = .ok (.iconst 0, 1) := by decide +kernel
theorem dX10_readInto_79 : decode cX10_readInto 79 = .ok (.istore_n 2, 1) := by decide +kernel
theorem dX10_readInto_80 : decode cX10_readInto 80 = .ok (.iload_n 2, 1) := by decide +kernel
theorem dX10_readInto_81 : decode cX10_readInto 81 = .ok (.ifCond .eq 7, 3) := by decide +kernel
theorem dX10_readInto_84 : decode cX10_readInto 84 = .ok (.iconst (-1), 1) := by decide +kernel
theorem dX10_readInto_85 : decode cX10_readInto 85 = .ok (.goto 7, 3) := by decide +kernel
theorem dX10_readInto_88 : decode cX10_readInto 88 = .ok (.aload_n 0, 1) := by decide +kernel
theorem dX10_readInto_89 : decode cX10_readInto 89 = .ok (.getfield 19, 3) := by decide +kernel
theorem dX10_readInto_92 : decode cX10_readInto 92 = .ok (.ireturn, 1) := by decide +kernel
theorem dX10_next_0 : decode cX10_next 0 = .ok (.aload_n 0, 1) := by decide +kernel
theorem dX10_next_1 : decode cX10_next 1 = .ok (.getfield 19, 3) := by decide +kernel
theorem dX10_next_4 : decode cX10_next 4 = .ok (.aload_n 0, 1) := by decide +kernel
theorem dX10_next_5 : decode cX10_next 5 = .ok (.getfield 15, 3) := by decide +kernel
theorem dX10_next_8 : decode cX10_next 8 = .ok (.if_icmp .ge 15, 3) := by decide +kernel
theorem dX10_next_11 : decode cX10_next 11 = .ok (.aload_n 0, 1) := by decide +kernel
theorem dX10_next_12 : decode cX10_next 12 = .ok (.getfield 9, 3) := by decide +kernel
theorem dX10_next_15 : decode cX10_next 15 = .ok (.aload_n 0, 1) := by decide +kernel
theorem dX10_next_16 : decode cX10_next 16 = .ok (.getfield 19, 3) := by decide +kernel
theorem dX10_next_19 : decode cX10_next 19 = .ok (.caload, 1) := by decide +kernel
theorem dX10_next_20 : decode cX10_next 20 = .ok (.goto 5, 3) := by decide +kernel
theorem dX10_next_23 : decode cX10_next 23 = .ok (.bipush 32, 2) := by decide +kernel
theorem dX10_next_25 : decode cX10_next 25 = .ok (.ireturn, 1) := by decide +kernel
theorem dX10_readSign_0 : decode cX10_readSign 0 = .ok (.aload_n 0, 1) := by decide +kernel
theorem dX10_readSign_1 : decode cX10_readSign 1 = .ok (.invokevirtual 42, 3) := by decide +kernel
theorem dX10_readSign_4 : decode cX10_readSign 4 = .ok (.iload_n 1, 1) := by decide +kernel
theorem dX10_readSign_5 : decode cX10_readSign 5 = .ok (.if_icmp .eq 5, 3) := by decide +kernel
theorem dX10_readSign_8 : decode cX10_readSign 8 = .ok (.iconst 0, 1) := by decide +kernel
theorem dX10_readSign_9 : decode cX10_readSign 9 = .ok (.ireturn, 1) := by decide +kernel
theorem dX10_readSign_10 : decode cX10_readSign 10 = .ok (.aload_n 0, 1) := by decide +kernel
theorem dX10_readSign_11 : decode cX10_readSign 11 = .ok (.dup, 1) := by decide +kernel
theorem dX10_readSign_12 : decode cX10_readSign 12 = .ok (.getfield 19, 3) := by decide +kernel
theorem dX10_readSign_15 : decode cX10_readSign 15 = .ok (.iconst 1, 1) := by decide +kernel
theorem dX10_readSign_16 : decode cX10_readSign 16 = .ok (.iadd, 1) := by decide +kernel
theorem dX10_readSign_17 : decode cX10_readSign 17 = .ok (.putfield 19, 3) := by decide +kernel
theorem dX10_readSign_20 : decode cX10_readSign 20 = .ok (.iconst 1, 1) := by decide +kernel
theorem dX10_readSign_21 : decode cX10_readSign 21 = .ok (.ireturn, 1) := by decide +kernel
theorem dX10_readTarget_0 : decode cX10_readTarget 0 = .ok (.aload_n 0, 1) := by decide +kernel
theorem dX10_readTarget_1 : decode cX10_readTarget 1 = .ok (.bipush 62, 2) := by decide +kernel
theorem dX10_readTarget_3 : decode cX10_readTarget 3 = .ok (.invokevirtual 31, 3) := by decide +kernel
theorem dX10_readTarget_6 : decode cX10_readTarget 6 = .ok (.ifCond .eq 13, 3) := by decide +kernel
theorem dX10_readTarget_9 : decode cX10_readTarget 9 = .ok (.aload_n 1, 1) := by decide +kernel
theorem dX10_readTarget_10 : decode cX10_readTarget 10 = .ok (.getfield 46, 3) := by decide +kernel
theorem dX10_readTarget_13 : decode cX10_readTarget 13 = .ok (.iconst 0, 1) := by decide +kernel
theorem dX10_readTarget_14 : decode cX10_readTarget 14 = .ok (.bipush 6, 2) := by decide +kernel
theorem dX10_readTarget_16 : decode cX10_readTarget 16 = .ok (.iastore, 1) := by decide +kernel
theorem dX10_readTarget_17 : decode cX10_readTarget 17 = .ok (.iconst 1, 1) := by decide +kernel
theorem dX10_readTarget_18 : decode cX10_readTarget 18 = .ok (.ireturn, 1) := by decide +kernel
theorem dX10_readTarget_19 : decode cX10_readTarget 19 = .ok (.aload_n 0, 1) := by decide +kernel
theorem dX10_readTarget_20 : decode cX10_readTarget 20 = .ok (.aload_n 1, 1) := by decide +kernel
theorem dX10_readTarget_21 : decode cX10_readTarget 21 = .ok (.iconst 0, 1) := by decide +kernel
theorem dX10_readTarget_22 : decode cX10_readTarget 22 = .ok (.invokevirtual 50, 3) := by decide +kernel
theorem dX10_readTarget_25 : decode cX10_readTarget 25 = .ok (.ifCond .ne 12, 3) := by decide +kernel
theorem dX10_readTarget_28 : decode cX10_readTarget 28 = .ok (.aload_n 0, 1) := by decide +kernel
theorem dX10_readTarget_29 : decode cX10_readTarget 29 = .ok (.aload_n 1, 1) := by decide +kernel
theorem dX10_readTarget_30 : decode cX10_readTarget 30 = .ok (.iconst 0, 1) := by decide +kernel
theorem dX10_readTarget_31 : decode cX10_readTarget 31 = .ok (.invokevirtual 53, 3) := by decide +kernel
theorem dX10_readTarget_34 : decode cX10_readTarget 34 = .ok (.ifCond .eq 7, 3) := by decide +kernel
theorem dX10_readTarget_37 : decode cX10_readTarget 37 = .ok (.iconst 1, 1) := by decide +kernel
theorem dX10_readTarget_38 : decode cX10_readTarget 38 = .ok (.goto 4, 3) := by decide +kernel
theorem dX10_readTarget_41 : decode cX10_readTarget 41 = .ok (.iconst 0, 1) := by decide +kernel
theorem dX10_readTarget_42 : decode cX10_readTarget 42 = .ok (.ireturn, 1) := by decide +kernel
theorem dX10_readOperation_0 : decode cX10_readOperation 0 = .ok (.ldc 56, 2) := by decide +kernel
theorem dX10_readOperation_2 : decode cX10_readOperation 2 = .ok (.aload_n 0, 1) := by decide +kernel
theorem dX10_readOperation_3 : decode cX10_readOperation 3 = .ok (.invokevirtual 42, 3) := by decide +kernel
theorem dX10_readOperation_6 : decode cX10_readOperation 6 = .ok (.invokevirtual 58, 3) := by decide +kernel
theorem dX10_readOperation_9 : decode cX10_readOperation 9 = .ok (.ifCond .ge 5, 3) := by decide +kernel
theorem dX10_readOperation_12 : decode cX10_readOperation 12 = .ok (.iconst 0, 1) := by decide +kernel
theorem dX10_readOperation_13 : decode cX10_readOperation 13 = .ok (.ireturn, 1) := by decide +kernel
theorem dX10_readOperation_14 : decode cX10_readOperation 14 = .ok (.aload_n 1, 1) := by decide +kernel
theorem dX10_readOperation_15 : decode cX10_readOperation 15 = .ok (.aload_n 0, 1) := by decide +kernel
theorem dX10_readOperation_16 : decode cX10_readOperation 16 = .ok (.invokevirtual 42, 3) := by decide +kernel
theorem dX10_readOperation_19 : decode cX10_readOperation 19 = .ok (.putfield 64, 3) := by decide +kernel
theorem dX10_readOperation_22 : decode cX10_readOperation 22 = .ok (.aload_n 0, 1) := by decide +kernel
theorem dX10_readOperation_23 : decode cX10_readOperation 23 = .ok (.dup, 1) := by decide +kernel
theorem dX10_readOperation_24 : decode cX10_readOperation 24 = .ok (.getfield 19, 3) := by decide +kernel
theorem dX10_readOperation_27 : decode cX10_readOperation 27 = .ok (.iconst 1, 1) := by decide +kernel
theorem dX10_readOperation_28 : decode cX10_readOperation 28 = .ok (.iadd, 1) := by decide +kernel
theorem dX10_readOperation_29 : decode cX10_readOperation 29 = .ok (.putfield 19, 3) := by decide +kernel
theorem dX10_readOperation_32 : decode cX10_readOperation 32 = .ok (.iconst 1, 1) := by decide +kernel
theorem dX10_readOperation_33 : decode cX10_readOperation 33 = .ok (.ireturn, 1) := by decide +kernel
theorem dX10_readOperand_0 : decode cX10_readOperand 0 = .ok (.aload_n 0, 1) := by decide +kernel
theorem dX10_readOperand_1 : decode cX10_readOperand 1 = .ok (.bipush 60, 2) := by decide +kernel
theorem dX10_readOperand_3 : decode cX10_readOperand 3 = .ok (.invokevirtual 31, 3) := by decide +kernel
theorem dX10_readOperand_6 : decode cX10_readOperand 6 = .ok (.ifCond .eq 12, 3) := by decide +kernel
theorem dX10_readOperand_9 : decode cX10_readOperand 9 = .ok (.aload_n 1, 1) := by decide +kernel
theorem dX10_readOperand_10 : decode cX10_readOperand 10 = .ok (.getfield 46, 3) := by decide +kernel
theorem dX10_readOperand_13 : decode cX10_readOperand 13 = .ok (.iload_n 2, 1) := by decide +kernel
theorem dX10_readOperand_14 : decode cX10_readOperand 14 = .ok (.iconst 5, 1) := by decide +kernel
theorem dX10_readOperand_15 : decode cX10_readOperand 15 = .ok (.iastore, 1) := by decide +kernel
theorem dX10_readOperand_16 : decode cX10_readOperand 16 = .ok (.iconst 1, 1) := by decide +kernel
theorem dX10_readOperand_17 : decode cX10_readOperand 17 = .ok (.ireturn, 1) := by decide +kernel
theorem dX10_readOperand_18 : decode cX10_readOperand 18 = .ok (.aload_n 0, 1) := by decide +kernel
theorem dX10_readOperand_19 : decode cX10_readOperand 19 = .ok (.bipush 105, 2) := by decide +kernel
theorem dX10_readOperand_21 : decode cX10_readOperand 21 = .ok (.invokevirtual 31, 3) := by decide +kernel
theorem dX10_readOperand_24 : decode cX10_readOperand 24 = .ok (.ifCond .eq 12, 3) := by decide +kernel
theorem dX10_readOperand_27 : decode cX10_readOperand 27 = .ok (.aload_n 1, 1) := by decide +kernel
theorem dX10_readOperand_28 : decode cX10_readOperand 28 = .ok (.getfield 46, 3) := by decide +kernel
theorem dX10_readOperand_31 : decode cX10_readOperand 31 = .ok (.iload_n 2, 1) := by decide +kernel
theorem dX10_readOperand_32 : decode cX10_readOperand 32 = .ok (.iconst 2, 1) := by decide +kernel
theorem dX10_readOperand_33 : decode cX10_readOperand 33 = .ok (.iastore, 1) := by decide +kernel
theorem dX10_readOperand_34 : decode cX10_readOperand 34 = .ok (.iconst 1, 1) := by decide +kernel
theorem dX10_readOperand_35 : decode cX10_readOperand 35 = .ok (.ireturn, 1) := by decide +kernel
theorem dX10_readOperand_36 : decode cX10_readOperand 36 = .ok (.aload_n 0, 1) := by decide +kernel
theorem dX10_readOperand_37 : decode cX10_readOperand 37 = .ok (.invokevirtual 42, 3) := by decide +kernel
theorem dX10_readOperand_40 : decode cX10_readOperand 40 = .ok (.invokestatic 68, 3) := by decide +kernel
theorem dX10_readOperand_43 : decode cX10_readOperand 43 = .ok (.ifCond .eq 23, 3) := by decide +kernel
theorem dX10_readOperand_46 : decode cX10_readOperand 46 = .ok (.aload_n 1, 1) := by decide +kernel
theorem dX10_readOperand_47 : decode cX10_readOperand 47 = .ok (.getfield 46, 3) := by decide +kernel
theorem dX10_readOperand_50 : decode cX10_readOperand 50 = .ok (.iload_n 2, 1) := by decide +kernel
theorem dX10_readOperand_51 : decode cX10_readOperand 51 = .ok (.iconst 1, 1) := by decide +kernel
theorem dX10_readOperand_52 : decode cX10_readOperand 52 = .ok (.iastore, 1) := by decide +kernel
theorem dX10_readOperand_53 : decode cX10_readOperand 53 = .ok (.aload_n 1, 1) := by decide +kernel
theorem dX10_readOperand_54 : decode cX10_readOperand 54 = .ok (.getfield 71, 3) := by decide +kernel
theorem dX10_readOperand_57 : decode cX10_readOperand 57 = .ok (.iload_n 2, 1) := by decide +kernel
theorem dX10_readOperand_58 : decode cX10_readOperand 58 = .ok (.aload_n 0, 1) := by decide +kernel
theorem dX10_readOperand_59 : decode cX10_readOperand 59 = .ok (.iconst 2, 1) := by decide +kernel
theorem dX10_readOperand_60 : decode cX10_readOperand 60 = .ok (.invokevirtual 74, 3) := by decide +kernel
theorem dX10_readOperand_63 : decode cX10_readOperand 63 = .ok (.iastore, 1) := by decide +kernel
theorem dX10_readOperand_64 : decode cX10_readOperand 64 = .ok (.iconst 1, 1) := by decide +kernel
theorem dX10_readOperand_65 : decode cX10_readOperand 65 = .ok (.ireturn, 1) := by decide +kernel
theorem dX10_readOperand_66 : decode cX10_readOperand 66 = .ok (.aload_n 0, 1) := by decide +kernel
theorem dX10_readOperand_67 : decode cX10_readOperand 67 = .ok (.aload_n 1, 1) := by decide +kernel
theorem dX10_readOperand_68 : decode cX10_readOperand 68 = .ok (.iload_n 2, 1) := by decide +kernel
theorem dX10_readOperand_69 : decode cX10_readOperand 69 = .ok (.invokevirtual 50, 3) := by decide +kernel
theorem dX10_readOperand_72 : decode cX10_readOperand 72 = .ok (.ifCond .ne 12, 3) := by decide +kernel
theorem dX10_readOperand_75 : decode cX10_readOperand 75 = .ok (.aload_n 0, 1) := by decide +kernel
theorem dX10_readOperand_76 : decode cX10_readOperand 76 = .ok (.aload_n 1, 1) := by decide +kernel
theorem dX10_readOperand_77 : decode cX10_readOperand 77 = .ok (.iload_n 2, 1) := by decide +kernel
theorem dX10_readOperand_78 : decode cX10_readOperand 78 = .ok (.invokevirtual 53, 3) := by decide +kernel
theorem dX10_readOperand_81 : decode cX10_readOperand 81 = .ok (.ifCond .eq 7, 3) := by decide +kernel
theorem dX10_readOperand_84 : decode cX10_readOperand 84 = .ok (.iconst 1, 1) := by decide +kernel
theorem dX10_readOperand_85 : decode cX10_readOperand 85 = .ok (.goto 4, 3) := by decide +kernel
theorem dX10_readOperand_88 : decode cX10_readOperand 88 = .ok (.iconst 0, 1) := by decide +kernel
theorem dX10_readOperand_89 : decode cX10_readOperand 89 = .ok (.ireturn, 1) := by decide +kernel
theorem dX10_readRegister_0 : decode cX10_readRegister 0 = .ok (.aload_n 0, 1) := by decide +kernel
theorem dX10_readRegister_1 : decode cX10_readRegister 1 = .ok (.invokevirtual 42, 3) := by decide +kernel
theorem dX10_readRegister_4 : decode cX10_readRegister 4 = .ok (.istore_n 3, 1) := by decide +kernel
theorem dX10_readRegister_5 : decode cX10_readRegister 5 = .ok (.iload_n 3, 1) := by decide +kernel
theorem dX10_readRegister_6 : decode cX10_readRegister 6 = .ok (.bipush 97, 2) := by decide +kernel
theorem dX10_readRegister_8 : decode cX10_readRegister 8 = .ok (.if_icmp .lt 9, 3) := by decide +kernel
theorem dX10_readRegister_11 : decode cX10_readRegister 11 = .ok (.iload_n 3, 1) := by decide +kernel
theorem dX10_readRegister_12 : decode cX10_readRegister 12 = .ok (.bipush 104, 2) := by decide +kernel
theorem dX10_readRegister_14 : decode cX10_readRegister 14 = .ok (.if_icmp .le 5, 3) := by decide +kernel
theorem dX10_readRegister_17 : decode cX10_readRegister 17 = .ok (.iconst 0, 1) := by decide +kernel
theorem dX10_readRegister_18 : decode cX10_readRegister 18 = .ok (.ireturn, 1) := by decide +kernel
theorem dX10_readRegister_19 : decode cX10_readRegister 19 = .ok (.aload_n 0, 1) := by decide +kernel
theorem dX10_readRegister_20 : decode cX10_readRegister 20 = .ok (.dup, 1) := by decide +kernel
theorem dX10_readRegister_21 : decode cX10_readRegister 21 = .ok (.getfield 19, 3) := by decide +kernel
theorem dX10_readRegister_24 : decode cX10_readRegister 24 = .ok (.iconst 1, 1) := by decide +kernel
theorem dX10_readRegister_25 : decode cX10_readRegister 25 = .ok (.iadd, 1) := by decide +kernel
theorem dX10_readRegister_26 : decode cX10_readRegister 26 = .ok (.putfield 19, 3) := by decide +kernel
theorem dX10_readRegister_29 : decode cX10_readRegister 29 = .ok (.aload_n 1, 1) := by decide +kernel
theorem dX10_readRegister_30 : decode cX10_readRegister 30 = .ok (.getfield 46, 3) := by decide +kernel
theorem dX10_readRegister_33 : decode cX10_readRegister 33 = .ok (.iload_n 2, 1) := by decide +kernel
theorem dX10_readRegister_34 : decode cX10_readRegister 34 = .ok (.iconst 0, 1) := by decide +kernel
theorem dX10_readRegister_35 : decode cX10_readRegister 35 = .ok (.iastore, 1) := by decide +kernel
theorem dX10_readRegister_36 : decode cX10_readRegister 36 = .ok (.aload_n 1, 1) := by decide +kernel
theorem dX10_readRegister_37 : decode cX10_readRegister 37 = .ok (.getfield 71, 3) := by decide +kernel
theorem dX10_readRegister_40 : decode cX10_readRegister 40 = .ok (.iload_n 2, 1) := by decide +kernel
theorem dX10_readRegister_41 : decode cX10_readRegister 41 = .ok (.iload_n 3, 1) := by decide +kernel
theorem dX10_readRegister_42 : decode cX10_readRegister 42 = .ok (.bipush 97, 2) := by decide +kernel
theorem dX10_readRegister_44 : decode cX10_readRegister 44 = .ok (.isub, 1) := by decide +kernel
theorem dX10_readRegister_45 : decode cX10_readRegister 45 = .ok (.iastore, 1) := by decide +kernel
theorem dX10_readRegister_46 : decode cX10_readRegister 46 = .ok (.iconst 1, 1) := by decide +kernel
theorem dX10_readRegister_47 : decode cX10_readRegister 47 = .ok (.ireturn, 1) := by decide +kernel
theorem dX10_readPlace_0 : decode cX10_readPlace 0 = .ok (.ldc 77, 2) := by decide +kernel
theorem dX10_readPlace_2 : decode cX10_readPlace 2 = .ok (.aload_n 0, 1) := by decide +kernel
theorem dX10_readPlace_3 : decode cX10_readPlace 3 = .ok (.invokevirtual 42, 3) := by decide +kernel
theorem dX10_readPlace_6 : decode cX10_readPlace 6 = .ok (.invokevirtual 58, 3) := by decide +kernel
theorem dX10_readPlace_9 : decode cX10_readPlace 9 = .ok (.istore_n 3, 1) := by decide +kernel
theorem dX10_readPlace_10 : decode cX10_readPlace 10 = .ok (.iload_n 3, 1) := by decide +kernel
theorem dX10_readPlace_11 : decode cX10_readPlace 11 = .ok (.ifCond .ge 5, 3) := by decide +kernel
theorem dX10_readPlace_14 : decode cX10_readPlace 14 = .ok (.iconst 0, 1) := by decide +kernel
theorem dX10_readPlace_15 : decode cX10_readPlace 15 = .ok (.ireturn, 1) := by decide +kernel
theorem dX10_readPlace_16 : decode cX10_readPlace 16 = .ok (.aload_n 0, 1) := by decide +kernel
theorem dX10_readPlace_17 : decode cX10_readPlace 17 = .ok (.dup, 1) := by decide +kernel
theorem dX10_readPlace_18 : decode cX10_readPlace 18 = .ok (.getfield 19, 3) := by decide +kernel
theorem dX10_readPlace_21 : decode cX10_readPlace 21 = .ok (.iconst 1, 1) := by decide +kernel
theorem dX10_readPlace_22 : decode cX10_readPlace 22 = .ok (.iadd, 1) := by decide +kernel
theorem dX10_readPlace_23 : decode cX10_readPlace 23 = .ok (.putfield 19, 3) := by decide +kernel
theorem dX10_readPlace_26 : decode cX10_readPlace 26 = .ok (.aload_n 1, 1) := by decide +kernel
theorem dX10_readPlace_27 : decode cX10_readPlace 27 = .ok (.getfield 46, 3) := by decide +kernel
theorem dX10_readPlace_30 : decode cX10_readPlace 30 = .ok (.iload_n 2, 1) := by decide +kernel
theorem dX10_readPlace_31 : decode cX10_readPlace 31 = .ok (.iconst 3, 1) := by decide +kernel
theorem dX10_readPlace_32 : decode cX10_readPlace 32 = .ok (.iload_n 3, 1) := by decide +kernel
theorem dX10_readPlace_33 : decode cX10_readPlace 33 = .ok (.iadd, 1) := by decide +kernel
theorem dX10_readPlace_34 : decode cX10_readPlace 34 = .ok (.iastore, 1) := by decide +kernel
theorem dX10_readPlace_35 : decode cX10_readPlace 35 = .ok (.aload_n 0, 1) := by decide +kernel
theorem dX10_readPlace_36 : decode cX10_readPlace 36 = .ok (.bipush 91, 2) := by decide +kernel
theorem dX10_readPlace_38 : decode cX10_readPlace 38 = .ok (.invokevirtual 31, 3) := by decide +kernel
theorem dX10_readPlace_41 : decode cX10_readPlace 41 = .ok (.ifCond .eq 25, 3) := by decide +kernel
theorem dX10_readPlace_44 : decode cX10_readPlace 44 = .ok (.aload_n 0, 1) := by decide +kernel
theorem dX10_readPlace_45 : decode cX10_readPlace 45 = .ok (.aload_n 1, 1) := by decide +kernel
theorem dX10_readPlace_46 : decode cX10_readPlace 46 = .ok (.iload_n 2, 1) := by decide +kernel
theorem dX10_readPlace_47 : decode cX10_readPlace 47 = .ok (.invokevirtual 79, 3) := by decide +kernel
theorem dX10_readPlace_50 : decode cX10_readPlace 50 = .ok (.ifCond .eq 16, 3) := by decide +kernel
theorem dX10_readPlace_53 : decode cX10_readPlace 53 = .ok (.aload_n 0, 1) := by decide +kernel
theorem dX10_readPlace_54 : decode cX10_readPlace 54 = .ok (.bipush 93, 2) := by decide +kernel
theorem dX10_readPlace_56 : decode cX10_readPlace 56 = .ok (.invokevirtual 31, 3) := by decide +kernel
theorem dX10_readPlace_59 : decode cX10_readPlace 59 = .ok (.ifCond .eq 7, 3) := by decide +kernel
theorem dX10_readPlace_62 : decode cX10_readPlace 62 = .ok (.iconst 1, 1) := by decide +kernel
theorem dX10_readPlace_63 : decode cX10_readPlace 63 = .ok (.goto 4, 3) := by decide +kernel
theorem dX10_readPlace_66 : decode cX10_readPlace 66 = .ok (.iconst 0, 1) := by decide +kernel
theorem dX10_readPlace_67 : decode cX10_readPlace 67 = .ok (.ireturn, 1) := by decide +kernel
theorem dX10_readIndex_0 : decode cX10_readIndex 0 = .ok (.aload_n 0, 1) := by decide +kernel
theorem dX10_readIndex_1 : decode cX10_readIndex 1 = .ok (.bipush 105, 2) := by decide +kernel
theorem dX10_readIndex_3 : decode cX10_readIndex 3 = .ok (.invokevirtual 31, 3) := by decide +kernel
theorem dX10_readIndex_6 : decode cX10_readIndex 6 = .ok (.istore_n 3, 1) := by decide +kernel
theorem dX10_readIndex_7 : decode cX10_readIndex 7 = .ok (.aload_n 1, 1) := by decide +kernel
theorem dX10_readIndex_8 : decode cX10_readIndex 8 = .ok (.getfield 82, 3) := by decide +kernel
theorem dX10_readIndex_11 : decode cX10_readIndex 11 = .ok (.iload_n 2, 1) := by decide +kernel
theorem dX10_readIndex_12 : decode cX10_readIndex 12 = .ok (.iload_n 3, 1) := by decide +kernel
theorem dX10_readIndex_13 : decode cX10_readIndex 13 = .ok (.bastore, 1) := by decide +kernel
theorem dX10_readIndex_14 : decode cX10_readIndex 14 = .ok (.iload_n 3, 1) := by decide +kernel
theorem dX10_readIndex_15 : decode cX10_readIndex 15 = .ok (.ifCond .eq 16, 3) := by decide +kernel
theorem dX10_readIndex_18 : decode cX10_readIndex 18 = .ok (.aload_n 0, 1) := by decide +kernel
theorem dX10_readIndex_19 : decode cX10_readIndex 19 = .ok (.bipush 45, 2) := by decide +kernel
theorem dX10_readIndex_21 : decode cX10_readIndex 21 = .ok (.invokevirtual 31, 3) := by decide +kernel
theorem dX10_readIndex_24 : decode cX10_readIndex 24 = .ok (.ifCond .eq 7, 3) := by decide +kernel
theorem dX10_readIndex_27 : decode cX10_readIndex 27 = .ok (.iconst 1, 1) := by decide +kernel
theorem dX10_readIndex_28 : decode cX10_readIndex 28 = .ok (.goto 4, 3) := by decide +kernel
theorem dX10_readIndex_31 : decode cX10_readIndex 31 = .ok (.iconst 0, 1) := by decide +kernel
theorem dX10_readIndex_32 : decode cX10_readIndex 32 = .ok (.istore 4, 2) := by decide +kernel
theorem dX10_readIndex_34 : decode cX10_readIndex 34 = .ok (.iload_n 3, 1) := by decide +kernel
theorem dX10_readIndex_35 : decode cX10_readIndex 35 = .ok (.ifCond .eq 19, 3) := by decide +kernel
theorem dX10_readIndex_38 : decode cX10_readIndex 38 = .ok (.iload 4, 2) := by decide +kernel
theorem dX10_readIndex_40 : decode cX10_readIndex 40 = .ok (.ifCond .ne 14, 3) := by decide +kernel
theorem dX10_readIndex_43 : decode cX10_readIndex 43 = .ok (.aload_n 0, 1) := by decide +kernel
theorem dX10_readIndex_44 : decode cX10_readIndex 44 = .ok (.bipush 43, 2) := by decide +kernel
theorem dX10_readIndex_46 : decode cX10_readIndex 46 = .ok (.invokevirtual 31, 3) := by decide +kernel
theorem dX10_readIndex_49 : decode cX10_readIndex 49 = .ok (.ifCond .ne 5, 3) := by decide +kernel
theorem dX10_readIndex_52 : decode cX10_readIndex 52 = .ok (.iconst 1, 1) := by decide +kernel
theorem dX10_readIndex_53 : decode cX10_readIndex 53 = .ok (.ireturn, 1) := by decide +kernel
theorem dX10_readIndex_54 : decode cX10_readIndex 54 = .ok (.aload_n 0, 1) := by decide +kernel
theorem dX10_readIndex_55 : decode cX10_readIndex 55 = .ok (.invokevirtual 42, 3) := by decide +kernel
theorem dX10_readIndex_58 : decode cX10_readIndex 58 = .ok (.invokestatic 68, 3) := by decide +kernel
theorem dX10_readIndex_61 : decode cX10_readIndex 61 = .ok (.ifCond .ne 5, 3) := by decide +kernel
theorem dX10_readIndex_64 : decode cX10_readIndex 64 = .ok (.iconst 0, 1) := by decide +kernel
theorem dX10_readIndex_65 : decode cX10_readIndex 65 = .ok (.ireturn, 1) := by decide +kernel
theorem dX10_readIndex_66 : decode cX10_readIndex 66 = .ok (.aload_n 0, 1) := by decide +kernel
theorem dX10_readIndex_67 : decode cX10_readIndex 67 = .ok (.iload_n 3, 1) := by decide +kernel
theorem dX10_readIndex_68 : decode cX10_readIndex 68 = .ok (.ifCond .eq 7, 3) := by decide +kernel
theorem dX10_readIndex_71 : decode cX10_readIndex 71 = .ok (.iconst 1, 1) := by decide +kernel
theorem dX10_readIndex_72 : decode cX10_readIndex 72 = .ok (.goto 4, 3) := by decide +kernel
theorem dX10_readIndex_75 : decode cX10_readIndex 75 = .ok (.iconst 2, 1) := by decide +kernel
theorem dX10_readIndex_76 : decode cX10_readIndex 76 = .ok (.invokevirtual 74, 3) := by decide +kernel
theorem dX10_readIndex_79 : decode cX10_readIndex 79 = .ok (.istore 5, 2) := by decide +kernel
theorem dX10_readIndex_81 : decode cX10_readIndex 81 = .ok (.aload_n 1, 1) := by decide +kernel
theorem dX10_readIndex_82 : decode cX10_readIndex 82 = .ok (.getfield 71, 3) := by decide +kernel
theorem dX10_readIndex_85 : decode cX10_readIndex 85 = .ok (.iload_n 2, 1) := by decide +kernel
theorem dX10_readIndex_86 : decode cX10_readIndex 86 = .ok (.iload 4, 2) := by decide +kernel
theorem dX10_readIndex_88 : decode cX10_readIndex 88 = .ok (.ifCond .eq 9, 3) := by decide +kernel
theorem dX10_readIndex_91 : decode cX10_readIndex 91 = .ok (.iload 5, 2) := by decide +kernel
theorem dX10_readIndex_93 : decode cX10_readIndex 93 = .ok (.ineg, 1) := by decide +kernel
theorem dX10_readIndex_94 : decode cX10_readIndex 94 = .ok (.goto 5, 3) := by decide +kernel
theorem dX10_readIndex_97 : decode cX10_readIndex 97 = .ok (.iload 5, 2) := by decide +kernel
theorem dX10_readIndex_99 : decode cX10_readIndex 99 = .ok (.iastore, 1) := by decide +kernel
theorem dX10_readIndex_100 : decode cX10_readIndex 100 = .ok (.iconst 1, 1) := by decide +kernel
theorem dX10_readIndex_101 : decode cX10_readIndex 101 = .ok (.ireturn, 1) := by decide +kernel
theorem dX10_readNumber_0 : decode cX10_readNumber 0 = .ok (.iconst 0, 1) := by decide +kernel
theorem dX10_readNumber_1 : decode cX10_readNumber 1 = .ok (.istore_n 2, 1) := by decide +kernel
theorem dX10_readNumber_2 : decode cX10_readNumber 2 = .ok (.iconst 0, 1) := by decide +kernel
theorem dX10_readNumber_3 : decode cX10_readNumber 3 = .ok (.istore_n 3, 1) := by decide +kernel
theorem dX10_readNumber_4 : decode cX10_readNumber 4 = .ok (.iload_n 3, 1) := by decide +kernel
theorem dX10_readNumber_5 : decode cX10_readNumber 5 = .ok (.iload_n 1, 1) := by decide +kernel
theorem dX10_readNumber_6 : decode cX10_readNumber 6 = .ok (.if_icmp .ge 42, 3) := by decide +kernel
theorem dX10_readNumber_9 : decode cX10_readNumber 9 = .ok (.aload_n 0, 1) := by decide +kernel
theorem dX10_readNumber_10 : decode cX10_readNumber 10 = .ok (.invokevirtual 42, 3) := by decide +kernel
theorem dX10_readNumber_13 : decode cX10_readNumber 13 = .ok (.invokestatic 68, 3) := by decide +kernel
theorem dX10_readNumber_16 : decode cX10_readNumber 16 = .ok (.ifCond .eq 32, 3) := by decide +kernel
theorem dX10_readNumber_19 : decode cX10_readNumber 19 = .ok (.iload_n 2, 1) := by decide +kernel
theorem dX10_readNumber_20 : decode cX10_readNumber 20 = .ok (.bipush 10, 2) := by decide +kernel
theorem dX10_readNumber_22 : decode cX10_readNumber 22 = .ok (.imul, 1) := by decide +kernel
theorem dX10_readNumber_23 : decode cX10_readNumber 23 = .ok (.aload_n 0, 1) := by decide +kernel
theorem dX10_readNumber_24 : decode cX10_readNumber 24 = .ok (.invokevirtual 42, 3) := by decide +kernel
theorem dX10_readNumber_27 : decode cX10_readNumber 27 = .ok (.iadd, 1) := by decide +kernel
theorem dX10_readNumber_28 : decode cX10_readNumber 28 = .ok (.bipush 48, 2) := by decide +kernel
theorem dX10_readNumber_30 : decode cX10_readNumber 30 = .ok (.isub, 1) := by decide +kernel
theorem dX10_readNumber_31 : decode cX10_readNumber 31 = .ok (.istore_n 2, 1) := by decide +kernel
theorem dX10_readNumber_32 : decode cX10_readNumber 32 = .ok (.aload_n 0, 1) := by decide +kernel
theorem dX10_readNumber_33 : decode cX10_readNumber 33 = .ok (.dup, 1) := by decide +kernel
theorem dX10_readNumber_34 : decode cX10_readNumber 34 = .ok (.getfield 19, 3) := by decide +kernel
theorem dX10_readNumber_37 : decode cX10_readNumber 37 = .ok (.iconst 1, 1) := by decide +kernel
theorem dX10_readNumber_38 : decode cX10_readNumber 38 = .ok (.iadd, 1) := by decide +kernel
theorem dX10_readNumber_39 : decode cX10_readNumber 39 = .ok (.putfield 19, 3) := by decide +kernel
theorem dX10_readNumber_42 : decode cX10_readNumber 42 = .ok (.iinc 3 1, 3) := by decide +kernel
theorem dX10_readNumber_45 : decode cX10_readNumber 45 = .ok (.goto (-41), 3) := by decide +kernel
theorem dX10_readNumber_48 : decode cX10_readNumber 48 = .ok (.iload_n 2, 1) := by decide +kernel
theorem dX10_readNumber_49 : decode cX10_readNumber 49 = .ok (.ireturn, 1) := by decide +kernel
theorem dX10_isDigit_0 : decode cX10_isDigit 0 = .ok (.iload_n 0, 1) := by decide +kernel
theorem dX10_isDigit_1 : decode cX10_isDigit 1 = .ok (.bipush 48, 2) := by decide +kernel
theorem dX10_isDigit_3 : decode cX10_isDigit 3 = .ok (.if_icmp .lt 13, 3) := by decide +kernel
theorem dX10_isDigit_6 : decode cX10_isDigit 6 = .ok (.iload_n 0, 1) := by decide +kernel
theorem dX10_isDigit_7 : decode cX10_isDigit 7 = .ok (.bipush 57, 2) := by decide +kernel
theorem dX10_isDigit_9 : decode cX10_isDigit 9 = .ok (.if_icmp .gt 7, 3) := by decide +kernel
theorem dX10_isDigit_12 : decode cX10_isDigit 12 = .ok (.iconst 1, 1) := by decide +kernel
theorem dX10_isDigit_13 : decode cX10_isDigit 13 = .ok (.goto 4, 3) := by decide +kernel
theorem dX10_isDigit_16 : decode cX10_isDigit 16 = .ok (.iconst 0, 1) := by decide +kernel
theorem dX10_isDigit_17 : decode cX10_isDigit 17 = .ok (.ireturn, 1) := by decide +kernel
theorem dX11_init_0 : decode cX11_init 0 = .ok (.aload_n 0, 1) := by decide +kernel
theorem dX11_init_1 : decode cX11_init 1 = .ok (.invokespecial 3, 3) := by decide +kernel
theorem dX11_init_4 : decode cX11_init 4 = .ok (.aload_n 0, 1) := by decide +kernel
theorem dX11_init_5 : decode cX11_init 5 = .ok (.new 9, 3) := by decide +kernel
theorem dX11_init_8 : decode cX11_init 8 = .ok (.dup, 1) := by decide +kernel
theorem dX11_init_9 : decode cX11_init 9 = .ok (.invokespecial 11, 3) := by decide +kernel
theorem dX11_init_12 : decode cX11_init 12 = .ok (.putfield 12, 3) := by decide +kernel
theorem dX11_init_15 : decode cX11_init 15 = .ok (.aload_n 0, 1) := by decide +kernel
theorem dX11_init_16 : decode cX11_init 16 = .ok (.new 16, 3) := by decide +kernel
theorem dX11_init_19 : decode cX11_init 19 = .ok (.dup, 1) := by decide +kernel
theorem dX11_init_20 : decode cX11_init 20 = .ok (.invokespecial 18, 3) := by decide +kernel
theorem dX11_init_23 : decode cX11_init 23 = .ok (.putfield 19, 3) := by decide +kernel
theorem dX11_init_26 : decode cX11_init 26 = .ok (.aload_n 0, 1) := by decide +kernel
theorem dX11_init_27 : decode cX11_init 27 = .ok (.new 23, 3) := by decide +kernel
theorem dX11_init_30 : decode cX11_init 30 = .ok (.dup, 1) := by decide +kernel
theorem dX11_init_31 : decode cX11_init 31 = .ok (.invokespecial 25, 3) := by decide +kernel
theorem dX11_init_34 : decode cX11_init 34 = .ok (.putfield 26, 3) := by decide +kernel
theorem dX11_init_37 : decode cX11_init 37 = .ok (.aload_n 0, 1) := by decide +kernel
theorem dX11_init_38 : decode cX11_init 38 = .ok (.new 30, 3) := by decide +kernel
theorem dX11_init_41 : decode cX11_init 41 = .ok (.dup, 1) := by decide +kernel
theorem dX11_init_42 : decode cX11_init 42 = .ok (.invokespecial 32, 3) := by decide +kernel
theorem dX11_init_45 : decode cX11_init 45 = .ok (.putfield 33, 3) := by decide +kernel
theorem dX11_init_48 : decode cX11_init 48 = .ok (.aload_n 0, 1) := by decide +kernel
theorem dX11_init_49 : decode cX11_init 49 = .ok (.new 37, 3) := by decide +kernel
theorem dX11_init_52 : decode cX11_init 52 = .ok (.dup, 1) := by decide +kernel
theorem dX11_init_53 : decode cX11_init 53 = .ok (.invokespecial 39, 3) := by decide +kernel
theorem dX11_init_56 : decode cX11_init 56 = .ok (.putfield 40, 3) := by decide +kernel
theorem dX11_init_59 : decode cX11_init 59 = .ok (.aload_n 0, 1) := by decide +kernel
theorem dX11_init_60 : decode cX11_init 60 = .ok (.new 44, 3) := by decide +kernel
theorem dX11_init_63 : decode cX11_init 63 = .ok (.dup, 1) := by decide +kernel
theorem dX11_init_64 : decode cX11_init 64 = .ok (.invokespecial 46, 3) := by decide +kernel
theorem dX11_init_67 : decode cX11_init 67 = .ok (.putfield 47, 3) := by decide +kernel
theorem dX11_init_70 : decode cX11_init 70 = .ok (.aload_n 0, 1) := by decide +kernel
theorem dX11_init_71 : decode cX11_init 71 = .ok (.new 51, 3) := by decide +kernel
theorem dX11_init_74 : decode cX11_init 74 = .ok (.dup, 1) := by decide +kernel
theorem dX11_init_75 : decode cX11_init 75 = .ok (.invokespecial 53, 3) := by decide +kernel
theorem dX11_init_78 : decode cX11_init 78 = .ok (.putfield 54, 3) := by decide +kernel
theorem dX11_init_81 : decode cX11_init 81 = .ok (.aload_n 0, 1) := by decide +kernel
theorem dX11_init_82 : decode cX11_init 82 = .ok (.new 58, 3) := by decide +kernel
theorem dX11_init_85 : decode cX11_init 85 = .ok (.dup, 1) := by decide +kernel
theorem dX11_init_86 : decode cX11_init 86 = .ok (.invokespecial 60, 3) := by decide +kernel
theorem dX11_init_89 : decode cX11_init 89 = .ok (.putfield 61, 3) := by decide +kernel
theorem dX11_init_92 : decode cX11_init 92 = .ok (.aload_n 0, 1) := by decide +kernel
theorem dX11_init_93 : decode cX11_init 93 = .ok (.new 65, 3) := by decide +kernel
theorem dX11_init_96 : decode cX11_init 96 = .ok (.dup, 1) := by decide +kernel
theorem dX11_init_97 : decode cX11_init 97 = .ok (.invokespecial 67, 3) := by decide +kernel
theorem dX11_init_100 : decode cX11_init 100 = .ok (.putfield 68, 3) := by decide +kernel
theorem dX11_init_103 : decode cX11_init 103 = .ok (.aload_n 0, 1) := by decide +kernel
theorem dX11_init_104 : decode cX11_init 104 = .ok (.iconst 0, 1) := by decide +kernel
theorem dX11_init_105 : decode cX11_init 105 = .ok (.putfield 72, 3) := by decide +kernel
theorem dX11_init_108 : decode cX11_init 108 = .ok (.aload_n 0, 1) := by decide +kernel
theorem dX11_init_109 : decode cX11_init 109 = .ok (.iconst 0, 1) := by decide +kernel
theorem dX11_init_110 : decode cX11_init 110 = .ok (.putfield 76, 3) := by decide +kernel
theorem dX11_init_113 : decode cX11_init 113 = .ok (.return_, 1) := by decide +kernel
theorem dX11_type_0 : decode cX11_type 0 = .ok (.ldc 80, 2) := by decide +kernel
theorem dX11_type_2 : decode cX11_type 2 = .ok (.iload_n 1, 1) := by decide +kernel
theorem dX11_type_3 : decode cX11_type 3 = .ok (.invokevirtual 82, 3) := by decide +kernel
theorem dX11_type_6 : decode cX11_type 6 = .ok (.ifCond .ge 13, 3) := by decide +kernel
theorem dX11_type_9 : decode cX11_type 9 = .ok (.new 88, 3) := by decide +kernel
theorem dX11_type_12 : decode cX11_type 12 = .ok (.dup, 1) := by decide +kernel
theorem dX11_type_13 : decode cX11_type 13 = .ok (.ldc 90, 2) := by decide +kernel
theorem dX11_type_15 : decode cX11_type 15 = .ok (.invokespecial 92, 3) := by decide +kernel
theorem dX11_type_18 : decode cX11_type 18 = .ok (.athrow, 1) := by decide +kernel
theorem dX11_type_19 : decode cX11_type 19 = .ok (.aload_n 0, 1) := by decide +kernel
theorem dX11_type_20 : decode cX11_type 20 = .ok (.getfield 12, 3) := by decide +kernel
theorem dX11_type_23 : decode cX11_type 23 = .ok (.getfield 95, 3) := by decide +kernel
theorem dX11_type_26 : decode cX11_type 26 = .ok (.bipush 24, 2) := by decide +kernel
theorem dX11_type_28 : decode cX11_type 28 = .ok (.if_icmp .lt 13, 3) := by decide +kernel
theorem dX11_type_31 : decode cX11_type 31 = .ok (.new 98, 3) := by decide +kernel
theorem dX11_type_34 : decode cX11_type 34 = .ok (.dup, 1) := by decide +kernel
theorem dX11_type_35 : decode cX11_type 35 = .ok (.ldc 100, 2) := by decide +kernel
theorem dX11_type_37 : decode cX11_type 37 = .ok (.invokespecial 102, 3) := by decide +kernel
theorem dX11_type_40 : decode cX11_type 40 = .ok (.athrow, 1) := by decide +kernel
theorem dX11_type_41 : decode cX11_type 41 = .ok (.aload_n 0, 1) := by decide +kernel
theorem dX11_type_42 : decode cX11_type 42 = .ok (.getfield 12, 3) := by decide +kernel
theorem dX11_type_45 : decode cX11_type 45 = .ok (.iload_n 1, 1) := by decide +kernel
theorem dX11_type_46 : decode cX11_type 46 = .ok (.invokevirtual 103, 3) := by decide +kernel
theorem dX11_type_49 : decode cX11_type 49 = .ok (.aload_n 0, 1) := by decide +kernel
theorem dX11_type_50 : decode cX11_type 50 = .ok (.getfield 12, 3) := by decide +kernel
theorem dX11_type_53 : decode cX11_type 53 = .ok (.getfield 95, 3) := by decide +kernel
theorem dX11_type_56 : decode cX11_type 56 = .ok (.ireturn, 1) := by decide +kernel
theorem dX11_clear_0 : decode cX11_clear 0 = .ok (.aload_n 0, 1) := by decide +kernel
theorem dX11_clear_1 : decode cX11_clear 1 = .ok (.getfield 12, 3) := by decide +kernel
theorem dX11_clear_4 : decode cX11_clear 4 = .ok (.invokevirtual 107, 3) := by decide +kernel
theorem dX11_clear_7 : decode cX11_clear 7 = .ok (.ireturn, 1) := by decide +kernel
theorem dX11_add_0 : decode cX11_add 0 = .ok (.aload_n 0, 1) := by decide +kernel
theorem dX11_add_1 : decode cX11_add 1 = .ok (.getfield 12, 3) := by decide +kernel
theorem dX11_add_4 : decode cX11_add 4 = .ok (.aload_n 0, 1) := by decide +kernel
theorem dX11_add_5 : decode cX11_add 5 = .ok (.getfield 19, 3) := by decide +kernel
theorem dX11_add_8 : decode cX11_add 8 = .ok (.getfield 111, 3) := by decide +kernel
theorem dX11_add_11 : decode cX11_add 11 = .ok (.invokevirtual 115, 3) := by decide +kernel
theorem dX11_add_14 : decode cX11_add 14 = .ok (.iconst (-1), 1) := by decide +kernel
theorem dX11_add_15 : decode cX11_add 15 = .ok (.if_icmp .eq 13, 3) := by decide +kernel
theorem dX11_add_18 : decode cX11_add 18 = .ok (.new 88, 3) := by decide +kernel
theorem dX11_add_21 : decode cX11_add 21 = .ok (.dup, 1) := by decide +kernel
theorem dX11_add_22 : decode cX11_add 22 = .ok (.ldc 119, 2) := by decide +kernel
theorem dX11_add_24 : decode cX11_add 24 = .ok (.invokespecial 92, 3) := by decide +kernel
theorem dX11_add_27 : decode cX11_add 27 = .ok (.athrow, 1) := by decide +kernel
theorem dX11_add_28 : decode cX11_add 28 = .ok (.aload_n 0, 1) := by decide +kernel
theorem dX11_add_29 : decode cX11_add 29 = .ok (.getfield 19, 3) := by decide +kernel
theorem dX11_add_32 : decode cX11_add 32 = .ok (.getfield 121, 3) := by decide +kernel
theorem dX11_add_35 : decode cX11_add 35 = .ok (.iconst 1, 1) := by decide +kernel
theorem dX11_add_36 : decode cX11_add 36 = .ok (.iadd, 1) := by decide +kernel
theorem dX11_add_37 : decode cX11_add 37 = .ok (.istore_n 1, 1) := by decide +kernel
theorem dX11_add_38 : decode cX11_add 38 = .ok (.iload_n 1, 1) := by decide +kernel
theorem dX11_add_39 : decode cX11_add 39 = .ok (.bipush 12, 2) := by decide +kernel
theorem dX11_add_41 : decode cX11_add 41 = .ok (.if_icmp .gt 17, 3) := by decide +kernel
theorem dX11_add_44 : decode cX11_add 44 = .ok (.iload_n 1, 1) := by decide +kernel
theorem dX11_add_45 : decode cX11_add 45 = .ok (.aload_n 0, 1) := by decide +kernel
theorem dX11_add_46 : decode cX11_add 46 = .ok (.getfield 19, 3) := by decide +kernel
theorem dX11_add_49 : decode cX11_add 49 = .ok (.getfield 122, 3) := by decide +kernel
theorem dX11_add_52 : decode cX11_add 52 = .ok (.imul, 1) := by decide +kernel
theorem dX11_add_53 : decode cX11_add 53 = .ok (.bipush 24, 2) := by decide +kernel
theorem dX11_add_55 : decode cX11_add 55 = .ok (.if_icmp .le 13, 3) := by decide +kernel
theorem dX11_add_58 : decode cX11_add 58 = .ok (.new 98, 3) := by decide +kernel
theorem dX11_add_61 : decode cX11_add 61 = .ok (.dup, 1) := by decide +kernel
theorem dX11_add_62 : decode cX11_add 62 = .ok (.ldc 125, 2) := by decide +kernel
theorem dX11_add_64 : decode cX11_add 64 = .ok (.invokespecial 102, 3) := by decide +kernel
theorem dX11_add_67 : decode cX11_add 67 = .ok (.athrow, 1) := by decide +kernel
theorem dX11_add_68 : decode cX11_add 68 = .ok (.aload_n 0, 1) := by decide +kernel
theorem dX11_add_69 : decode cX11_add 69 = .ok (.getfield 19, 3) := by decide +kernel
theorem dX11_add_72 : decode cX11_add 72 = .ok (.iload_n 1, 1) := by decide +kernel
theorem dX11_add_73 : decode cX11_add 73 = .ok (.putfield 121, 3) := by decide +kernel
theorem dX11_add_76 : decode cX11_add 76 = .ok (.aload_n 0, 1) := by decide +kernel
theorem dX11_add_77 : decode cX11_add 77 = .ok (.getfield 19, 3) := by decide +kernel
theorem dX11_add_80 : decode cX11_add 80 = .ok (.iload_n 1, 1) := by decide +kernel
theorem dX11_add_81 : decode cX11_add 81 = .ok (.iconst 1, 1) := by decide +kernel
theorem dX11_add_82 : decode cX11_add 82 = .ok (.isub, 1) := by decide +kernel
theorem dX11_add_83 : decode cX11_add 83 = .ok (.invokevirtual 127, 3) := by decide +kernel
theorem dX11_add_86 : decode cX11_add 86 = .ok (.aload_n 0, 1) := by decide +kernel
theorem dX11_add_87 : decode cX11_add 87 = .ok (.getfield 12, 3) := by decide +kernel
theorem dX11_add_90 : decode cX11_add 90 = .ok (.invokevirtual 107, 3) := by decide +kernel
theorem dX11_add_93 : decode cX11_add 93 = .ok (.pop, 1) := by decide +kernel
theorem dX11_add_94 : decode cX11_add 94 = .ok (.aload_n 0, 1) := by decide +kernel
theorem dX11_add_95 : decode cX11_add 95 = .ok (.invokevirtual 131, 3) := by decide +kernel
theorem dX11_add_98 : decode cX11_add 98 = .ok (.iload_n 1, 1) := by decide +kernel
theorem dX11_add_99 : decode cX11_add 99 = .ok (.ireturn, 1) := by decide +kernel
theorem dX11_replace_0 : decode cX11_replace 0 = .ok (.iload_n 1, 1) := by decide +kernel
theorem dX11_replace_1 : decode cX11_replace 1 = .ok (.ifCond .lt 14, 3) := by decide +kernel
theorem dX11_replace_4 : decode cX11_replace 4 = .ok (.iload_n 1, 1) := by decide +kernel
theorem dX11_replace_5 : decode cX11_replace 5 = .ok (.aload_n 0, 1) := by decide +kernel
theorem dX11_replace_6 : decode cX11_replace 6 = .ok (.getfield 19, 3) := by decide +kernel
theorem dX11_replace_9 : decode cX11_replace 9 = .ok (.getfield 121, 3) := by decide +kernel
theorem dX11_replace_12 : decode cX11_replace 12 = .ok (.if_icmp .lt 13, 3) := by decide +kernel
theorem dX11_replace_15 : decode cX11_replace 15 = .ok (.new 134, 3) := by decide +kernel
theorem dX11_replace_18 : decode cX11_replace 18 = .ok (.dup, 1) := by decide +kernel
theorem dX11_replace_19 : decode cX11_replace 19 = .ok (.ldc 136, 2) := by decide +kernel
theorem dX11_replace_21 : decode cX11_replace 21 = .ok (.invokespecial 138, 3) := by decide +kernel
theorem dX11_replace_24 : decode cX11_replace 24 = .ok (.athrow, 1) := by decide +kernel
theorem dX11_replace_25 : decode cX11_replace 25 = .ok (.aload_n 0, 1) := by decide +kernel
theorem dX11_replace_26 : decode cX11_replace 26 = .ok (.getfield 12, 3) := by decide +kernel
theorem dX11_replace_29 : decode cX11_replace 29 = .ok (.aload_n 0, 1) := by decide +kernel
theorem dX11_replace_30 : decode cX11_replace 30 = .ok (.getfield 19, 3) := by decide +kernel
theorem dX11_replace_33 : decode cX11_replace 33 = .ok (.getfield 111, 3) := by decide +kernel
theorem dX11_replace_36 : decode cX11_replace 36 = .ok (.invokevirtual 115, 3) := by decide +kernel
theorem dX11_replace_39 : decode cX11_replace 39 = .ok (.iconst (-1), 1) := by decide +kernel
theorem dX11_replace_40 : decode cX11_replace 40 = .ok (.if_icmp .eq 13, 3) := by decide +kernel
theorem dX11_replace_43 : decode cX11_replace 43 = .ok (.new 88, 3) := by decide +kernel
theorem dX11_replace_46 : decode cX11_replace 46 = .ok (.dup, 1) := by decide +kernel
theorem dX11_replace_47 : decode cX11_replace 47 = .ok (.ldc 119, 2) := by decide +kernel
theorem dX11_replace_49 : decode cX11_replace 49 = .ok (.invokespecial 92, 3) := by decide +kernel
theorem dX11_replace_52 : decode cX11_replace 52 = .ok (.athrow, 1) := by decide +kernel
theorem dX11_replace_53 : decode cX11_replace 53 = .ok (.aload_n 0, 1) := by decide +kernel
theorem dX11_replace_54 : decode cX11_replace 54 = .ok (.getfield 19, 3) := by decide +kernel
theorem dX11_replace_57 : decode cX11_replace 57 = .ok (.iload_n 1, 1) := by decide +kernel
theorem dX11_replace_58 : decode cX11_replace 58 = .ok (.invokevirtual 127, 3) := by decide +kernel
theorem dX11_replace_61 : decode cX11_replace 61 = .ok (.aload_n 0, 1) := by decide +kernel
theorem dX11_replace_62 : decode cX11_replace 62 = .ok (.getfield 12, 3) := by decide +kernel
theorem dX11_replace_65 : decode cX11_replace 65 = .ok (.invokevirtual 107, 3) := by decide +kernel
theorem dX11_replace_68 : decode cX11_replace 68 = .ok (.pop, 1) := by decide +kernel
theorem dX11_replace_69 : decode cX11_replace 69 = .ok (.aload_n 0, 1) := by decide +kernel
theorem dX11_replace_70 : decode cX11_replace 70 = .ok (.invokevirtual 131, 3) := by decide +kernel
theorem dX11_replace_73 : decode cX11_replace 73 = .ok (.aload_n 0, 1) := by decide +kernel
theorem dX11_replace_74 : decode cX11_replace 74 = .ok (.iconst 1, 1) := by decide +kernel
theorem dX11_replace_75 : decode cX11_replace 75 = .ok (.invokevirtual 139, 3) := by decide +kernel
theorem dX11_replace_78 : decode cX11_replace 78 = .ok (.aload_n 0, 1) := by decide +kernel
theorem dX11_replace_79 : decode cX11_replace 79 = .ok (.getfield 33, 3) := by decide +kernel
theorem dX11_replace_82 : decode cX11_replace 82 = .ok (.getfield 142, 3) := by decide +kernel
theorem dX11_replace_85 : decode cX11_replace 85 = .ok (.ireturn, 1) := by decide +kernel
theorem dX11_setTurns_0 : decode cX11_setTurns 0 = .ok (.iload_n 1, 1) := by decide +kernel
theorem dX11_setTurns_1 : decode cX11_setTurns 1 = .ok (.iconst 1, 1) := by decide +kernel
theorem dX11_setTurns_2 : decode cX11_setTurns 2 = .ok (.bipush 16, 2) := by decide +kernel
theorem dX11_setTurns_4 : decode cX11_setTurns 4 = .ok (.invokestatic 143, 3) := by decide +kernel
theorem dX11_setTurns_7 : decode cX11_setTurns 7 = .ok (.ifCond .ne 13, 3) := by decide +kernel
theorem dX11_setTurns_10 : decode cX11_setTurns 10 = .ok (.new 88, 3) := by decide +kernel
theorem dX11_setTurns_13 : decode cX11_setTurns 13 = .ok (.dup, 1) := by decide +kernel
theorem dX11_setTurns_14 : decode cX11_setTurns 14 = .ok (.ldc 147, 2) := by decide +kernel
theorem dX11_setTurns_16 : decode cX11_setTurns 16 = .ok (.invokespecial 92, 3) := by decide +kernel
theorem dX11_setTurns_19 : decode cX11_setTurns 19 = .ok (.athrow, 1) := by decide +kernel
theorem dX11_setTurns_20 : decode cX11_setTurns 20 = .ok (.iload_n 1, 1) := by decide +kernel
theorem dX11_setTurns_21 : decode cX11_setTurns 21 = .ok (.aload_n 0, 1) := by decide +kernel
theorem dX11_setTurns_22 : decode cX11_setTurns 22 = .ok (.getfield 19, 3) := by decide +kernel
theorem dX11_setTurns_25 : decode cX11_setTurns 25 = .ok (.getfield 122, 3) := by decide +kernel
theorem dX11_setTurns_28 : decode cX11_setTurns 28 = .ok (.invokestatic 149, 3) := by decide +kernel
theorem dX11_setTurns_31 : decode cX11_setTurns 31 = .ok (.ifCond .ne 13, 3) := by decide +kernel
theorem dX11_setTurns_34 : decode cX11_setTurns 34 = .ok (.new 153, 3) := by decide +kernel
theorem dX11_setTurns_37 : decode cX11_setTurns 37 = .ok (.dup, 1) := by decide +kernel
theorem dX11_setTurns_38 : decode cX11_setTurns 38 = .ok (.ldc 155, 2) := by decide +kernel
theorem dX11_setTurns_40 : decode cX11_setTurns 40 = .ok (.invokespecial 157, 3) := by decide +kernel
theorem dX11_setTurns_43 : decode cX11_setTurns 43 = .ok (.athrow, 1) := by decide +kernel
theorem dX11_setTurns_44 : decode cX11_setTurns 44 = .ok (.aload_n 0, 1) := by decide +kernel
theorem dX11_setTurns_45 : decode cX11_setTurns 45 = .ok (.getfield 19, 3) := by decide +kernel
theorem dX11_setTurns_48 : decode cX11_setTurns 48 = .ok (.getfield 158, 3) := by decide +kernel
theorem dX11_setTurns_51 : decode cX11_setTurns 51 = .ok (.istore_n 2, 1) := by decide +kernel
theorem dX11_setTurns_52 : decode cX11_setTurns 52 = .ok (.aload_n 0, 1) := by decide +kernel
theorem dX11_setTurns_53 : decode cX11_setTurns 53 = .ok (.getfield 19, 3) := by decide +kernel
theorem dX11_setTurns_56 : decode cX11_setTurns 56 = .ok (.iload_n 1, 1) := by decide +kernel
theorem dX11_setTurns_57 : decode cX11_setTurns 57 = .ok (.putfield 158, 3) := by decide +kernel
theorem dX11_setTurns_60 : decode cX11_setTurns 60 = .ok (.aload_n 0, 1) := by decide +kernel
theorem dX11_setTurns_61 : decode cX11_setTurns 61 = .ok (.invokevirtual 161, 3) := by decide +kernel
theorem dX11_setTurns_64 : decode cX11_setTurns 64 = .ok (.iload_n 2, 1) := by decide +kernel
theorem dX11_setTurns_65 : decode cX11_setTurns 65 = .ok (.ireturn, 1) := by decide +kernel
theorem dX11_setBits_0 : decode cX11_setBits 0 = .ok (.iload_n 1, 1) := by decide +kernel
theorem dX11_setBits_1 : decode cX11_setBits 1 = .ok (.iconst 1, 1) := by decide +kernel
theorem dX11_setBits_2 : decode cX11_setBits 2 = .ok (.bipush 16, 2) := by decide +kernel
theorem dX11_setBits_4 : decode cX11_setBits 4 = .ok (.invokestatic 143, 3) := by decide +kernel
theorem dX11_setBits_7 : decode cX11_setBits 7 = .ok (.ifCond .ne 13, 3) := by decide +kernel
theorem dX11_setBits_10 : decode cX11_setBits 10 = .ok (.new 88, 3) := by decide +kernel
theorem dX11_setBits_13 : decode cX11_setBits 13 = .ok (.dup, 1) := by decide +kernel
theorem dX11_setBits_14 : decode cX11_setBits 14 = .ok (.ldc 164, 2) := by decide +kernel
theorem dX11_setBits_16 : decode cX11_setBits 16 = .ok (.invokespecial 92, 3) := by decide +kernel
theorem dX11_setBits_19 : decode cX11_setBits 19 = .ok (.athrow, 1) := by decide +kernel
theorem dX11_setBits_20 : decode cX11_setBits 20 = .ok (.aload_n 0, 1) := by decide +kernel
theorem dX11_setBits_21 : decode cX11_setBits 21 = .ok (.getfield 19, 3) := by decide +kernel
theorem dX11_setBits_24 : decode cX11_setBits 24 = .ok (.getfield 166, 3) := by decide +kernel
theorem dX11_setBits_27 : decode cX11_setBits 27 = .ok (.istore_n 2, 1) := by decide +kernel
theorem dX11_setBits_28 : decode cX11_setBits 28 = .ok (.aload_n 0, 1) := by decide +kernel
theorem dX11_setBits_29 : decode cX11_setBits 29 = .ok (.getfield 19, 3) := by decide +kernel
theorem dX11_setBits_32 : decode cX11_setBits 32 = .ok (.iload_n 1, 1) := by decide +kernel
theorem dX11_setBits_33 : decode cX11_setBits 33 = .ok (.putfield 166, 3) := by decide +kernel
theorem dX11_setBits_36 : decode cX11_setBits 36 = .ok (.aload_n 0, 1) := by decide +kernel
theorem dX11_setBits_37 : decode cX11_setBits 37 = .ok (.invokevirtual 161, 3) := by decide +kernel
theorem dX11_setBits_40 : decode cX11_setBits 40 = .ok (.iload_n 2, 1) := by decide +kernel
theorem dX11_setBits_41 : decode cX11_setBits 41 = .ok (.ireturn, 1) := by decide +kernel
theorem dX11_unroll_0 : decode cX11_unroll 0 = .ok (.iload_n 1, 1) := by decide +kernel
theorem dX11_unroll_1 : decode cX11_unroll 1 = .ok (.iconst 1, 1) := by decide +kernel
theorem dX11_unroll_2 : decode cX11_unroll 2 = .ok (.iconst 4, 1) := by decide +kernel
theorem dX11_unroll_3 : decode cX11_unroll 3 = .ok (.invokestatic 143, 3) := by decide +kernel
theorem dX11_unroll_6 : decode cX11_unroll 6 = .ok (.ifCond .ne 13, 3) := by decide +kernel
theorem dX11_unroll_9 : decode cX11_unroll 9 = .ok (.new 88, 3) := by decide +kernel
theorem dX11_unroll_12 : decode cX11_unroll 12 = .ok (.dup, 1) := by decide +kernel
theorem dX11_unroll_13 : decode cX11_unroll 13 = .ok (.ldc 169, 2) := by decide +kernel
theorem dX11_unroll_15 : decode cX11_unroll 15 = .ok (.invokespecial 92, 3) := by decide +kernel
theorem dX11_unroll_18 : decode cX11_unroll 18 = .ok (.athrow, 1) := by decide +kernel
theorem dX11_unroll_19 : decode cX11_unroll 19 = .ok (.aload_n 0, 1) := by decide +kernel
theorem dX11_unroll_20 : decode cX11_unroll 20 = .ok (.getfield 19, 3) := by decide +kernel
theorem dX11_unroll_23 : decode cX11_unroll 23 = .ok (.getfield 158, 3) := by decide +kernel
theorem dX11_unroll_26 : decode cX11_unroll 26 = .ok (.iload_n 1, 1) := by decide +kernel
theorem dX11_unroll_27 : decode cX11_unroll 27 = .ok (.invokestatic 149, 3) := by decide +kernel
theorem dX11_unroll_30 : decode cX11_unroll 30 = .ok (.ifCond .ne 13, 3) := by decide +kernel
theorem dX11_unroll_33 : decode cX11_unroll 33 = .ok (.new 153, 3) := by decide +kernel
theorem dX11_unroll_36 : decode cX11_unroll 36 = .ok (.dup, 1) := by decide +kernel
theorem dX11_unroll_37 : decode cX11_unroll 37 = .ok (.ldc 155, 2) := by decide +kernel
theorem dX11_unroll_39 : decode cX11_unroll 39 = .ok (.invokespecial 157, 3) := by decide +kernel
theorem dX11_unroll_42 : decode cX11_unroll 42 = .ok (.athrow, 1) := by decide +kernel
theorem dX11_unroll_43 : decode cX11_unroll 43 = .ok (.aload_n 0, 1) := by decide +kernel
theorem dX11_unroll_44 : decode cX11_unroll 44 = .ok (.getfield 19, 3) := by decide +kernel
theorem dX11_unroll_47 : decode cX11_unroll 47 = .ok (.getfield 121, 3) := by decide +kernel
theorem dX11_unroll_50 : decode cX11_unroll 50 = .ok (.iload_n 1, 1) := by decide +kernel
theorem dX11_unroll_51 : decode cX11_unroll 51 = .ok (.imul, 1) := by decide +kernel
theorem dX11_unroll_52 : decode cX11_unroll 52 = .ok (.bipush 24, 2) := by decide +kernel
theorem dX11_unroll_54 : decode cX11_unroll 54 = .ok (.if_icmp .le 13, 3) := by decide +kernel
theorem dX11_unroll_57 : decode cX11_unroll 57 = .ok (.new 98, 3) := by decide +kernel
theorem dX11_unroll_60 : decode cX11_unroll 60 = .ok (.dup, 1) := by decide +kernel
theorem dX11_unroll_61 : decode cX11_unroll 61 = .ok (.ldc 171, 2) := by decide +kernel
theorem dX11_unroll_63 : decode cX11_unroll 63 = .ok (.invokespecial 102, 3) := by decide +kernel
theorem dX11_unroll_66 : decode cX11_unroll 66 = .ok (.athrow, 1) := by decide +kernel
theorem dX11_unroll_67 : decode cX11_unroll 67 = .ok (.aload_n 0, 1) := by decide +kernel
theorem dX11_unroll_68 : decode cX11_unroll 68 = .ok (.getfield 19, 3) := by decide +kernel
theorem dX11_unroll_71 : decode cX11_unroll 71 = .ok (.iload_n 1, 1) := by decide +kernel
theorem dX11_unroll_72 : decode cX11_unroll 72 = .ok (.putfield 122, 3) := by decide +kernel
theorem dX11_unroll_75 : decode cX11_unroll 75 = .ok (.aload_n 0, 1) := by decide +kernel
theorem dX11_unroll_76 : decode cX11_unroll 76 = .ok (.invokevirtual 131, 3) := by decide +kernel
theorem dX11_unroll_79 : decode cX11_unroll 79 = .ok (.aload_n 0, 1) := by decide +kernel
theorem dX11_unroll_80 : decode cX11_unroll 80 = .ok (.iconst 1, 1) := by decide +kernel
theorem dX11_unroll_81 : decode cX11_unroll 81 = .ok (.invokevirtual 139, 3) := by decide +kernel
theorem dX11_unroll_84 : decode cX11_unroll 84 = .ok (.aload_n 0, 1) := by decide +kernel
theorem dX11_unroll_85 : decode cX11_unroll 85 = .ok (.getfield 33, 3) := by decide +kernel
theorem dX11_unroll_88 : decode cX11_unroll 88 = .ok (.getfield 142, 3) := by decide +kernel
theorem dX11_unroll_91 : decode cX11_unroll 91 = .ok (.ireturn, 1) := by decide +kernel
theorem dX11_input_0 : decode cX11_input 0 = .ok (.iload_n 1, 1) := by decide +kernel
theorem dX11_input_1 : decode cX11_input 1 = .ok (.iconst 0, 1) := by decide +kernel
theorem dX11_input_2 : decode cX11_input 2 = .ok (.ldc 173, 2) := by decide +kernel
theorem dX11_input_4 : decode cX11_input 4 = .ok (.invokestatic 143, 3) := by decide +kernel
theorem dX11_input_7 : decode cX11_input 7 = .ok (.ifCond .ne 13, 3) := by decide +kernel
theorem dX11_input_10 : decode cX11_input 10 = .ok (.new 88, 3) := by decide +kernel
theorem dX11_input_13 : decode cX11_input 13 = .ok (.dup, 1) := by decide +kernel
theorem dX11_input_14 : decode cX11_input 14 = .ok (.ldc 174, 2) := by decide +kernel
theorem dX11_input_16 : decode cX11_input 16 = .ok (.invokespecial 92, 3) := by decide +kernel
theorem dX11_input_19 : decode cX11_input 19 = .ok (.athrow, 1) := by decide +kernel
theorem dX11_input_20 : decode cX11_input 20 = .ok (.aload_n 0, 1) := by decide +kernel
theorem dX11_input_21 : decode cX11_input 21 = .ok (.getfield 19, 3) := by decide +kernel
theorem dX11_input_24 : decode cX11_input 24 = .ok (.getfield 176, 3) := by decide +kernel
theorem dX11_input_27 : decode cX11_input 27 = .ok (.bipush 32, 2) := by decide +kernel
theorem dX11_input_29 : decode cX11_input 29 = .ok (.if_icmp .lt 13, 3) := by decide +kernel
theorem dX11_input_32 : decode cX11_input 32 = .ok (.new 98, 3) := by decide +kernel
theorem dX11_input_35 : decode cX11_input 35 = .ok (.dup, 1) := by decide +kernel
theorem dX11_input_36 : decode cX11_input 36 = .ok (.ldc 179, 2) := by decide +kernel
theorem dX11_input_38 : decode cX11_input 38 = .ok (.invokespecial 102, 3) := by decide +kernel
theorem dX11_input_41 : decode cX11_input 41 = .ok (.athrow, 1) := by decide +kernel
theorem dX11_input_42 : decode cX11_input 42 = .ok (.aload_n 0, 1) := by decide +kernel
theorem dX11_input_43 : decode cX11_input 43 = .ok (.getfield 19, 3) := by decide +kernel
theorem dX11_input_46 : decode cX11_input 46 = .ok (.getfield 181, 3) := by decide +kernel
theorem dX11_input_49 : decode cX11_input 49 = .ok (.aload_n 0, 1) := by decide +kernel
theorem dX11_input_50 : decode cX11_input 50 = .ok (.getfield 19, 3) := by decide +kernel
theorem dX11_input_53 : decode cX11_input 53 = .ok (.getfield 176, 3) := by decide +kernel
theorem dX11_input_56 : decode cX11_input 56 = .ok (.iload_n 1, 1) := by decide +kernel
theorem dX11_input_57 : decode cX11_input 57 = .ok (.iastore, 1) := by decide +kernel
theorem dX11_input_58 : decode cX11_input 58 = .ok (.aload_n 0, 1) := by decide +kernel
theorem dX11_input_59 : decode cX11_input 59 = .ok (.getfield 19, 3) := by decide +kernel
theorem dX11_input_62 : decode cX11_input 62 = .ok (.dup, 1) := by decide +kernel
theorem dX11_input_63 : decode cX11_input 63 = .ok (.getfield 176, 3) := by decide +kernel
theorem dX11_input_66 : decode cX11_input 66 = .ok (.iconst 1, 1) := by decide +kernel
theorem dX11_input_67 : decode cX11_input 67 = .ok (.iadd, 1) := by decide +kernel
theorem dX11_input_68 : decode cX11_input 68 = .ok (.putfield 176, 3) := by decide +kernel
theorem dX11_input_71 : decode cX11_input 71 = .ok (.aload_n 0, 1) := by decide +kernel
theorem dX11_input_72 : decode cX11_input 72 = .ok (.invokevirtual 161, 3) := by decide +kernel
theorem dX11_input_75 : decode cX11_input 75 = .ok (.aload_n 0, 1) := by decide +kernel
theorem dX11_input_76 : decode cX11_input 76 = .ok (.getfield 19, 3) := by decide +kernel
theorem dX11_input_79 : decode cX11_input 79 = .ok (.getfield 176, 3) := by decide +kernel
theorem dX11_input_82 : decode cX11_input 82 = .ok (.ireturn, 1) := by decide +kernel
theorem dX11_setMemory_0 : decode cX11_setMemory 0 = .ok (.iload_n 1, 1) := by decide +kernel
theorem dX11_setMemory_1 : decode cX11_setMemory 1 = .ok (.iload_n 2, 1) := by decide +kernel
theorem dX11_setMemory_2 : decode cX11_setMemory 2 = .ok (.invokestatic 185, 3) := by decide +kernel
theorem dX11_setMemory_5 : decode cX11_setMemory 5 = .ok (.ifCond .eq 13, 3) := by decide +kernel
theorem dX11_setMemory_8 : decode cX11_setMemory 8 = .ok (.iload_n 3, 1) := by decide +kernel
theorem dX11_setMemory_9 : decode cX11_setMemory 9 = .ok (.iconst 0, 1) := by decide +kernel
theorem dX11_setMemory_10 : decode cX11_setMemory 10 = .ok (.ldc 173, 2) := by decide +kernel
theorem dX11_setMemory_12 : decode cX11_setMemory 12 = .ok (.invokestatic 143, 3) := by decide +kernel
theorem dX11_setMemory_15 : decode cX11_setMemory 15 = .ok (.ifCond .ne 13, 3) := by decide +kernel
theorem dX11_setMemory_18 : decode cX11_setMemory 18 = .ok (.new 88, 3) := by decide +kernel
theorem dX11_setMemory_21 : decode cX11_setMemory 21 = .ok (.dup, 1) := by decide +kernel
theorem dX11_setMemory_22 : decode cX11_setMemory 22 = .ok (.ldc 189, 2) := by decide +kernel
theorem dX11_setMemory_24 : decode cX11_setMemory 24 = .ok (.invokespecial 92, 3) := by decide +kernel
theorem dX11_setMemory_27 : decode cX11_setMemory 27 = .ok (.athrow, 1) := by decide +kernel
theorem dX11_setMemory_28 : decode cX11_setMemory 28 = .ok (.aload_n 0, 1) := by decide +kernel
theorem dX11_setMemory_29 : decode cX11_setMemory 29 = .ok (.getfield 19, 3) := by decide +kernel
theorem dX11_setMemory_32 : decode cX11_setMemory 32 = .ok (.getfield 191, 3) := by decide +kernel
theorem dX11_setMemory_35 : decode cX11_setMemory 35 = .ok (.ldc 195, 2) := by decide +kernel
theorem dX11_setMemory_37 : decode cX11_setMemory 37 = .ok (.iload_n 1, 1) := by decide +kernel
theorem dX11_setMemory_38 : decode cX11_setMemory 38 = .ok (.invokevirtual 82, 3) := by decide +kernel
theorem dX11_setMemory_41 : decode cX11_setMemory 41 = .ok (.aaload, 1) := by decide +kernel
theorem dX11_setMemory_42 : decode cX11_setMemory 42 = .ok (.astore 4, 2) := by decide +kernel
theorem dX11_setMemory_44 : decode cX11_setMemory 44 = .ok (.aload 4, 2) := by decide +kernel
theorem dX11_setMemory_46 : decode cX11_setMemory 46 = .ok (.iload_n 2, 1) := by decide +kernel
theorem dX11_setMemory_47 : decode cX11_setMemory 47 = .ok (.iaload, 1) := by decide +kernel
theorem dX11_setMemory_48 : decode cX11_setMemory 48 = .ok (.istore 5, 2) := by decide +kernel
theorem dX11_setMemory_50 : decode cX11_setMemory 50 = .ok (.aload 4, 2) := by decide +kernel
theorem dX11_setMemory_52 : decode cX11_setMemory 52 = .ok (.iload_n 2, 1) := by decide +kernel
theorem dX11_setMemory_53 : decode cX11_setMemory 53 = .ok (.iload_n 3, 1) := by decide +kernel
theorem dX11_setMemory_54 : decode cX11_setMemory 54 = .ok (.iastore, 1) := by decide +kernel
theorem dX11_setMemory_55 : decode cX11_setMemory 55 = .ok (.aload_n 0, 1) := by decide +kernel
theorem dX11_setMemory_56 : decode cX11_setMemory 56 = .ok (.invokevirtual 161, 3) := by decide +kernel
theorem dX11_setMemory_59 : decode cX11_setMemory 59 = .ok (.iload 5, 2) := by decide +kernel
theorem dX11_setMemory_61 : decode cX11_setMemory 61 = .ok (.ireturn, 1) := by decide +kernel
theorem dX11_setUnits_0 : decode cX11_setUnits 0 = .ok (.ldc 197, 2) := by decide +kernel
theorem dX11_setUnits_2 : decode cX11_setUnits 2 = .ok (.iload_n 1, 1) := by decide +kernel
theorem dX11_setUnits_3 : decode cX11_setUnits 3 = .ok (.invokevirtual 82, 3) := by decide +kernel
theorem dX11_setUnits_6 : decode cX11_setUnits 6 = .ok (.istore_n 3, 1) := by decide +kernel
theorem dX11_setUnits_7 : decode cX11_setUnits 7 = .ok (.iload_n 3, 1) := by decide +kernel
theorem dX11_setUnits_8 : decode cX11_setUnits 8 = .ok (.ifCond .lt 12, 3) := by decide +kernel
theorem dX11_setUnits_11 : decode cX11_setUnits 11 = .ok (.iload_n 2, 1) := by decide +kernel
theorem dX11_setUnits_12 : decode cX11_setUnits 12 = .ok (.iconst 1, 1) := by decide +kernel
theorem dX11_setUnits_13 : decode cX11_setUnits 13 = .ok (.iconst 4, 1) := by decide +kernel
theorem dX11_setUnits_14 : decode cX11_setUnits 14 = .ok (.invokestatic 143, 3) := by decide +kernel
theorem dX11_setUnits_17 : decode cX11_setUnits 17 = .ok (.ifCond .ne 13, 3) := by decide +kernel
theorem dX11_setUnits_20 : decode cX11_setUnits 20 = .ok (.new 88, 3) := by decide +kernel
theorem dX11_setUnits_23 : decode cX11_setUnits 23 = .ok (.dup, 1) := by decide +kernel
theorem dX11_setUnits_24 : decode cX11_setUnits 24 = .ok (.ldc 199, 2) := by decide +kernel
theorem dX11_setUnits_26 : decode cX11_setUnits 26 = .ok (.invokespecial 92, 3) := by decide +kernel
theorem dX11_setUnits_29 : decode cX11_setUnits 29 = .ok (.athrow, 1) := by decide +kernel
theorem dX11_setUnits_30 : decode cX11_setUnits 30 = .ok (.iload_n 3, 1) := by decide +kernel
theorem dX11_setUnits_31 : decode cX11_setUnits 31 = .ok (.iconst 5, 1) := by decide +kernel
theorem dX11_setUnits_32 : decode cX11_setUnits 32 = .ok (.if_icmp .lt 18, 3) := by decide +kernel
theorem dX11_setUnits_35 : decode cX11_setUnits 35 = .ok (.iload_n 2, 1) := by decide +kernel
theorem dX11_setUnits_36 : decode cX11_setUnits 36 = .ok (.iconst 1, 1) := by decide +kernel
theorem dX11_setUnits_37 : decode cX11_setUnits 37 = .ok (.if_icmp .le 13, 3) := by decide +kernel
theorem dX11_setUnits_40 : decode cX11_setUnits 40 = .ok (.new 153, 3) := by decide +kernel
theorem dX11_setUnits_43 : decode cX11_setUnits 43 = .ok (.dup, 1) := by decide +kernel
theorem dX11_setUnits_44 : decode cX11_setUnits 44 = .ok (.ldc 201, 2) := by decide +kernel
theorem dX11_setUnits_46 : decode cX11_setUnits 46 = .ok (.invokespecial 157, 3) := by decide +kernel
theorem dX11_setUnits_49 : decode cX11_setUnits 49 = .ok (.athrow, 1) := by decide +kernel
theorem dX11_setUnits_50 : decode cX11_setUnits 50 = .ok (.aload_n 0, 1) := by decide +kernel
theorem dX11_setUnits_51 : decode cX11_setUnits 51 = .ok (.getfield 33, 3) := by decide +kernel
theorem dX11_setUnits_54 : decode cX11_setUnits 54 = .ok (.getfield 203, 3) := by decide +kernel
theorem dX11_setUnits_57 : decode cX11_setUnits 57 = .ok (.iload_n 3, 1) := by decide +kernel
theorem dX11_setUnits_58 : decode cX11_setUnits 58 = .ok (.iaload, 1) := by decide +kernel
theorem dX11_setUnits_59 : decode cX11_setUnits 59 = .ok (.istore 4, 2) := by decide +kernel
theorem dX11_setUnits_61 : decode cX11_setUnits 61 = .ok (.aload_n 0, 1) := by decide +kernel
theorem dX11_setUnits_62 : decode cX11_setUnits 62 = .ok (.getfield 33, 3) := by decide +kernel
theorem dX11_setUnits_65 : decode cX11_setUnits 65 = .ok (.getfield 203, 3) := by decide +kernel
theorem dX11_setUnits_68 : decode cX11_setUnits 68 = .ok (.iload_n 3, 1) := by decide +kernel
theorem dX11_setUnits_69 : decode cX11_setUnits 69 = .ok (.iload_n 2, 1) := by decide +kernel
theorem dX11_setUnits_70 : decode cX11_setUnits 70 = .ok (.iastore, 1) := by decide +kernel
theorem dX11_setUnits_71 : decode cX11_setUnits 71 = .ok (.aload_n 0, 1) := by decide +kernel
theorem dX11_setUnits_72 : decode cX11_setUnits 72 = .ok (.aload_n 0, 1) := by decide +kernel
theorem dX11_setUnits_73 : decode cX11_setUnits 73 = .ok (.getfield 72, 3) := by decide +kernel
theorem dX11_setUnits_76 : decode cX11_setUnits 76 = .ok (.iconst 2, 1) := by decide +kernel
theorem dX11_setUnits_77 : decode cX11_setUnits 77 = .ok (.invokestatic 206, 3) := by decide +kernel
theorem dX11_setUnits_80 : decode cX11_setUnits 80 = .ok (.putfield 72, 3) := by decide +kernel
theorem dX11_setUnits_83 : decode cX11_setUnits 83 = .ok (.iload 4, 2) := by decide +kernel
theorem dX11_setUnits_85 : decode cX11_setUnits 85 = .ok (.ireturn, 1) := by decide +kernel
theorem dX11_setCycles_0 : decode cX11_setCycles 0 = .ok (.ldc 197, 2) := by decide +kernel
theorem dX11_setCycles_2 : decode cX11_setCycles 2 = .ok (.iload_n 1, 1) := by decide +kernel
theorem dX11_setCycles_3 : decode cX11_setCycles 3 = .ok (.invokevirtual 82, 3) := by decide +kernel
theorem dX11_setCycles_6 : decode cX11_setCycles 6 = .ok (.istore_n 3, 1) := by decide +kernel
theorem dX11_setCycles_7 : decode cX11_setCycles 7 = .ok (.iload_n 3, 1) := by decide +kernel
theorem dX11_setCycles_8 : decode cX11_setCycles 8 = .ok (.ifCond .lt 12, 3) := by decide +kernel
theorem dX11_setCycles_11 : decode cX11_setCycles 11 = .ok (.iload_n 2, 1) := by decide +kernel
theorem dX11_setCycles_12 : decode cX11_setCycles 12 = .ok (.iconst 1, 1) := by decide +kernel
theorem dX11_setCycles_13 : decode cX11_setCycles 13 = .ok (.iconst 5, 1) := by decide +kernel
theorem dX11_setCycles_14 : decode cX11_setCycles 14 = .ok (.invokestatic 143, 3) := by decide +kernel
theorem dX11_setCycles_17 : decode cX11_setCycles 17 = .ok (.ifCond .ne 13, 3) := by decide +kernel
theorem dX11_setCycles_20 : decode cX11_setCycles 20 = .ok (.new 88, 3) := by decide +kernel
theorem dX11_setCycles_23 : decode cX11_setCycles 23 = .ok (.dup, 1) := by decide +kernel
theorem dX11_setCycles_24 : decode cX11_setCycles 24 = .ok (.ldc 212, 2) := by decide +kernel
theorem dX11_setCycles_26 : decode cX11_setCycles 26 = .ok (.invokespecial 92, 3) := by decide +kernel
theorem dX11_setCycles_29 : decode cX11_setCycles 29 = .ok (.athrow, 1) := by decide +kernel
theorem dX11_setCycles_30 : decode cX11_setCycles 30 = .ok (.aload_n 0, 1) := by decide +kernel
theorem dX11_setCycles_31 : decode cX11_setCycles 31 = .ok (.getfield 33, 3) := by decide +kernel
theorem dX11_setCycles_34 : decode cX11_setCycles 34 = .ok (.getfield 214, 3) := by decide +kernel
theorem dX11_setCycles_37 : decode cX11_setCycles 37 = .ok (.iload_n 3, 1) := by decide +kernel
theorem dX11_setCycles_38 : decode cX11_setCycles 38 = .ok (.iaload, 1) := by decide +kernel
theorem dX11_setCycles_39 : decode cX11_setCycles 39 = .ok (.istore 4, 2) := by decide +kernel
theorem dX11_setCycles_41 : decode cX11_setCycles 41 = .ok (.aload_n 0, 1) := by decide +kernel
theorem dX11_setCycles_42 : decode cX11_setCycles 42 = .ok (.getfield 33, 3) := by decide +kernel
theorem dX11_setCycles_45 : decode cX11_setCycles 45 = .ok (.getfield 214, 3) := by decide +kernel
theorem dX11_setCycles_48 : decode cX11_setCycles 48 = .ok (.iload_n 3, 1) := by decide +kernel
theorem dX11_setCycles_49 : decode cX11_setCycles 49 = .ok (.iload_n 2, 1) := by decide +kernel
theorem dX11_setCycles_50 : decode cX11_setCycles 50 = .ok (.iastore, 1) := by decide +kernel
theorem dX11_setCycles_51 : decode cX11_setCycles 51 = .ok (.aload_n 0, 1) := by decide +kernel
theorem dX11_setCycles_52 : decode cX11_setCycles 52 = .ok (.aload_n 0, 1) := by decide +kernel
theorem dX11_setCycles_53 : decode cX11_setCycles 53 = .ok (.getfield 72, 3) := by decide +kernel
theorem dX11_setCycles_56 : decode cX11_setCycles 56 = .ok (.iconst 1, 1) := by decide +kernel
theorem dX11_setCycles_57 : decode cX11_setCycles 57 = .ok (.invokestatic 206, 3) := by decide +kernel
theorem dX11_setCycles_60 : decode cX11_setCycles 60 = .ok (.putfield 72, 3) := by decide +kernel
theorem dX11_setCycles_63 : decode cX11_setCycles 63 = .ok (.iload 4, 2) := by decide +kernel
theorem dX11_setCycles_65 : decode cX11_setCycles 65 = .ok (.ireturn, 1) := by decide +kernel
theorem dX11_outputs_0 : decode cX11_outputs 0 = .ok (.aload_n 0, 1) := by decide +kernel
theorem dX11_outputs_1 : decode cX11_outputs 1 = .ok (.invokevirtual 217, 3) := by decide +kernel
theorem dX11_outputs_4 : decode cX11_outputs 4 = .ok (.aload_n 0, 1) := by decide +kernel
theorem dX11_outputs_5 : decode cX11_outputs 5 = .ok (.getfield 26, 3) := by decide +kernel
theorem dX11_outputs_8 : decode cX11_outputs 8 = .ok (.getfield 220, 3) := by decide +kernel
theorem dX11_outputs_11 : decode cX11_outputs 11 = .ok (.ireturn, 1) := by decide +kernel
theorem dX11_output_0 : decode cX11_output 0 = .ok (.aload_n 0, 1) := by decide +kernel
theorem dX11_output_1 : decode cX11_output 1 = .ok (.invokevirtual 217, 3) := by decide +kernel
theorem dX11_output_4 : decode cX11_output 4 = .ok (.iload_n 1, 1) := by decide +kernel
theorem dX11_output_5 : decode cX11_output 5 = .ok (.ifCond .lt 14, 3) := by decide +kernel
theorem dX11_output_8 : decode cX11_output 8 = .ok (.iload_n 1, 1) := by decide +kernel
theorem dX11_output_9 : decode cX11_output 9 = .ok (.aload_n 0, 1) := by decide +kernel
theorem dX11_output_10 : decode cX11_output 10 = .ok (.getfield 26, 3) := by decide +kernel
theorem dX11_output_13 : decode cX11_output 13 = .ok (.getfield 220, 3) := by decide +kernel
theorem dX11_output_16 : decode cX11_output 16 = .ok (.if_icmp .lt 13, 3) := by decide +kernel
theorem dX11_output_19 : decode cX11_output 19 = .ok (.new 134, 3) := by decide +kernel
theorem dX11_output_22 : decode cX11_output 22 = .ok (.dup, 1) := by decide +kernel
theorem dX11_output_23 : decode cX11_output 23 = .ok (.ldc 223, 2) := by decide +kernel
theorem dX11_output_25 : decode cX11_output 25 = .ok (.invokespecial 138, 3) := by decide +kernel
theorem dX11_output_28 : decode cX11_output 28 = .ok (.athrow, 1) := by decide +kernel
theorem dX11_output_29 : decode cX11_output 29 = .ok (.aload_n 0, 1) := by decide +kernel
theorem dX11_output_30 : decode cX11_output 30 = .ok (.getfield 26, 3) := by decide +kernel
theorem dX11_output_33 : decode cX11_output 33 = .ok (.getfield 225, 3) := by decide +kernel
theorem dX11_output_36 : decode cX11_output 36 = .ok (.iload_n 1, 1) := by decide +kernel
theorem dX11_output_37 : decode cX11_output 37 = .ok (.iaload, 1) := by decide +kernel
theorem dX11_output_38 : decode cX11_output 38 = .ok (.ireturn, 1) := by decide +kernel
theorem dX11_memoryAt_0 : decode cX11_memoryAt 0 = .ok (.iload_n 1, 1) := by decide +kernel
theorem dX11_memoryAt_1 : decode cX11_memoryAt 1 = .ok (.iload_n 2, 1) := by decide +kernel
theorem dX11_memoryAt_2 : decode cX11_memoryAt 2 = .ok (.invokestatic 185, 3) := by decide +kernel
theorem dX11_memoryAt_5 : decode cX11_memoryAt 5 = .ok (.ifCond .ne 13, 3) := by decide +kernel
theorem dX11_memoryAt_8 : decode cX11_memoryAt 8 = .ok (.new 88, 3) := by decide +kernel
theorem dX11_memoryAt_11 : decode cX11_memoryAt 11 = .ok (.dup, 1) := by decide +kernel
theorem dX11_memoryAt_12 : decode cX11_memoryAt 12 = .ok (.ldc 228, 2) := by decide +kernel
theorem dX11_memoryAt_14 : decode cX11_memoryAt 14 = .ok (.invokespecial 92, 3) := by decide +kernel
theorem dX11_memoryAt_17 : decode cX11_memoryAt 17 = .ok (.athrow, 1) := by decide +kernel
theorem dX11_memoryAt_18 : decode cX11_memoryAt 18 = .ok (.aload_n 0, 1) := by decide +kernel
theorem dX11_memoryAt_19 : decode cX11_memoryAt 19 = .ok (.invokevirtual 217, 3) := by decide +kernel
theorem dX11_memoryAt_22 : decode cX11_memoryAt 22 = .ok (.aload_n 0, 1) := by decide +kernel
theorem dX11_memoryAt_23 : decode cX11_memoryAt 23 = .ok (.getfield 26, 3) := by decide +kernel
theorem dX11_memoryAt_26 : decode cX11_memoryAt 26 = .ok (.ldc 195, 2) := by decide +kernel
theorem dX11_memoryAt_28 : decode cX11_memoryAt 28 = .ok (.iload_n 1, 1) := by decide +kernel
theorem dX11_memoryAt_29 : decode cX11_memoryAt 29 = .ok (.invokevirtual 82, 3) := by decide +kernel
theorem dX11_memoryAt_32 : decode cX11_memoryAt 32 = .ok (.iload_n 2, 1) := by decide +kernel
theorem dX11_memoryAt_33 : decode cX11_memoryAt 33 = .ok (.invokevirtual 230, 3) := by decide +kernel
theorem dX11_memoryAt_36 : decode cX11_memoryAt 36 = .ok (.ireturn, 1) := by decide +kernel
theorem dX11_register_0 : decode cX11_register 0 = .ok (.iload_n 1, 1) := by decide +kernel
theorem dX11_register_1 : decode cX11_register 1 = .ok (.bipush 97, 2) := by decide +kernel
theorem dX11_register_3 : decode cX11_register 3 = .ok (.bipush 104, 2) := by decide +kernel
theorem dX11_register_5 : decode cX11_register 5 = .ok (.invokestatic 143, 3) := by decide +kernel
theorem dX11_register_8 : decode cX11_register 8 = .ok (.ifCond .ne 13, 3) := by decide +kernel
theorem dX11_register_11 : decode cX11_register 11 = .ok (.new 88, 3) := by decide +kernel
theorem dX11_register_14 : decode cX11_register 14 = .ok (.dup, 1) := by decide +kernel
theorem dX11_register_15 : decode cX11_register 15 = .ok (.ldc 233, 2) := by decide +kernel
theorem dX11_register_17 : decode cX11_register 17 = .ok (.invokespecial 92, 3) := by decide +kernel
theorem dX11_register_20 : decode cX11_register 20 = .ok (.athrow, 1) := by decide +kernel
theorem dX11_register_21 : decode cX11_register 21 = .ok (.aload_n 0, 1) := by decide +kernel
theorem dX11_register_22 : decode cX11_register 22 = .ok (.invokevirtual 217, 3) := by decide +kernel
theorem dX11_register_25 : decode cX11_register 25 = .ok (.aload_n 0, 1) := by decide +kernel
theorem dX11_register_26 : decode cX11_register 26 = .ok (.getfield 26, 3) := by decide +kernel
theorem dX11_register_29 : decode cX11_register 29 = .ok (.getfield 235, 3) := by decide +kernel
theorem dX11_register_32 : decode cX11_register 32 = .ok (.iload_n 1, 1) := by decide +kernel
theorem dX11_register_33 : decode cX11_register 33 = .ok (.bipush 97, 2) := by decide +kernel
theorem dX11_register_35 : decode cX11_register 35 = .ok (.isub, 1) := by decide +kernel
theorem dX11_register_36 : decode cX11_register 36 = .ok (.iaload, 1) := by decide +kernel
theorem dX11_register_37 : decode cX11_register 37 = .ok (.ireturn, 1) := by decide +kernel
theorem dX11_nodes_0 : decode cX11_nodes 0 = .ok (.aload_n 0, 1) := by decide +kernel
theorem dX11_nodes_1 : decode cX11_nodes 1 = .ok (.iconst 1, 1) := by decide +kernel
theorem dX11_nodes_2 : decode cX11_nodes 2 = .ok (.invokevirtual 139, 3) := by decide +kernel
theorem dX11_nodes_5 : decode cX11_nodes 5 = .ok (.aload_n 0, 1) := by decide +kernel
theorem dX11_nodes_6 : decode cX11_nodes 6 = .ok (.getfield 33, 3) := by decide +kernel
theorem dX11_nodes_9 : decode cX11_nodes 9 = .ok (.getfield 142, 3) := by decide +kernel
theorem dX11_nodes_12 : decode cX11_nodes 12 = .ok (.ireturn, 1) := by decide +kernel
theorem dX11_kindOf_0 : decode cX11_kindOf 0 = .ok (.aload_n 0, 1) := by decide +kernel
theorem dX11_kindOf_1 : decode cX11_kindOf 1 = .ok (.iconst 1, 1) := by decide +kernel
theorem dX11_kindOf_2 : decode cX11_kindOf 2 = .ok (.invokevirtual 139, 3) := by decide +kernel
theorem dX11_kindOf_5 : decode cX11_kindOf 5 = .ok (.aload_n 0, 1) := by decide +kernel
theorem dX11_kindOf_6 : decode cX11_kindOf 6 = .ok (.iload_n 1, 1) := by decide +kernel
theorem dX11_kindOf_7 : decode cX11_kindOf 7 = .ok (.invokevirtual 241, 3) := by decide +kernel
theorem dX11_kindOf_10 : decode cX11_kindOf 10 = .ok (.ldc 197, 2) := by decide +kernel
theorem dX11_kindOf_12 : decode cX11_kindOf 12 = .ok (.aload_n 0, 1) := by decide +kernel
theorem dX11_kindOf_13 : decode cX11_kindOf 13 = .ok (.getfield 33, 3) := by decide +kernel
theorem dX11_kindOf_16 : decode cX11_kindOf 16 = .ok (.getfield 244, 3) := by decide +kernel
theorem dX11_kindOf_19 : decode cX11_kindOf 19 = .ok (.iload_n 1, 1) := by decide +kernel
theorem dX11_kindOf_20 : decode cX11_kindOf 20 = .ok (.aaload, 1) := by decide +kernel
theorem dX11_kindOf_21 : decode cX11_kindOf 21 = .ok (.getfield 248, 3) := by decide +kernel
theorem dX11_kindOf_24 : decode cX11_kindOf 24 = .ok (.invokevirtual 253, 3) := by decide +kernel
theorem dX11_kindOf_27 : decode cX11_kindOf 27 = .ok (.ireturn, 1) := by decide +kernel
theorem dX11_statementOf_0 : decode cX11_statementOf 0 = .ok (.aload_n 0, 1) := by decide +kernel
theorem dX11_statementOf_1 : decode cX11_statementOf 1 = .ok (.iconst 1, 1) := by decide +kernel
theorem dX11_statementOf_2 : decode cX11_statementOf 2 = .ok (.invokevirtual 139, 3) := by decide +kernel
theorem dX11_statementOf_5 : decode cX11_statementOf 5 = .ok (.aload_n 0, 1) := by decide +kernel
theorem dX11_statementOf_6 : decode cX11_statementOf 6 = .ok (.iload_n 1, 1) := by decide +kernel
theorem dX11_statementOf_7 : decode cX11_statementOf 7 = .ok (.invokevirtual 241, 3) := by decide +kernel
theorem dX11_statementOf_10 : decode cX11_statementOf 10 = .ok (.aload_n 0, 1) := by decide +kernel
theorem dX11_statementOf_11 : decode cX11_statementOf 11 = .ok (.getfield 33, 3) := by decide +kernel
theorem dX11_statementOf_14 : decode cX11_statementOf 14 = .ok (.getfield 244, 3) := by decide +kernel
theorem dX11_statementOf_17 : decode cX11_statementOf 17 = .ok (.iload_n 1, 1) := by decide +kernel
theorem dX11_statementOf_18 : decode cX11_statementOf 18 = .ok (.aaload, 1) := by decide +kernel
theorem dX11_statementOf_19 : decode cX11_statementOf 19 = .ok (.getfield 257, 3) := by decide +kernel
theorem dX11_statementOf_22 : decode cX11_statementOf 22 = .ok (.ireturn, 1) := by decide +kernel
theorem dX11_edges_0 : decode cX11_edges 0 = .ok (.aload_n 0, 1) := by decide +kernel
theorem dX11_edges_1 : decode cX11_edges 1 = .ok (.iconst 2, 1) := by decide +kernel
theorem dX11_edges_2 : decode cX11_edges 2 = .ok (.invokevirtual 139, 3) := by decide +kernel
theorem dX11_edges_5 : decode cX11_edges 5 = .ok (.aload_n 0, 1) := by decide +kernel
theorem dX11_edges_6 : decode cX11_edges 6 = .ok (.getfield 40, 3) := by decide +kernel
theorem dX11_edges_9 : decode cX11_edges 9 = .ok (.getfield 260, 3) := by decide +kernel
theorem dX11_edges_12 : decode cX11_edges 12 = .ok (.ireturn, 1) := by decide +kernel
theorem dX11_weight_0 : decode cX11_weight 0 = .ok (.aload_n 0, 1) := by decide +kernel
theorem dX11_weight_1 : decode cX11_weight 1 = .ok (.iconst 2, 1) := by decide +kernel
theorem dX11_weight_2 : decode cX11_weight 2 = .ok (.invokevirtual 139, 3) := by decide +kernel
theorem dX11_weight_5 : decode cX11_weight 5 = .ok (.aload_n 0, 1) := by decide +kernel
theorem dX11_weight_6 : decode cX11_weight 6 = .ok (.iload_n 1, 1) := by decide +kernel
theorem dX11_weight_7 : decode cX11_weight 7 = .ok (.invokevirtual 241, 3) := by decide +kernel
theorem dX11_weight_10 : decode cX11_weight 10 = .ok (.aload_n 0, 1) := by decide +kernel
theorem dX11_weight_11 : decode cX11_weight 11 = .ok (.iload_n 2, 1) := by decide +kernel
theorem dX11_weight_12 : decode cX11_weight 12 = .ok (.invokevirtual 241, 3) := by decide +kernel
theorem dX11_weight_15 : decode cX11_weight 15 = .ok (.aload_n 0, 1) := by decide +kernel
theorem dX11_weight_16 : decode cX11_weight 16 = .ok (.getfield 40, 3) := by decide +kernel
theorem dX11_weight_19 : decode cX11_weight 19 = .ok (.iload_n 1, 1) := by decide +kernel
theorem dX11_weight_20 : decode cX11_weight 20 = .ok (.iload_n 2, 1) := by decide +kernel
theorem dX11_weight_21 : decode cX11_weight 21 = .ok (.iload_n 3, 1) := by decide +kernel
theorem dX11_weight_22 : decode cX11_weight 22 = .ok (.invokevirtual 261, 3) := by decide +kernel
theorem dX11_weight_25 : decode cX11_weight 25 = .ok (.istore 4, 2) := by decide +kernel
theorem dX11_weight_27 : decode cX11_weight 27 = .ok (.iload 4, 2) := by decide +kernel
theorem dX11_weight_29 : decode cX11_weight 29 = .ok (.iconst (-1), 1) := by decide +kernel
theorem dX11_weight_30 : decode cX11_weight 30 = .ok (.if_icmp .ne 14, 3) := by decide +kernel
theorem dX11_weight_33 : decode cX11_weight 33 = .ok (.new 265, 3) := by decide +kernel
theorem dX11_weight_36 : decode cX11_weight 36 = .ok (.dup, 1) := by decide +kernel
theorem dX11_weight_37 : decode cX11_weight 37 = .ok (.ldc_w 267, 3) := by decide +kernel
theorem dX11_weight_40 : decode cX11_weight 40 = .ok (.invokespecial 269, 3) := by decide +kernel
theorem dX11_weight_43 : decode cX11_weight 43 = .ok (.athrow, 1) := by decide +kernel
theorem dX11_weight_44 : decode cX11_weight 44 = .ok (.aload_n 0, 1) := by decide +kernel
theorem dX11_weight_45 : decode cX11_weight 45 = .ok (.getfield 40, 3) := by decide +kernel
theorem dX11_weight_48 : decode cX11_weight 48 = .ok (.getfield 270, 3) := by decide +kernel
theorem dX11_weight_51 : decode cX11_weight 51 = .ok (.iload_n 1, 1) := by decide +kernel
theorem dX11_weight_52 : decode cX11_weight 52 = .ok (.aaload, 1) := by decide +kernel
theorem dX11_weight_53 : decode cX11_weight 53 = .ok (.iload 4, 2) := by decide +kernel
theorem dX11_weight_55 : decode cX11_weight 55 = .ok (.iaload, 1) := by decide +kernel
theorem dX11_weight_56 : decode cX11_weight 56 = .ok (.ireturn, 1) := by decide +kernel
theorem dX11_soon_0 : decode cX11_soon 0 = .ok (.aload_n 0, 1) := by decide +kernel
theorem dX11_soon_1 : decode cX11_soon 1 = .ok (.iconst 3, 1) := by decide +kernel
theorem dX11_soon_2 : decode cX11_soon 2 = .ok (.invokevirtual 139, 3) := by decide +kernel
theorem dX11_soon_5 : decode cX11_soon 5 = .ok (.aload_n 0, 1) := by decide +kernel
theorem dX11_soon_6 : decode cX11_soon 6 = .ok (.iload_n 1, 1) := by decide +kernel
theorem dX11_soon_7 : decode cX11_soon 7 = .ok (.invokevirtual 241, 3) := by decide +kernel
theorem dX11_soon_10 : decode cX11_soon 10 = .ok (.aload_n 0, 1) := by decide +kernel
theorem dX11_soon_11 : decode cX11_soon 11 = .ok (.getfield 47, 3) := by decide +kernel
theorem dX11_soon_14 : decode cX11_soon 14 = .ok (.getfield 273, 3) := by decide +kernel
theorem dX11_soon_17 : decode cX11_soon 17 = .ok (.iload_n 1, 1) := by decide +kernel
theorem dX11_soon_18 : decode cX11_soon 18 = .ok (.iaload, 1) := by decide +kernel
theorem dX11_soon_19 : decode cX11_soon 19 = .ok (.ireturn, 1) := by decide +kernel
theorem dX11_late_0 : decode cX11_late 0 = .ok (.aload_n 0, 1) := by decide +kernel
theorem dX11_late_1 : decode cX11_late 1 = .ok (.iconst 3, 1) := by decide +kernel
theorem dX11_late_2 : decode cX11_late 2 = .ok (.invokevirtual 139, 3) := by decide +kernel
theorem dX11_late_5 : decode cX11_late 5 = .ok (.aload_n 0, 1) := by decide +kernel
theorem dX11_late_6 : decode cX11_late 6 = .ok (.iload_n 1, 1) := by decide +kernel
theorem dX11_late_7 : decode cX11_late 7 = .ok (.invokevirtual 241, 3) := by decide +kernel
theorem dX11_late_10 : decode cX11_late 10 = .ok (.aload_n 0, 1) := by decide +kernel
theorem dX11_late_11 : decode cX11_late 11 = .ok (.getfield 47, 3) := by decide +kernel
theorem dX11_late_14 : decode cX11_late 14 = .ok (.getfield 276, 3) := by decide +kernel
theorem dX11_late_17 : decode cX11_late 17 = .ok (.iload_n 1, 1) := by decide +kernel
theorem dX11_late_18 : decode cX11_late 18 = .ok (.iaload, 1) := by decide +kernel
theorem dX11_late_19 : decode cX11_late 19 = .ok (.ireturn, 1) := by decide +kernel
theorem dX11_step_0 : decode cX11_step 0 = .ok (.aload_n 0, 1) := by decide +kernel
theorem dX11_step_1 : decode cX11_step 1 = .ok (.iconst 3, 1) := by decide +kernel
theorem dX11_step_2 : decode cX11_step 2 = .ok (.invokevirtual 139, 3) := by decide +kernel
theorem dX11_step_5 : decode cX11_step 5 = .ok (.aload_n 0, 1) := by decide +kernel
theorem dX11_step_6 : decode cX11_step 6 = .ok (.iload_n 1, 1) := by decide +kernel
theorem dX11_step_7 : decode cX11_step 7 = .ok (.invokevirtual 241, 3) := by decide +kernel
theorem dX11_step_10 : decode cX11_step 10 = .ok (.aload_n 0, 1) := by decide +kernel
theorem dX11_step_11 : decode cX11_step 11 = .ok (.getfield 47, 3) := by decide +kernel
theorem dX11_step_14 : decode cX11_step 14 = .ok (.getfield 279, 3) := by decide +kernel
theorem dX11_step_17 : decode cX11_step 17 = .ok (.iload_n 1, 1) := by decide +kernel
theorem dX11_step_18 : decode cX11_step 18 = .ok (.iaload, 1) := by decide +kernel
theorem dX11_step_19 : decode cX11_step 19 = .ok (.ireturn, 1) := by decide +kernel
theorem dX11_byRings_0 : decode cX11_byRings 0 = .ok (.aload_n 0, 1) := by decide +kernel
theorem dX11_byRings_1 : decode cX11_byRings 1 = .ok (.iconst 4, 1) := by decide +kernel
theorem dX11_byRings_2 : decode cX11_byRings 2 = .ok (.invokevirtual 139, 3) := by decide +kernel
theorem dX11_byRings_5 : decode cX11_byRings 5 = .ok (.aload_n 0, 1) := by decide +kernel
theorem dX11_byRings_6 : decode cX11_byRings 6 = .ok (.getfield 54, 3) := by decide +kernel
theorem dX11_byRings_9 : decode cX11_byRings 9 = .ok (.getfield 294, 3) := by decide +kernel
theorem dX11_byRings_12 : decode cX11_byRings 12 = .ok (.ireturn, 1) := by decide +kernel
theorem dX11_byUnits_0 : decode cX11_byUnits 0 = .ok (.aload_n 0, 1) := by decide +kernel
theorem dX11_byUnits_1 : decode cX11_byUnits 1 = .ok (.iconst 4, 1) := by decide +kernel
theorem dX11_byUnits_2 : decode cX11_byUnits 2 = .ok (.invokevirtual 139, 3) := by decide +kernel
theorem dX11_byUnits_5 : decode cX11_byUnits 5 = .ok (.aload_n 0, 1) := by decide +kernel
theorem dX11_byUnits_6 : decode cX11_byUnits 6 = .ok (.getfield 54, 3) := by decide +kernel
theorem dX11_byUnits_9 : decode cX11_byUnits 9 = .ok (.getfield 297, 3) := by decide +kernel
theorem dX11_byUnits_12 : decode cX11_byUnits 12 = .ok (.ireturn, 1) := by decide +kernel
theorem dX11_interval_0 : decode cX11_interval 0 = .ok (.aload_n 0, 1) := by decide +kernel
theorem dX11_interval_1 : decode cX11_interval 1 = .ok (.iconst 4, 1) := by decide +kernel
theorem dX11_interval_2 : decode cX11_interval 2 = .ok (.invokevirtual 139, 3) := by decide +kernel
theorem dX11_interval_5 : decode cX11_interval 5 = .ok (.aload_n 0, 1) := by decide +kernel
theorem dX11_interval_6 : decode cX11_interval 6 = .ok (.getfield 54, 3) := by decide +kernel
theorem dX11_interval_9 : decode cX11_interval 9 = .ok (.getfield 300, 3) := by decide +kernel
theorem dX11_interval_12 : decode cX11_interval 12 = .ok (.ireturn, 1) := by decide +kernel
theorem dX11_place_0 : decode cX11_place 0 = .ok (.aload_n 0, 1) := by decide +kernel
theorem dX11_place_1 : decode cX11_place 1 = .ok (.iconst 4, 1) := by decide +kernel
theorem dX11_place_2 : decode cX11_place 2 = .ok (.invokevirtual 139, 3) := by decide +kernel
theorem dX11_place_5 : decode cX11_place 5 = .ok (.aload_n 0, 1) := by decide +kernel
theorem dX11_place_6 : decode cX11_place 6 = .ok (.iload_n 1, 1) := by decide +kernel
theorem dX11_place_7 : decode cX11_place 7 = .ok (.invokevirtual 241, 3) := by decide +kernel
theorem dX11_place_10 : decode cX11_place 10 = .ok (.aload_n 0, 1) := by decide +kernel
theorem dX11_place_11 : decode cX11_place 11 = .ok (.getfield 54, 3) := by decide +kernel
theorem dX11_place_14 : decode cX11_place 14 = .ok (.getfield 307, 3) := by decide +kernel
theorem dX11_place_17 : decode cX11_place 17 = .ok (.iload_n 1, 1) := by decide +kernel
theorem dX11_place_18 : decode cX11_place 18 = .ok (.iaload, 1) := by decide +kernel
theorem dX11_place_19 : decode cX11_place 19 = .ok (.ireturn, 1) := by decide +kernel
theorem dX11_circuitOutputs_0 : decode cX11_circuitOutputs 0 = .ok (.aload_n 0, 1) := by decide +kernel
theorem dX11_circuitOutputs_1 : decode cX11_circuitOutputs 1 = .ok (.iconst 5, 1) := by decide +kernel
theorem dX11_circuitOutputs_2 : decode cX11_circuitOutputs 2 = .ok (.invokevirtual 139, 3) := by decide +kernel
theorem dX11_circuitOutputs_5 : decode cX11_circuitOutputs 5 = .ok (.aload_n 0, 1) := by decide +kernel
theorem dX11_circuitOutputs_6 : decode cX11_circuitOutputs 6 = .ok (.getfield 61, 3) := by decide +kernel
theorem dX11_circuitOutputs_9 : decode cX11_circuitOutputs 9 = .ok (.getfield 319, 3) := by decide +kernel
theorem dX11_circuitOutputs_12 : decode cX11_circuitOutputs 12 = .ok (.getfield 220, 3) := by decide +kernel
theorem dX11_circuitOutputs_15 : decode cX11_circuitOutputs 15 = .ok (.ireturn, 1) := by decide +kernel
theorem dX11_circuitOutput_0 : decode cX11_circuitOutput 0 = .ok (.aload_n 0, 1) := by decide +kernel
theorem dX11_circuitOutput_1 : decode cX11_circuitOutput 1 = .ok (.iconst 5, 1) := by decide +kernel
theorem dX11_circuitOutput_2 : decode cX11_circuitOutput 2 = .ok (.invokevirtual 139, 3) := by decide +kernel
theorem dX11_circuitOutput_5 : decode cX11_circuitOutput 5 = .ok (.iload_n 1, 1) := by decide +kernel
theorem dX11_circuitOutput_6 : decode cX11_circuitOutput 6 = .ok (.ifCond .lt 17, 3) := by decide +kernel
theorem dX11_circuitOutput_9 : decode cX11_circuitOutput 9 = .ok (.iload_n 1, 1) := by decide +kernel
theorem dX11_circuitOutput_10 : decode cX11_circuitOutput 10 = .ok (.aload_n 0, 1) := by decide +kernel
theorem dX11_circuitOutput_11 : decode cX11_circuitOutput 11 = .ok (.getfield 61, 3) := by decide +kernel
theorem dX11_circuitOutput_14 : decode cX11_circuitOutput 14 = .ok (.getfield 319, 3) := by decide +kernel
theorem dX11_circuitOutput_17 : decode cX11_circuitOutput 17 = .ok (.getfield 220, 3) := by decide +kernel
theorem dX11_circuitOutput_20 : decode cX11_circuitOutput 20 = .ok (.if_icmp .lt 13, 3) := by decide +kernel
theorem dX11_circuitOutput_23 : decode cX11_circuitOutput 23 = .ok (.new 134, 3) := by decide +kernel
theorem dX11_circuitOutput_26 : decode cX11_circuitOutput 26 = .ok (.dup, 1) := by decide +kernel
theorem dX11_circuitOutput_27 : decode cX11_circuitOutput 27 = .ok (.ldc 223, 2) := by decide +kernel
theorem dX11_circuitOutput_29 : decode cX11_circuitOutput 29 = .ok (.invokespecial 138, 3) := by decide +kernel
theorem dX11_circuitOutput_32 : decode cX11_circuitOutput 32 = .ok (.athrow, 1) := by decide +kernel
theorem dX11_circuitOutput_33 : decode cX11_circuitOutput 33 = .ok (.aload_n 0, 1) := by decide +kernel
theorem dX11_circuitOutput_34 : decode cX11_circuitOutput 34 = .ok (.getfield 61, 3) := by decide +kernel
theorem dX11_circuitOutput_37 : decode cX11_circuitOutput 37 = .ok (.getfield 319, 3) := by decide +kernel
theorem dX11_circuitOutput_40 : decode cX11_circuitOutput 40 = .ok (.getfield 225, 3) := by decide +kernel
theorem dX11_circuitOutput_43 : decode cX11_circuitOutput 43 = .ok (.iload_n 1, 1) := by decide +kernel
theorem dX11_circuitOutput_44 : decode cX11_circuitOutput 44 = .ok (.iaload, 1) := by decide +kernel
theorem dX11_circuitOutput_45 : decode cX11_circuitOutput 45 = .ok (.ireturn, 1) := by decide +kernel
theorem dX11_circuitMemory_0 : decode cX11_circuitMemory 0 = .ok (.iload_n 1, 1) := by decide +kernel
theorem dX11_circuitMemory_1 : decode cX11_circuitMemory 1 = .ok (.iload_n 2, 1) := by decide +kernel
theorem dX11_circuitMemory_2 : decode cX11_circuitMemory 2 = .ok (.invokestatic 185, 3) := by decide +kernel
theorem dX11_circuitMemory_5 : decode cX11_circuitMemory 5 = .ok (.ifCond .ne 13, 3) := by decide +kernel
theorem dX11_circuitMemory_8 : decode cX11_circuitMemory 8 = .ok (.new 88, 3) := by decide +kernel
theorem dX11_circuitMemory_11 : decode cX11_circuitMemory 11 = .ok (.dup, 1) := by decide +kernel
theorem dX11_circuitMemory_12 : decode cX11_circuitMemory 12 = .ok (.ldc 228, 2) := by decide +kernel
theorem dX11_circuitMemory_14 : decode cX11_circuitMemory 14 = .ok (.invokespecial 92, 3) := by decide +kernel
theorem dX11_circuitMemory_17 : decode cX11_circuitMemory 17 = .ok (.athrow, 1) := by decide +kernel
theorem dX11_circuitMemory_18 : decode cX11_circuitMemory 18 = .ok (.aload_n 0, 1) := by decide +kernel
theorem dX11_circuitMemory_19 : decode cX11_circuitMemory 19 = .ok (.iconst 5, 1) := by decide +kernel
theorem dX11_circuitMemory_20 : decode cX11_circuitMemory 20 = .ok (.invokevirtual 139, 3) := by decide +kernel
theorem dX11_circuitMemory_23 : decode cX11_circuitMemory 23 = .ok (.aload_n 0, 1) := by decide +kernel
theorem dX11_circuitMemory_24 : decode cX11_circuitMemory 24 = .ok (.getfield 61, 3) := by decide +kernel
theorem dX11_circuitMemory_27 : decode cX11_circuitMemory 27 = .ok (.getfield 319, 3) := by decide +kernel
theorem dX11_circuitMemory_30 : decode cX11_circuitMemory 30 = .ok (.ldc 195, 2) := by decide +kernel
theorem dX11_circuitMemory_32 : decode cX11_circuitMemory 32 = .ok (.iload_n 1, 1) := by decide +kernel
theorem dX11_circuitMemory_33 : decode cX11_circuitMemory 33 = .ok (.invokevirtual 82, 3) := by decide +kernel
theorem dX11_circuitMemory_36 : decode cX11_circuitMemory 36 = .ok (.iload_n 2, 1) := by decide +kernel
theorem dX11_circuitMemory_37 : decode cX11_circuitMemory 37 = .ok (.invokevirtual 230, 3) := by decide +kernel
theorem dX11_circuitMemory_40 : decode cX11_circuitMemory 40 = .ok (.ireturn, 1) := by decide +kernel
theorem dX11_isSame_0 : decode cX11_isSame 0 = .ok (.aload_n 0, 1) := by decide +kernel
theorem dX11_isSame_1 : decode cX11_isSame 1 = .ok (.invokevirtual 217, 3) := by decide +kernel
theorem dX11_isSame_4 : decode cX11_isSame 4 = .ok (.aload_n 0, 1) := by decide +kernel
theorem dX11_isSame_5 : decode cX11_isSame 5 = .ok (.iconst 5, 1) := by decide +kernel
theorem dX11_isSame_6 : decode cX11_isSame 6 = .ok (.invokevirtual 139, 3) := by decide +kernel
theorem dX11_isSame_9 : decode cX11_isSame 9 = .ok (.aload_n 0, 1) := by decide +kernel
theorem dX11_isSame_10 : decode cX11_isSame 10 = .ok (.getfield 26, 3) := by decide +kernel
theorem dX11_isSame_13 : decode cX11_isSame 13 = .ok (.aload_n 0, 1) := by decide +kernel
theorem dX11_isSame_14 : decode cX11_isSame 14 = .ok (.getfield 61, 3) := by decide +kernel
theorem dX11_isSame_17 : decode cX11_isSame 17 = .ok (.getfield 319, 3) := by decide +kernel
theorem dX11_isSame_20 : decode cX11_isSame 20 = .ok (.invokevirtual 322, 3) := by decide +kernel
theorem dX11_isSame_23 : decode cX11_isSame 23 = .ok (.ireturn, 1) := by decide +kernel
theorem dX11_action_0 : decode cX11_action 0 = .ok (.iload_n 1, 1) := by decide +kernel
theorem dX11_action_1 : decode cX11_action 1 = .ok (.iconst 0, 1) := by decide +kernel
theorem dX11_action_2 : decode cX11_action 2 = .ok (.iconst 3, 1) := by decide +kernel
theorem dX11_action_3 : decode cX11_action 3 = .ok (.invokestatic 143, 3) := by decide +kernel
theorem dX11_action_6 : decode cX11_action 6 = .ok (.ifCond .eq 12, 3) := by decide +kernel
theorem dX11_action_9 : decode cX11_action 9 = .ok (.iload_n 2, 1) := by decide +kernel
theorem dX11_action_10 : decode cX11_action 10 = .ok (.iconst 0, 1) := by decide +kernel
theorem dX11_action_11 : decode cX11_action 11 = .ok (.iconst 3, 1) := by decide +kernel
theorem dX11_action_12 : decode cX11_action 12 = .ok (.invokestatic 143, 3) := by decide +kernel
theorem dX11_action_15 : decode cX11_action 15 = .ok (.ifCond .ne 14, 3) := by decide +kernel
theorem dX11_action_18 : decode cX11_action 18 = .ok (.new 88, 3) := by decide +kernel
theorem dX11_action_21 : decode cX11_action 21 = .ok (.dup, 1) := by decide +kernel
theorem dX11_action_22 : decode cX11_action 22 = .ok (.ldc_w 326, 3) := by decide +kernel
theorem dX11_action_25 : decode cX11_action 25 = .ok (.invokespecial 92, 3) := by decide +kernel
theorem dX11_action_28 : decode cX11_action 28 = .ok (.athrow, 1) := by decide +kernel
theorem dX11_action_29 : decode cX11_action 29 = .ok (.aload_n 0, 1) := by decide +kernel
theorem dX11_action_30 : decode cX11_action 30 = .ok (.getfield 68, 3) := by decide +kernel
theorem dX11_action_33 : decode cX11_action 33 = .ok (.getfield 328, 3) := by decide +kernel
theorem dX11_action_36 : decode cX11_action 36 = .ok (.iload_n 1, 1) := by decide +kernel
theorem dX11_action_37 : decode cX11_action 37 = .ok (.iaload, 1) := by decide +kernel
theorem dX11_action_38 : decode cX11_action 38 = .ok (.bipush 16, 2) := by decide +kernel
theorem dX11_action_40 : decode cX11_action 40 = .ok (.if_icmp .lt 14, 3) := by decide +kernel
theorem dX11_action_43 : decode cX11_action 43 = .ok (.new 98, 3) := by decide +kernel
theorem dX11_action_46 : decode cX11_action 46 = .ok (.dup, 1) := by decide +kernel
theorem dX11_action_47 : decode cX11_action 47 = .ok (.ldc_w 331, 3) := by decide +kernel
theorem dX11_action_50 : decode cX11_action 50 = .ok (.invokespecial 102, 3) := by decide +kernel
theorem dX11_action_53 : decode cX11_action 53 = .ok (.athrow, 1) := by decide +kernel
theorem dX11_action_54 : decode cX11_action 54 = .ok (.aload_n 0, 1) := by decide +kernel
theorem dX11_action_55 : decode cX11_action 55 = .ok (.getfield 68, 3) := by decide +kernel
theorem dX11_action_58 : decode cX11_action 58 = .ok (.iload_n 1, 1) := by decide +kernel
theorem dX11_action_59 : decode cX11_action 59 = .ok (.iload_n 2, 1) := by decide +kernel
theorem dX11_action_60 : decode cX11_action 60 = .ok (.iload_n 3, 1) := by decide +kernel
theorem dX11_action_61 : decode cX11_action 61 = .ok (.invokevirtual 333, 3) := by decide +kernel
theorem dX11_action_64 : decode cX11_action 64 = .ok (.ireturn, 1) := by decide +kernel
theorem dX11_setDepth_0 : decode cX11_setDepth 0 = .ok (.iload_n 1, 1) := by decide +kernel
theorem dX11_setDepth_1 : decode cX11_setDepth 1 = .ok (.iconst 0, 1) := by decide +kernel
theorem dX11_setDepth_2 : decode cX11_setDepth 2 = .ok (.iconst 3, 1) := by decide +kernel
theorem dX11_setDepth_3 : decode cX11_setDepth 3 = .ok (.invokestatic 143, 3) := by decide +kernel
theorem dX11_setDepth_6 : decode cX11_setDepth 6 = .ok (.ifCond .eq 13, 3) := by decide +kernel
theorem dX11_setDepth_9 : decode cX11_setDepth 9 = .ok (.iload_n 2, 1) := by decide +kernel
theorem dX11_setDepth_10 : decode cX11_setDepth 10 = .ok (.iconst 1, 1) := by decide +kernel
theorem dX11_setDepth_11 : decode cX11_setDepth 11 = .ok (.bipush 16, 2) := by decide +kernel
theorem dX11_setDepth_13 : decode cX11_setDepth 13 = .ok (.invokestatic 143, 3) := by decide +kernel
theorem dX11_setDepth_16 : decode cX11_setDepth 16 = .ok (.ifCond .ne 14, 3) := by decide +kernel
theorem dX11_setDepth_19 : decode cX11_setDepth 19 = .ok (.new 88, 3) := by decide +kernel
theorem dX11_setDepth_22 : decode cX11_setDepth 22 = .ok (.dup, 1) := by decide +kernel
theorem dX11_setDepth_23 : decode cX11_setDepth 23 = .ok (.ldc_w 336, 3) := by decide +kernel
theorem dX11_setDepth_26 : decode cX11_setDepth 26 = .ok (.invokespecial 92, 3) := by decide +kernel
theorem dX11_setDepth_29 : decode cX11_setDepth 29 = .ok (.athrow, 1) := by decide +kernel
theorem dX11_setDepth_30 : decode cX11_setDepth 30 = .ok (.aload_n 0, 1) := by decide +kernel
theorem dX11_setDepth_31 : decode cX11_setDepth 31 = .ok (.getfield 68, 3) := by decide +kernel
theorem dX11_setDepth_34 : decode cX11_setDepth 34 = .ok (.getfield 338, 3) := by decide +kernel
theorem dX11_setDepth_37 : decode cX11_setDepth 37 = .ok (.iload_n 1, 1) := by decide +kernel
theorem dX11_setDepth_38 : decode cX11_setDepth 38 = .ok (.iaload, 1) := by decide +kernel
theorem dX11_setDepth_39 : decode cX11_setDepth 39 = .ok (.istore_n 3, 1) := by decide +kernel
theorem dX11_setDepth_40 : decode cX11_setDepth 40 = .ok (.aload_n 0, 1) := by decide +kernel
theorem dX11_setDepth_41 : decode cX11_setDepth 41 = .ok (.getfield 68, 3) := by decide +kernel
theorem dX11_setDepth_44 : decode cX11_setDepth 44 = .ok (.getfield 338, 3) := by decide +kernel
theorem dX11_setDepth_47 : decode cX11_setDepth 47 = .ok (.iload_n 1, 1) := by decide +kernel
theorem dX11_setDepth_48 : decode cX11_setDepth 48 = .ok (.iload_n 2, 1) := by decide +kernel
theorem dX11_setDepth_49 : decode cX11_setDepth 49 = .ok (.iastore, 1) := by decide +kernel
theorem dX11_setDepth_50 : decode cX11_setDepth 50 = .ok (.iload_n 3, 1) := by decide +kernel
theorem dX11_setDepth_51 : decode cX11_setDepth 51 = .ok (.ireturn, 1) := by decide +kernel
theorem dX11_done_0 : decode cX11_done 0 = .ok (.aload_n 0, 1) := by decide +kernel
theorem dX11_done_1 : decode cX11_done 1 = .ok (.getfield 68, 3) := by decide +kernel
theorem dX11_done_4 : decode cX11_done 4 = .ok (.invokevirtual 341, 3) := by decide +kernel
theorem dX11_done_7 : decode cX11_done 7 = .ok (.aload_n 0, 1) := by decide +kernel
theorem dX11_done_8 : decode cX11_done 8 = .ok (.getfield 68, 3) := by decide +kernel
theorem dX11_done_11 : decode cX11_done 11 = .ok (.invokevirtual 344, 3) := by decide +kernel
theorem dX11_done_14 : decode cX11_done 14 = .ok (.ireturn, 1) := by decide +kernel
theorem dX11_waitsFor_0 : decode cX11_waitsFor 0 = .ok (.iload_n 1, 1) := by decide +kernel
theorem dX11_waitsFor_1 : decode cX11_waitsFor 1 = .ok (.iconst 0, 1) := by decide +kernel
theorem dX11_waitsFor_2 : decode cX11_waitsFor 2 = .ok (.iconst 3, 1) := by decide +kernel
theorem dX11_waitsFor_3 : decode cX11_waitsFor 3 = .ok (.invokestatic 143, 3) := by decide +kernel
theorem dX11_waitsFor_6 : decode cX11_waitsFor 6 = .ok (.ifCond .ne 14, 3) := by decide +kernel
theorem dX11_waitsFor_9 : decode cX11_waitsFor 9 = .ok (.new 88, 3) := by decide +kernel
theorem dX11_waitsFor_12 : decode cX11_waitsFor 12 = .ok (.dup, 1) := by decide +kernel
theorem dX11_waitsFor_13 : decode cX11_waitsFor 13 = .ok (.ldc_w 347, 3) := by decide +kernel
theorem dX11_waitsFor_16 : decode cX11_waitsFor 16 = .ok (.invokespecial 92, 3) := by decide +kernel
theorem dX11_waitsFor_19 : decode cX11_waitsFor 19 = .ok (.athrow, 1) := by decide +kernel
theorem dX11_waitsFor_20 : decode cX11_waitsFor 20 = .ok (.aload_n 0, 1) := by decide +kernel
theorem dX11_waitsFor_21 : decode cX11_waitsFor 21 = .ok (.getfield 68, 3) := by decide +kernel
theorem dX11_waitsFor_24 : decode cX11_waitsFor 24 = .ok (.invokevirtual 341, 3) := by decide +kernel
theorem dX11_waitsFor_27 : decode cX11_waitsFor 27 = .ok (.aload_n 0, 1) := by decide +kernel
theorem dX11_waitsFor_28 : decode cX11_waitsFor 28 = .ok (.getfield 68, 3) := by decide +kernel
theorem dX11_waitsFor_31 : decode cX11_waitsFor 31 = .ok (.iload_n 1, 1) := by decide +kernel
theorem dX11_waitsFor_32 : decode cX11_waitsFor 32 = .ok (.invokevirtual 349, 3) := by decide +kernel
theorem dX11_waitsFor_35 : decode cX11_waitsFor 35 = .ok (.ireturn, 1) := by decide +kernel
theorem dX11_areLocked_0 : decode cX11_areLocked 0 = .ok (.aload_n 0, 1) := by decide +kernel
theorem dX11_areLocked_1 : decode cX11_areLocked 1 = .ok (.getfield 68, 3) := by decide +kernel
theorem dX11_areLocked_4 : decode cX11_areLocked 4 = .ok (.invokevirtual 341, 3) := by decide +kernel
theorem dX11_areLocked_7 : decode cX11_areLocked 7 = .ok (.aload_n 0, 1) := by decide +kernel
theorem dX11_areLocked_8 : decode cX11_areLocked 8 = .ok (.getfield 68, 3) := by decide +kernel
theorem dX11_areLocked_11 : decode cX11_areLocked 11 = .ok (.invokevirtual 352, 3) := by decide +kernel
theorem dX11_areLocked_14 : decode cX11_areLocked 14 = .ok (.ireturn, 1) := by decide +kernel
theorem dX11_leastDepth_0 : decode cX11_leastDepth 0 = .ok (.aload_n 0, 1) := by decide +kernel
theorem dX11_leastDepth_1 : decode cX11_leastDepth 1 = .ok (.getfield 68, 3) := by decide +kernel
theorem dX11_leastDepth_4 : decode cX11_leastDepth 4 = .ok (.invokevirtual 356, 3) := by decide +kernel
theorem dX11_leastDepth_7 : decode cX11_leastDepth 7 = .ok (.istore_n 1, 1) := by decide +kernel
theorem dX11_leastDepth_8 : decode cX11_leastDepth 8 = .ok (.iload_n 1, 1) := by decide +kernel
theorem dX11_leastDepth_9 : decode cX11_leastDepth 9 = .ok (.iconst (-1), 1) := by decide +kernel
theorem dX11_leastDepth_10 : decode cX11_leastDepth 10 = .ok (.if_icmp .ne 14, 3) := by decide +kernel
theorem dX11_leastDepth_13 : decode cX11_leastDepth 13 = .ok (.new 265, 3) := by decide +kernel
theorem dX11_leastDepth_16 : decode cX11_leastDepth 16 = .ok (.dup, 1) := by decide +kernel
theorem dX11_leastDepth_17 : decode cX11_leastDepth 17 = .ok (.ldc_w 359, 3) := by decide +kernel
theorem dX11_leastDepth_20 : decode cX11_leastDepth 20 = .ok (.invokespecial 269, 3) := by decide +kernel
theorem dX11_leastDepth_23 : decode cX11_leastDepth 23 = .ok (.athrow, 1) := by decide +kernel
theorem dX11_leastDepth_24 : decode cX11_leastDepth 24 = .ok (.iload_n 1, 1) := by decide +kernel
theorem dX11_leastDepth_25 : decode cX11_leastDepth 25 = .ok (.ireturn, 1) := by decide +kernel
theorem dX11_busyShare_0 : decode cX11_busyShare 0 = .ok (.ldc 197, 2) := by decide +kernel
theorem dX11_busyShare_2 : decode cX11_busyShare 2 = .ok (.iload_n 1, 1) := by decide +kernel
theorem dX11_busyShare_3 : decode cX11_busyShare 3 = .ok (.invokevirtual 82, 3) := by decide +kernel
theorem dX11_busyShare_6 : decode cX11_busyShare 6 = .ok (.istore_n 2, 1) := by decide +kernel
theorem dX11_busyShare_7 : decode cX11_busyShare 7 = .ok (.iload_n 2, 1) := by decide +kernel
theorem dX11_busyShare_8 : decode cX11_busyShare 8 = .ok (.ifCond .ge 14, 3) := by decide +kernel
theorem dX11_busyShare_11 : decode cX11_busyShare 11 = .ok (.new 88, 3) := by decide +kernel
theorem dX11_busyShare_14 : decode cX11_busyShare 14 = .ok (.dup, 1) := by decide +kernel
theorem dX11_busyShare_15 : decode cX11_busyShare 15 = .ok (.ldc_w 365, 3) := by decide +kernel
theorem dX11_busyShare_18 : decode cX11_busyShare 18 = .ok (.invokespecial 92, 3) := by decide +kernel
theorem dX11_busyShare_21 : decode cX11_busyShare 21 = .ok (.athrow, 1) := by decide +kernel
theorem dX11_busyShare_22 : decode cX11_busyShare 22 = .ok (.aload_n 0, 1) := by decide +kernel
theorem dX11_busyShare_23 : decode cX11_busyShare 23 = .ok (.iconst 4, 1) := by decide +kernel
theorem dX11_busyShare_24 : decode cX11_busyShare 24 = .ok (.invokevirtual 139, 3) := by decide +kernel
theorem dX11_busyShare_27 : decode cX11_busyShare 27 = .ok (.aload_n 0, 1) := by decide +kernel
theorem dX11_busyShare_28 : decode cX11_busyShare 28 = .ok (.getfield 33, 3) := by decide +kernel
theorem dX11_busyShare_31 : decode cX11_busyShare 31 = .ok (.getfield 203, 3) := by decide +kernel
theorem dX11_busyShare_34 : decode cX11_busyShare 34 = .ok (.iload_n 2, 1) := by decide +kernel
theorem dX11_busyShare_35 : decode cX11_busyShare 35 = .ok (.iaload, 1) := by decide +kernel
theorem dX11_busyShare_36 : decode cX11_busyShare 36 = .ok (.aload_n 0, 1) := by decide +kernel
theorem dX11_busyShare_37 : decode cX11_busyShare 37 = .ok (.getfield 54, 3) := by decide +kernel
theorem dX11_busyShare_40 : decode cX11_busyShare 40 = .ok (.getfield 300, 3) := by decide +kernel
theorem dX11_busyShare_43 : decode cX11_busyShare 43 = .ok (.imul, 1) := by decide +kernel
theorem dX11_busyShare_44 : decode cX11_busyShare 44 = .ok (.istore_n 3, 1) := by decide +kernel
theorem dX11_busyShare_45 : decode cX11_busyShare 45 = .ok (.iload_n 3, 1) := by decide +kernel
theorem dX11_busyShare_46 : decode cX11_busyShare 46 = .ok (.iconst 1, 1) := by decide +kernel
theorem dX11_busyShare_47 : decode cX11_busyShare 47 = .ok (.if_icmp .ge 7, 3) := by decide +kernel
theorem dX11_busyShare_50 : decode cX11_busyShare 50 = .ok (.fconst 0, 1) := by decide +kernel
theorem dX11_busyShare_51 : decode cX11_busyShare 51 = .ok (.goto 16, 3) := by decide +kernel
theorem dX11_busyShare_54 : decode cX11_busyShare 54 = .ok (.aload_n 0, 1) := by decide +kernel
theorem dX11_busyShare_55 : decode cX11_busyShare 55 = .ok (.getfield 33, 3) := by decide +kernel
theorem dX11_busyShare_58 : decode cX11_busyShare 58 = .ok (.getfield 367, 3) := by decide +kernel
theorem dX11_busyShare_61 : decode cX11_busyShare 61 = .ok (.iload_n 2, 1) := by decide +kernel
theorem dX11_busyShare_62 : decode cX11_busyShare 62 = .ok (.iaload, 1) := by decide +kernel
theorem dX11_busyShare_63 : decode cX11_busyShare 63 = .ok (.i2f, 1) := by decide +kernel
theorem dX11_busyShare_64 : decode cX11_busyShare 64 = .ok (.iload_n 3, 1) := by decide +kernel
theorem dX11_busyShare_65 : decode cX11_busyShare 65 = .ok (.i2f, 1) := by decide +kernel
theorem dX11_busyShare_66 : decode cX11_busyShare 66 = .ok (.fdiv, 1) := by decide +kernel
theorem dX11_busyShare_67 : decode cX11_busyShare 67 = .ok (.freturn, 1) := by decide +kernel
theorem dX11_isSound_0 : decode cX11_isSound 0 = .ok (.aload_n 0, 1) := by decide +kernel
theorem dX11_isSound_1 : decode cX11_isSound 1 = .ok (.invokevirtual 217, 3) := by decide +kernel
theorem dX11_isSound_4 : decode cX11_isSound 4 = .ok (.aload_n 0, 1) := by decide +kernel
theorem dX11_isSound_5 : decode cX11_isSound 5 = .ok (.iconst 5, 1) := by decide +kernel
theorem dX11_isSound_6 : decode cX11_isSound 6 = .ok (.invokevirtual 139, 3) := by decide +kernel
theorem dX11_isSound_9 : decode cX11_isSound 9 = .ok (.aload_n 0, 1) := by decide +kernel
theorem dX11_isSound_10 : decode cX11_isSound 10 = .ok (.getfield 47, 3) := by decide +kernel
theorem dX11_isSound_13 : decode cX11_isSound 13 = .ok (.aload_n 0, 1) := by decide +kernel
theorem dX11_isSound_14 : decode cX11_isSound 14 = .ok (.getfield 33, 3) := by decide +kernel
theorem dX11_isSound_17 : decode cX11_isSound 17 = .ok (.aload_n 0, 1) := by decide +kernel
theorem dX11_isSound_18 : decode cX11_isSound 18 = .ok (.getfield 40, 3) := by decide +kernel
theorem dX11_isSound_21 : decode cX11_isSound 21 = .ok (.invokevirtual 375, 3) := by decide +kernel
theorem dX11_isSound_24 : decode cX11_isSound 24 = .ok (.ifCond .eq 56, 3) := by decide +kernel
theorem dX11_isSound_27 : decode cX11_isSound 27 = .ok (.aload_n 0, 1) := by decide +kernel
theorem dX11_isSound_28 : decode cX11_isSound 28 = .ok (.getfield 47, 3) := by decide +kernel
theorem dX11_isSound_31 : decode cX11_isSound 31 = .ok (.aload_n 0, 1) := by decide +kernel
theorem dX11_isSound_32 : decode cX11_isSound 32 = .ok (.getfield 33, 3) := by decide +kernel
theorem dX11_isSound_35 : decode cX11_isSound 35 = .ok (.invokevirtual 379, 3) := by decide +kernel
theorem dX11_isSound_38 : decode cX11_isSound 38 = .ok (.ifCond .eq 42, 3) := by decide +kernel
theorem dX11_isSound_41 : decode cX11_isSound 41 = .ok (.aload_n 0, 1) := by decide +kernel
theorem dX11_isSound_42 : decode cX11_isSound 42 = .ok (.getfield 54, 3) := by decide +kernel
theorem dX11_isSound_45 : decode cX11_isSound 45 = .ok (.aload_n 0, 1) := by decide +kernel
theorem dX11_isSound_46 : decode cX11_isSound 46 = .ok (.getfield 33, 3) := by decide +kernel
theorem dX11_isSound_49 : decode cX11_isSound 49 = .ok (.aload_n 0, 1) := by decide +kernel
theorem dX11_isSound_50 : decode cX11_isSound 50 = .ok (.getfield 40, 3) := by decide +kernel
theorem dX11_isSound_53 : decode cX11_isSound 53 = .ok (.invokevirtual 383, 3) := by decide +kernel
theorem dX11_isSound_56 : decode cX11_isSound 56 = .ok (.ifCond .eq 24, 3) := by decide +kernel
theorem dX11_isSound_59 : decode cX11_isSound 59 = .ok (.aload_n 0, 1) := by decide +kernel
theorem dX11_isSound_60 : decode cX11_isSound 60 = .ok (.getfield 26, 3) := by decide +kernel
theorem dX11_isSound_63 : decode cX11_isSound 63 = .ok (.aload_n 0, 1) := by decide +kernel
theorem dX11_isSound_64 : decode cX11_isSound 64 = .ok (.getfield 61, 3) := by decide +kernel
theorem dX11_isSound_67 : decode cX11_isSound 67 = .ok (.getfield 319, 3) := by decide +kernel
theorem dX11_isSound_70 : decode cX11_isSound 70 = .ok (.invokevirtual 322, 3) := by decide +kernel
theorem dX11_isSound_73 : decode cX11_isSound 73 = .ok (.ifCond .eq 7, 3) := by decide +kernel
theorem dX11_isSound_76 : decode cX11_isSound 76 = .ok (.iconst 1, 1) := by decide +kernel
theorem dX11_isSound_77 : decode cX11_isSound 77 = .ok (.goto 4, 3) := by decide +kernel
theorem dX11_isSound_80 : decode cX11_isSound 80 = .ok (.iconst 0, 1) := by decide +kernel
theorem dX11_isSound_81 : decode cX11_isSound 81 = .ok (.ireturn, 1) := by decide +kernel
theorem dX11_isWithin_0 : decode cX11_isWithin 0 = .ok (.iload_n 0, 1) := by decide +kernel
theorem dX11_isWithin_1 : decode cX11_isWithin 1 = .ok (.iload_n 1, 1) := by decide +kernel
theorem dX11_isWithin_2 : decode cX11_isWithin 2 = .ok (.if_icmp .lt 12, 3) := by decide +kernel
theorem dX11_isWithin_5 : decode cX11_isWithin 5 = .ok (.iload_n 0, 1) := by decide +kernel
theorem dX11_isWithin_6 : decode cX11_isWithin 6 = .ok (.iload_n 2, 1) := by decide +kernel
theorem dX11_isWithin_7 : decode cX11_isWithin 7 = .ok (.if_icmp .gt 7, 3) := by decide +kernel
theorem dX11_isWithin_10 : decode cX11_isWithin 10 = .ok (.iconst 1, 1) := by decide +kernel
theorem dX11_isWithin_11 : decode cX11_isWithin 11 = .ok (.goto 4, 3) := by decide +kernel
theorem dX11_isWithin_14 : decode cX11_isWithin 14 = .ok (.iconst 0, 1) := by decide +kernel
theorem dX11_isWithin_15 : decode cX11_isWithin 15 = .ok (.ireturn, 1) := by decide +kernel
theorem dX11_isDivided_0 : decode cX11_isDivided 0 = .ok (.iload_n 1, 1) := by decide +kernel
theorem dX11_isDivided_1 : decode cX11_isDivided 1 = .ok (.ifCond .le 13, 3) := by decide +kernel
theorem dX11_isDivided_4 : decode cX11_isDivided 4 = .ok (.iload_n 0, 1) := by decide +kernel
theorem dX11_isDivided_5 : decode cX11_isDivided 5 = .ok (.iload_n 1, 1) := by decide +kernel
theorem dX11_isDivided_6 : decode cX11_isDivided 6 = .ok (.irem, 1) := by decide +kernel
theorem dX11_isDivided_7 : decode cX11_isDivided 7 = .ok (.ifCond .ne 7, 3) := by decide +kernel
theorem dX11_isDivided_10 : decode cX11_isDivided 10 = .ok (.iconst 1, 1) := by decide +kernel
theorem dX11_isDivided_11 : decode cX11_isDivided 11 = .ok (.goto 4, 3) := by decide +kernel
theorem dX11_isDivided_14 : decode cX11_isDivided 14 = .ok (.iconst 0, 1) := by decide +kernel
theorem dX11_isDivided_15 : decode cX11_isDivided 15 = .ok (.ireturn, 1) := by decide +kernel
theorem dX11_isPlace_0 : decode cX11_isPlace 0 = .ok (.ldc 195, 2) := by decide +kernel
theorem dX11_isPlace_2 : decode cX11_isPlace 2 = .ok (.iload_n 0, 1) := by decide +kernel
theorem dX11_isPlace_3 : decode cX11_isPlace 3 = .ok (.invokevirtual 82, 3) := by decide +kernel
theorem dX11_isPlace_6 : decode cX11_isPlace 6 = .ok (.ifCond .lt 17, 3) := by decide +kernel
theorem dX11_isPlace_9 : decode cX11_isPlace 9 = .ok (.iload_n 1, 1) := by decide +kernel
theorem dX11_isPlace_10 : decode cX11_isPlace 10 = .ok (.iconst 0, 1) := by decide +kernel
theorem dX11_isPlace_11 : decode cX11_isPlace 11 = .ok (.bipush 15, 2) := by decide +kernel
theorem dX11_isPlace_13 : decode cX11_isPlace 13 = .ok (.invokestatic 143, 3) := by decide +kernel
theorem dX11_isPlace_16 : decode cX11_isPlace 16 = .ok (.ifCond .eq 7, 3) := by decide +kernel
theorem dX11_isPlace_19 : decode cX11_isPlace 19 = .ok (.iconst 1, 1) := by decide +kernel
theorem dX11_isPlace_20 : decode cX11_isPlace 20 = .ok (.goto 4, 3) := by decide +kernel
theorem dX11_isPlace_23 : decode cX11_isPlace 23 = .ok (.iconst 0, 1) := by decide +kernel
theorem dX11_isPlace_24 : decode cX11_isPlace 24 = .ok (.ireturn, 1) := by decide +kernel
theorem dX11_checkNode_0 : decode cX11_checkNode 0 = .ok (.iload_n 1, 1) := by decide +kernel
theorem dX11_checkNode_1 : decode cX11_checkNode 1 = .ok (.ifCond .lt 14, 3) := by decide +kernel
theorem dX11_checkNode_4 : decode cX11_checkNode 4 = .ok (.iload_n 1, 1) := by decide +kernel
theorem dX11_checkNode_5 : decode cX11_checkNode 5 = .ok (.aload_n 0, 1) := by decide +kernel
theorem dX11_checkNode_6 : decode cX11_checkNode 6 = .ok (.getfield 33, 3) := by decide +kernel
theorem dX11_checkNode_9 : decode cX11_checkNode 9 = .ok (.getfield 142, 3) := by decide +kernel
theorem dX11_checkNode_12 : decode cX11_checkNode 12 = .ok (.if_icmp .lt 14, 3) := by decide +kernel
theorem dX11_checkNode_15 : decode cX11_checkNode 15 = .ok (.new 134, 3) := by decide +kernel
theorem dX11_checkNode_18 : decode cX11_checkNode 18 = .ok (.dup, 1) := by decide +kernel
theorem dX11_checkNode_19 : decode cX11_checkNode 19 = .ok (.ldc_w 386, 3) := by decide +kernel
theorem dX11_checkNode_22 : decode cX11_checkNode 22 = .ok (.invokespecial 138, 3) := by decide +kernel
theorem dX11_checkNode_25 : decode cX11_checkNode 25 = .ok (.athrow, 1) := by decide +kernel
theorem dX11_checkNode_26 : decode cX11_checkNode 26 = .ok (.return_, 1) := by decide +kernel
theorem dX11_changeBody_0 : decode cX11_changeBody 0 = .ok (.aload_n 0, 1) := by decide +kernel
theorem dX11_changeBody_1 : decode cX11_changeBody 1 = .ok (.iconst 0, 1) := by decide +kernel
theorem dX11_changeBody_2 : decode cX11_changeBody 2 = .ok (.putfield 72, 3) := by decide +kernel
theorem dX11_changeBody_5 : decode cX11_changeBody 5 = .ok (.aload_n 0, 1) := by decide +kernel
theorem dX11_changeBody_6 : decode cX11_changeBody 6 = .ok (.iconst 0, 1) := by decide +kernel
theorem dX11_changeBody_7 : decode cX11_changeBody 7 = .ok (.putfield 76, 3) := by decide +kernel
theorem dX11_changeBody_10 : decode cX11_changeBody 10 = .ok (.return_, 1) := by decide +kernel
theorem dX11_changeValues_0 : decode cX11_changeValues 0 = .ok (.aload_n 0, 1) := by decide +kernel
theorem dX11_changeValues_1 : decode cX11_changeValues 1 = .ok (.aload_n 0, 1) := by decide +kernel
theorem dX11_changeValues_2 : decode cX11_changeValues 2 = .ok (.getfield 72, 3) := by decide +kernel
theorem dX11_changeValues_5 : decode cX11_changeValues 5 = .ok (.iconst 4, 1) := by decide +kernel
theorem dX11_changeValues_6 : decode cX11_changeValues 6 = .ok (.invokestatic 206, 3) := by decide +kernel
theorem dX11_changeValues_9 : decode cX11_changeValues 9 = .ok (.putfield 72, 3) := by decide +kernel
theorem dX11_changeValues_12 : decode cX11_changeValues 12 = .ok (.aload_n 0, 1) := by decide +kernel
theorem dX11_changeValues_13 : decode cX11_changeValues 13 = .ok (.iconst 0, 1) := by decide +kernel
theorem dX11_changeValues_14 : decode cX11_changeValues 14 = .ok (.putfield 76, 3) := by decide +kernel
theorem dX11_changeValues_17 : decode cX11_changeValues 17 = .ok (.return_, 1) := by decide +kernel
theorem dX11_carryOut_0 : decode cX11_carryOut 0 = .ok (.aload_n 0, 1) := by decide +kernel
theorem dX11_carryOut_1 : decode cX11_carryOut 1 = .ok (.getfield 76, 3) := by decide +kernel
theorem dX11_carryOut_4 : decode cX11_carryOut 4 = .ok (.ifCond .ne 19, 3) := by decide +kernel
theorem dX11_carryOut_7 : decode cX11_carryOut 7 = .ok (.aload_n 0, 1) := by decide +kernel
theorem dX11_carryOut_8 : decode cX11_carryOut 8 = .ok (.getfield 19, 3) := by decide +kernel
theorem dX11_carryOut_11 : decode cX11_carryOut 11 = .ok (.aload_n 0, 1) := by decide +kernel
theorem dX11_carryOut_12 : decode cX11_carryOut 12 = .ok (.getfield 26, 3) := by decide +kernel
theorem dX11_carryOut_15 : decode cX11_carryOut 15 = .ok (.invokevirtual 388, 3) := by decide +kernel
theorem dX11_carryOut_18 : decode cX11_carryOut 18 = .ok (.aload_n 0, 1) := by decide +kernel
theorem dX11_carryOut_19 : decode cX11_carryOut 19 = .ok (.iconst 1, 1) := by decide +kernel
theorem dX11_carryOut_20 : decode cX11_carryOut 20 = .ok (.putfield 76, 3) := by decide +kernel
theorem dX11_carryOut_23 : decode cX11_carryOut 23 = .ok (.return_, 1) := by decide +kernel
theorem dX11_prepare_0 : decode cX11_prepare 0 = .ok (.aload_n 0, 1) := by decide +kernel
theorem dX11_prepare_1 : decode cX11_prepare 1 = .ok (.getfield 72, 3) := by decide +kernel
theorem dX11_prepare_4 : decode cX11_prepare 4 = .ok (.iconst 1, 1) := by decide +kernel
theorem dX11_prepare_5 : decode cX11_prepare 5 = .ok (.if_icmp .ge 19, 3) := by decide +kernel
theorem dX11_prepare_8 : decode cX11_prepare 8 = .ok (.iload_n 1, 1) := by decide +kernel
theorem dX11_prepare_9 : decode cX11_prepare 9 = .ok (.iconst 1, 1) := by decide +kernel
theorem dX11_prepare_10 : decode cX11_prepare 10 = .ok (.if_icmp .lt 14, 3) := by decide +kernel
theorem dX11_prepare_13 : decode cX11_prepare 13 = .ok (.aload_n 0, 1) := by decide +kernel
theorem dX11_prepare_14 : decode cX11_prepare 14 = .ok (.getfield 33, 3) := by decide +kernel
theorem dX11_prepare_17 : decode cX11_prepare 17 = .ok (.aload_n 0, 1) := by decide +kernel
theorem dX11_prepare_18 : decode cX11_prepare 18 = .ok (.getfield 19, 3) := by decide +kernel
theorem dX11_prepare_21 : decode cX11_prepare 21 = .ok (.invokevirtual 391, 3) := by decide +kernel
theorem dX11_prepare_24 : decode cX11_prepare 24 = .ok (.aload_n 0, 1) := by decide +kernel
theorem dX11_prepare_25 : decode cX11_prepare 25 = .ok (.getfield 72, 3) := by decide +kernel
theorem dX11_prepare_28 : decode cX11_prepare 28 = .ok (.iconst 2, 1) := by decide +kernel
theorem dX11_prepare_29 : decode cX11_prepare 29 = .ok (.if_icmp .ge 26, 3) := by decide +kernel
theorem dX11_prepare_32 : decode cX11_prepare 32 = .ok (.iload_n 1, 1) := by decide +kernel
theorem dX11_prepare_33 : decode cX11_prepare 33 = .ok (.iconst 2, 1) := by decide +kernel
theorem dX11_prepare_34 : decode cX11_prepare 34 = .ok (.if_icmp .lt 21, 3) := by decide +kernel
theorem dX11_prepare_37 : decode cX11_prepare 37 = .ok (.aload_n 0, 1) := by decide +kernel
theorem dX11_prepare_38 : decode cX11_prepare 38 = .ok (.getfield 40, 3) := by decide +kernel
theorem dX11_prepare_41 : decode cX11_prepare 41 = .ok (.aload_n 0, 1) := by decide +kernel
theorem dX11_prepare_42 : decode cX11_prepare 42 = .ok (.getfield 33, 3) := by decide +kernel
theorem dX11_prepare_45 : decode cX11_prepare 45 = .ok (.aload_n 0, 1) := by decide +kernel
theorem dX11_prepare_46 : decode cX11_prepare 46 = .ok (.getfield 19, 3) := by decide +kernel
theorem dX11_prepare_49 : decode cX11_prepare 49 = .ok (.getfield 122, 3) := by decide +kernel
theorem dX11_prepare_52 : decode cX11_prepare 52 = .ok (.invokevirtual 395, 3) := by decide +kernel
theorem dX11_prepare_55 : decode cX11_prepare 55 = .ok (.aload_n 0, 1) := by decide +kernel
theorem dX11_prepare_56 : decode cX11_prepare 56 = .ok (.getfield 72, 3) := by decide +kernel
theorem dX11_prepare_59 : decode cX11_prepare 59 = .ok (.iconst 3, 1) := by decide +kernel
theorem dX11_prepare_60 : decode cX11_prepare 60 = .ok (.if_icmp .ge 23, 3) := by decide +kernel
theorem dX11_prepare_63 : decode cX11_prepare 63 = .ok (.iload_n 1, 1) := by decide +kernel
theorem dX11_prepare_64 : decode cX11_prepare 64 = .ok (.iconst 3, 1) := by decide +kernel
theorem dX11_prepare_65 : decode cX11_prepare 65 = .ok (.if_icmp .lt 18, 3) := by decide +kernel
theorem dX11_prepare_68 : decode cX11_prepare 68 = .ok (.aload_n 0, 1) := by decide +kernel
theorem dX11_prepare_69 : decode cX11_prepare 69 = .ok (.getfield 47, 3) := by decide +kernel
theorem dX11_prepare_72 : decode cX11_prepare 72 = .ok (.aload_n 0, 1) := by decide +kernel
theorem dX11_prepare_73 : decode cX11_prepare 73 = .ok (.getfield 33, 3) := by decide +kernel
theorem dX11_prepare_76 : decode cX11_prepare 76 = .ok (.aload_n 0, 1) := by decide +kernel
theorem dX11_prepare_77 : decode cX11_prepare 77 = .ok (.getfield 40, 3) := by decide +kernel
theorem dX11_prepare_80 : decode cX11_prepare 80 = .ok (.invokevirtual 399, 3) := by decide +kernel
theorem dX11_prepare_83 : decode cX11_prepare 83 = .ok (.aload_n 0, 1) := by decide +kernel
theorem dX11_prepare_84 : decode cX11_prepare 84 = .ok (.getfield 72, 3) := by decide +kernel
theorem dX11_prepare_87 : decode cX11_prepare 87 = .ok (.iconst 4, 1) := by decide +kernel
theorem dX11_prepare_88 : decode cX11_prepare 88 = .ok (.if_icmp .ge 23, 3) := by decide +kernel
theorem dX11_prepare_91 : decode cX11_prepare 91 = .ok (.iload_n 1, 1) := by decide +kernel
theorem dX11_prepare_92 : decode cX11_prepare 92 = .ok (.iconst 4, 1) := by decide +kernel
theorem dX11_prepare_93 : decode cX11_prepare 93 = .ok (.if_icmp .lt 18, 3) := by decide +kernel
theorem dX11_prepare_96 : decode cX11_prepare 96 = .ok (.aload_n 0, 1) := by decide +kernel
theorem dX11_prepare_97 : decode cX11_prepare 97 = .ok (.getfield 54, 3) := by decide +kernel
theorem dX11_prepare_100 : decode cX11_prepare 100 = .ok (.aload_n 0, 1) := by decide +kernel
theorem dX11_prepare_101 : decode cX11_prepare 101 = .ok (.getfield 33, 3) := by decide +kernel
theorem dX11_prepare_104 : decode cX11_prepare 104 = .ok (.aload_n 0, 1) := by decide +kernel
theorem dX11_prepare_105 : decode cX11_prepare 105 = .ok (.getfield 40, 3) := by decide +kernel
theorem dX11_prepare_108 : decode cX11_prepare 108 = .ok (.invokevirtual 403, 3) := by decide +kernel
theorem dX11_prepare_111 : decode cX11_prepare 111 = .ok (.aload_n 0, 1) := by decide +kernel
theorem dX11_prepare_112 : decode cX11_prepare 112 = .ok (.getfield 72, 3) := by decide +kernel
theorem dX11_prepare_115 : decode cX11_prepare 115 = .ok (.iconst 5, 1) := by decide +kernel
theorem dX11_prepare_116 : decode cX11_prepare 116 = .ok (.if_icmp .ge 27, 3) := by decide +kernel
theorem dX11_prepare_119 : decode cX11_prepare 119 = .ok (.iload_n 1, 1) := by decide +kernel
theorem dX11_prepare_120 : decode cX11_prepare 120 = .ok (.iconst 5, 1) := by decide +kernel
theorem dX11_prepare_121 : decode cX11_prepare 121 = .ok (.if_icmp .lt 22, 3) := by decide +kernel
theorem dX11_prepare_124 : decode cX11_prepare 124 = .ok (.aload_n 0, 1) := by decide +kernel
theorem dX11_prepare_125 : decode cX11_prepare 125 = .ok (.getfield 61, 3) := by decide +kernel
theorem dX11_prepare_128 : decode cX11_prepare 128 = .ok (.aload_n 0, 1) := by decide +kernel
theorem dX11_prepare_129 : decode cX11_prepare 129 = .ok (.getfield 19, 3) := by decide +kernel
theorem dX11_prepare_132 : decode cX11_prepare 132 = .ok (.aload_n 0, 1) := by decide +kernel
theorem dX11_prepare_133 : decode cX11_prepare 133 = .ok (.getfield 33, 3) := by decide +kernel
theorem dX11_prepare_136 : decode cX11_prepare 136 = .ok (.aload_n 0, 1) := by decide +kernel
theorem dX11_prepare_137 : decode cX11_prepare 137 = .ok (.getfield 54, 3) := by decide +kernel
theorem dX11_prepare_140 : decode cX11_prepare 140 = .ok (.invokevirtual 405, 3) := by decide +kernel
theorem dX11_prepare_143 : decode cX11_prepare 143 = .ok (.aload_n 0, 1) := by decide +kernel
theorem dX11_prepare_144 : decode cX11_prepare 144 = .ok (.aload_n 0, 1) := by decide +kernel
theorem dX11_prepare_145 : decode cX11_prepare 145 = .ok (.getfield 72, 3) := by decide +kernel
theorem dX11_prepare_148 : decode cX11_prepare 148 = .ok (.iload_n 1, 1) := by decide +kernel
theorem dX11_prepare_149 : decode cX11_prepare 149 = .ok (.invokestatic 409, 3) := by decide +kernel
theorem dX11_prepare_152 : decode cX11_prepare 152 = .ok (.putfield 72, 3) := by decide +kernel
theorem dX11_prepare_155 : decode cX11_prepare 155 = .ok (.return_, 1) := by decide +kernel
