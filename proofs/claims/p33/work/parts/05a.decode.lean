theorem dX0_init_0 : decode cX0_init 0 = .ok (.aload_n 0, 1) := by decide +kernel
theorem dX0_init_1 : decode cX0_init 1 = .ok (.invokespecial 3, 3) := by decide +kernel
theorem dX0_init_4 : decode cX0_init 4 = .ok (.return_, 1) := by decide +kernel
theorem dX0_part_0 : decode cX0_part 0 = .ok (.iload_n 1, 1) := by decide +kernel
theorem dX0_part_1 : decode cX0_part 1 = .ok (.tableswitch 51 0 3 #[31, 36, 41, 46], 31) := by decide +kernel
theorem dX0_part_32 : decode cX0_part 32 = .ok (.aload_n 0, 1) := by decide +kernel
theorem dX0_part_33 : decode cX0_part 33 = .ok (.getfield 9, 3) := by decide +kernel
theorem dX0_part_36 : decode cX0_part 36 = .ok (.ireturn, 1) := by decide +kernel
theorem dX0_part_37 : decode cX0_part 37 = .ok (.aload_n 0, 1) := by decide +kernel
theorem dX0_part_38 : decode cX0_part 38 = .ok (.getfield 15, 3) := by decide +kernel
theorem dX0_part_41 : decode cX0_part 41 = .ok (.ireturn, 1) := by decide +kernel
theorem dX0_part_42 : decode cX0_part 42 = .ok (.aload_n 0, 1) := by decide +kernel
theorem dX0_part_43 : decode cX0_part 43 = .ok (.getfield 18, 3) := by decide +kernel
theorem dX0_part_46 : decode cX0_part 46 = .ok (.ireturn, 1) := by decide +kernel
theorem dX0_part_47 : decode cX0_part 47 = .ok (.aload_n 0, 1) := by decide +kernel
theorem dX0_part_48 : decode cX0_part 48 = .ok (.getfield 21, 3) := by decide +kernel
theorem dX0_part_51 : decode cX0_part 51 = .ok (.ireturn, 1) := by decide +kernel
theorem dX0_part_52 : decode cX0_part 52 = .ok (.aload_n 0, 1) := by decide +kernel
theorem dX0_part_53 : decode cX0_part 53 = .ok (.getfield 24, 3) := by decide +kernel
theorem dX0_part_56 : decode cX0_part 56 = .ok (.ifnonnull 11, 3) := by decide +kernel
theorem dX0_part_59 : decode cX0_part 59 = .ok (.aload_n 0, 1) := by decide +kernel
theorem dX0_part_60 : decode cX0_part 60 = .ok (.iload_n 1, 1) := by decide +kernel
theorem dX0_part_61 : decode cX0_part 61 = .ok (.invokevirtual 28, 3) := by decide +kernel
theorem dX0_part_64 : decode cX0_part 64 = .ok (.goto 11, 3) := by decide +kernel
theorem dX0_part_67 : decode cX0_part 67 = .ok (.aload_n 0, 1) := by decide +kernel
theorem dX0_part_68 : decode cX0_part 68 = .ok (.getfield 24, 3) := by decide +kernel
theorem dX0_part_71 : decode cX0_part 71 = .ok (.iload_n 1, 1) := by decide +kernel
theorem dX0_part_72 : decode cX0_part 72 = .ok (.invokestatic 32, 3) := by decide +kernel
theorem dX0_part_75 : decode cX0_part 75 = .ok (.ireturn, 1) := by decide +kernel
theorem dX0_partWithout_0 : decode cX0_partWithout 0 = .ok (.iload_n 1, 1) := by decide +kernel
theorem dX0_partWithout_1 : decode cX0_partWithout 1 = .ok (.iconst 4, 1) := by decide +kernel
theorem dX0_partWithout_2 : decode cX0_partWithout 2 = .ok (.if_icmp .ne 8, 3) := by decide +kernel
theorem dX0_partWithout_5 : decode cX0_partWithout 5 = .ok (.aload_n 0, 1) := by decide +kernel
theorem dX0_partWithout_6 : decode cX0_partWithout 6 = .ok (.getfield 36, 3) := by decide +kernel
theorem dX0_partWithout_9 : decode cX0_partWithout 9 = .ok (.ireturn, 1) := by decide +kernel
theorem dX0_partWithout_10 : decode cX0_partWithout 10 = .ok (.iload_n 1, 1) := by decide +kernel
theorem dX0_partWithout_11 : decode cX0_partWithout 11 = .ok (.bipush 7, 2) := by decide +kernel
theorem dX0_partWithout_13 : decode cX0_partWithout 13 = .ok (.if_icmp .ne 7, 3) := by decide +kernel
theorem dX0_partWithout_16 : decode cX0_partWithout 16 = .ok (.iconst (-1), 1) := by decide +kernel
theorem dX0_partWithout_17 : decode cX0_partWithout 17 = .ok (.goto 4, 3) := by decide +kernel
theorem dX0_partWithout_20 : decode cX0_partWithout 20 = .ok (.iconst 0, 1) := by decide +kernel
theorem dX0_partWithout_21 : decode cX0_partWithout 21 = .ok (.ireturn, 1) := by decide +kernel
theorem dX0_partOf_0 : decode cX0_partOf 0 = .ok (.iload_n 1, 1) := by decide +kernel
theorem dX0_partOf_1 : decode cX0_partOf 1 = .ok (.tableswitch 42 4 6 #[27, 32, 37], 27) := by decide +kernel
theorem dX0_partOf_28 : decode cX0_partOf 28 = .ok (.aload_n 0, 1) := by decide +kernel
theorem dX0_partOf_29 : decode cX0_partOf 29 = .ok (.getfield 39, 3) := by decide +kernel
theorem dX0_partOf_32 : decode cX0_partOf 32 = .ok (.ireturn, 1) := by decide +kernel
theorem dX0_partOf_33 : decode cX0_partOf 33 = .ok (.aload_n 0, 1) := by decide +kernel
theorem dX0_partOf_34 : decode cX0_partOf 34 = .ok (.getfield 44, 3) := by decide +kernel
theorem dX0_partOf_37 : decode cX0_partOf 37 = .ok (.ireturn, 1) := by decide +kernel
theorem dX0_partOf_38 : decode cX0_partOf 38 = .ok (.aload_n 0, 1) := by decide +kernel
theorem dX0_partOf_39 : decode cX0_partOf 39 = .ok (.getfield 47, 3) := by decide +kernel
theorem dX0_partOf_42 : decode cX0_partOf 42 = .ok (.ireturn, 1) := by decide +kernel
theorem dX0_partOf_43 : decode cX0_partOf 43 = .ok (.aload_n 0, 1) := by decide +kernel
theorem dX0_partOf_44 : decode cX0_partOf 44 = .ok (.getfield 50, 3) := by decide +kernel
theorem dX0_partOf_47 : decode cX0_partOf 47 = .ok (.ireturn, 1) := by decide +kernel
theorem dX1_init_0 : decode cX1_init 0 = .ok (.aload_n 0, 1) := by decide +kernel
theorem dX1_init_1 : decode cX1_init 1 = .ok (.invokespecial 3, 3) := by decide +kernel
theorem dX1_init_4 : decode cX1_init 4 = .ok (.return_, 1) := by decide +kernel
theorem dX1_begin_0 : decode cX1_begin 0 = .ok (.aload_n 0, 1) := by decide +kernel
theorem dX1_begin_1 : decode cX1_begin 1 = .ok (.aload_n 1, 1) := by decide +kernel
theorem dX1_begin_2 : decode cX1_begin 2 = .ok (.getfield 9, 3) := by decide +kernel
theorem dX1_begin_5 : decode cX1_begin 5 = .ok (.putfield 15, 3) := by decide +kernel
theorem dX1_begin_8 : decode cX1_begin 8 = .ok (.aload_n 0, 1) := by decide +kernel
theorem dX1_begin_9 : decode cX1_begin 9 = .ok (.aload_n 1, 1) := by decide +kernel
theorem dX1_begin_10 : decode cX1_begin 10 = .ok (.getfield 18, 3) := by decide +kernel
theorem dX1_begin_13 : decode cX1_begin 13 = .ok (.putfield 21, 3) := by decide +kernel
theorem dX1_begin_16 : decode cX1_begin 16 = .ok (.aload_n 0, 1) := by decide +kernel
theorem dX1_begin_17 : decode cX1_begin 17 = .ok (.aconst_null, 1) := by decide +kernel
theorem dX1_begin_18 : decode cX1_begin 18 = .ok (.putfield 22, 3) := by decide +kernel
theorem dX1_begin_21 : decode cX1_begin 21 = .ok (.return_, 1) := by decide +kernel
theorem dX1_put_0 : decode cX1_put 0 = .ok (.aconst_null, 1) := by decide +kernel
theorem dX1_put_1 : decode cX1_put 1 = .ok (.astore_n 2, 1) := by decide +kernel
theorem dX1_put_2 : decode cX1_put 2 = .ok (.aload_n 0, 1) := by decide +kernel
theorem dX1_put_3 : decode cX1_put 3 = .ok (.getfield 22, 3) := by decide +kernel
theorem dX1_put_6 : decode cX1_put 6 = .ok (.astore_n 3, 1) := by decide +kernel
theorem dX1_put_7 : decode cX1_put 7 = .ok (.aload_n 3, 1) := by decide +kernel
theorem dX1_put_8 : decode cX1_put 8 = .ok (.ifnull 24, 3) := by decide +kernel
theorem dX1_put_11 : decode cX1_put 11 = .ok (.aload_n 3, 1) := by decide +kernel
theorem dX1_put_12 : decode cX1_put 12 = .ok (.getfield 26, 3) := by decide +kernel
theorem dX1_put_15 : decode cX1_put 15 = .ok (.aload_n 1, 1) := by decide +kernel
theorem dX1_put_16 : decode cX1_put 16 = .ok (.getfield 26, 3) := by decide +kernel
theorem dX1_put_19 : decode cX1_put 19 = .ok (.if_icmp .ge 13, 3) := by decide +kernel
theorem dX1_put_22 : decode cX1_put 22 = .ok (.aload_n 3, 1) := by decide +kernel
theorem dX1_put_23 : decode cX1_put 23 = .ok (.astore_n 2, 1) := by decide +kernel
theorem dX1_put_24 : decode cX1_put 24 = .ok (.aload_n 3, 1) := by decide +kernel
theorem dX1_put_25 : decode cX1_put 25 = .ok (.getfield 29, 3) := by decide +kernel
theorem dX1_put_28 : decode cX1_put 28 = .ok (.astore_n 3, 1) := by decide +kernel
theorem dX1_put_29 : decode cX1_put 29 = .ok (.goto (-22), 3) := by decide +kernel
theorem dX1_put_32 : decode cX1_put 32 = .ok (.aload_n 3, 1) := by decide +kernel
theorem dX1_put_33 : decode cX1_put 33 = .ok (.ifnull 16, 3) := by decide +kernel
theorem dX1_put_36 : decode cX1_put 36 = .ok (.aload_n 3, 1) := by decide +kernel
theorem dX1_put_37 : decode cX1_put 37 = .ok (.getfield 26, 3) := by decide +kernel
theorem dX1_put_40 : decode cX1_put 40 = .ok (.aload_n 1, 1) := by decide +kernel
theorem dX1_put_41 : decode cX1_put 41 = .ok (.getfield 26, 3) := by decide +kernel
theorem dX1_put_44 : decode cX1_put 44 = .ok (.if_icmp .ne 5, 3) := by decide +kernel
theorem dX1_put_47 : decode cX1_put 47 = .ok (.iconst 0, 1) := by decide +kernel
theorem dX1_put_48 : decode cX1_put 48 = .ok (.ireturn, 1) := by decide +kernel
theorem dX1_put_49 : decode cX1_put 49 = .ok (.aload_n 1, 1) := by decide +kernel
theorem dX1_put_50 : decode cX1_put 50 = .ok (.aload_n 3, 1) := by decide +kernel
theorem dX1_put_51 : decode cX1_put 51 = .ok (.putfield 29, 3) := by decide +kernel
theorem dX1_put_54 : decode cX1_put 54 = .ok (.aload_n 2, 1) := by decide +kernel
theorem dX1_put_55 : decode cX1_put 55 = .ok (.ifnonnull 11, 3) := by decide +kernel
theorem dX1_put_58 : decode cX1_put 58 = .ok (.aload_n 0, 1) := by decide +kernel
theorem dX1_put_59 : decode cX1_put 59 = .ok (.aload_n 1, 1) := by decide +kernel
theorem dX1_put_60 : decode cX1_put 60 = .ok (.putfield 22, 3) := by decide +kernel
theorem dX1_put_63 : decode cX1_put 63 = .ok (.goto 8, 3) := by decide +kernel
theorem dX1_put_66 : decode cX1_put 66 = .ok (.aload_n 2, 1) := by decide +kernel
theorem dX1_put_67 : decode cX1_put 67 = .ok (.aload_n 1, 1) := by decide +kernel
theorem dX1_put_68 : decode cX1_put 68 = .ok (.putfield 29, 3) := by decide +kernel
theorem dX1_put_71 : decode cX1_put 71 = .ok (.iconst 1, 1) := by decide +kernel
theorem dX1_put_72 : decode cX1_put 72 = .ok (.ireturn, 1) := by decide +kernel
theorem dX1_wholeSize_0 : decode cX1_wholeSize 0 = .ok (.iconst 0, 1) := by decide +kernel
theorem dX1_wholeSize_1 : decode cX1_wholeSize 1 = .ok (.istore_n 1, 1) := by decide +kernel
theorem dX1_wholeSize_2 : decode cX1_wholeSize 2 = .ok (.aload_n 0, 1) := by decide +kernel
theorem dX1_wholeSize_3 : decode cX1_wholeSize 3 = .ok (.getfield 22, 3) := by decide +kernel
theorem dX1_wholeSize_6 : decode cX1_wholeSize 6 = .ok (.astore_n 2, 1) := by decide +kernel
theorem dX1_wholeSize_7 : decode cX1_wholeSize 7 = .ok (.aload_n 2, 1) := by decide +kernel
theorem dX1_wholeSize_8 : decode cX1_wholeSize 8 = .ok (.ifnull 37, 3) := by decide +kernel
theorem dX1_wholeSize_11 : decode cX1_wholeSize 11 = .ok (.aload_n 2, 1) := by decide +kernel
theorem dX1_wholeSize_12 : decode cX1_wholeSize 12 = .ok (.getfield 26, 3) := by decide +kernel
theorem dX1_wholeSize_15 : decode cX1_wholeSize 15 = .ok (.iload_n 1, 1) := by decide +kernel
theorem dX1_wholeSize_16 : decode cX1_wholeSize 16 = .ok (.if_icmp .eq 5, 3) := by decide +kernel
theorem dX1_wholeSize_19 : decode cX1_wholeSize 19 = .ok (.iconst (-1), 1) := by decide +kernel
theorem dX1_wholeSize_20 : decode cX1_wholeSize 20 = .ok (.ireturn, 1) := by decide +kernel
theorem dX1_wholeSize_21 : decode cX1_wholeSize 21 = .ok (.iload_n 1, 1) := by decide +kernel
theorem dX1_wholeSize_22 : decode cX1_wholeSize 22 = .ok (.aload_n 2, 1) := by decide +kernel
theorem dX1_wholeSize_23 : decode cX1_wholeSize 23 = .ok (.getfield 32, 3) := by decide +kernel
theorem dX1_wholeSize_26 : decode cX1_wholeSize 26 = .ok (.iadd, 1) := by decide +kernel
theorem dX1_wholeSize_27 : decode cX1_wholeSize 27 = .ok (.istore_n 1, 1) := by decide +kernel
theorem dX1_wholeSize_28 : decode cX1_wholeSize 28 = .ok (.aload_n 2, 1) := by decide +kernel
theorem dX1_wholeSize_29 : decode cX1_wholeSize 29 = .ok (.getfield 35, 3) := by decide +kernel
theorem dX1_wholeSize_32 : decode cX1_wholeSize 32 = .ok (.ifCond .ne 5, 3) := by decide +kernel
theorem dX1_wholeSize_35 : decode cX1_wholeSize 35 = .ok (.iload_n 1, 1) := by decide +kernel
theorem dX1_wholeSize_36 : decode cX1_wholeSize 36 = .ok (.ireturn, 1) := by decide +kernel
theorem dX1_wholeSize_37 : decode cX1_wholeSize 37 = .ok (.aload_n 2, 1) := by decide +kernel
theorem dX1_wholeSize_38 : decode cX1_wholeSize 38 = .ok (.getfield 29, 3) := by decide +kernel
theorem dX1_wholeSize_41 : decode cX1_wholeSize 41 = .ok (.astore_n 2, 1) := by decide +kernel
theorem dX1_wholeSize_42 : decode cX1_wholeSize 42 = .ok (.goto (-35), 3) := by decide +kernel
theorem dX1_wholeSize_45 : decode cX1_wholeSize 45 = .ok (.iconst (-1), 1) := by decide +kernel
theorem dX1_wholeSize_46 : decode cX1_wholeSize 46 = .ok (.ireturn, 1) := by decide +kernel
theorem dX2_init_0 : decode cX2_init 0 = .ok (.aload_n 0, 1) := by decide +kernel
theorem dX2_init_1 : decode cX2_init 1 = .ok (.invokespecial 3, 3) := by decide +kernel
theorem dX2_init_4 : decode cX2_init 4 = .ok (.aload_n 0, 1) := by decide +kernel
theorem dX2_init_5 : decode cX2_init 5 = .ok (.sipush 256, 3) := by decide +kernel
theorem dX2_init_8 : decode cX2_init 8 = .ok (.newarray .int, 2) := by decide +kernel
theorem dX2_init_10 : decode cX2_init 10 = .ok (.putfield 9, 3) := by decide +kernel
theorem dX2_init_13 : decode cX2_init 13 = .ok (.aload_n 0, 1) := by decide +kernel
theorem dX2_init_14 : decode cX2_init 14 = .ok (.iconst 3, 1) := by decide +kernel
theorem dX2_init_15 : decode cX2_init 15 = .ok (.anewarray 15, 3) := by decide +kernel
theorem dX2_init_18 : decode cX2_init 18 = .ok (.putfield 17, 3) := by decide +kernel
theorem dX2_init_21 : decode cX2_init 21 = .ok (.aload_n 0, 1) := by decide +kernel
theorem dX2_init_22 : decode cX2_init 22 = .ok (.bipush 60, 2) := by decide +kernel
theorem dX2_init_24 : decode cX2_init 24 = .ok (.newarray .int, 2) := by decide +kernel
theorem dX2_init_26 : decode cX2_init 26 = .ok (.putfield 21, 3) := by decide +kernel
theorem dX2_init_29 : decode cX2_init 29 = .ok (.aload_n 0, 1) := by decide +kernel
theorem dX2_init_30 : decode cX2_init 30 = .ok (.aload_n 1, 1) := by decide +kernel
theorem dX2_init_31 : decode cX2_init 31 = .ok (.putfield 24, 3) := by decide +kernel
theorem dX2_init_34 : decode cX2_init 34 = .ok (.aload_n 0, 1) := by decide +kernel
theorem dX2_init_35 : decode cX2_init 35 = .ok (.getfield 9, 3) := by decide +kernel
theorem dX2_init_38 : decode cX2_init 38 = .ok (.iconst (-1), 1) := by decide +kernel
theorem dX2_init_39 : decode cX2_init 39 = .ok (.invokestatic 28, 3) := by decide +kernel
theorem dX2_init_42 : decode cX2_init 42 = .ok (.iconst 0, 1) := by decide +kernel
theorem dX2_init_43 : decode cX2_init 43 = .ok (.istore_n 2, 1) := by decide +kernel
theorem dX2_init_44 : decode cX2_init 44 = .ok (.iload_n 2, 1) := by decide +kernel
theorem dX2_init_45 : decode cX2_init 45 = .ok (.iconst 3, 1) := by decide +kernel
theorem dX2_init_46 : decode cX2_init 46 = .ok (.if_icmp .ge 22, 3) := by decide +kernel
theorem dX2_init_49 : decode cX2_init 49 = .ok (.aload_n 0, 1) := by decide +kernel
theorem dX2_init_50 : decode cX2_init 50 = .ok (.getfield 17, 3) := by decide +kernel
theorem dX2_init_53 : decode cX2_init 53 = .ok (.iload_n 2, 1) := by decide +kernel
theorem dX2_init_54 : decode cX2_init 54 = .ok (.new 15, 3) := by decide +kernel
theorem dX2_init_57 : decode cX2_init 57 = .ok (.dup, 1) := by decide +kernel
theorem dX2_init_58 : decode cX2_init 58 = .ok (.invokespecial 34, 3) := by decide +kernel
theorem dX2_init_61 : decode cX2_init 61 = .ok (.aastore, 1) := by decide +kernel
theorem dX2_init_62 : decode cX2_init 62 = .ok (.iinc 2 1, 3) := by decide +kernel
theorem dX2_init_65 : decode cX2_init 65 = .ok (.goto (-21), 3) := by decide +kernel
theorem dX2_init_68 : decode cX2_init 68 = .ok (.return_, 1) := by decide +kernel
theorem dX2_knownMark_0 : decode cX2_knownMark 0 = .ok (.iload_n 1, 1) := by decide +kernel
theorem dX2_knownMark_1 : decode cX2_knownMark 1 = .ok (.ifCond .lt 19, 3) := by decide +kernel
theorem dX2_knownMark_4 : decode cX2_knownMark 4 = .ok (.iload_n 1, 1) := by decide +kernel
theorem dX2_knownMark_5 : decode cX2_knownMark 5 = .ok (.sipush 256, 3) := by decide +kernel
theorem dX2_knownMark_8 : decode cX2_knownMark 8 = .ok (.if_icmp .ge 12, 3) := by decide +kernel
theorem dX2_knownMark_11 : decode cX2_knownMark 11 = .ok (.aload_n 0, 1) := by decide +kernel
theorem dX2_knownMark_12 : decode cX2_knownMark 12 = .ok (.getfield 9, 3) := by decide +kernel
theorem dX2_knownMark_15 : decode cX2_knownMark 15 = .ok (.iload_n 1, 1) := by decide +kernel
theorem dX2_knownMark_16 : decode cX2_knownMark 16 = .ok (.iaload, 1) := by decide +kernel
theorem dX2_knownMark_17 : decode cX2_knownMark 17 = .ok (.goto 4, 3) := by decide +kernel
theorem dX2_knownMark_20 : decode cX2_knownMark 20 = .ok (.iconst (-1), 1) := by decide +kernel
theorem dX2_knownMark_21 : decode cX2_knownMark 21 = .ok (.ireturn, 1) := by decide +kernel
theorem dX2_learn_0 : decode cX2_learn 0 = .ok (.iload_n 1, 1) := by decide +kernel
theorem dX2_learn_1 : decode cX2_learn 1 = .ok (.ifCond .lt 17, 3) := by decide +kernel
theorem dX2_learn_4 : decode cX2_learn 4 = .ok (.iload_n 1, 1) := by decide +kernel
theorem dX2_learn_5 : decode cX2_learn 5 = .ok (.sipush 256, 3) := by decide +kernel
theorem dX2_learn_8 : decode cX2_learn 8 = .ok (.if_icmp .ge 10, 3) := by decide +kernel
theorem dX2_learn_11 : decode cX2_learn 11 = .ok (.aload_n 0, 1) := by decide +kernel
theorem dX2_learn_12 : decode cX2_learn 12 = .ok (.getfield 9, 3) := by decide +kernel
theorem dX2_learn_15 : decode cX2_learn 15 = .ok (.iload_n 1, 1) := by decide +kernel
theorem dX2_learn_16 : decode cX2_learn 16 = .ok (.iload_n 2, 1) := by decide +kernel
theorem dX2_learn_17 : decode cX2_learn 17 = .ok (.iastore, 1) := by decide +kernel
theorem dX2_learn_18 : decode cX2_learn 18 = .ok (.return_, 1) := by decide +kernel
theorem dX2_clearKnown_0 : decode cX2_clearKnown 0 = .ok (.iconst 0, 1) := by decide +kernel
theorem dX2_clearKnown_1 : decode cX2_clearKnown 1 = .ok (.istore_n 1, 1) := by decide +kernel
theorem dX2_clearKnown_2 : decode cX2_clearKnown 2 = .ok (.iconst 0, 1) := by decide +kernel
theorem dX2_clearKnown_3 : decode cX2_clearKnown 3 = .ok (.istore_n 2, 1) := by decide +kernel
theorem dX2_clearKnown_4 : decode cX2_clearKnown 4 = .ok (.iload_n 2, 1) := by decide +kernel
theorem dX2_clearKnown_5 : decode cX2_clearKnown 5 = .ok (.sipush 256, 3) := by decide +kernel
theorem dX2_clearKnown_8 : decode cX2_clearKnown 8 = .ok (.if_icmp .ge 28, 3) := by decide +kernel
theorem dX2_clearKnown_11 : decode cX2_clearKnown 11 = .ok (.aload_n 0, 1) := by decide +kernel
theorem dX2_clearKnown_12 : decode cX2_clearKnown 12 = .ok (.getfield 9, 3) := by decide +kernel
theorem dX2_clearKnown_15 : decode cX2_clearKnown 15 = .ok (.iload_n 2, 1) := by decide +kernel
theorem dX2_clearKnown_16 : decode cX2_clearKnown 16 = .ok (.iaload, 1) := by decide +kernel
theorem dX2_clearKnown_17 : decode cX2_clearKnown 17 = .ok (.ifCond .lt 6, 3) := by decide +kernel
theorem dX2_clearKnown_20 : decode cX2_clearKnown 20 = .ok (.iinc 1 1, 3) := by decide +kernel
theorem dX2_clearKnown_23 : decode cX2_clearKnown 23 = .ok (.aload_n 0, 1) := by decide +kernel
theorem dX2_clearKnown_24 : decode cX2_clearKnown 24 = .ok (.getfield 9, 3) := by decide +kernel
theorem dX2_clearKnown_27 : decode cX2_clearKnown 27 = .ok (.iload_n 2, 1) := by decide +kernel
theorem dX2_clearKnown_28 : decode cX2_clearKnown 28 = .ok (.iconst (-1), 1) := by decide +kernel
theorem dX2_clearKnown_29 : decode cX2_clearKnown 29 = .ok (.iastore, 1) := by decide +kernel
theorem dX2_clearKnown_30 : decode cX2_clearKnown 30 = .ok (.iinc 2 1, 3) := by decide +kernel
theorem dX2_clearKnown_33 : decode cX2_clearKnown 33 = .ok (.goto (-29), 3) := by decide +kernel
theorem dX2_clearKnown_36 : decode cX2_clearKnown 36 = .ok (.iload_n 1, 1) := by decide +kernel
theorem dX2_clearKnown_37 : decode cX2_clearKnown 37 = .ok (.ireturn, 1) := by decide +kernel
theorem dX2_putToWait_0 : decode cX2_putToWait 0 = .ok (.aload_n 0, 1) := by decide +kernel
theorem dX2_putToWait_1 : decode cX2_putToWait 1 = .ok (.getfield 35, 3) := by decide +kernel
theorem dX2_putToWait_4 : decode cX2_putToWait 4 = .ok (.bipush 6, 2) := by decide +kernel
theorem dX2_putToWait_6 : decode cX2_putToWait 6 = .ok (.if_icmp .lt 17, 3) := by decide +kernel
theorem dX2_putToWait_9 : decode cX2_putToWait 9 = .ok (.aload_n 0, 1) := by decide +kernel
theorem dX2_putToWait_10 : decode cX2_putToWait 10 = .ok (.invokevirtual 39, 3) := by decide +kernel
theorem dX2_putToWait_13 : decode cX2_putToWait 13 = .ok (.aload_n 0, 1) := by decide +kernel
theorem dX2_putToWait_14 : decode cX2_putToWait 14 = .ok (.dup, 1) := by decide +kernel
theorem dX2_putToWait_15 : decode cX2_putToWait 15 = .ok (.getfield 42, 3) := by decide +kernel
theorem dX2_putToWait_18 : decode cX2_putToWait 18 = .ok (.iconst 1, 1) := by decide +kernel
theorem dX2_putToWait_19 : decode cX2_putToWait 19 = .ok (.iadd, 1) := by decide +kernel
theorem dX2_putToWait_20 : decode cX2_putToWait 20 = .ok (.putfield 42, 3) := by decide +kernel
theorem dX2_putToWait_23 : decode cX2_putToWait 23 = .ok (.aload_n 1, 1) := by decide +kernel
theorem dX2_putToWait_24 : decode cX2_putToWait 24 = .ok (.aconst_null, 1) := by decide +kernel
theorem dX2_putToWait_25 : decode cX2_putToWait 25 = .ok (.putfield 45, 3) := by decide +kernel
theorem dX2_putToWait_28 : decode cX2_putToWait 28 = .ok (.aload_n 0, 1) := by decide +kernel
theorem dX2_putToWait_29 : decode cX2_putToWait 29 = .ok (.getfield 51, 3) := by decide +kernel
theorem dX2_putToWait_32 : decode cX2_putToWait 32 = .ok (.ifnonnull 11, 3) := by decide +kernel
theorem dX2_putToWait_35 : decode cX2_putToWait 35 = .ok (.aload_n 0, 1) := by decide +kernel
theorem dX2_putToWait_36 : decode cX2_putToWait 36 = .ok (.aload_n 1, 1) := by decide +kernel
theorem dX2_putToWait_37 : decode cX2_putToWait 37 = .ok (.putfield 54, 3) := by decide +kernel
theorem dX2_putToWait_40 : decode cX2_putToWait 40 = .ok (.goto 11, 3) := by decide +kernel
theorem dX2_putToWait_43 : decode cX2_putToWait 43 = .ok (.aload_n 0, 1) := by decide +kernel
theorem dX2_putToWait_44 : decode cX2_putToWait 44 = .ok (.getfield 51, 3) := by decide +kernel
theorem dX2_putToWait_47 : decode cX2_putToWait 47 = .ok (.aload_n 1, 1) := by decide +kernel
theorem dX2_putToWait_48 : decode cX2_putToWait 48 = .ok (.putfield 45, 3) := by decide +kernel
theorem dX2_putToWait_51 : decode cX2_putToWait 51 = .ok (.aload_n 0, 1) := by decide +kernel
theorem dX2_putToWait_52 : decode cX2_putToWait 52 = .ok (.aload_n 1, 1) := by decide +kernel
theorem dX2_putToWait_53 : decode cX2_putToWait 53 = .ok (.putfield 51, 3) := by decide +kernel
theorem dX2_putToWait_56 : decode cX2_putToWait 56 = .ok (.aload_n 0, 1) := by decide +kernel
theorem dX2_putToWait_57 : decode cX2_putToWait 57 = .ok (.dup, 1) := by decide +kernel
theorem dX2_putToWait_58 : decode cX2_putToWait 58 = .ok (.getfield 35, 3) := by decide +kernel
theorem dX2_putToWait_61 : decode cX2_putToWait 61 = .ok (.iconst 1, 1) := by decide +kernel
theorem dX2_putToWait_62 : decode cX2_putToWait 62 = .ok (.iadd, 1) := by decide +kernel
theorem dX2_putToWait_63 : decode cX2_putToWait 63 = .ok (.putfield 35, 3) := by decide +kernel
theorem dX2_putToWait_66 : decode cX2_putToWait 66 = .ok (.return_, 1) := by decide +kernel
theorem dX2_dropFirstWaiting_0 : decode cX2_dropFirstWaiting 0 = .ok (.aload_n 0, 1) := by decide +kernel
theorem dX2_dropFirstWaiting_1 : decode cX2_dropFirstWaiting 1 = .ok (.getfield 54, 3) := by decide +kernel
theorem dX2_dropFirstWaiting_4 : decode cX2_dropFirstWaiting 4 = .ok (.ifnull 24, 3) := by decide +kernel
theorem dX2_dropFirstWaiting_7 : decode cX2_dropFirstWaiting 7 = .ok (.aload_n 0, 1) := by decide +kernel
theorem dX2_dropFirstWaiting_8 : decode cX2_dropFirstWaiting 8 = .ok (.aload_n 0, 1) := by decide +kernel
theorem dX2_dropFirstWaiting_9 : decode cX2_dropFirstWaiting 9 = .ok (.getfield 54, 3) := by decide +kernel
theorem dX2_dropFirstWaiting_12 : decode cX2_dropFirstWaiting 12 = .ok (.getfield 45, 3) := by decide +kernel
theorem dX2_dropFirstWaiting_15 : decode cX2_dropFirstWaiting 15 = .ok (.putfield 54, 3) := by decide +kernel
theorem dX2_dropFirstWaiting_18 : decode cX2_dropFirstWaiting 18 = .ok (.aload_n 0, 1) := by decide +kernel
theorem dX2_dropFirstWaiting_19 : decode cX2_dropFirstWaiting 19 = .ok (.dup, 1) := by decide +kernel
theorem dX2_dropFirstWaiting_20 : decode cX2_dropFirstWaiting 20 = .ok (.getfield 35, 3) := by decide +kernel
theorem dX2_dropFirstWaiting_23 : decode cX2_dropFirstWaiting 23 = .ok (.iconst 1, 1) := by decide +kernel
theorem dX2_dropFirstWaiting_24 : decode cX2_dropFirstWaiting 24 = .ok (.isub, 1) := by decide +kernel
theorem dX2_dropFirstWaiting_25 : decode cX2_dropFirstWaiting 25 = .ok (.putfield 35, 3) := by decide +kernel
theorem dX2_dropFirstWaiting_28 : decode cX2_dropFirstWaiting 28 = .ok (.aload_n 0, 1) := by decide +kernel
theorem dX2_dropFirstWaiting_29 : decode cX2_dropFirstWaiting 29 = .ok (.getfield 54, 3) := by decide +kernel
theorem dX2_dropFirstWaiting_32 : decode cX2_dropFirstWaiting 32 = .ok (.ifnonnull 8, 3) := by decide +kernel
theorem dX2_dropFirstWaiting_35 : decode cX2_dropFirstWaiting 35 = .ok (.aload_n 0, 1) := by decide +kernel
theorem dX2_dropFirstWaiting_36 : decode cX2_dropFirstWaiting 36 = .ok (.aconst_null, 1) := by decide +kernel
theorem dX2_dropFirstWaiting_37 : decode cX2_dropFirstWaiting 37 = .ok (.putfield 51, 3) := by decide +kernel
theorem dX2_dropFirstWaiting_40 : decode cX2_dropFirstWaiting 40 = .ok (.return_, 1) := by decide +kernel
theorem dX2_countWaitingFor_0 : decode cX2_countWaitingFor 0 = .ok (.iconst 0, 1) := by decide +kernel
theorem dX2_countWaitingFor_1 : decode cX2_countWaitingFor 1 = .ok (.istore_n 2, 1) := by decide +kernel
theorem dX2_countWaitingFor_2 : decode cX2_countWaitingFor 2 = .ok (.aload_n 0, 1) := by decide +kernel
theorem dX2_countWaitingFor_3 : decode cX2_countWaitingFor 3 = .ok (.getfield 54, 3) := by decide +kernel
theorem dX2_countWaitingFor_6 : decode cX2_countWaitingFor 6 = .ok (.astore_n 3, 1) := by decide +kernel
theorem dX2_countWaitingFor_7 : decode cX2_countWaitingFor 7 = .ok (.aload_n 3, 1) := by decide +kernel
theorem dX2_countWaitingFor_8 : decode cX2_countWaitingFor 8 = .ok (.ifnull 22, 3) := by decide +kernel
theorem dX2_countWaitingFor_11 : decode cX2_countWaitingFor 11 = .ok (.aload_n 3, 1) := by decide +kernel
theorem dX2_countWaitingFor_12 : decode cX2_countWaitingFor 12 = .ok (.getfield 57, 3) := by decide +kernel
theorem dX2_countWaitingFor_15 : decode cX2_countWaitingFor 15 = .ok (.iload_n 1, 1) := by decide +kernel
theorem dX2_countWaitingFor_16 : decode cX2_countWaitingFor 16 = .ok (.if_icmp .ne 6, 3) := by decide +kernel
theorem dX2_countWaitingFor_19 : decode cX2_countWaitingFor 19 = .ok (.iinc 2 1, 3) := by decide +kernel
theorem dX2_countWaitingFor_22 : decode cX2_countWaitingFor 22 = .ok (.aload_n 3, 1) := by decide +kernel
theorem dX2_countWaitingFor_23 : decode cX2_countWaitingFor 23 = .ok (.getfield 45, 3) := by decide +kernel
theorem dX2_countWaitingFor_26 : decode cX2_countWaitingFor 26 = .ok (.astore_n 3, 1) := by decide +kernel
theorem dX2_countWaitingFor_27 : decode cX2_countWaitingFor 27 = .ok (.goto (-20), 3) := by decide +kernel
theorem dX2_countWaitingFor_30 : decode cX2_countWaitingFor 30 = .ok (.iload_n 2, 1) := by decide +kernel
theorem dX2_countWaitingFor_31 : decode cX2_countWaitingFor 31 = .ok (.ireturn, 1) := by decide +kernel
theorem dX2_takeWaiting_0 : decode cX2_takeWaiting 0 = .ok (.aload_n 0, 1) := by decide +kernel
theorem dX2_takeWaiting_1 : decode cX2_takeWaiting 1 = .ok (.getfield 54, 3) := by decide +kernel
theorem dX2_takeWaiting_4 : decode cX2_takeWaiting 4 = .ok (.astore_n 1, 1) := by decide +kernel
theorem dX2_takeWaiting_5 : decode cX2_takeWaiting 5 = .ok (.aload_n 0, 1) := by decide +kernel
theorem dX2_takeWaiting_6 : decode cX2_takeWaiting 6 = .ok (.aconst_null, 1) := by decide +kernel
theorem dX2_takeWaiting_7 : decode cX2_takeWaiting 7 = .ok (.putfield 54, 3) := by decide +kernel
theorem dX2_takeWaiting_10 : decode cX2_takeWaiting 10 = .ok (.aload_n 0, 1) := by decide +kernel
theorem dX2_takeWaiting_11 : decode cX2_takeWaiting 11 = .ok (.aconst_null, 1) := by decide +kernel
theorem dX2_takeWaiting_12 : decode cX2_takeWaiting 12 = .ok (.putfield 51, 3) := by decide +kernel
theorem dX2_takeWaiting_15 : decode cX2_takeWaiting 15 = .ok (.aload_n 0, 1) := by decide +kernel
theorem dX2_takeWaiting_16 : decode cX2_takeWaiting 16 = .ok (.iconst 0, 1) := by decide +kernel
theorem dX2_takeWaiting_17 : decode cX2_takeWaiting 17 = .ok (.putfield 35, 3) := by decide +kernel
theorem dX2_takeWaiting_20 : decode cX2_takeWaiting 20 = .ok (.aload_n 1, 1) := by decide +kernel
theorem dX2_takeWaiting_21 : decode cX2_takeWaiting 21 = .ok (.areturn, 1) := by decide +kernel
theorem dX2_gather_0 : decode cX2_gather 0 = .ok (.aload_n 1, 1) := by decide +kernel
theorem dX2_gather_1 : decode cX2_gather 1 = .ok (.invokevirtual 60, 3) := by decide +kernel
theorem dX2_gather_4 : decode cX2_gather 4 = .ok (.ifCond .ne 5, 3) := by decide +kernel
theorem dX2_gather_7 : decode cX2_gather 7 = .ok (.aload_n 1, 1) := by decide +kernel
theorem dX2_gather_8 : decode cX2_gather 8 = .ok (.areturn, 1) := by decide +kernel
theorem dX2_gather_9 : decode cX2_gather 9 = .ok (.aload_n 0, 1) := by decide +kernel
theorem dX2_gather_10 : decode cX2_gather 10 = .ok (.aload_n 1, 1) := by decide +kernel
theorem dX2_gather_11 : decode cX2_gather 11 = .ok (.invokevirtual 64, 3) := by decide +kernel
theorem dX2_gather_14 : decode cX2_gather 14 = .ok (.istore_n 2, 1) := by decide +kernel
theorem dX2_gather_15 : decode cX2_gather 15 = .ok (.iload_n 2, 1) := by decide +kernel
theorem dX2_gather_16 : decode cX2_gather 16 = .ok (.ifCond .ge 9, 3) := by decide +kernel
theorem dX2_gather_19 : decode cX2_gather 19 = .ok (.aload_n 0, 1) := by decide +kernel
theorem dX2_gather_20 : decode cX2_gather 20 = .ok (.aload_n 1, 1) := by decide +kernel
theorem dX2_gather_21 : decode cX2_gather 21 = .ok (.invokevirtual 68, 3) := by decide +kernel
theorem dX2_gather_24 : decode cX2_gather 24 = .ok (.istore_n 2, 1) := by decide +kernel
theorem dX2_gather_25 : decode cX2_gather 25 = .ok (.aload_n 0, 1) := by decide +kernel
theorem dX2_gather_26 : decode cX2_gather 26 = .ok (.getfield 17, 3) := by decide +kernel
theorem dX2_gather_29 : decode cX2_gather 29 = .ok (.iload_n 2, 1) := by decide +kernel
theorem dX2_gather_30 : decode cX2_gather 30 = .ok (.aaload, 1) := by decide +kernel
theorem dX2_gather_31 : decode cX2_gather 31 = .ok (.astore_n 3, 1) := by decide +kernel
theorem dX2_gather_32 : decode cX2_gather 32 = .ok (.aload_n 3, 1) := by decide +kernel
theorem dX2_gather_33 : decode cX2_gather 33 = .ok (.aload_n 1, 1) := by decide +kernel
theorem dX2_gather_34 : decode cX2_gather 34 = .ok (.invokevirtual 71, 3) := by decide +kernel
theorem dX2_gather_37 : decode cX2_gather 37 = .ok (.ifCond .ne 15, 3) := by decide +kernel
theorem dX2_gather_40 : decode cX2_gather 40 = .ok (.aload_n 0, 1) := by decide +kernel
theorem dX2_gather_41 : decode cX2_gather 41 = .ok (.dup, 1) := by decide +kernel
theorem dX2_gather_42 : decode cX2_gather 42 = .ok (.getfield 42, 3) := by decide +kernel
theorem dX2_gather_45 : decode cX2_gather 45 = .ok (.iconst 1, 1) := by decide +kernel
theorem dX2_gather_46 : decode cX2_gather 46 = .ok (.iadd, 1) := by decide +kernel
theorem dX2_gather_47 : decode cX2_gather 47 = .ok (.putfield 42, 3) := by decide +kernel
theorem dX2_gather_50 : decode cX2_gather 50 = .ok (.aconst_null, 1) := by decide +kernel
theorem dX2_gather_51 : decode cX2_gather 51 = .ok (.areturn, 1) := by decide +kernel
theorem dX2_gather_52 : decode cX2_gather 52 = .ok (.aload_n 3, 1) := by decide +kernel
theorem dX2_gather_53 : decode cX2_gather 53 = .ok (.invokevirtual 75, 3) := by decide +kernel
theorem dX2_gather_56 : decode cX2_gather 56 = .ok (.istore 4, 2) := by decide +kernel
theorem dX2_gather_58 : decode cX2_gather 58 = .ok (.iload 4, 2) := by decide +kernel
theorem dX2_gather_60 : decode cX2_gather 60 = .ok (.ifCond .ge 5, 3) := by decide +kernel
theorem dX2_gather_63 : decode cX2_gather 63 = .ok (.aconst_null, 1) := by decide +kernel
theorem dX2_gather_64 : decode cX2_gather 64 = .ok (.areturn, 1) := by decide +kernel
theorem dX2_gather_65 : decode cX2_gather 65 = .ok (.aload_n 0, 1) := by decide +kernel
theorem dX2_gather_66 : decode cX2_gather 66 = .ok (.iload_n 2, 1) := by decide +kernel
theorem dX2_gather_67 : decode cX2_gather 67 = .ok (.invokevirtual 79, 3) := by decide +kernel
theorem dX2_gather_70 : decode cX2_gather 70 = .ok (.aload_n 1, 1) := by decide +kernel
theorem dX2_gather_71 : decode cX2_gather 71 = .ok (.iconst 0, 1) := by decide +kernel
theorem dX2_gather_72 : decode cX2_gather 72 = .ok (.putfield 83, 3) := by decide +kernel
theorem dX2_gather_75 : decode cX2_gather 75 = .ok (.aload_n 1, 1) := by decide +kernel
theorem dX2_gather_76 : decode cX2_gather 76 = .ok (.iconst 0, 1) := by decide +kernel
theorem dX2_gather_77 : decode cX2_gather 77 = .ok (.putfield 86, 3) := by decide +kernel
theorem dX2_gather_80 : decode cX2_gather 80 = .ok (.aload_n 1, 1) := by decide +kernel
theorem dX2_gather_81 : decode cX2_gather 81 = .ok (.iload 4, 2) := by decide +kernel
theorem dX2_gather_83 : decode cX2_gather 83 = .ok (.putfield 90, 3) := by decide +kernel
theorem dX2_gather_86 : decode cX2_gather 86 = .ok (.aload_n 1, 1) := by decide +kernel
theorem dX2_gather_87 : decode cX2_gather 87 = .ok (.areturn, 1) := by decide +kernel
theorem dX2_findHeap_0 : decode cX2_findHeap 0 = .ok (.iconst 0, 1) := by decide +kernel
theorem dX2_findHeap_1 : decode cX2_findHeap 1 = .ok (.istore_n 2, 1) := by decide +kernel
theorem dX2_findHeap_2 : decode cX2_findHeap 2 = .ok (.iload_n 2, 1) := by decide +kernel
theorem dX2_findHeap_3 : decode cX2_findHeap 3 = .ok (.aload_n 0, 1) := by decide +kernel
theorem dX2_findHeap_4 : decode cX2_findHeap 4 = .ok (.getfield 93, 3) := by decide +kernel
theorem dX2_findHeap_7 : decode cX2_findHeap 7 = .ok (.if_icmp .ge 43, 3) := by decide +kernel
theorem dX2_findHeap_10 : decode cX2_findHeap 10 = .ok (.aload_n 0, 1) := by decide +kernel
theorem dX2_findHeap_11 : decode cX2_findHeap 11 = .ok (.getfield 17, 3) := by decide +kernel
theorem dX2_findHeap_14 : decode cX2_findHeap 14 = .ok (.iload_n 2, 1) := by decide +kernel
theorem dX2_findHeap_15 : decode cX2_findHeap 15 = .ok (.aaload, 1) := by decide +kernel
theorem dX2_findHeap_16 : decode cX2_findHeap 16 = .ok (.getfield 96, 3) := by decide +kernel
theorem dX2_findHeap_19 : decode cX2_findHeap 19 = .ok (.aload_n 1, 1) := by decide +kernel
theorem dX2_findHeap_20 : decode cX2_findHeap 20 = .ok (.getfield 99, 3) := by decide +kernel
theorem dX2_findHeap_23 : decode cX2_findHeap 23 = .ok (.if_icmp .ne 21, 3) := by decide +kernel
theorem dX2_findHeap_26 : decode cX2_findHeap 26 = .ok (.aload_n 0, 1) := by decide +kernel
theorem dX2_findHeap_27 : decode cX2_findHeap 27 = .ok (.getfield 17, 3) := by decide +kernel
theorem dX2_findHeap_30 : decode cX2_findHeap 30 = .ok (.iload_n 2, 1) := by decide +kernel
theorem dX2_findHeap_31 : decode cX2_findHeap 31 = .ok (.aaload, 1) := by decide +kernel
theorem dX2_findHeap_32 : decode cX2_findHeap 32 = .ok (.getfield 100, 3) := by decide +kernel
theorem dX2_findHeap_35 : decode cX2_findHeap 35 = .ok (.aload_n 1, 1) := by decide +kernel
theorem dX2_findHeap_36 : decode cX2_findHeap 36 = .ok (.getfield 103, 3) := by decide +kernel
theorem dX2_findHeap_39 : decode cX2_findHeap 39 = .ok (.if_icmp .ne 5, 3) := by decide +kernel
theorem dX2_findHeap_42 : decode cX2_findHeap 42 = .ok (.iload_n 2, 1) := by decide +kernel
theorem dX2_findHeap_43 : decode cX2_findHeap 43 = .ok (.ireturn, 1) := by decide +kernel
theorem dX2_findHeap_44 : decode cX2_findHeap 44 = .ok (.iinc 2 1, 3) := by decide +kernel
theorem dX2_findHeap_47 : decode cX2_findHeap 47 = .ok (.goto (-45), 3) := by decide +kernel
theorem dX2_findHeap_50 : decode cX2_findHeap 50 = .ok (.iconst (-1), 1) := by decide +kernel
theorem dX2_findHeap_51 : decode cX2_findHeap 51 = .ok (.ireturn, 1) := by decide +kernel
theorem dX2_beginHeap_0 : decode cX2_beginHeap 0 = .ok (.aload_n 0, 1) := by decide +kernel
theorem dX2_beginHeap_1 : decode cX2_beginHeap 1 = .ok (.getfield 93, 3) := by decide +kernel
theorem dX2_beginHeap_4 : decode cX2_beginHeap 4 = .ok (.iconst 3, 1) := by decide +kernel
theorem dX2_beginHeap_5 : decode cX2_beginHeap 5 = .ok (.if_icmp .lt 18, 3) := by decide +kernel
theorem dX2_beginHeap_8 : decode cX2_beginHeap 8 = .ok (.aload_n 0, 1) := by decide +kernel
theorem dX2_beginHeap_9 : decode cX2_beginHeap 9 = .ok (.iconst 0, 1) := by decide +kernel
theorem dX2_beginHeap_10 : decode cX2_beginHeap 10 = .ok (.invokevirtual 79, 3) := by decide +kernel
theorem dX2_beginHeap_13 : decode cX2_beginHeap 13 = .ok (.aload_n 0, 1) := by decide +kernel
theorem dX2_beginHeap_14 : decode cX2_beginHeap 14 = .ok (.dup, 1) := by decide +kernel
theorem dX2_beginHeap_15 : decode cX2_beginHeap 15 = .ok (.getfield 42, 3) := by decide +kernel
theorem dX2_beginHeap_18 : decode cX2_beginHeap 18 = .ok (.iconst 1, 1) := by decide +kernel
theorem dX2_beginHeap_19 : decode cX2_beginHeap 19 = .ok (.iadd, 1) := by decide +kernel
theorem dX2_beginHeap_20 : decode cX2_beginHeap 20 = .ok (.putfield 42, 3) := by decide +kernel
theorem dX2_beginHeap_23 : decode cX2_beginHeap 23 = .ok (.aload_n 0, 1) := by decide +kernel
theorem dX2_beginHeap_24 : decode cX2_beginHeap 24 = .ok (.getfield 93, 3) := by decide +kernel
theorem dX2_beginHeap_27 : decode cX2_beginHeap 27 = .ok (.istore_n 2, 1) := by decide +kernel
theorem dX2_beginHeap_28 : decode cX2_beginHeap 28 = .ok (.aload_n 0, 1) := by decide +kernel
theorem dX2_beginHeap_29 : decode cX2_beginHeap 29 = .ok (.getfield 17, 3) := by decide +kernel
theorem dX2_beginHeap_32 : decode cX2_beginHeap 32 = .ok (.iload_n 2, 1) := by decide +kernel
theorem dX2_beginHeap_33 : decode cX2_beginHeap 33 = .ok (.aaload, 1) := by decide +kernel
theorem dX2_beginHeap_34 : decode cX2_beginHeap 34 = .ok (.aload_n 1, 1) := by decide +kernel
theorem dX2_beginHeap_35 : decode cX2_beginHeap 35 = .ok (.invokevirtual 104, 3) := by decide +kernel
theorem dX2_beginHeap_38 : decode cX2_beginHeap 38 = .ok (.aload_n 0, 1) := by decide +kernel
theorem dX2_beginHeap_39 : decode cX2_beginHeap 39 = .ok (.dup, 1) := by decide +kernel
theorem dX2_beginHeap_40 : decode cX2_beginHeap 40 = .ok (.getfield 93, 3) := by decide +kernel
theorem dX2_beginHeap_43 : decode cX2_beginHeap 43 = .ok (.iconst 1, 1) := by decide +kernel
theorem dX2_beginHeap_44 : decode cX2_beginHeap 44 = .ok (.iadd, 1) := by decide +kernel
theorem dX2_beginHeap_45 : decode cX2_beginHeap 45 = .ok (.putfield 93, 3) := by decide +kernel
theorem dX2_beginHeap_48 : decode cX2_beginHeap 48 = .ok (.iload_n 2, 1) := by decide +kernel
theorem dX2_beginHeap_49 : decode cX2_beginHeap 49 = .ok (.ireturn, 1) := by decide +kernel
theorem dX2_dropHeap_0 : decode cX2_dropHeap 0 = .ok (.aload_n 0, 1) := by decide +kernel
theorem dX2_dropHeap_1 : decode cX2_dropHeap 1 = .ok (.getfield 17, 3) := by decide +kernel
theorem dX2_dropHeap_4 : decode cX2_dropHeap 4 = .ok (.iload_n 1, 1) := by decide +kernel
theorem dX2_dropHeap_5 : decode cX2_dropHeap 5 = .ok (.aaload, 1) := by decide +kernel
theorem dX2_dropHeap_6 : decode cX2_dropHeap 6 = .ok (.astore_n 2, 1) := by decide +kernel
theorem dX2_dropHeap_7 : decode cX2_dropHeap 7 = .ok (.iload_n 1, 1) := by decide +kernel
theorem dX2_dropHeap_8 : decode cX2_dropHeap 8 = .ok (.istore_n 3, 1) := by decide +kernel
theorem dX2_dropHeap_9 : decode cX2_dropHeap 9 = .ok (.iload_n 3, 1) := by decide +kernel
theorem dX2_dropHeap_10 : decode cX2_dropHeap 10 = .ok (.iconst 1, 1) := by decide +kernel
theorem dX2_dropHeap_11 : decode cX2_dropHeap 11 = .ok (.iadd, 1) := by decide +kernel
theorem dX2_dropHeap_12 : decode cX2_dropHeap 12 = .ok (.aload_n 0, 1) := by decide +kernel
theorem dX2_dropHeap_13 : decode cX2_dropHeap 13 = .ok (.getfield 93, 3) := by decide +kernel
theorem dX2_dropHeap_16 : decode cX2_dropHeap 16 = .ok (.if_icmp .ge 23, 3) := by decide +kernel
theorem dX2_dropHeap_19 : decode cX2_dropHeap 19 = .ok (.aload_n 0, 1) := by decide +kernel
theorem dX2_dropHeap_20 : decode cX2_dropHeap 20 = .ok (.getfield 17, 3) := by decide +kernel
theorem dX2_dropHeap_23 : decode cX2_dropHeap 23 = .ok (.iload_n 3, 1) := by decide +kernel
theorem dX2_dropHeap_24 : decode cX2_dropHeap 24 = .ok (.aload_n 0, 1) := by decide +kernel
theorem dX2_dropHeap_25 : decode cX2_dropHeap 25 = .ok (.getfield 17, 3) := by decide +kernel
theorem dX2_dropHeap_28 : decode cX2_dropHeap 28 = .ok (.iload_n 3, 1) := by decide +kernel
theorem dX2_dropHeap_29 : decode cX2_dropHeap 29 = .ok (.iconst 1, 1) := by decide +kernel
theorem dX2_dropHeap_30 : decode cX2_dropHeap 30 = .ok (.iadd, 1) := by decide +kernel
theorem dX2_dropHeap_31 : decode cX2_dropHeap 31 = .ok (.aaload, 1) := by decide +kernel
theorem dX2_dropHeap_32 : decode cX2_dropHeap 32 = .ok (.aastore, 1) := by decide +kernel
theorem dX2_dropHeap_33 : decode cX2_dropHeap 33 = .ok (.iinc 3 1, 3) := by decide +kernel
theorem dX2_dropHeap_36 : decode cX2_dropHeap 36 = .ok (.goto (-27), 3) := by decide +kernel
theorem dX2_dropHeap_39 : decode cX2_dropHeap 39 = .ok (.aload_n 0, 1) := by decide +kernel
theorem dX2_dropHeap_40 : decode cX2_dropHeap 40 = .ok (.dup, 1) := by decide +kernel
theorem dX2_dropHeap_41 : decode cX2_dropHeap 41 = .ok (.getfield 93, 3) := by decide +kernel
theorem dX2_dropHeap_44 : decode cX2_dropHeap 44 = .ok (.iconst 1, 1) := by decide +kernel
theorem dX2_dropHeap_45 : decode cX2_dropHeap 45 = .ok (.isub, 1) := by decide +kernel
theorem dX2_dropHeap_46 : decode cX2_dropHeap 46 = .ok (.putfield 93, 3) := by decide +kernel
theorem dX2_dropHeap_49 : decode cX2_dropHeap 49 = .ok (.aload_n 0, 1) := by decide +kernel
theorem dX2_dropHeap_50 : decode cX2_dropHeap 50 = .ok (.getfield 17, 3) := by decide +kernel
theorem dX2_dropHeap_53 : decode cX2_dropHeap 53 = .ok (.aload_n 0, 1) := by decide +kernel
theorem dX2_dropHeap_54 : decode cX2_dropHeap 54 = .ok (.getfield 93, 3) := by decide +kernel
theorem dX2_dropHeap_57 : decode cX2_dropHeap 57 = .ok (.aload_n 2, 1) := by decide +kernel
theorem dX2_dropHeap_58 : decode cX2_dropHeap 58 = .ok (.aastore, 1) := by decide +kernel
theorem dX2_dropHeap_59 : decode cX2_dropHeap 59 = .ok (.return_, 1) := by decide +kernel
theorem dX2_unwrap_0 : decode cX2_unwrap 0 = .ok (.aload_n 0, 1) := by decide +kernel
theorem dX2_unwrap_1 : decode cX2_unwrap 1 = .ok (.getfield 24, 3) := by decide +kernel
theorem dX2_unwrap_4 : decode cX2_unwrap 4 = .ok (.aload_n 1, 1) := by decide +kernel
theorem dX2_unwrap_5 : decode cX2_unwrap 5 = .ok (.getfield 99, 3) := by decide +kernel
theorem dX2_unwrap_8 : decode cX2_unwrap 8 = .ok (.invokevirtual 108, 3) := by decide +kernel
theorem dX2_unwrap_11 : decode cX2_unwrap 11 = .ok (.ifCond .eq 8, 3) := by decide +kernel
theorem dX2_unwrap_14 : decode cX2_unwrap 14 = .ok (.aload_n 1, 1) := by decide +kernel
theorem dX2_unwrap_15 : decode cX2_unwrap 15 = .ok (.getfield 114, 3) := by decide +kernel
theorem dX2_unwrap_18 : decode cX2_unwrap 18 = .ok (.areturn, 1) := by decide +kernel
theorem dX2_unwrap_19 : decode cX2_unwrap 19 = .ok (.aload_n 0, 1) := by decide +kernel
theorem dX2_unwrap_20 : decode cX2_unwrap 20 = .ok (.dup, 1) := by decide +kernel
theorem dX2_unwrap_21 : decode cX2_unwrap 21 = .ok (.getfield 42, 3) := by decide +kernel
theorem dX2_unwrap_24 : decode cX2_unwrap 24 = .ok (.iconst 1, 1) := by decide +kernel
theorem dX2_unwrap_25 : decode cX2_unwrap 25 = .ok (.iadd, 1) := by decide +kernel
theorem dX2_unwrap_26 : decode cX2_unwrap 26 = .ok (.putfield 42, 3) := by decide +kernel
theorem dX2_unwrap_29 : decode cX2_unwrap 29 = .ok (.aconst_null, 1) := by decide +kernel
theorem dX2_unwrap_30 : decode cX2_unwrap 30 = .ok (.areturn, 1) := by decide +kernel
theorem dX2_writeNote_0 : decode cX2_writeNote 0 = .ok (.aload_n 0, 1) := by decide +kernel
theorem dX2_writeNote_1 : decode cX2_writeNote 1 = .ok (.getfield 117, 3) := by decide +kernel
theorem dX2_writeNote_4 : decode cX2_writeNote 4 = .ok (.bipush 10, 2) := by decide +kernel
theorem dX2_writeNote_6 : decode cX2_writeNote 6 = .ok (.irem, 1) := by decide +kernel
theorem dX2_writeNote_7 : decode cX2_writeNote 7 = .ok (.bipush 6, 2) := by decide +kernel
theorem dX2_writeNote_9 : decode cX2_writeNote 9 = .ok (.imul, 1) := by decide +kernel
theorem dX2_writeNote_10 : decode cX2_writeNote 10 = .ok (.istore_n 2, 1) := by decide +kernel
theorem dX2_writeNote_11 : decode cX2_writeNote 11 = .ok (.aload_n 0, 1) := by decide +kernel
theorem dX2_writeNote_12 : decode cX2_writeNote 12 = .ok (.getfield 21, 3) := by decide +kernel
theorem dX2_writeNote_15 : decode cX2_writeNote 15 = .ok (.iload_n 2, 1) := by decide +kernel
theorem dX2_writeNote_16 : decode cX2_writeNote 16 = .ok (.aload_n 1, 1) := by decide +kernel
theorem dX2_writeNote_17 : decode cX2_writeNote 17 = .ok (.getfield 120, 3) := by decide +kernel
theorem dX2_writeNote_20 : decode cX2_writeNote 20 = .ok (.iastore, 1) := by decide +kernel
theorem dX2_writeNote_21 : decode cX2_writeNote 21 = .ok (.aload_n 0, 1) := by decide +kernel
theorem dX2_writeNote_22 : decode cX2_writeNote 22 = .ok (.getfield 21, 3) := by decide +kernel
theorem dX2_writeNote_25 : decode cX2_writeNote 25 = .ok (.iload_n 2, 1) := by decide +kernel
theorem dX2_writeNote_26 : decode cX2_writeNote 26 = .ok (.iconst 1, 1) := by decide +kernel
theorem dX2_writeNote_27 : decode cX2_writeNote 27 = .ok (.iadd, 1) := by decide +kernel
theorem dX2_writeNote_28 : decode cX2_writeNote 28 = .ok (.aload_n 1, 1) := by decide +kernel
theorem dX2_writeNote_29 : decode cX2_writeNote 29 = .ok (.getfield 99, 3) := by decide +kernel
theorem dX2_writeNote_32 : decode cX2_writeNote 32 = .ok (.iastore, 1) := by decide +kernel
theorem dX2_writeNote_33 : decode cX2_writeNote 33 = .ok (.aload_n 0, 1) := by decide +kernel
theorem dX2_writeNote_34 : decode cX2_writeNote 34 = .ok (.getfield 21, 3) := by decide +kernel
theorem dX2_writeNote_37 : decode cX2_writeNote 37 = .ok (.iload_n 2, 1) := by decide +kernel
theorem dX2_writeNote_38 : decode cX2_writeNote 38 = .ok (.iconst 2, 1) := by decide +kernel
theorem dX2_writeNote_39 : decode cX2_writeNote 39 = .ok (.iadd, 1) := by decide +kernel
theorem dX2_writeNote_40 : decode cX2_writeNote 40 = .ok (.aload_n 1, 1) := by decide +kernel
theorem dX2_writeNote_41 : decode cX2_writeNote 41 = .ok (.getfield 90, 3) := by decide +kernel
theorem dX2_writeNote_44 : decode cX2_writeNote 44 = .ok (.iastore, 1) := by decide +kernel
theorem dX2_writeNote_45 : decode cX2_writeNote 45 = .ok (.aload_n 0, 1) := by decide +kernel
theorem dX2_writeNote_46 : decode cX2_writeNote 46 = .ok (.getfield 21, 3) := by decide +kernel
theorem dX2_writeNote_49 : decode cX2_writeNote 49 = .ok (.iload_n 2, 1) := by decide +kernel
theorem dX2_writeNote_50 : decode cX2_writeNote 50 = .ok (.iconst 3, 1) := by decide +kernel
theorem dX2_writeNote_51 : decode cX2_writeNote 51 = .ok (.iadd, 1) := by decide +kernel
theorem dX2_writeNote_52 : decode cX2_writeNote 52 = .ok (.aload_n 1, 1) := by decide +kernel
theorem dX2_writeNote_53 : decode cX2_writeNote 53 = .ok (.getfield 123, 3) := by decide +kernel
theorem dX2_writeNote_56 : decode cX2_writeNote 56 = .ok (.iastore, 1) := by decide +kernel
theorem dX2_writeNote_57 : decode cX2_writeNote 57 = .ok (.aload_n 0, 1) := by decide +kernel
theorem dX2_writeNote_58 : decode cX2_writeNote 58 = .ok (.getfield 21, 3) := by decide +kernel
theorem dX2_writeNote_61 : decode cX2_writeNote 61 = .ok (.iload_n 2, 1) := by decide +kernel
theorem dX2_writeNote_62 : decode cX2_writeNote 62 = .ok (.iconst 4, 1) := by decide +kernel
theorem dX2_writeNote_63 : decode cX2_writeNote 63 = .ok (.iadd, 1) := by decide +kernel
theorem dX2_writeNote_64 : decode cX2_writeNote 64 = .ok (.aload_n 1, 1) := by decide +kernel
theorem dX2_writeNote_65 : decode cX2_writeNote 65 = .ok (.getfield 103, 3) := by decide +kernel
theorem dX2_writeNote_68 : decode cX2_writeNote 68 = .ok (.iastore, 1) := by decide +kernel
theorem dX2_writeNote_69 : decode cX2_writeNote 69 = .ok (.aload_n 0, 1) := by decide +kernel
theorem dX2_writeNote_70 : decode cX2_writeNote 70 = .ok (.getfield 21, 3) := by decide +kernel
theorem dX2_writeNote_73 : decode cX2_writeNote 73 = .ok (.iload_n 2, 1) := by decide +kernel
theorem dX2_writeNote_74 : decode cX2_writeNote 74 = .ok (.iconst 5, 1) := by decide +kernel
theorem dX2_writeNote_75 : decode cX2_writeNote 75 = .ok (.iadd, 1) := by decide +kernel
theorem dX2_writeNote_76 : decode cX2_writeNote 76 = .ok (.aload_n 1, 1) := by decide +kernel
theorem dX2_writeNote_77 : decode cX2_writeNote 77 = .ok (.getfield 126, 3) := by decide +kernel
theorem dX2_writeNote_80 : decode cX2_writeNote 80 = .ok (.iastore, 1) := by decide +kernel
theorem dX2_writeNote_81 : decode cX2_writeNote 81 = .ok (.aload_n 0, 1) := by decide +kernel
theorem dX2_writeNote_82 : decode cX2_writeNote 82 = .ok (.dup, 1) := by decide +kernel
theorem dX2_writeNote_83 : decode cX2_writeNote 83 = .ok (.getfield 117, 3) := by decide +kernel
theorem dX2_writeNote_86 : decode cX2_writeNote 86 = .ok (.iconst 1, 1) := by decide +kernel
theorem dX2_writeNote_87 : decode cX2_writeNote 87 = .ok (.iadd, 1) := by decide +kernel
theorem dX2_writeNote_88 : decode cX2_writeNote 88 = .ok (.putfield 117, 3) := by decide +kernel
theorem dX2_writeNote_91 : decode cX2_writeNote 91 = .ok (.return_, 1) := by decide +kernel
theorem dX2_isTold_0 : decode cX2_isTold 0 = .ok (.iload_n 1, 1) := by decide +kernel
theorem dX2_isTold_1 : decode cX2_isTold 1 = .ok (.ifCond .lt 21, 3) := by decide +kernel
theorem dX2_isTold_4 : decode cX2_isTold 4 = .ok (.iload_n 1, 1) := by decide +kernel
theorem dX2_isTold_5 : decode cX2_isTold 5 = .ok (.bipush 10, 2) := by decide +kernel
theorem dX2_isTold_7 : decode cX2_isTold 7 = .ok (.if_icmp .ge 15, 3) := by decide +kernel
theorem dX2_isTold_10 : decode cX2_isTold 10 = .ok (.iload_n 1, 1) := by decide +kernel
theorem dX2_isTold_11 : decode cX2_isTold 11 = .ok (.aload_n 0, 1) := by decide +kernel
theorem dX2_isTold_12 : decode cX2_isTold 12 = .ok (.getfield 117, 3) := by decide +kernel
theorem dX2_isTold_15 : decode cX2_isTold 15 = .ok (.if_icmp .ge 7, 3) := by decide +kernel
theorem dX2_isTold_18 : decode cX2_isTold 18 = .ok (.iconst 1, 1) := by decide +kernel
theorem dX2_isTold_19 : decode cX2_isTold 19 = .ok (.goto 4, 3) := by decide +kernel
theorem dX2_isTold_22 : decode cX2_isTold 22 = .ok (.iconst 0, 1) := by decide +kernel
theorem dX2_isTold_23 : decode cX2_isTold 23 = .ok (.ireturn, 1) := by decide +kernel
theorem dX2_notePart_0 : decode cX2_notePart 0 = .ok (.aload_n 0, 1) := by decide +kernel
theorem dX2_notePart_1 : decode cX2_notePart 1 = .ok (.iload_n 1, 1) := by decide +kernel
theorem dX2_notePart_2 : decode cX2_notePart 2 = .ok (.invokevirtual 129, 3) := by decide +kernel
theorem dX2_notePart_5 : decode cX2_notePart 5 = .ok (.ifCond .eq 13, 3) := by decide +kernel
theorem dX2_notePart_8 : decode cX2_notePart 8 = .ok (.iload_n 2, 1) := by decide +kernel
theorem dX2_notePart_9 : decode cX2_notePart 9 = .ok (.ifCond .lt 9, 3) := by decide +kernel
theorem dX2_notePart_12 : decode cX2_notePart 12 = .ok (.iload_n 2, 1) := by decide +kernel
theorem dX2_notePart_13 : decode cX2_notePart 13 = .ok (.bipush 6, 2) := by decide +kernel
theorem dX2_notePart_15 : decode cX2_notePart 15 = .ok (.if_icmp .lt 5, 3) := by decide +kernel
theorem dX2_notePart_18 : decode cX2_notePart 18 = .ok (.iconst (-1), 1) := by decide +kernel
theorem dX2_notePart_19 : decode cX2_notePart 19 = .ok (.ireturn, 1) := by decide +kernel
theorem dX2_notePart_20 : decode cX2_notePart 20 = .ok (.aload_n 0, 1) := by decide +kernel
theorem dX2_notePart_21 : decode cX2_notePart 21 = .ok (.getfield 21, 3) := by decide +kernel
theorem dX2_notePart_24 : decode cX2_notePart 24 = .ok (.aload_n 0, 1) := by decide +kernel
theorem dX2_notePart_25 : decode cX2_notePart 25 = .ok (.getfield 117, 3) := by decide +kernel
theorem dX2_notePart_28 : decode cX2_notePart 28 = .ok (.iconst 1, 1) := by decide +kernel
theorem dX2_notePart_29 : decode cX2_notePart 29 = .ok (.isub, 1) := by decide +kernel
theorem dX2_notePart_30 : decode cX2_notePart 30 = .ok (.iload_n 1, 1) := by decide +kernel
theorem dX2_notePart_31 : decode cX2_notePart 31 = .ok (.isub, 1) := by decide +kernel
theorem dX2_notePart_32 : decode cX2_notePart 32 = .ok (.bipush 10, 2) := by decide +kernel
theorem dX2_notePart_34 : decode cX2_notePart 34 = .ok (.irem, 1) := by decide +kernel
theorem dX2_notePart_35 : decode cX2_notePart 35 = .ok (.bipush 6, 2) := by decide +kernel
theorem dX2_notePart_37 : decode cX2_notePart 37 = .ok (.imul, 1) := by decide +kernel
theorem dX2_notePart_38 : decode cX2_notePart 38 = .ok (.iload_n 2, 1) := by decide +kernel
theorem dX2_notePart_39 : decode cX2_notePart 39 = .ok (.iadd, 1) := by decide +kernel
theorem dX2_notePart_40 : decode cX2_notePart 40 = .ok (.iaload, 1) := by decide +kernel
theorem dX2_notePart_41 : decode cX2_notePart 41 = .ok (.ireturn, 1) := by decide +kernel
theorem dX2_dropWaitingAndKept_0 : decode cX2_dropWaitingAndKept 0 = .ok (.aload_n 0, 1) := by decide +kernel
theorem dX2_dropWaitingAndKept_1 : decode cX2_dropWaitingAndKept 1 = .ok (.invokevirtual 132, 3) := by decide +kernel
theorem dX2_dropWaitingAndKept_4 : decode cX2_dropWaitingAndKept 4 = .ok (.pop, 1) := by decide +kernel
theorem dX2_dropWaitingAndKept_5 : decode cX2_dropWaitingAndKept 5 = .ok (.aload_n 0, 1) := by decide +kernel
theorem dX2_dropWaitingAndKept_6 : decode cX2_dropWaitingAndKept 6 = .ok (.iconst 0, 1) := by decide +kernel
theorem dX2_dropWaitingAndKept_7 : decode cX2_dropWaitingAndKept 7 = .ok (.putfield 93, 3) := by decide +kernel
theorem dX2_dropWaitingAndKept_10 : decode cX2_dropWaitingAndKept 10 = .ok (.return_, 1) := by decide +kernel
theorem dX2_learnAllOf_0 : decode cX2_learnAllOf 0 = .ok (.aload_n 1, 1) := by decide +kernel
theorem dX2_learnAllOf_1 : decode cX2_learnAllOf 1 = .ok (.getfield 9, 3) := by decide +kernel
theorem dX2_learnAllOf_4 : decode cX2_learnAllOf 4 = .ok (.iconst 0, 1) := by decide +kernel
theorem dX2_learnAllOf_5 : decode cX2_learnAllOf 5 = .ok (.aload_n 0, 1) := by decide +kernel
theorem dX2_learnAllOf_6 : decode cX2_learnAllOf 6 = .ok (.getfield 9, 3) := by decide +kernel
theorem dX2_learnAllOf_9 : decode cX2_learnAllOf 9 = .ok (.iconst 0, 1) := by decide +kernel
theorem dX2_learnAllOf_10 : decode cX2_learnAllOf 10 = .ok (.sipush 256, 3) := by decide +kernel
theorem dX2_learnAllOf_13 : decode cX2_learnAllOf 13 = .ok (.invokestatic 136, 3) := by decide +kernel
theorem dX2_learnAllOf_16 : decode cX2_learnAllOf 16 = .ok (.return_, 1) := by decide +kernel
theorem dX3_init_0 : decode cX3_init 0 = .ok (.aload_n 0, 1) := by decide +kernel
theorem dX3_init_1 : decode cX3_init 1 = .ok (.invokespecial 3, 3) := by decide +kernel
theorem dX3_init_4 : decode cX3_init 4 = .ok (.aload_n 0, 1) := by decide +kernel
theorem dX3_init_5 : decode cX3_init 5 = .ok (.iconst 4, 1) := by decide +kernel
theorem dX3_init_6 : decode cX3_init 6 = .ok (.anewarray 9, 3) := by decide +kernel
theorem dX3_init_9 : decode cX3_init 9 = .ok (.putfield 11, 3) := by decide +kernel
theorem dX3_init_12 : decode cX3_init 12 = .ok (.aload_n 0, 1) := by decide +kernel
theorem dX3_init_13 : decode cX3_init 13 = .ok (.bipush 6, 2) := by decide +kernel
theorem dX3_init_15 : decode cX3_init 15 = .ok (.newarray .int, 2) := by decide +kernel
theorem dX3_init_17 : decode cX3_init 17 = .ok (.putfield 17, 3) := by decide +kernel
theorem dX3_init_20 : decode cX3_init 20 = .ok (.aload_n 0, 1) := by decide +kernel
theorem dX3_init_21 : decode cX3_init 21 = .ok (.bipush 6, 2) := by decide +kernel
theorem dX3_init_23 : decode cX3_init 23 = .ok (.newarray .int, 2) := by decide +kernel
theorem dX3_init_25 : decode cX3_init 25 = .ok (.putfield 21, 3) := by decide +kernel
theorem dX3_init_28 : decode cX3_init 28 = .ok (.aload_n 0, 1) := by decide +kernel
theorem dX3_init_29 : decode cX3_init 29 = .ok (.bipush 6, 2) := by decide +kernel
theorem dX3_init_31 : decode cX3_init 31 = .ok (.newarray .int, 2) := by decide +kernel
theorem dX3_init_33 : decode cX3_init 33 = .ok (.putfield 24, 3) := by decide +kernel
theorem dX3_init_36 : decode cX3_init 36 = .ok (.aload_n 0, 1) := by decide +kernel
theorem dX3_init_37 : decode cX3_init 37 = .ok (.iconst 2, 1) := by decide +kernel
theorem dX3_init_38 : decode cX3_init 38 = .ok (.newarray .int, 2) := by decide +kernel
theorem dX3_init_40 : decode cX3_init 40 = .ok (.putfield 27, 3) := by decide +kernel
theorem dX3_init_43 : decode cX3_init 43 = .ok (.aload_n 0, 1) := by decide +kernel
theorem dX3_init_44 : decode cX3_init 44 = .ok (.sipush 256, 3) := by decide +kernel
theorem dX3_init_47 : decode cX3_init 47 = .ok (.newarray .int, 2) := by decide +kernel
theorem dX3_init_49 : decode cX3_init 49 = .ok (.putfield 30, 3) := by decide +kernel
theorem dX3_init_52 : decode cX3_init 52 = .ok (.aload_n 0, 1) := by decide +kernel
theorem dX3_init_53 : decode cX3_init 53 = .ok (.sipush 256, 3) := by decide +kernel
theorem dX3_init_56 : decode cX3_init 56 = .ok (.newarray .int, 2) := by decide +kernel
theorem dX3_init_58 : decode cX3_init 58 = .ok (.putfield 33, 3) := by decide +kernel
theorem dX3_init_61 : decode cX3_init 61 = .ok (.aload_n 0, 1) := by decide +kernel
theorem dX3_init_62 : decode cX3_init 62 = .ok (.sipush 256, 3) := by decide +kernel
theorem dX3_init_65 : decode cX3_init 65 = .ok (.newarray .int, 2) := by decide +kernel
theorem dX3_init_67 : decode cX3_init 67 = .ok (.putfield 36, 3) := by decide +kernel
theorem dX3_init_70 : decode cX3_init 70 = .ok (.aload_n 0, 1) := by decide +kernel
theorem dX3_init_71 : decode cX3_init 71 = .ok (.iload_n 1, 1) := by decide +kernel
theorem dX3_init_72 : decode cX3_init 72 = .ok (.putfield 39, 3) := by decide +kernel
theorem dX3_init_75 : decode cX3_init 75 = .ok (.aload_n 0, 1) := by decide +kernel
theorem dX3_init_76 : decode cX3_init 76 = .ok (.getfield 30, 3) := by decide +kernel
theorem dX3_init_79 : decode cX3_init 79 = .ok (.iconst (-1), 1) := by decide +kernel
theorem dX3_init_80 : decode cX3_init 80 = .ok (.invokestatic 43, 3) := by decide +kernel
theorem dX3_init_83 : decode cX3_init 83 = .ok (.aload_n 0, 1) := by decide +kernel
theorem dX3_init_84 : decode cX3_init 84 = .ok (.getfield 33, 3) := by decide +kernel
theorem dX3_init_87 : decode cX3_init 87 = .ok (.iconst (-1), 1) := by decide +kernel
theorem dX3_init_88 : decode cX3_init 88 = .ok (.invokestatic 43, 3) := by decide +kernel
theorem dX3_init_91 : decode cX3_init 91 = .ok (.aload_n 0, 1) := by decide +kernel
theorem dX3_init_92 : decode cX3_init 92 = .ok (.getfield 36, 3) := by decide +kernel
theorem dX3_init_95 : decode cX3_init 95 = .ok (.iconst (-1), 1) := by decide +kernel
theorem dX3_init_96 : decode cX3_init 96 = .ok (.invokestatic 43, 3) := by decide +kernel
theorem dX3_init_99 : decode cX3_init 99 = .ok (.return_, 1) := by decide +kernel
theorem dX3_addNextPort_0 : decode cX3_addNextPort 0 = .ok (.aload_n 0, 1) := by decide +kernel
theorem dX3_addNextPort_1 : decode cX3_addNextPort 1 = .ok (.getfield 49, 3) := by decide +kernel
theorem dX3_addNextPort_4 : decode cX3_addNextPort 4 = .ok (.iconst 4, 1) := by decide +kernel
theorem dX3_addNextPort_5 : decode cX3_addNextPort 5 = .ok (.if_icmp .lt 5, 3) := by decide +kernel
theorem dX3_addNextPort_8 : decode cX3_addNextPort 8 = .ok (.aconst_null, 1) := by decide +kernel
theorem dX3_addNextPort_9 : decode cX3_addNextPort 9 = .ok (.areturn, 1) := by decide +kernel
theorem dX3_addNextPort_10 : decode cX3_addNextPort 10 = .ok (.new 9, 3) := by decide +kernel
theorem dX3_addNextPort_13 : decode cX3_addNextPort 13 = .ok (.dup, 1) := by decide +kernel
theorem dX3_addNextPort_14 : decode cX3_addNextPort 14 = .ok (.iconst 4, 1) := by decide +kernel
theorem dX3_addNextPort_15 : decode cX3_addNextPort 15 = .ok (.aload_n 0, 1) := by decide +kernel
theorem dX3_addNextPort_16 : decode cX3_addNextPort 16 = .ok (.getfield 39, 3) := by decide +kernel
theorem dX3_addNextPort_19 : decode cX3_addNextPort 19 = .ok (.imul, 1) := by decide +kernel
theorem dX3_addNextPort_20 : decode cX3_addNextPort 20 = .ok (.aload_n 0, 1) := by decide +kernel
theorem dX3_addNextPort_21 : decode cX3_addNextPort 21 = .ok (.getfield 49, 3) := by decide +kernel
theorem dX3_addNextPort_24 : decode cX3_addNextPort 24 = .ok (.iadd, 1) := by decide +kernel
theorem dX3_addNextPort_25 : decode cX3_addNextPort 25 = .ok (.iload_n 1, 1) := by decide +kernel
theorem dX3_addNextPort_26 : decode cX3_addNextPort 26 = .ok (.iload_n 2, 1) := by decide +kernel
theorem dX3_addNextPort_27 : decode cX3_addNextPort 27 = .ok (.iload_n 3, 1) := by decide +kernel
theorem dX3_addNextPort_28 : decode cX3_addNextPort 28 = .ok (.invokespecial 52, 3) := by decide +kernel
theorem dX3_addNextPort_31 : decode cX3_addNextPort 31 = .ok (.astore 4, 2) := by decide +kernel
theorem dX3_addNextPort_33 : decode cX3_addNextPort 33 = .ok (.aload_n 0, 1) := by decide +kernel
theorem dX3_addNextPort_34 : decode cX3_addNextPort 34 = .ok (.getfield 11, 3) := by decide +kernel
theorem dX3_addNextPort_37 : decode cX3_addNextPort 37 = .ok (.aload_n 0, 1) := by decide +kernel
theorem dX3_addNextPort_38 : decode cX3_addNextPort 38 = .ok (.getfield 49, 3) := by decide +kernel
theorem dX3_addNextPort_41 : decode cX3_addNextPort 41 = .ok (.aload 4, 2) := by decide +kernel
theorem dX3_addNextPort_43 : decode cX3_addNextPort 43 = .ok (.aastore, 1) := by decide +kernel
theorem dX3_addNextPort_44 : decode cX3_addNextPort 44 = .ok (.aload_n 0, 1) := by decide +kernel
theorem dX3_addNextPort_45 : decode cX3_addNextPort 45 = .ok (.dup, 1) := by decide +kernel
theorem dX3_addNextPort_46 : decode cX3_addNextPort 46 = .ok (.getfield 49, 3) := by decide +kernel
theorem dX3_addNextPort_49 : decode cX3_addNextPort 49 = .ok (.iconst 1, 1) := by decide +kernel
theorem dX3_addNextPort_50 : decode cX3_addNextPort 50 = .ok (.iadd, 1) := by decide +kernel
theorem dX3_addNextPort_51 : decode cX3_addNextPort 51 = .ok (.putfield 49, 3) := by decide +kernel
theorem dX3_addNextPort_54 : decode cX3_addNextPort 54 = .ok (.aload_n 0, 1) := by decide +kernel
theorem dX3_addNextPort_55 : decode cX3_addNextPort 55 = .ok (.invokevirtual 55, 3) := by decide +kernel
theorem dX3_addNextPort_58 : decode cX3_addNextPort 58 = .ok (.aload 4, 2) := by decide +kernel
theorem dX3_addNextPort_60 : decode cX3_addNextPort 60 = .ok (.areturn, 1) := by decide +kernel
theorem dX3_putTunnel_0 : decode cX3_putTunnel 0 = .ok (.aload_n 0, 1) := by decide +kernel
theorem dX3_putTunnel_1 : decode cX3_putTunnel 1 = .ok (.getfield 58, 3) := by decide +kernel
theorem dX3_putTunnel_4 : decode cX3_putTunnel 4 = .ok (.iconst 2, 1) := by decide +kernel
theorem dX3_putTunnel_5 : decode cX3_putTunnel 5 = .ok (.if_icmp .lt 5, 3) := by decide +kernel
theorem dX3_putTunnel_8 : decode cX3_putTunnel 8 = .ok (.iconst (-1), 1) := by decide +kernel
theorem dX3_putTunnel_9 : decode cX3_putTunnel 9 = .ok (.ireturn, 1) := by decide +kernel
theorem dX3_putTunnel_10 : decode cX3_putTunnel 10 = .ok (.aload_n 0, 1) := by decide +kernel
theorem dX3_putTunnel_11 : decode cX3_putTunnel 11 = .ok (.getfield 27, 3) := by decide +kernel
theorem dX3_putTunnel_14 : decode cX3_putTunnel 14 = .ok (.aload_n 0, 1) := by decide +kernel
theorem dX3_putTunnel_15 : decode cX3_putTunnel 15 = .ok (.getfield 58, 3) := by decide +kernel
theorem dX3_putTunnel_18 : decode cX3_putTunnel 18 = .ok (.iload_n 1, 1) := by decide +kernel
theorem dX3_putTunnel_19 : decode cX3_putTunnel 19 = .ok (.iastore, 1) := by decide +kernel
theorem dX3_putTunnel_20 : decode cX3_putTunnel 20 = .ok (.aload_n 0, 1) := by decide +kernel
theorem dX3_putTunnel_21 : decode cX3_putTunnel 21 = .ok (.dup, 1) := by decide +kernel
theorem dX3_putTunnel_22 : decode cX3_putTunnel 22 = .ok (.getfield 58, 3) := by decide +kernel
theorem dX3_putTunnel_25 : decode cX3_putTunnel 25 = .ok (.iconst 1, 1) := by decide +kernel
theorem dX3_putTunnel_26 : decode cX3_putTunnel 26 = .ok (.iadd, 1) := by decide +kernel
theorem dX3_putTunnel_27 : decode cX3_putTunnel 27 = .ok (.putfield 58, 3) := by decide +kernel
theorem dX3_putTunnel_30 : decode cX3_putTunnel 30 = .ok (.aload_n 0, 1) := by decide +kernel
theorem dX3_putTunnel_31 : decode cX3_putTunnel 31 = .ok (.getfield 58, 3) := by decide +kernel
theorem dX3_putTunnel_34 : decode cX3_putTunnel 34 = .ok (.iconst 1, 1) := by decide +kernel
theorem dX3_putTunnel_35 : decode cX3_putTunnel 35 = .ok (.isub, 1) := by decide +kernel
theorem dX3_putTunnel_36 : decode cX3_putTunnel 36 = .ok (.ireturn, 1) := by decide +kernel
theorem dX3_putRoute_0 : decode cX3_putRoute 0 = .ok (.aload_n 0, 1) := by decide +kernel
theorem dX3_putRoute_1 : decode cX3_putRoute 1 = .ok (.getfield 61, 3) := by decide +kernel
theorem dX3_putRoute_4 : decode cX3_putRoute 4 = .ok (.bipush 6, 2) := by decide +kernel
theorem dX3_putRoute_6 : decode cX3_putRoute 6 = .ok (.if_icmp .lt 5, 3) := by decide +kernel
theorem dX3_putRoute_9 : decode cX3_putRoute 9 = .ok (.iconst (-1), 1) := by decide +kernel
theorem dX3_putRoute_10 : decode cX3_putRoute 10 = .ok (.ireturn, 1) := by decide +kernel
theorem dX3_putRoute_11 : decode cX3_putRoute 11 = .ok (.aload_n 0, 1) := by decide +kernel
theorem dX3_putRoute_12 : decode cX3_putRoute 12 = .ok (.getfield 17, 3) := by decide +kernel
theorem dX3_putRoute_15 : decode cX3_putRoute 15 = .ok (.aload_n 0, 1) := by decide +kernel
theorem dX3_putRoute_16 : decode cX3_putRoute 16 = .ok (.getfield 61, 3) := by decide +kernel
theorem dX3_putRoute_19 : decode cX3_putRoute 19 = .ok (.iload_n 1, 1) := by decide +kernel
theorem dX3_putRoute_20 : decode cX3_putRoute 20 = .ok (.iastore, 1) := by decide +kernel
theorem dX3_putRoute_21 : decode cX3_putRoute 21 = .ok (.aload_n 0, 1) := by decide +kernel
theorem dX3_putRoute_22 : decode cX3_putRoute 22 = .ok (.getfield 21, 3) := by decide +kernel
theorem dX3_putRoute_25 : decode cX3_putRoute 25 = .ok (.aload_n 0, 1) := by decide +kernel
theorem dX3_putRoute_26 : decode cX3_putRoute 26 = .ok (.getfield 61, 3) := by decide +kernel
theorem dX3_putRoute_29 : decode cX3_putRoute 29 = .ok (.iload_n 2, 1) := by decide +kernel
theorem dX3_putRoute_30 : decode cX3_putRoute 30 = .ok (.iastore, 1) := by decide +kernel
theorem dX3_putRoute_31 : decode cX3_putRoute 31 = .ok (.aload_n 0, 1) := by decide +kernel
theorem dX3_putRoute_32 : decode cX3_putRoute 32 = .ok (.getfield 24, 3) := by decide +kernel
theorem dX3_putRoute_35 : decode cX3_putRoute 35 = .ok (.aload_n 0, 1) := by decide +kernel
theorem dX3_putRoute_36 : decode cX3_putRoute 36 = .ok (.getfield 61, 3) := by decide +kernel
theorem dX3_putRoute_39 : decode cX3_putRoute 39 = .ok (.iload_n 3, 1) := by decide +kernel
theorem dX3_putRoute_40 : decode cX3_putRoute 40 = .ok (.iastore, 1) := by decide +kernel
theorem dX3_putRoute_41 : decode cX3_putRoute 41 = .ok (.aload_n 0, 1) := by decide +kernel
theorem dX3_putRoute_42 : decode cX3_putRoute 42 = .ok (.dup, 1) := by decide +kernel
theorem dX3_putRoute_43 : decode cX3_putRoute 43 = .ok (.getfield 61, 3) := by decide +kernel
theorem dX3_putRoute_46 : decode cX3_putRoute 46 = .ok (.iconst 1, 1) := by decide +kernel
theorem dX3_putRoute_47 : decode cX3_putRoute 47 = .ok (.iadd, 1) := by decide +kernel
theorem dX3_putRoute_48 : decode cX3_putRoute 48 = .ok (.putfield 61, 3) := by decide +kernel
theorem dX3_putRoute_51 : decode cX3_putRoute 51 = .ok (.aload_n 0, 1) := by decide +kernel
theorem dX3_putRoute_52 : decode cX3_putRoute 52 = .ok (.invokevirtual 55, 3) := by decide +kernel
theorem dX3_putRoute_55 : decode cX3_putRoute 55 = .ok (.aload_n 0, 1) := by decide +kernel
theorem dX3_putRoute_56 : decode cX3_putRoute 56 = .ok (.getfield 61, 3) := by decide +kernel
theorem dX3_putRoute_59 : decode cX3_putRoute 59 = .ok (.iconst 1, 1) := by decide +kernel
theorem dX3_putRoute_60 : decode cX3_putRoute 60 = .ok (.isub, 1) := by decide +kernel
theorem dX3_putRoute_61 : decode cX3_putRoute 61 = .ok (.ireturn, 1) := by decide +kernel
theorem dX3_mayLeadVia_0 : decode cX3_mayLeadVia 0 = .ok (.iload_n 1, 1) := by decide +kernel
theorem dX3_mayLeadVia_1 : decode cX3_mayLeadVia 1 = .ok (.ifCond .lt 18, 3) := by decide +kernel
theorem dX3_mayLeadVia_4 : decode cX3_mayLeadVia 4 = .ok (.iload_n 1, 1) := by decide +kernel
theorem dX3_mayLeadVia_5 : decode cX3_mayLeadVia 5 = .ok (.sipush 256, 3) := by decide +kernel
theorem dX3_mayLeadVia_8 : decode cX3_mayLeadVia 8 = .ok (.if_icmp .ge 7, 3) := by decide +kernel
theorem dX3_mayLeadVia_11 : decode cX3_mayLeadVia 11 = .ok (.iconst 1, 1) := by decide +kernel
theorem dX3_mayLeadVia_12 : decode cX3_mayLeadVia 12 = .ok (.goto 22, 3) := by decide +kernel
theorem dX3_mayLeadVia_15 : decode cX3_mayLeadVia 15 = .ok (.iconst 0, 1) := by decide +kernel
theorem dX3_mayLeadVia_16 : decode cX3_mayLeadVia 16 = .ok (.goto 18, 3) := by decide +kernel
theorem dX3_mayLeadVia_19 : decode cX3_mayLeadVia 19 = .ok (.iconst (-1), 1) := by decide +kernel
theorem dX3_mayLeadVia_20 : decode cX3_mayLeadVia 20 = .ok (.iload_n 1, 1) := by decide +kernel
theorem dX3_mayLeadVia_21 : decode cX3_mayLeadVia 21 = .ok (.isub, 1) := by decide +kernel
theorem dX3_mayLeadVia_22 : decode cX3_mayLeadVia 22 = .ok (.aload_n 0, 1) := by decide +kernel
theorem dX3_mayLeadVia_23 : decode cX3_mayLeadVia 23 = .ok (.getfield 58, 3) := by decide +kernel
theorem dX3_mayLeadVia_26 : decode cX3_mayLeadVia 26 = .ok (.if_icmp .ge 7, 3) := by decide +kernel
theorem dX3_mayLeadVia_29 : decode cX3_mayLeadVia 29 = .ok (.iconst 1, 1) := by decide +kernel
theorem dX3_mayLeadVia_30 : decode cX3_mayLeadVia 30 = .ok (.goto 4, 3) := by decide +kernel
theorem dX3_mayLeadVia_33 : decode cX3_mayLeadVia 33 = .ok (.iconst 0, 1) := by decide +kernel
theorem dX3_mayLeadVia_34 : decode cX3_mayLeadVia 34 = .ok (.ireturn, 1) := by decide +kernel
theorem dX3_port_0 : decode cX3_port 0 = .ok (.iload_n 1, 1) := by decide +kernel
theorem dX3_port_1 : decode cX3_port 1 = .ok (.ifCond .lt 17, 3) := by decide +kernel
theorem dX3_port_4 : decode cX3_port 4 = .ok (.iload_n 1, 1) := by decide +kernel
theorem dX3_port_5 : decode cX3_port 5 = .ok (.iconst 4, 1) := by decide +kernel
theorem dX3_port_6 : decode cX3_port 6 = .ok (.if_icmp .ge 12, 3) := by decide +kernel
theorem dX3_port_9 : decode cX3_port 9 = .ok (.aload_n 0, 1) := by decide +kernel
theorem dX3_port_10 : decode cX3_port 10 = .ok (.getfield 11, 3) := by decide +kernel
theorem dX3_port_13 : decode cX3_port 13 = .ok (.iload_n 1, 1) := by decide +kernel
theorem dX3_port_14 : decode cX3_port 14 = .ok (.aaload, 1) := by decide +kernel
theorem dX3_port_15 : decode cX3_port 15 = .ok (.goto 4, 3) := by decide +kernel
theorem dX3_port_18 : decode cX3_port 18 = .ok (.aconst_null, 1) := by decide +kernel
theorem dX3_port_19 : decode cX3_port 19 = .ok (.areturn, 1) := by decide +kernel
theorem dX3_owns_0 : decode cX3_owns 0 = .ok (.iconst 0, 1) := by decide +kernel
theorem dX3_owns_1 : decode cX3_owns 1 = .ok (.istore_n 2, 1) := by decide +kernel
theorem dX3_owns_2 : decode cX3_owns 2 = .ok (.iload_n 2, 1) := by decide +kernel
theorem dX3_owns_3 : decode cX3_owns 3 = .ok (.iconst 4, 1) := by decide +kernel
theorem dX3_owns_4 : decode cX3_owns 4 = .ok (.if_icmp .ge 30, 3) := by decide +kernel
theorem dX3_owns_7 : decode cX3_owns 7 = .ok (.aload_n 0, 1) := by decide +kernel
theorem dX3_owns_8 : decode cX3_owns 8 = .ok (.getfield 11, 3) := by decide +kernel
theorem dX3_owns_11 : decode cX3_owns 11 = .ok (.iload_n 2, 1) := by decide +kernel
theorem dX3_owns_12 : decode cX3_owns 12 = .ok (.aaload, 1) := by decide +kernel
theorem dX3_owns_13 : decode cX3_owns 13 = .ok (.astore_n 3, 1) := by decide +kernel
theorem dX3_owns_14 : decode cX3_owns 14 = .ok (.aload_n 3, 1) := by decide +kernel
theorem dX3_owns_15 : decode cX3_owns 15 = .ok (.ifnull 13, 3) := by decide +kernel
theorem dX3_owns_18 : decode cX3_owns 18 = .ok (.aload_n 3, 1) := by decide +kernel
theorem dX3_owns_19 : decode cX3_owns 19 = .ok (.getfield 64, 3) := by decide +kernel
theorem dX3_owns_22 : decode cX3_owns 22 = .ok (.iload_n 1, 1) := by decide +kernel
theorem dX3_owns_23 : decode cX3_owns 23 = .ok (.if_icmp .ne 5, 3) := by decide +kernel
theorem dX3_owns_26 : decode cX3_owns 26 = .ok (.iconst 1, 1) := by decide +kernel
theorem dX3_owns_27 : decode cX3_owns 27 = .ok (.ireturn, 1) := by decide +kernel
theorem dX3_owns_28 : decode cX3_owns 28 = .ok (.iinc 2 1, 3) := by decide +kernel
theorem dX3_owns_31 : decode cX3_owns 31 = .ok (.goto (-29), 3) := by decide +kernel
theorem dX3_owns_34 : decode cX3_owns 34 = .ok (.iconst 0, 1) := by decide +kernel
theorem dX3_owns_35 : decode cX3_owns 35 = .ok (.ireturn, 1) := by decide +kernel
theorem dX3_hasTunnelTo_0 : decode cX3_hasTunnelTo 0 = .ok (.iconst 0, 1) := by decide +kernel
theorem dX3_hasTunnelTo_1 : decode cX3_hasTunnelTo 1 = .ok (.istore_n 2, 1) := by decide +kernel
theorem dX3_hasTunnelTo_2 : decode cX3_hasTunnelTo 2 = .ok (.iload_n 2, 1) := by decide +kernel
theorem dX3_hasTunnelTo_3 : decode cX3_hasTunnelTo 3 = .ok (.aload_n 0, 1) := by decide +kernel
theorem dX3_hasTunnelTo_4 : decode cX3_hasTunnelTo 4 = .ok (.getfield 58, 3) := by decide +kernel
theorem dX3_hasTunnelTo_7 : decode cX3_hasTunnelTo 7 = .ok (.if_icmp .ge 21, 3) := by decide +kernel
theorem dX3_hasTunnelTo_10 : decode cX3_hasTunnelTo 10 = .ok (.aload_n 0, 1) := by decide +kernel
theorem dX3_hasTunnelTo_11 : decode cX3_hasTunnelTo 11 = .ok (.getfield 27, 3) := by decide +kernel
theorem dX3_hasTunnelTo_14 : decode cX3_hasTunnelTo 14 = .ok (.iload_n 2, 1) := by decide +kernel
theorem dX3_hasTunnelTo_15 : decode cX3_hasTunnelTo 15 = .ok (.iaload, 1) := by decide +kernel
theorem dX3_hasTunnelTo_16 : decode cX3_hasTunnelTo 16 = .ok (.iload_n 1, 1) := by decide +kernel
theorem dX3_hasTunnelTo_17 : decode cX3_hasTunnelTo 17 = .ok (.if_icmp .ne 5, 3) := by decide +kernel
theorem dX3_hasTunnelTo_20 : decode cX3_hasTunnelTo 20 = .ok (.iconst 1, 1) := by decide +kernel
theorem dX3_hasTunnelTo_21 : decode cX3_hasTunnelTo 21 = .ok (.ireturn, 1) := by decide +kernel
theorem dX3_hasTunnelTo_22 : decode cX3_hasTunnelTo 22 = .ok (.iinc 2 1, 3) := by decide +kernel
theorem dX3_hasTunnelTo_25 : decode cX3_hasTunnelTo 25 = .ok (.goto (-23), 3) := by decide +kernel
theorem dX3_hasTunnelTo_28 : decode cX3_hasTunnelTo 28 = .ok (.iconst 0, 1) := by decide +kernel
theorem dX3_hasTunnelTo_29 : decode cX3_hasTunnelTo 29 = .ok (.ireturn, 1) := by decide +kernel
theorem dX3_farOf_0 : decode cX3_farOf 0 = .ok (.iload_n 1, 1) := by decide +kernel
theorem dX3_farOf_1 : decode cX3_farOf 1 = .ok (.ifCond .lt 20, 3) := by decide +kernel
theorem dX3_farOf_4 : decode cX3_farOf 4 = .ok (.iload_n 1, 1) := by decide +kernel
theorem dX3_farOf_5 : decode cX3_farOf 5 = .ok (.aload_n 0, 1) := by decide +kernel
theorem dX3_farOf_6 : decode cX3_farOf 6 = .ok (.getfield 58, 3) := by decide +kernel
theorem dX3_farOf_9 : decode cX3_farOf 9 = .ok (.if_icmp .ge 12, 3) := by decide +kernel
theorem dX3_farOf_12 : decode cX3_farOf 12 = .ok (.aload_n 0, 1) := by decide +kernel
theorem dX3_farOf_13 : decode cX3_farOf 13 = .ok (.getfield 27, 3) := by decide +kernel
theorem dX3_farOf_16 : decode cX3_farOf 16 = .ok (.iload_n 1, 1) := by decide +kernel
theorem dX3_farOf_17 : decode cX3_farOf 17 = .ok (.iaload, 1) := by decide +kernel
theorem dX3_farOf_18 : decode cX3_farOf 18 = .ok (.goto 4, 3) := by decide +kernel
theorem dX3_farOf_21 : decode cX3_farOf 21 = .ok (.iconst (-1), 1) := by decide +kernel
theorem dX3_farOf_22 : decode cX3_farOf 22 = .ok (.ireturn, 1) := by decide +kernel
theorem dX3_portTo_0 : decode cX3_portTo 0 = .ok (.iload_n 1, 1) := by decide +kernel
theorem dX3_portTo_1 : decode cX3_portTo 1 = .ok (.ifCond .lt 19, 3) := by decide +kernel
theorem dX3_portTo_4 : decode cX3_portTo 4 = .ok (.iload_n 1, 1) := by decide +kernel
theorem dX3_portTo_5 : decode cX3_portTo 5 = .ok (.sipush 256, 3) := by decide +kernel
theorem dX3_portTo_8 : decode cX3_portTo 8 = .ok (.if_icmp .ge 12, 3) := by decide +kernel
theorem dX3_portTo_11 : decode cX3_portTo 11 = .ok (.aload_n 0, 1) := by decide +kernel
theorem dX3_portTo_12 : decode cX3_portTo 12 = .ok (.getfield 30, 3) := by decide +kernel
theorem dX3_portTo_15 : decode cX3_portTo 15 = .ok (.iload_n 1, 1) := by decide +kernel
theorem dX3_portTo_16 : decode cX3_portTo 16 = .ok (.iaload, 1) := by decide +kernel
theorem dX3_portTo_17 : decode cX3_portTo 17 = .ok (.goto 4, 3) := by decide +kernel
theorem dX3_portTo_20 : decode cX3_portTo 20 = .ok (.iconst (-1), 1) := by decide +kernel
theorem dX3_portTo_21 : decode cX3_portTo 21 = .ok (.ireturn, 1) := by decide +kernel
theorem dX3_hopTo_0 : decode cX3_hopTo 0 = .ok (.iload_n 1, 1) := by decide +kernel
theorem dX3_hopTo_1 : decode cX3_hopTo 1 = .ok (.ifCond .lt 19, 3) := by decide +kernel
theorem dX3_hopTo_4 : decode cX3_hopTo 4 = .ok (.iload_n 1, 1) := by decide +kernel
theorem dX3_hopTo_5 : decode cX3_hopTo 5 = .ok (.sipush 256, 3) := by decide +kernel
theorem dX3_hopTo_8 : decode cX3_hopTo 8 = .ok (.if_icmp .ge 12, 3) := by decide +kernel
theorem dX3_hopTo_11 : decode cX3_hopTo 11 = .ok (.aload_n 0, 1) := by decide +kernel
theorem dX3_hopTo_12 : decode cX3_hopTo 12 = .ok (.getfield 33, 3) := by decide +kernel
theorem dX3_hopTo_15 : decode cX3_hopTo 15 = .ok (.iload_n 1, 1) := by decide +kernel
theorem dX3_hopTo_16 : decode cX3_hopTo 16 = .ok (.iaload, 1) := by decide +kernel
theorem dX3_hopTo_17 : decode cX3_hopTo 17 = .ok (.goto 4, 3) := by decide +kernel
theorem dX3_hopTo_20 : decode cX3_hopTo 20 = .ok (.iconst (-1), 1) := by decide +kernel
theorem dX3_hopTo_21 : decode cX3_hopTo 21 = .ok (.ireturn, 1) := by decide +kernel
theorem dX3_lengthTo_0 : decode cX3_lengthTo 0 = .ok (.iload_n 1, 1) := by decide +kernel
theorem dX3_lengthTo_1 : decode cX3_lengthTo 1 = .ok (.ifCond .lt 19, 3) := by decide +kernel
theorem dX3_lengthTo_4 : decode cX3_lengthTo 4 = .ok (.iload_n 1, 1) := by decide +kernel
theorem dX3_lengthTo_5 : decode cX3_lengthTo 5 = .ok (.sipush 256, 3) := by decide +kernel
theorem dX3_lengthTo_8 : decode cX3_lengthTo 8 = .ok (.if_icmp .ge 12, 3) := by decide +kernel
theorem dX3_lengthTo_11 : decode cX3_lengthTo 11 = .ok (.aload_n 0, 1) := by decide +kernel
theorem dX3_lengthTo_12 : decode cX3_lengthTo 12 = .ok (.getfield 36, 3) := by decide +kernel
theorem dX3_lengthTo_15 : decode cX3_lengthTo 15 = .ok (.iload_n 1, 1) := by decide +kernel
theorem dX3_lengthTo_16 : decode cX3_lengthTo 16 = .ok (.iaload, 1) := by decide +kernel
theorem dX3_lengthTo_17 : decode cX3_lengthTo 17 = .ok (.goto 4, 3) := by decide +kernel
theorem dX3_lengthTo_20 : decode cX3_lengthTo 20 = .ok (.iconst (-1), 1) := by decide +kernel
theorem dX3_lengthTo_21 : decode cX3_lengthTo 21 = .ok (.ireturn, 1) := by decide +kernel
theorem dX3_layWays_0 : decode cX3_layWays 0 = .ok (.iconst 0, 1) := by decide +kernel
theorem dX3_layWays_1 : decode cX3_layWays 1 = .ok (.istore_n 1, 1) := by decide +kernel
theorem dX3_layWays_2 : decode cX3_layWays 2 = .ok (.iload_n 1, 1) := by decide +kernel
theorem dX3_layWays_3 : decode cX3_layWays 3 = .ok (.sipush 256, 3) := by decide +kernel
theorem dX3_layWays_6 : decode cX3_layWays 6 = .ok (.if_icmp .ge 86, 3) := by decide +kernel
theorem dX3_layWays_9 : decode cX3_layWays 9 = .ok (.aload_n 0, 1) := by decide +kernel
theorem dX3_layWays_10 : decode cX3_layWays 10 = .ok (.iload_n 1, 1) := by decide +kernel
theorem dX3_layWays_11 : decode cX3_layWays 11 = .ok (.invokevirtual 67, 3) := by decide +kernel
theorem dX3_layWays_14 : decode cX3_layWays 14 = .ok (.istore_n 2, 1) := by decide +kernel
theorem dX3_layWays_15 : decode cX3_layWays 15 = .ok (.aload_n 0, 1) := by decide +kernel
theorem dX3_layWays_16 : decode cX3_layWays 16 = .ok (.iload_n 2, 1) := by decide +kernel
theorem dX3_layWays_17 : decode cX3_layWays 17 = .ok (.invokevirtual 71, 3) := by decide +kernel
theorem dX3_layWays_20 : decode cX3_layWays 20 = .ok (.astore_n 3, 1) := by decide +kernel
theorem dX3_layWays_21 : decode cX3_layWays 21 = .ok (.aload_n 3, 1) := by decide +kernel
theorem dX3_layWays_22 : decode cX3_layWays 22 = .ok (.ifnonnull 7, 3) := by decide +kernel
theorem dX3_layWays_25 : decode cX3_layWays 25 = .ok (.iconst (-1), 1) := by decide +kernel
theorem dX3_layWays_26 : decode cX3_layWays 26 = .ok (.goto 7, 3) := by decide +kernel
theorem dX3_layWays_29 : decode cX3_layWays 29 = .ok (.aload_n 3, 1) := by decide +kernel
theorem dX3_layWays_30 : decode cX3_layWays 30 = .ok (.getfield 75, 3) := by decide +kernel
theorem dX3_layWays_33 : decode cX3_layWays 33 = .ok (.istore 4, 2) := by decide +kernel
theorem dX3_layWays_35 : decode cX3_layWays 35 = .ok (.aload_n 0, 1) := by decide +kernel
theorem dX3_layWays_36 : decode cX3_layWays 36 = .ok (.iload_n 1, 1) := by decide +kernel
theorem dX3_layWays_37 : decode cX3_layWays 37 = .ok (.invokevirtual 78, 3) := by decide +kernel
theorem dX3_layWays_40 : decode cX3_layWays 40 = .ok (.istore 5, 2) := by decide +kernel
theorem dX3_layWays_42 : decode cX3_layWays 42 = .ok (.iload 5, 2) := by decide +kernel
theorem dX3_layWays_44 : decode cX3_layWays 44 = .ok (.ifCond .lt 25, 3) := by decide +kernel
theorem dX3_layWays_47 : decode cX3_layWays 47 = .ok (.aload_n 0, 1) := by decide +kernel
theorem dX3_layWays_48 : decode cX3_layWays 48 = .ok (.getfield 21, 3) := by decide +kernel
theorem dX3_layWays_51 : decode cX3_layWays 51 = .ok (.iload 5, 2) := by decide +kernel
theorem dX3_layWays_53 : decode cX3_layWays 53 = .ok (.iaload, 1) := by decide +kernel
theorem dX3_layWays_54 : decode cX3_layWays 54 = .ok (.iload 4, 2) := by decide +kernel
theorem dX3_layWays_56 : decode cX3_layWays 56 = .ok (.if_icmp .le 13, 3) := by decide +kernel
theorem dX3_layWays_59 : decode cX3_layWays 59 = .ok (.aload_n 0, 1) := by decide +kernel
theorem dX3_layWays_60 : decode cX3_layWays 60 = .ok (.iload_n 1, 1) := by decide +kernel
theorem dX3_layWays_61 : decode cX3_layWays 61 = .ok (.iload 5, 2) := by decide +kernel
theorem dX3_layWays_63 : decode cX3_layWays 63 = .ok (.invokevirtual 81, 3) := by decide +kernel
theorem dX3_layWays_66 : decode cX3_layWays 66 = .ok (.goto 20, 3) := by decide +kernel
theorem dX3_layWays_69 : decode cX3_layWays 69 = .ok (.aload_n 0, 1) := by decide +kernel
theorem dX3_layWays_70 : decode cX3_layWays 70 = .ok (.iload_n 1, 1) := by decide +kernel
theorem dX3_layWays_71 : decode cX3_layWays 71 = .ok (.iload_n 2, 1) := by decide +kernel
theorem dX3_layWays_72 : decode cX3_layWays 72 = .ok (.aload_n 3, 1) := by decide +kernel
