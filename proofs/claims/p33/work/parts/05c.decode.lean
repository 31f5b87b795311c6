theorem dX9_goOut_115 : decode cX9_goOut 115 = .ok (.getfield 89, 3) := by decide +kernel
theorem dX9_goOut_118 : decode cX9_goOut 118 = .ok (.ifCond .eq 50, 3) := by decide +kernel
theorem dX9_goOut_121 : decode cX9_goOut 121 = .ok (.aload 4, 2) := by decide +kernel
theorem dX9_goOut_123 : decode cX9_goOut 123 = .ok (.getfield 113, 3) := by decide +kernel
theorem dX9_goOut_126 : decode cX9_goOut 126 = .ok (.iconst 4, 1) := by decide +kernel
theorem dX9_goOut_127 : decode cX9_goOut 127 = .ok (.iadd, 1) := by decide +kernel
theorem dX9_goOut_128 : decode cX9_goOut 128 = .ok (.aload_n 0, 1) := by decide +kernel
theorem dX9_goOut_129 : decode cX9_goOut 129 = .ok (.getfield 35, 3) := by decide +kernel
theorem dX9_goOut_132 : decode cX9_goOut 132 = .ok (.aload 7, 2) := by decide +kernel
theorem dX9_goOut_134 : decode cX9_goOut 134 = .ok (.getfield 171, 3) := by decide +kernel
theorem dX9_goOut_137 : decode cX9_goOut 137 = .ok (.invokevirtual 174, 3) := by decide +kernel
theorem dX9_goOut_140 : decode cX9_goOut 140 = .ok (.if_icmp .le 28, 3) := by decide +kernel
theorem dX9_goOut_143 : decode cX9_goOut 143 = .ok (.aload_n 0, 1) := by decide +kernel
theorem dX9_goOut_144 : decode cX9_goOut 144 = .ok (.aload_n 1, 1) := by decide +kernel
theorem dX9_goOut_145 : decode cX9_goOut 145 = .ok (.aload 4, 2) := by decide +kernel
theorem dX9_goOut_147 : decode cX9_goOut 147 = .ok (.iconst 5, 1) := by decide +kernel
theorem dX9_goOut_148 : decode cX9_goOut 148 = .ok (.aload_n 0, 1) := by decide +kernel
theorem dX9_goOut_149 : decode cX9_goOut 149 = .ok (.getfield 35, 3) := by decide +kernel
theorem dX9_goOut_152 : decode cX9_goOut 152 = .ok (.aload 7, 2) := by decide +kernel
theorem dX9_goOut_154 : decode cX9_goOut 154 = .ok (.getfield 171, 3) := by decide +kernel
theorem dX9_goOut_157 : decode cX9_goOut 157 = .ok (.invokevirtual 174, 3) := by decide +kernel
theorem dX9_goOut_160 : decode cX9_goOut 160 = .ok (.invokevirtual 167, 3) := by decide +kernel
theorem dX9_goOut_163 : decode cX9_goOut 163 = .ok (.astore 4, 2) := by decide +kernel
theorem dX9_goOut_165 : decode cX9_goOut 165 = .ok (.goto 15, 3) := by decide +kernel
theorem dX9_goOut_168 : decode cX9_goOut 168 = .ok (.aload_n 0, 1) := by decide +kernel
theorem dX9_goOut_169 : decode cX9_goOut 169 = .ok (.aload_n 1, 1) := by decide +kernel
theorem dX9_goOut_170 : decode cX9_goOut 170 = .ok (.aload 7, 2) := by decide +kernel
theorem dX9_goOut_172 : decode cX9_goOut 172 = .ok (.aload 4, 2) := by decide +kernel
theorem dX9_goOut_174 : decode cX9_goOut 174 = .ok (.invokevirtual 177, 3) := by decide +kernel
theorem dX9_goOut_177 : decode cX9_goOut 177 = .ok (.aconst_null, 1) := by decide +kernel
theorem dX9_goOut_178 : decode cX9_goOut 178 = .ok (.astore 4, 2) := by decide +kernel
theorem dX9_goOut_180 : decode cX9_goOut 180 = .ok (.iinc 5 1, 3) := by decide +kernel
theorem dX9_goOut_183 : decode cX9_goOut 183 = .ok (.goto (-172), 3) := by decide +kernel
theorem dX9_goOut_186 : decode cX9_goOut 186 = .ok (.return_, 1) := by decide +kernel
theorem dX9_canWrap_0 : decode cX9_canWrap 0 = .ok (.aload_n 0, 1) := by decide +kernel
theorem dX9_canWrap_1 : decode cX9_canWrap 1 = .ok (.aload_n 0, 1) := by decide +kernel
theorem dX9_canWrap_2 : decode cX9_canWrap 2 = .ok (.aload_n 1, 1) := by decide +kernel
theorem dX9_canWrap_3 : decode cX9_canWrap 3 = .ok (.getfield 110, 3) := by decide +kernel
theorem dX9_canWrap_6 : decode cX9_canWrap 6 = .ok (.invokevirtual 139, 3) := by decide +kernel
theorem dX9_canWrap_9 : decode cX9_canWrap 9 = .ok (.invokevirtual 142, 3) := by decide +kernel
theorem dX9_canWrap_12 : decode cX9_canWrap 12 = .ok (.istore_n 2, 1) := by decide +kernel
theorem dX9_canWrap_13 : decode cX9_canWrap 13 = .ok (.aload_n 0, 1) := by decide +kernel
theorem dX9_canWrap_14 : decode cX9_canWrap 14 = .ok (.iload_n 2, 1) := by decide +kernel
theorem dX9_canWrap_15 : decode cX9_canWrap 15 = .ok (.invokevirtual 129, 3) := by decide +kernel
theorem dX9_canWrap_18 : decode cX9_canWrap 18 = .ok (.ifCond .ne 19, 3) := by decide +kernel
theorem dX9_canWrap_21 : decode cX9_canWrap 21 = .ok (.aload_n 0, 1) := by decide +kernel
theorem dX9_canWrap_22 : decode cX9_canWrap 22 = .ok (.aload_n 0, 1) := by decide +kernel
theorem dX9_canWrap_23 : decode cX9_canWrap 23 = .ok (.iload_n 2, 1) := by decide +kernel
theorem dX9_canWrap_24 : decode cX9_canWrap 24 = .ok (.invokevirtual 135, 3) := by decide +kernel
theorem dX9_canWrap_27 : decode cX9_canWrap 27 = .ok (.invokevirtual 145, 3) := by decide +kernel
theorem dX9_canWrap_30 : decode cX9_canWrap 30 = .ok (.ifnull 7, 3) := by decide +kernel
theorem dX9_canWrap_33 : decode cX9_canWrap 33 = .ok (.iconst 1, 1) := by decide +kernel
theorem dX9_canWrap_34 : decode cX9_canWrap 34 = .ok (.goto 4, 3) := by decide +kernel
theorem dX9_canWrap_37 : decode cX9_canWrap 37 = .ok (.iconst 0, 1) := by decide +kernel
theorem dX9_canWrap_38 : decode cX9_canWrap 38 = .ok (.ireturn, 1) := by decide +kernel
theorem dX9_wrap_0 : decode cX9_wrap 0 = .ok (.aload_n 1, 1) := by decide +kernel
theorem dX9_wrap_1 : decode cX9_wrap 1 = .ok (.aload_n 1, 1) := by decide +kernel
theorem dX9_wrap_2 : decode cX9_wrap 2 = .ok (.aload_n 2, 1) := by decide +kernel
theorem dX9_wrap_3 : decode cX9_wrap 3 = .ok (.getfield 110, 3) := by decide +kernel
theorem dX9_wrap_6 : decode cX9_wrap 6 = .ok (.invokevirtual 139, 3) := by decide +kernel
theorem dX9_wrap_9 : decode cX9_wrap 9 = .ok (.invokevirtual 142, 3) := by decide +kernel
theorem dX9_wrap_12 : decode cX9_wrap 12 = .ok (.istore_n 3, 1) := by decide +kernel
theorem dX9_wrap_13 : decode cX9_wrap 13 = .ok (.aload_n 0, 1) := by decide +kernel
theorem dX9_wrap_14 : decode cX9_wrap 14 = .ok (.bipush 6, 2) := by decide +kernel
theorem dX9_wrap_16 : decode cX9_wrap 16 = .ok (.aload_n 1, 1) := by decide +kernel
theorem dX9_wrap_17 : decode cX9_wrap 17 = .ok (.iload_n 3, 1) := by decide +kernel
theorem dX9_wrap_18 : decode cX9_wrap 18 = .ok (.invokestatic 76, 3) := by decide +kernel
theorem dX9_wrap_21 : decode cX9_wrap 21 = .ok (.iload_n 3, 1) := by decide +kernel
theorem dX9_wrap_22 : decode cX9_wrap 22 = .ok (.aload_n 2, 1) := by decide +kernel
theorem dX9_wrap_23 : decode cX9_wrap 23 = .ok (.getfield 113, 3) := by decide +kernel
theorem dX9_wrap_26 : decode cX9_wrap 26 = .ok (.iconst 4, 1) := by decide +kernel
theorem dX9_wrap_27 : decode cX9_wrap 27 = .ok (.iadd, 1) := by decide +kernel
theorem dX9_wrap_28 : decode cX9_wrap 28 = .ok (.invokevirtual 80, 3) := by decide +kernel
theorem dX9_wrap_31 : decode cX9_wrap 31 = .ok (.astore 4, 2) := by decide +kernel
theorem dX9_wrap_33 : decode cX9_wrap 33 = .ok (.aload 4, 2) := by decide +kernel
theorem dX9_wrap_35 : decode cX9_wrap 35 = .ok (.aload_n 2, 1) := by decide +kernel
theorem dX9_wrap_36 : decode cX9_wrap 36 = .ok (.putfield 125, 3) := by decide +kernel
theorem dX9_wrap_39 : decode cX9_wrap 39 = .ok (.aload 4, 2) := by decide +kernel
theorem dX9_wrap_41 : decode cX9_wrap 41 = .ok (.areturn, 1) := by decide +kernel
theorem dX9_goByPort_0 : decode cX9_goByPort 0 = .ok (.aload_n 0, 1) := by decide +kernel
theorem dX9_goByPort_1 : decode cX9_goByPort 1 = .ok (.getfield 35, 3) := by decide +kernel
theorem dX9_goByPort_4 : decode cX9_goByPort 4 = .ok (.aload_n 2, 1) := by decide +kernel
theorem dX9_goByPort_5 : decode cX9_goByPort 5 = .ok (.getfield 171, 3) := by decide +kernel
theorem dX9_goByPort_8 : decode cX9_goByPort 8 = .ok (.invokevirtual 174, 3) := by decide +kernel
theorem dX9_goByPort_11 : decode cX9_goByPort 11 = .ok (.istore 4, 2) := by decide +kernel
theorem dX9_goByPort_13 : decode cX9_goByPort 13 = .ok (.iload 4, 2) := by decide +kernel
theorem dX9_goByPort_15 : decode cX9_goByPort 15 = .ok (.iconst 4, 1) := by decide +kernel
theorem dX9_goByPort_16 : decode cX9_goByPort 16 = .ok (.isub, 1) := by decide +kernel
theorem dX9_goByPort_17 : decode cX9_goByPort 17 = .ok (.iconst 4, 1) := by decide +kernel
theorem dX9_goByPort_18 : decode cX9_goByPort 18 = .ok (.idiv, 1) := by decide +kernel
theorem dX9_goByPort_19 : decode cX9_goByPort 19 = .ok (.iconst 4, 1) := by decide +kernel
theorem dX9_goByPort_20 : decode cX9_goByPort 20 = .ok (.imul, 1) := by decide +kernel
theorem dX9_goByPort_21 : decode cX9_goByPort 21 = .ok (.istore 5, 2) := by decide +kernel
theorem dX9_goByPort_23 : decode cX9_goByPort 23 = .ok (.aload_n 3, 1) := by decide +kernel
theorem dX9_goByPort_24 : decode cX9_goByPort 24 = .ok (.getfield 113, 3) := by decide +kernel
theorem dX9_goByPort_27 : decode cX9_goByPort 27 = .ok (.iconst 4, 1) := by decide +kernel
theorem dX9_goByPort_28 : decode cX9_goByPort 28 = .ok (.iadd, 1) := by decide +kernel
theorem dX9_goByPort_29 : decode cX9_goByPort 29 = .ok (.iload 4, 2) := by decide +kernel
theorem dX9_goByPort_31 : decode cX9_goByPort 31 = .ok (.if_icmp .le 9, 3) := by decide +kernel
theorem dX9_goByPort_34 : decode cX9_goByPort 34 = .ok (.iload 5, 2) := by decide +kernel
theorem dX9_goByPort_36 : decode cX9_goByPort 36 = .ok (.iconst 1, 1) := by decide +kernel
theorem dX9_goByPort_37 : decode cX9_goByPort 37 = .ok (.if_icmp .ge 11, 3) := by decide +kernel
theorem dX9_goByPort_40 : decode cX9_goByPort 40 = .ok (.aload_n 0, 1) := by decide +kernel
theorem dX9_goByPort_41 : decode cX9_goByPort 41 = .ok (.aload_n 1, 1) := by decide +kernel
theorem dX9_goByPort_42 : decode cX9_goByPort 42 = .ok (.aload_n 2, 1) := by decide +kernel
theorem dX9_goByPort_43 : decode cX9_goByPort 43 = .ok (.aload_n 3, 1) := by decide +kernel
theorem dX9_goByPort_44 : decode cX9_goByPort 44 = .ok (.invokevirtual 181, 3) := by decide +kernel
theorem dX9_goByPort_47 : decode cX9_goByPort 47 = .ok (.return_, 1) := by decide +kernel
theorem dX9_goByPort_48 : decode cX9_goByPort 48 = .ok (.iconst 0, 1) := by decide +kernel
theorem dX9_goByPort_49 : decode cX9_goByPort 49 = .ok (.istore 6, 2) := by decide +kernel
theorem dX9_goByPort_51 : decode cX9_goByPort 51 = .ok (.iload 6, 2) := by decide +kernel
theorem dX9_goByPort_53 : decode cX9_goByPort 53 = .ok (.aload_n 3, 1) := by decide +kernel
theorem dX9_goByPort_54 : decode cX9_goByPort 54 = .ok (.getfield 113, 3) := by decide +kernel
theorem dX9_goByPort_57 : decode cX9_goByPort 57 = .ok (.if_icmp .ge 40, 3) := by decide +kernel
theorem dX9_goByPort_60 : decode cX9_goByPort 60 = .ok (.aload_n 0, 1) := by decide +kernel
theorem dX9_goByPort_61 : decode cX9_goByPort 61 = .ok (.getfield 21, 3) := by decide +kernel
theorem dX9_goByPort_64 : decode cX9_goByPort 64 = .ok (.invokevirtual 100, 3) := by decide +kernel
theorem dX9_goByPort_67 : decode cX9_goByPort 67 = .ok (.astore 7, 2) := by decide +kernel
theorem dX9_goByPort_69 : decode cX9_goByPort 69 = .ok (.aload 7, 2) := by decide +kernel
theorem dX9_goByPort_71 : decode cX9_goByPort 71 = .ok (.aload_n 3, 1) := by decide +kernel
theorem dX9_goByPort_72 : decode cX9_goByPort 72 = .ok (.iload 6, 2) := by decide +kernel
theorem dX9_goByPort_74 : decode cX9_goByPort 74 = .ok (.iload 5, 2) := by decide +kernel
theorem dX9_goByPort_76 : decode cX9_goByPort 76 = .ok (.invokevirtual 184, 3) := by decide +kernel
theorem dX9_goByPort_79 : decode cX9_goByPort 79 = .ok (.aload_n 0, 1) := by decide +kernel
theorem dX9_goByPort_80 : decode cX9_goByPort 80 = .ok (.aload_n 1, 1) := by decide +kernel
theorem dX9_goByPort_81 : decode cX9_goByPort 81 = .ok (.aload_n 2, 1) := by decide +kernel
theorem dX9_goByPort_82 : decode cX9_goByPort 82 = .ok (.aload 7, 2) := by decide +kernel
theorem dX9_goByPort_84 : decode cX9_goByPort 84 = .ok (.invokevirtual 181, 3) := by decide +kernel
theorem dX9_goByPort_87 : decode cX9_goByPort 87 = .ok (.iload 6, 2) := by decide +kernel
theorem dX9_goByPort_89 : decode cX9_goByPort 89 = .ok (.iload 5, 2) := by decide +kernel
theorem dX9_goByPort_91 : decode cX9_goByPort 91 = .ok (.iadd, 1) := by decide +kernel
theorem dX9_goByPort_92 : decode cX9_goByPort 92 = .ok (.istore 6, 2) := by decide +kernel
theorem dX9_goByPort_94 : decode cX9_goByPort 94 = .ok (.goto (-43), 3) := by decide +kernel
theorem dX9_goByPort_97 : decode cX9_goByPort 97 = .ok (.return_, 1) := by decide +kernel
theorem dX9_goToHop_0 : decode cX9_goToHop 0 = .ok (.aload_n 1, 1) := by decide +kernel
theorem dX9_goToHop_1 : decode cX9_goToHop 1 = .ok (.getfield 72, 3) := by decide +kernel
theorem dX9_goToHop_4 : decode cX9_goToHop 4 = .ok (.aload_n 3, 1) := by decide +kernel
theorem dX9_goToHop_5 : decode cX9_goToHop 5 = .ok (.getfield 110, 3) := by decide +kernel
theorem dX9_goToHop_8 : decode cX9_goToHop 8 = .ok (.invokevirtual 139, 3) := by decide +kernel
theorem dX9_goToHop_11 : decode cX9_goToHop 11 = .ok (.istore 4, 2) := by decide +kernel
theorem dX9_goToHop_13 : decode cX9_goToHop 13 = .ok (.aload_n 1, 1) := by decide +kernel
theorem dX9_goToHop_14 : decode cX9_goToHop 14 = .ok (.iload 4, 2) := by decide +kernel
theorem dX9_goToHop_16 : decode cX9_goToHop 16 = .ok (.invokevirtual 188, 3) := by decide +kernel
theorem dX9_goToHop_19 : decode cX9_goToHop 19 = .ok (.istore 5, 2) := by decide +kernel
theorem dX9_goToHop_21 : decode cX9_goToHop 21 = .ok (.iload 5, 2) := by decide +kernel
theorem dX9_goToHop_23 : decode cX9_goToHop 23 = .ok (.ifCond .lt 17, 3) := by decide +kernel
theorem dX9_goToHop_26 : decode cX9_goToHop 26 = .ok (.aload_n 0, 1) := by decide +kernel
theorem dX9_goToHop_27 : decode cX9_goToHop 27 = .ok (.getfield 12, 3) := by decide +kernel
theorem dX9_goToHop_30 : decode cX9_goToHop 30 = .ok (.iconst 0, 1) := by decide +kernel
theorem dX9_goToHop_31 : decode cX9_goToHop 31 = .ok (.aload_n 2, 1) := by decide +kernel
theorem dX9_goToHop_32 : decode cX9_goToHop 32 = .ok (.iload 5, 2) := by decide +kernel
theorem dX9_goToHop_34 : decode cX9_goToHop 34 = .ok (.iconst (-1), 1) := by decide +kernel
theorem dX9_goToHop_35 : decode cX9_goToHop 35 = .ok (.aload_n 3, 1) := by decide +kernel
theorem dX9_goToHop_36 : decode cX9_goToHop 36 = .ok (.invokevirtual 191, 3) := by decide +kernel
theorem dX9_goToHop_39 : decode cX9_goToHop 39 = .ok (.return_, 1) := by decide +kernel
theorem dX9_goToHop_40 : decode cX9_goToHop 40 = .ok (.aload_n 3, 1) := by decide +kernel
theorem dX9_goToHop_41 : decode cX9_goToHop 41 = .ok (.iload 4, 2) := by decide +kernel
theorem dX9_goToHop_43 : decode cX9_goToHop 43 = .ok (.putfield 195, 3) := by decide +kernel
theorem dX9_goToHop_46 : decode cX9_goToHop 46 = .ok (.aload_n 3, 1) := by decide +kernel
theorem dX9_goToHop_47 : decode cX9_goToHop 47 = .ok (.aload_n 2, 1) := by decide +kernel
theorem dX9_goToHop_48 : decode cX9_goToHop 48 = .ok (.putfield 198, 3) := by decide +kernel
theorem dX9_goToHop_51 : decode cX9_goToHop 51 = .ok (.aload_n 1, 1) := by decide +kernel
theorem dX9_goToHop_52 : decode cX9_goToHop 52 = .ok (.aload_n 3, 1) := by decide +kernel
theorem dX9_goToHop_53 : decode cX9_goToHop 53 = .ok (.invokevirtual 202, 3) := by decide +kernel
theorem dX9_goToHop_56 : decode cX9_goToHop 56 = .ok (.aload_n 1, 1) := by decide +kernel
theorem dX9_goToHop_57 : decode cX9_goToHop 57 = .ok (.iload 4, 2) := by decide +kernel
theorem dX9_goToHop_59 : decode cX9_goToHop 59 = .ok (.invokevirtual 206, 3) := by decide +kernel
theorem dX9_goToHop_62 : decode cX9_goToHop 62 = .ok (.iconst 1, 1) := by decide +kernel
theorem dX9_goToHop_63 : decode cX9_goToHop 63 = .ok (.if_icmp .ne 16, 3) := by decide +kernel
theorem dX9_goToHop_66 : decode cX9_goToHop 66 = .ok (.aload_n 0, 1) := by decide +kernel
theorem dX9_goToHop_67 : decode cX9_goToHop 67 = .ok (.getfield 12, 3) := by decide +kernel
theorem dX9_goToHop_70 : decode cX9_goToHop 70 = .ok (.iconst 1, 1) := by decide +kernel
theorem dX9_goToHop_71 : decode cX9_goToHop 71 = .ok (.aload_n 2, 1) := by decide +kernel
theorem dX9_goToHop_72 : decode cX9_goToHop 72 = .ok (.iconst (-1), 1) := by decide +kernel
theorem dX9_goToHop_73 : decode cX9_goToHop 73 = .ok (.iload 4, 2) := by decide +kernel
theorem dX9_goToHop_75 : decode cX9_goToHop 75 = .ok (.aconst_null, 1) := by decide +kernel
theorem dX9_goToHop_76 : decode cX9_goToHop 76 = .ok (.invokevirtual 191, 3) := by decide +kernel
theorem dX9_goToHop_79 : decode cX9_goToHop 79 = .ok (.return_, 1) := by decide +kernel
theorem dX9_complain_0 : decode cX9_complain 0 = .ok (.aload_n 1, 1) := by decide +kernel
theorem dX9_complain_1 : decode cX9_complain 1 = .ok (.dup, 1) := by decide +kernel
theorem dX9_complain_2 : decode cX9_complain 2 = .ok (.getfield 52, 3) := by decide +kernel
theorem dX9_complain_5 : decode cX9_complain 5 = .ok (.iconst 1, 1) := by decide +kernel
theorem dX9_complain_6 : decode cX9_complain 6 = .ok (.iadd, 1) := by decide +kernel
theorem dX9_complain_7 : decode cX9_complain 7 = .ok (.putfield 52, 3) := by decide +kernel
theorem dX9_complain_10 : decode cX9_complain 10 = .ok (.aload_n 2, 1) := by decide +kernel
theorem dX9_complain_11 : decode cX9_complain 11 = .ok (.invokevirtual 209, 3) := by decide +kernel
theorem dX9_complain_14 : decode cX9_complain 14 = .ok (.ifCond .ne 10, 3) := by decide +kernel
theorem dX9_complain_17 : decode cX9_complain 17 = .ok (.aload_n 2, 1) := by decide +kernel
theorem dX9_complain_18 : decode cX9_complain 18 = .ok (.getfield 119, 3) := by decide +kernel
theorem dX9_complain_21 : decode cX9_complain 21 = .ok (.ifCond .eq 5, 3) := by decide +kernel
theorem dX9_complain_24 : decode cX9_complain 24 = .ok (.aconst_null, 1) := by decide +kernel
theorem dX9_complain_25 : decode cX9_complain 25 = .ok (.areturn, 1) := by decide +kernel
theorem dX9_complain_26 : decode cX9_complain 26 = .ok (.aload_n 1, 1) := by decide +kernel
theorem dX9_complain_27 : decode cX9_complain 27 = .ok (.getfield 72, 3) := by decide +kernel
theorem dX9_complain_30 : decode cX9_complain 30 = .ok (.aload_n 2, 1) := by decide +kernel
theorem dX9_complain_31 : decode cX9_complain 31 = .ok (.getfield 107, 3) := by decide +kernel
theorem dX9_complain_34 : decode cX9_complain 34 = .ok (.invokestatic 76, 3) := by decide +kernel
theorem dX9_complain_37 : decode cX9_complain 37 = .ok (.istore 5, 2) := by decide +kernel
theorem dX9_complain_39 : decode cX9_complain 39 = .ok (.iload 5, 2) := by decide +kernel
theorem dX9_complain_41 : decode cX9_complain 41 = .ok (.ifCond .ge 5, 3) := by decide +kernel
theorem dX9_complain_44 : decode cX9_complain 44 = .ok (.aconst_null, 1) := by decide +kernel
theorem dX9_complain_45 : decode cX9_complain 45 = .ok (.areturn, 1) := by decide +kernel
theorem dX9_complain_46 : decode cX9_complain 46 = .ok (.aload_n 0, 1) := by decide +kernel
theorem dX9_complain_47 : decode cX9_complain 47 = .ok (.iload_n 3, 1) := by decide +kernel
theorem dX9_complain_48 : decode cX9_complain 48 = .ok (.iload 5, 2) := by decide +kernel
theorem dX9_complain_50 : decode cX9_complain 50 = .ok (.aload_n 2, 1) := by decide +kernel
theorem dX9_complain_51 : decode cX9_complain 51 = .ok (.getfield 107, 3) := by decide +kernel
theorem dX9_complain_54 : decode cX9_complain 54 = .ok (.iconst 0, 1) := by decide +kernel
theorem dX9_complain_55 : decode cX9_complain 55 = .ok (.invokevirtual 80, 3) := by decide +kernel
theorem dX9_complain_58 : decode cX9_complain 58 = .ok (.astore 6, 2) := by decide +kernel
theorem dX9_complain_60 : decode cX9_complain 60 = .ok (.aload 6, 2) := by decide +kernel
theorem dX9_complain_62 : decode cX9_complain 62 = .ok (.iconst 1, 1) := by decide +kernel
theorem dX9_complain_63 : decode cX9_complain 63 = .ok (.putfield 89, 3) := by decide +kernel
theorem dX9_complain_66 : decode cX9_complain 66 = .ok (.aload 6, 2) := by decide +kernel
theorem dX9_complain_68 : decode cX9_complain 68 = .ok (.iload 4, 2) := by decide +kernel
theorem dX9_complain_70 : decode cX9_complain 70 = .ok (.putfield 116, 3) := by decide +kernel
theorem dX9_complain_73 : decode cX9_complain 73 = .ok (.aload 6, 2) := by decide +kernel
theorem dX9_complain_75 : decode cX9_complain 75 = .ok (.areturn, 1) := by decide +kernel
theorem dX9_deliverNext_0 : decode cX9_deliverNext 0 = .ok (.aload_n 0, 1) := by decide +kernel
theorem dX9_deliverNext_1 : decode cX9_deliverNext 1 = .ok (.getfield 12, 3) := by decide +kernel
theorem dX9_deliverNext_4 : decode cX9_deliverNext 4 = .ok (.invokevirtual 213, 3) := by decide +kernel
theorem dX9_deliverNext_7 : decode cX9_deliverNext 7 = .ok (.astore_n 1, 1) := by decide +kernel
theorem dX9_deliverNext_8 : decode cX9_deliverNext 8 = .ok (.aload_n 1, 1) := by decide +kernel
theorem dX9_deliverNext_9 : decode cX9_deliverNext 9 = .ok (.ifnonnull 5, 3) := by decide +kernel
theorem dX9_deliverNext_12 : decode cX9_deliverNext 12 = .ok (.iconst 0, 1) := by decide +kernel
theorem dX9_deliverNext_13 : decode cX9_deliverNext 13 = .ok (.ireturn, 1) := by decide +kernel
theorem dX9_deliverNext_14 : decode cX9_deliverNext 14 = .ok (.aload_n 0, 1) := by decide +kernel
theorem dX9_deliverNext_15 : decode cX9_deliverNext 15 = .ok (.dup, 1) := by decide +kernel
theorem dX9_deliverNext_16 : decode cX9_deliverNext 16 = .ok (.getfield 217, 3) := by decide +kernel
theorem dX9_deliverNext_19 : decode cX9_deliverNext 19 = .ok (.iconst 1, 1) := by decide +kernel
theorem dX9_deliverNext_20 : decode cX9_deliverNext 20 = .ok (.iadd, 1) := by decide +kernel
theorem dX9_deliverNext_21 : decode cX9_deliverNext 21 = .ok (.putfield 217, 3) := by decide +kernel
theorem dX9_deliverNext_24 : decode cX9_deliverNext 24 = .ok (.aload_n 1, 1) := by decide +kernel
theorem dX9_deliverNext_25 : decode cX9_deliverNext 25 = .ok (.getfield 220, 3) := by decide +kernel
theorem dX9_deliverNext_28 : decode cX9_deliverNext 28 = .ok (.ifCond .lt 25, 3) := by decide +kernel
theorem dX9_deliverNext_31 : decode cX9_deliverNext 31 = .ok (.aload_n 1, 1) := by decide +kernel
theorem dX9_deliverNext_32 : decode cX9_deliverNext 32 = .ok (.getfield 220, 3) := by decide +kernel
theorem dX9_deliverNext_35 : decode cX9_deliverNext 35 = .ok (.bipush 8, 2) := by decide +kernel
theorem dX9_deliverNext_37 : decode cX9_deliverNext 37 = .ok (.if_icmp .ge 16, 3) := by decide +kernel
theorem dX9_deliverNext_40 : decode cX9_deliverNext 40 = .ok (.aload_n 0, 1) := by decide +kernel
theorem dX9_deliverNext_41 : decode cX9_deliverNext 41 = .ok (.getfield 31, 3) := by decide +kernel
theorem dX9_deliverNext_44 : decode cX9_deliverNext 44 = .ok (.aload_n 1, 1) := by decide +kernel
theorem dX9_deliverNext_45 : decode cX9_deliverNext 45 = .ok (.getfield 220, 3) := by decide +kernel
theorem dX9_deliverNext_48 : decode cX9_deliverNext 48 = .ok (.dup2, 1) := by decide +kernel
theorem dX9_deliverNext_49 : decode cX9_deliverNext 49 = .ok (.iaload, 1) := by decide +kernel
theorem dX9_deliverNext_50 : decode cX9_deliverNext 50 = .ok (.iconst 1, 1) := by decide +kernel
theorem dX9_deliverNext_51 : decode cX9_deliverNext 51 = .ok (.iadd, 1) := by decide +kernel
theorem dX9_deliverNext_52 : decode cX9_deliverNext 52 = .ok (.iastore, 1) := by decide +kernel
theorem dX9_deliverNext_53 : decode cX9_deliverNext 53 = .ok (.aload_n 1, 1) := by decide +kernel
theorem dX9_deliverNext_54 : decode cX9_deliverNext 54 = .ok (.getfield 223, 3) := by decide +kernel
theorem dX9_deliverNext_57 : decode cX9_deliverNext 57 = .ok (.iconst 1, 1) := by decide +kernel
theorem dX9_deliverNext_58 : decode cX9_deliverNext 58 = .ok (.if_icmp .ne 11, 3) := by decide +kernel
theorem dX9_deliverNext_61 : decode cX9_deliverNext 61 = .ok (.aload_n 0, 1) := by decide +kernel
theorem dX9_deliverNext_62 : decode cX9_deliverNext 62 = .ok (.aload_n 1, 1) := by decide +kernel
theorem dX9_deliverNext_63 : decode cX9_deliverNext 63 = .ok (.invokevirtual 226, 3) := by decide +kernel
theorem dX9_deliverNext_66 : decode cX9_deliverNext 66 = .ok (.goto 56, 3) := by decide +kernel
theorem dX9_deliverNext_69 : decode cX9_deliverNext 69 = .ok (.aload_n 1, 1) := by decide +kernel
theorem dX9_deliverNext_70 : decode cX9_deliverNext 70 = .ok (.getfield 223, 3) := by decide +kernel
theorem dX9_deliverNext_73 : decode cX9_deliverNext 73 = .ok (.iconst 2, 1) := by decide +kernel
theorem dX9_deliverNext_74 : decode cX9_deliverNext 74 = .ok (.if_icmp .ne 11, 3) := by decide +kernel
theorem dX9_deliverNext_77 : decode cX9_deliverNext 77 = .ok (.aload_n 0, 1) := by decide +kernel
theorem dX9_deliverNext_78 : decode cX9_deliverNext 78 = .ok (.aload_n 1, 1) := by decide +kernel
theorem dX9_deliverNext_79 : decode cX9_deliverNext 79 = .ok (.invokevirtual 230, 3) := by decide +kernel
theorem dX9_deliverNext_82 : decode cX9_deliverNext 82 = .ok (.goto 40, 3) := by decide +kernel
theorem dX9_deliverNext_85 : decode cX9_deliverNext 85 = .ok (.aload_n 0, 1) := by decide +kernel
theorem dX9_deliverNext_86 : decode cX9_deliverNext 86 = .ok (.dup, 1) := by decide +kernel
theorem dX9_deliverNext_87 : decode cX9_deliverNext 87 = .ok (.getfield 233, 3) := by decide +kernel
theorem dX9_deliverNext_90 : decode cX9_deliverNext 90 = .ok (.iconst 1, 1) := by decide +kernel
theorem dX9_deliverNext_91 : decode cX9_deliverNext 91 = .ok (.iadd, 1) := by decide +kernel
theorem dX9_deliverNext_92 : decode cX9_deliverNext 92 = .ok (.putfield 233, 3) := by decide +kernel
theorem dX9_deliverNext_95 : decode cX9_deliverNext 95 = .ok (.aload_n 0, 1) := by decide +kernel
theorem dX9_deliverNext_96 : decode cX9_deliverNext 96 = .ok (.aload_n 1, 1) := by decide +kernel
theorem dX9_deliverNext_97 : decode cX9_deliverNext 97 = .ok (.getfield 236, 3) := by decide +kernel
theorem dX9_deliverNext_100 : decode cX9_deliverNext 100 = .ok (.invokevirtual 237, 3) := by decide +kernel
theorem dX9_deliverNext_103 : decode cX9_deliverNext 103 = .ok (.astore_n 2, 1) := by decide +kernel
theorem dX9_deliverNext_104 : decode cX9_deliverNext 104 = .ok (.aload_n 2, 1) := by decide +kernel
theorem dX9_deliverNext_105 : decode cX9_deliverNext 105 = .ok (.ifnull 17, 3) := by decide +kernel
theorem dX9_deliverNext_108 : decode cX9_deliverNext 108 = .ok (.aload_n 0, 1) := by decide +kernel
theorem dX9_deliverNext_109 : decode cX9_deliverNext 109 = .ok (.aload_n 2, 1) := by decide +kernel
theorem dX9_deliverNext_110 : decode cX9_deliverNext 110 = .ok (.aload_n 0, 1) := by decide +kernel
theorem dX9_deliverNext_111 : decode cX9_deliverNext 111 = .ok (.aload_n 2, 1) := by decide +kernel
theorem dX9_deliverNext_112 : decode cX9_deliverNext 112 = .ok (.aload_n 1, 1) := by decide +kernel
theorem dX9_deliverNext_113 : decode cX9_deliverNext 113 = .ok (.getfield 240, 3) := by decide +kernel
theorem dX9_deliverNext_116 : decode cX9_deliverNext 116 = .ok (.invokevirtual 243, 3) := by decide +kernel
theorem dX9_deliverNext_119 : decode cX9_deliverNext 119 = .ok (.invokevirtual 96, 3) := by decide +kernel
theorem dX9_deliverNext_122 : decode cX9_deliverNext 122 = .ok (.aload_n 0, 1) := by decide +kernel
theorem dX9_deliverNext_123 : decode cX9_deliverNext 123 = .ok (.getfield 12, 3) := by decide +kernel
theorem dX9_deliverNext_126 : decode cX9_deliverNext 126 = .ok (.aload_n 1, 1) := by decide +kernel
theorem dX9_deliverNext_127 : decode cX9_deliverNext 127 = .ok (.invokevirtual 246, 3) := by decide +kernel
theorem dX9_deliverNext_130 : decode cX9_deliverNext 130 = .ok (.iconst 1, 1) := by decide +kernel
theorem dX9_deliverNext_131 : decode cX9_deliverNext 131 = .ok (.ireturn, 1) := by decide +kernel
theorem dX9_hearQuestion_0 : decode cX9_hearQuestion 0 = .ok (.aload_n 0, 1) := by decide +kernel
theorem dX9_hearQuestion_1 : decode cX9_hearQuestion 1 = .ok (.getfield 35, 3) := by decide +kernel
theorem dX9_hearQuestion_4 : decode cX9_hearQuestion 4 = .ok (.aload_n 1, 1) := by decide +kernel
theorem dX9_hearQuestion_5 : decode cX9_hearQuestion 5 = .ok (.getfield 249, 3) := by decide +kernel
theorem dX9_hearQuestion_8 : decode cX9_hearQuestion 8 = .ok (.invokevirtual 250, 3) := by decide +kernel
theorem dX9_hearQuestion_11 : decode cX9_hearQuestion 11 = .ok (.astore_n 2, 1) := by decide +kernel
theorem dX9_hearQuestion_12 : decode cX9_hearQuestion 12 = .ok (.aload_n 0, 1) := by decide +kernel
theorem dX9_hearQuestion_13 : decode cX9_hearQuestion 13 = .ok (.getfield 35, 3) := by decide +kernel
theorem dX9_hearQuestion_16 : decode cX9_hearQuestion 16 = .ok (.aload_n 1, 1) := by decide +kernel
theorem dX9_hearQuestion_17 : decode cX9_hearQuestion 17 = .ok (.getfield 253, 3) := by decide +kernel
theorem dX9_hearQuestion_20 : decode cX9_hearQuestion 20 = .ok (.invokevirtual 254, 3) := by decide +kernel
theorem dX9_hearQuestion_23 : decode cX9_hearQuestion 23 = .ok (.astore_n 3, 1) := by decide +kernel
theorem dX9_hearQuestion_24 : decode cX9_hearQuestion 24 = .ok (.aload_n 2, 1) := by decide +kernel
theorem dX9_hearQuestion_25 : decode cX9_hearQuestion 25 = .ok (.ifnull 23, 3) := by decide +kernel
theorem dX9_hearQuestion_28 : decode cX9_hearQuestion 28 = .ok (.aload_n 3, 1) := by decide +kernel
theorem dX9_hearQuestion_29 : decode cX9_hearQuestion 29 = .ok (.ifnull 19, 3) := by decide +kernel
theorem dX9_hearQuestion_32 : decode cX9_hearQuestion 32 = .ok (.aload_n 2, 1) := by decide +kernel
theorem dX9_hearQuestion_33 : decode cX9_hearQuestion 33 = .ok (.aload_n 3, 1) := by decide +kernel
theorem dX9_hearQuestion_34 : decode cX9_hearQuestion 34 = .ok (.if_acmp .eq 14, 3) := by decide +kernel
theorem dX9_hearQuestion_37 : decode cX9_hearQuestion 37 = .ok (.aload_n 2, 1) := by decide +kernel
theorem dX9_hearQuestion_38 : decode cX9_hearQuestion 38 = .ok (.getfield 171, 3) := by decide +kernel
theorem dX9_hearQuestion_41 : decode cX9_hearQuestion 41 = .ok (.aload_n 1, 1) := by decide +kernel
theorem dX9_hearQuestion_42 : decode cX9_hearQuestion 42 = .ok (.getfield 220, 3) := by decide +kernel
theorem dX9_hearQuestion_45 : decode cX9_hearQuestion 45 = .ok (.if_icmp .eq 4, 3) := by decide +kernel
theorem dX9_hearQuestion_48 : decode cX9_hearQuestion 48 = .ok (.return_, 1) := by decide +kernel
theorem dX9_hearQuestion_49 : decode cX9_hearQuestion 49 = .ok (.aload_n 0, 1) := by decide +kernel
theorem dX9_hearQuestion_50 : decode cX9_hearQuestion 50 = .ok (.aload_n 2, 1) := by decide +kernel
theorem dX9_hearQuestion_51 : decode cX9_hearQuestion 51 = .ok (.getfield 257, 3) := by decide +kernel
theorem dX9_hearQuestion_54 : decode cX9_hearQuestion 54 = .ok (.invokevirtual 237, 3) := by decide +kernel
theorem dX9_hearQuestion_57 : decode cX9_hearQuestion 57 = .ok (.astore 4, 2) := by decide +kernel
theorem dX9_hearQuestion_59 : decode cX9_hearQuestion 59 = .ok (.aload 4, 2) := by decide +kernel
theorem dX9_hearQuestion_61 : decode cX9_hearQuestion 61 = .ok (.ifnull 34, 3) := by decide +kernel
theorem dX9_hearQuestion_64 : decode cX9_hearQuestion 64 = .ok (.aload 4, 2) := by decide +kernel
theorem dX9_hearQuestion_66 : decode cX9_hearQuestion 66 = .ok (.aload_n 3, 1) := by decide +kernel
theorem dX9_hearQuestion_67 : decode cX9_hearQuestion 67 = .ok (.getfield 149, 3) := by decide +kernel
theorem dX9_hearQuestion_70 : decode cX9_hearQuestion 70 = .ok (.aload_n 3, 1) := by decide +kernel
theorem dX9_hearQuestion_71 : decode cX9_hearQuestion 71 = .ok (.getfield 257, 3) := by decide +kernel
theorem dX9_hearQuestion_74 : decode cX9_hearQuestion 74 = .ok (.invokevirtual 260, 3) := by decide +kernel
theorem dX9_hearQuestion_77 : decode cX9_hearQuestion 77 = .ok (.aload_n 0, 1) := by decide +kernel
theorem dX9_hearQuestion_78 : decode cX9_hearQuestion 78 = .ok (.getfield 12, 3) := by decide +kernel
theorem dX9_hearQuestion_81 : decode cX9_hearQuestion 81 = .ok (.iconst 2, 1) := by decide +kernel
theorem dX9_hearQuestion_82 : decode cX9_hearQuestion 82 = .ok (.aload_n 2, 1) := by decide +kernel
theorem dX9_hearQuestion_83 : decode cX9_hearQuestion 83 = .ok (.aload_n 3, 1) := by decide +kernel
theorem dX9_hearQuestion_84 : decode cX9_hearQuestion 84 = .ok (.getfield 257, 3) := by decide +kernel
theorem dX9_hearQuestion_87 : decode cX9_hearQuestion 87 = .ok (.aload_n 2, 1) := by decide +kernel
theorem dX9_hearQuestion_88 : decode cX9_hearQuestion 88 = .ok (.getfield 149, 3) := by decide +kernel
theorem dX9_hearQuestion_91 : decode cX9_hearQuestion 91 = .ok (.aconst_null, 1) := by decide +kernel
theorem dX9_hearQuestion_92 : decode cX9_hearQuestion 92 = .ok (.invokevirtual 191, 3) := by decide +kernel
theorem dX9_hearQuestion_95 : decode cX9_hearQuestion 95 = .ok (.return_, 1) := by decide +kernel
theorem dX9_hearReply_0 : decode cX9_hearReply 0 = .ok (.aload_n 0, 1) := by decide +kernel
theorem dX9_hearReply_1 : decode cX9_hearReply 1 = .ok (.aload_n 1, 1) := by decide +kernel
theorem dX9_hearReply_2 : decode cX9_hearReply 2 = .ok (.getfield 236, 3) := by decide +kernel
theorem dX9_hearReply_5 : decode cX9_hearReply 5 = .ok (.invokevirtual 237, 3) := by decide +kernel
theorem dX9_hearReply_8 : decode cX9_hearReply 8 = .ok (.astore_n 2, 1) := by decide +kernel
theorem dX9_hearReply_9 : decode cX9_hearReply 9 = .ok (.aload_n 2, 1) := by decide +kernel
theorem dX9_hearReply_10 : decode cX9_hearReply 10 = .ok (.ifnonnull 4, 3) := by decide +kernel
theorem dX9_hearReply_13 : decode cX9_hearReply 13 = .ok (.return_, 1) := by decide +kernel
theorem dX9_hearReply_14 : decode cX9_hearReply 14 = .ok (.aload_n 2, 1) := by decide +kernel
theorem dX9_hearReply_15 : decode cX9_hearReply 15 = .ok (.aload_n 1, 1) := by decide +kernel
theorem dX9_hearReply_16 : decode cX9_hearReply 16 = .ok (.getfield 249, 3) := by decide +kernel
theorem dX9_hearReply_19 : decode cX9_hearReply 19 = .ok (.aload_n 1, 1) := by decide +kernel
theorem dX9_hearReply_20 : decode cX9_hearReply 20 = .ok (.getfield 253, 3) := by decide +kernel
theorem dX9_hearReply_23 : decode cX9_hearReply 23 = .ok (.invokevirtual 260, 3) := by decide +kernel
theorem dX9_hearReply_26 : decode cX9_hearReply 26 = .ok (.aload_n 2, 1) := by decide +kernel
theorem dX9_hearReply_27 : decode cX9_hearReply 27 = .ok (.invokevirtual 264, 3) := by decide +kernel
theorem dX9_hearReply_30 : decode cX9_hearReply 30 = .ok (.astore_n 3, 1) := by decide +kernel
theorem dX9_hearReply_31 : decode cX9_hearReply 31 = .ok (.aload_n 3, 1) := by decide +kernel
theorem dX9_hearReply_32 : decode cX9_hearReply 32 = .ok (.ifnull 59, 3) := by decide +kernel
theorem dX9_hearReply_35 : decode cX9_hearReply 35 = .ok (.aload_n 3, 1) := by decide +kernel
theorem dX9_hearReply_36 : decode cX9_hearReply 36 = .ok (.getfield 267, 3) := by decide +kernel
theorem dX9_hearReply_39 : decode cX9_hearReply 39 = .ok (.astore 4, 2) := by decide +kernel
theorem dX9_hearReply_41 : decode cX9_hearReply 41 = .ok (.aload_n 3, 1) := by decide +kernel
theorem dX9_hearReply_42 : decode cX9_hearReply 42 = .ok (.getfield 195, 3) := by decide +kernel
theorem dX9_hearReply_45 : decode cX9_hearReply 45 = .ok (.aload_n 1, 1) := by decide +kernel
theorem dX9_hearReply_46 : decode cX9_hearReply 46 = .ok (.getfield 249, 3) := by decide +kernel
theorem dX9_hearReply_49 : decode cX9_hearReply 49 = .ok (.if_icmp .ne 31, 3) := by decide +kernel
theorem dX9_hearReply_52 : decode cX9_hearReply 52 = .ok (.aload_n 3, 1) := by decide +kernel
theorem dX9_hearReply_53 : decode cX9_hearReply 53 = .ok (.getfield 198, 3) := by decide +kernel
theorem dX9_hearReply_56 : decode cX9_hearReply 56 = .ok (.ifnull 24, 3) := by decide +kernel
theorem dX9_hearReply_59 : decode cX9_hearReply 59 = .ok (.aload_n 0, 1) := by decide +kernel
theorem dX9_hearReply_60 : decode cX9_hearReply 60 = .ok (.getfield 12, 3) := by decide +kernel
theorem dX9_hearReply_63 : decode cX9_hearReply 63 = .ok (.iconst 0, 1) := by decide +kernel
theorem dX9_hearReply_64 : decode cX9_hearReply 64 = .ok (.aload_n 3, 1) := by decide +kernel
theorem dX9_hearReply_65 : decode cX9_hearReply 65 = .ok (.getfield 198, 3) := by decide +kernel
theorem dX9_hearReply_68 : decode cX9_hearReply 68 = .ok (.aload_n 1, 1) := by decide +kernel
theorem dX9_hearReply_69 : decode cX9_hearReply 69 = .ok (.getfield 253, 3) := by decide +kernel
theorem dX9_hearReply_72 : decode cX9_hearReply 72 = .ok (.iconst (-1), 1) := by decide +kernel
theorem dX9_hearReply_73 : decode cX9_hearReply 73 = .ok (.aload_n 3, 1) := by decide +kernel
theorem dX9_hearReply_74 : decode cX9_hearReply 74 = .ok (.invokevirtual 191, 3) := by decide +kernel
theorem dX9_hearReply_77 : decode cX9_hearReply 77 = .ok (.goto 8, 3) := by decide +kernel
theorem dX9_hearReply_80 : decode cX9_hearReply 80 = .ok (.aload_n 2, 1) := by decide +kernel
theorem dX9_hearReply_81 : decode cX9_hearReply 81 = .ok (.aload_n 3, 1) := by decide +kernel
theorem dX9_hearReply_82 : decode cX9_hearReply 82 = .ok (.invokevirtual 202, 3) := by decide +kernel
theorem dX9_hearReply_85 : decode cX9_hearReply 85 = .ok (.aload 4, 2) := by decide +kernel
theorem dX9_hearReply_87 : decode cX9_hearReply 87 = .ok (.astore_n 3, 1) := by decide +kernel
theorem dX9_hearReply_88 : decode cX9_hearReply 88 = .ok (.goto (-57), 3) := by decide +kernel
theorem dX9_hearReply_91 : decode cX9_hearReply 91 = .ok (.return_, 1) := by decide +kernel
theorem dX9_come_0 : decode cX9_come 0 = .ok (.aload_n 2, 1) := by decide +kernel
theorem dX9_come_1 : decode cX9_come 1 = .ok (.astore_n 3, 1) := by decide +kernel
theorem dX9_come_2 : decode cX9_come 2 = .ok (.iconst 0, 1) := by decide +kernel
theorem dX9_come_3 : decode cX9_come 3 = .ok (.istore 4, 2) := by decide +kernel
theorem dX9_come_5 : decode cX9_come 5 = .ok (.aload_n 3, 1) := by decide +kernel
theorem dX9_come_6 : decode cX9_come 6 = .ok (.ifnull 121, 3) := by decide +kernel
theorem dX9_come_9 : decode cX9_come 9 = .ok (.iload 4, 2) := by decide +kernel
theorem dX9_come_11 : decode cX9_come 11 = .ok (.ldc 154, 2) := by decide +kernel
theorem dX9_come_13 : decode cX9_come 13 = .ok (.if_icmp .ge 114, 3) := by decide +kernel
theorem dX9_come_16 : decode cX9_come 16 = .ok (.aload_n 1, 1) := by decide +kernel
theorem dX9_come_17 : decode cX9_come 17 = .ok (.getfield 72, 3) := by decide +kernel
theorem dX9_come_20 : decode cX9_come 20 = .ok (.aload_n 3, 1) := by decide +kernel
theorem dX9_come_21 : decode cX9_come 21 = .ok (.getfield 110, 3) := by decide +kernel
theorem dX9_come_24 : decode cX9_come 24 = .ok (.invokevirtual 129, 3) := by decide +kernel
theorem dX9_come_27 : decode cX9_come 27 = .ok (.ifCond .ne 55, 3) := by decide +kernel
theorem dX9_come_30 : decode cX9_come 30 = .ok (.aload_n 1, 1) := by decide +kernel
theorem dX9_come_31 : decode cX9_come 31 = .ok (.getfield 72, 3) := by decide +kernel
theorem dX9_come_34 : decode cX9_come 34 = .ok (.getfield 270, 3) := by decide +kernel
theorem dX9_come_37 : decode cX9_come 37 = .ok (.ifCond .ne 15, 3) := by decide +kernel
theorem dX9_come_40 : decode cX9_come 40 = .ok (.aload_n 1, 1) := by decide +kernel
theorem dX9_come_41 : decode cX9_come 41 = .ok (.dup, 1) := by decide +kernel
theorem dX9_come_42 : decode cX9_come 42 = .ok (.getfield 52, 3) := by decide +kernel
theorem dX9_come_45 : decode cX9_come 45 = .ok (.iconst 1, 1) := by decide +kernel
theorem dX9_come_46 : decode cX9_come 46 = .ok (.iadd, 1) := by decide +kernel
theorem dX9_come_47 : decode cX9_come 47 = .ok (.putfield 52, 3) := by decide +kernel
theorem dX9_come_50 : decode cX9_come 50 = .ok (.aconst_null, 1) := by decide +kernel
theorem dX9_come_51 : decode cX9_come 51 = .ok (.areturn, 1) := by decide +kernel
theorem dX9_come_52 : decode cX9_come 52 = .ok (.aload_n 3, 1) := by decide +kernel
theorem dX9_come_53 : decode cX9_come 53 = .ok (.dup, 1) := by decide +kernel
theorem dX9_come_54 : decode cX9_come 54 = .ok (.getfield 84, 3) := by decide +kernel
theorem dX9_come_57 : decode cX9_come 57 = .ok (.iconst 1, 1) := by decide +kernel
theorem dX9_come_58 : decode cX9_come 58 = .ok (.isub, 1) := by decide +kernel
theorem dX9_come_59 : decode cX9_come 59 = .ok (.putfield 84, 3) := by decide +kernel
theorem dX9_come_62 : decode cX9_come 62 = .ok (.aload_n 3, 1) := by decide +kernel
theorem dX9_come_63 : decode cX9_come 63 = .ok (.getfield 84, 3) := by decide +kernel
theorem dX9_come_66 : decode cX9_come 66 = .ok (.ifCond .le 7, 3) := by decide +kernel
theorem dX9_come_69 : decode cX9_come 69 = .ok (.aload_n 3, 1) := by decide +kernel
theorem dX9_come_70 : decode cX9_come 70 = .ok (.goto 11, 3) := by decide +kernel
theorem dX9_come_73 : decode cX9_come 73 = .ok (.aload_n 0, 1) := by decide +kernel
theorem dX9_come_74 : decode cX9_come 74 = .ok (.aload_n 1, 1) := by decide +kernel
theorem dX9_come_75 : decode cX9_come 75 = .ok (.aload_n 3, 1) := by decide +kernel
theorem dX9_come_76 : decode cX9_come 76 = .ok (.iconst 3, 1) := by decide +kernel
theorem dX9_come_77 : decode cX9_come 77 = .ok (.iconst 0, 1) := by decide +kernel
theorem dX9_come_78 : decode cX9_come 78 = .ok (.invokevirtual 167, 3) := by decide +kernel
theorem dX9_come_81 : decode cX9_come 81 = .ok (.areturn, 1) := by decide +kernel
theorem dX9_come_82 : decode cX9_come 82 = .ok (.aload_n 1, 1) := by decide +kernel
theorem dX9_come_83 : decode cX9_come 83 = .ok (.aload_n 3, 1) := by decide +kernel
theorem dX9_come_84 : decode cX9_come 84 = .ok (.invokevirtual 273, 3) := by decide +kernel
theorem dX9_come_87 : decode cX9_come 87 = .ok (.astore 5, 2) := by decide +kernel
theorem dX9_come_89 : decode cX9_come 89 = .ok (.aload 5, 2) := by decide +kernel
theorem dX9_come_91 : decode cX9_come 91 = .ok (.ifnonnull 5, 3) := by decide +kernel
theorem dX9_come_94 : decode cX9_come 94 = .ok (.aconst_null, 1) := by decide +kernel
theorem dX9_come_95 : decode cX9_come 95 = .ok (.areturn, 1) := by decide +kernel
theorem dX9_come_96 : decode cX9_come 96 = .ok (.aload 5, 2) := by decide +kernel
theorem dX9_come_98 : decode cX9_come 98 = .ok (.getfield 104, 3) := by decide +kernel
theorem dX9_come_101 : decode cX9_come 101 = .ok (.bipush 6, 2) := by decide +kernel
theorem dX9_come_103 : decode cX9_come 103 = .ok (.if_icmp .eq 11, 3) := by decide +kernel
theorem dX9_come_106 : decode cX9_come 106 = .ok (.aload_n 0, 1) := by decide +kernel
theorem dX9_come_107 : decode cX9_come 107 = .ok (.aload_n 1, 1) := by decide +kernel
theorem dX9_come_108 : decode cX9_come 108 = .ok (.aload 5, 2) := by decide +kernel
theorem dX9_come_110 : decode cX9_come 110 = .ok (.invokevirtual 155, 3) := by decide +kernel
theorem dX9_come_113 : decode cX9_come 113 = .ok (.areturn, 1) := by decide +kernel
theorem dX9_come_114 : decode cX9_come 114 = .ok (.aload_n 1, 1) := by decide +kernel
theorem dX9_come_115 : decode cX9_come 115 = .ok (.aload 5, 2) := by decide +kernel
theorem dX9_come_117 : decode cX9_come 117 = .ok (.invokevirtual 277, 3) := by decide +kernel
theorem dX9_come_120 : decode cX9_come 120 = .ok (.astore_n 3, 1) := by decide +kernel
theorem dX9_come_121 : decode cX9_come 121 = .ok (.iinc 4 1, 3) := by decide +kernel
theorem dX9_come_124 : decode cX9_come 124 = .ok (.goto (-119), 3) := by decide +kernel
theorem dX9_come_127 : decode cX9_come 127 = .ok (.aconst_null, 1) := by decide +kernel
theorem dX9_come_128 : decode cX9_come 128 = .ok (.areturn, 1) := by decide +kernel
theorem dX9_accept_0 : decode cX9_accept 0 = .ok (.aload_n 2, 1) := by decide +kernel
theorem dX9_accept_1 : decode cX9_accept 1 = .ok (.getfield 104, 3) := by decide +kernel
theorem dX9_accept_4 : decode cX9_accept 4 = .ok (.iconst 1, 1) := by decide +kernel
theorem dX9_accept_5 : decode cX9_accept 5 = .ok (.if_icmp .eq 10, 3) := by decide +kernel
theorem dX9_accept_8 : decode cX9_accept 8 = .ok (.aload_n 1, 1) := by decide +kernel
theorem dX9_accept_9 : decode cX9_accept 9 = .ok (.aload_n 2, 1) := by decide +kernel
theorem dX9_accept_10 : decode cX9_accept 10 = .ok (.invokevirtual 280, 3) := by decide +kernel
theorem dX9_accept_13 : decode cX9_accept 13 = .ok (.aconst_null, 1) := by decide +kernel
theorem dX9_accept_14 : decode cX9_accept 14 = .ok (.areturn, 1) := by decide +kernel
theorem dX9_accept_15 : decode cX9_accept 15 = .ok (.aload_n 0, 1) := by decide +kernel
theorem dX9_accept_16 : decode cX9_accept 16 = .ok (.iconst 2, 1) := by decide +kernel
theorem dX9_accept_17 : decode cX9_accept 17 = .ok (.aload_n 2, 1) := by decide +kernel
theorem dX9_accept_18 : decode cX9_accept 18 = .ok (.getfield 110, 3) := by decide +kernel
theorem dX9_accept_21 : decode cX9_accept 21 = .ok (.aload_n 2, 1) := by decide +kernel
theorem dX9_accept_22 : decode cX9_accept 22 = .ok (.getfield 107, 3) := by decide +kernel
theorem dX9_accept_25 : decode cX9_accept 25 = .ok (.aload_n 2, 1) := by decide +kernel
theorem dX9_accept_26 : decode cX9_accept 26 = .ok (.getfield 113, 3) := by decide +kernel
theorem dX9_accept_29 : decode cX9_accept 29 = .ok (.invokevirtual 80, 3) := by decide +kernel
theorem dX9_accept_32 : decode cX9_accept 32 = .ok (.astore_n 3, 1) := by decide +kernel
theorem dX9_accept_33 : decode cX9_accept 33 = .ok (.aload_n 3, 1) := by decide +kernel
theorem dX9_accept_34 : decode cX9_accept 34 = .ok (.aload_n 2, 1) := by decide +kernel
theorem dX9_accept_35 : decode cX9_accept 35 = .ok (.getfield 93, 3) := by decide +kernel
theorem dX9_accept_38 : decode cX9_accept 38 = .ok (.putfield 116, 3) := by decide +kernel
theorem dX9_accept_41 : decode cX9_accept 41 = .ok (.aload_n 3, 1) := by decide +kernel
theorem dX9_accept_42 : decode cX9_accept 42 = .ok (.areturn, 1) := by decide +kernel
theorem dX9_complainOfWaiting_0 : decode cX9_complainOfWaiting 0 = .ok (.aload_n 1, 1) := by decide +kernel
theorem dX9_complainOfWaiting_1 : decode cX9_complainOfWaiting 1 = .ok (.getfield 283, 3) := by decide +kernel
theorem dX9_complainOfWaiting_4 : decode cX9_complainOfWaiting 4 = .ok (.istore_n 2, 1) := by decide +kernel
theorem dX9_complainOfWaiting_5 : decode cX9_complainOfWaiting 5 = .ok (.aload_n 1, 1) := by decide +kernel
theorem dX9_complainOfWaiting_6 : decode cX9_complainOfWaiting 6 = .ok (.invokevirtual 264, 3) := by decide +kernel
theorem dX9_complainOfWaiting_9 : decode cX9_complainOfWaiting 9 = .ok (.astore_n 3, 1) := by decide +kernel
theorem dX9_complainOfWaiting_10 : decode cX9_complainOfWaiting 10 = .ok (.aload_n 3, 1) := by decide +kernel
theorem dX9_complainOfWaiting_11 : decode cX9_complainOfWaiting 11 = .ok (.ifnull 28, 3) := by decide +kernel
theorem dX9_complainOfWaiting_14 : decode cX9_complainOfWaiting 14 = .ok (.aload_n 3, 1) := by decide +kernel
theorem dX9_complainOfWaiting_15 : decode cX9_complainOfWaiting 15 = .ok (.getfield 267, 3) := by decide +kernel
theorem dX9_complainOfWaiting_18 : decode cX9_complainOfWaiting 18 = .ok (.astore 4, 2) := by decide +kernel
theorem dX9_complainOfWaiting_20 : decode cX9_complainOfWaiting 20 = .ok (.aload_n 0, 1) := by decide +kernel
theorem dX9_complainOfWaiting_21 : decode cX9_complainOfWaiting 21 = .ok (.aload_n 1, 1) := by decide +kernel
theorem dX9_complainOfWaiting_22 : decode cX9_complainOfWaiting 22 = .ok (.aload_n 0, 1) := by decide +kernel
theorem dX9_complainOfWaiting_23 : decode cX9_complainOfWaiting 23 = .ok (.aload_n 1, 1) := by decide +kernel
theorem dX9_complainOfWaiting_24 : decode cX9_complainOfWaiting 24 = .ok (.aload_n 3, 1) := by decide +kernel
theorem dX9_complainOfWaiting_25 : decode cX9_complainOfWaiting 25 = .ok (.iconst 4, 1) := by decide +kernel
theorem dX9_complainOfWaiting_26 : decode cX9_complainOfWaiting 26 = .ok (.iconst 1, 1) := by decide +kernel
theorem dX9_complainOfWaiting_27 : decode cX9_complainOfWaiting 27 = .ok (.invokevirtual 167, 3) := by decide +kernel
theorem dX9_complainOfWaiting_30 : decode cX9_complainOfWaiting 30 = .ok (.invokevirtual 96, 3) := by decide +kernel
theorem dX9_complainOfWaiting_33 : decode cX9_complainOfWaiting 33 = .ok (.aload 4, 2) := by decide +kernel
theorem dX9_complainOfWaiting_35 : decode cX9_complainOfWaiting 35 = .ok (.astore_n 3, 1) := by decide +kernel
theorem dX9_complainOfWaiting_36 : decode cX9_complainOfWaiting 36 = .ok (.goto (-26), 3) := by decide +kernel
theorem dX9_complainOfWaiting_39 : decode cX9_complainOfWaiting 39 = .ok (.iload_n 2, 1) := by decide +kernel
theorem dX9_complainOfWaiting_40 : decode cX9_complainOfWaiting 40 = .ok (.ireturn, 1) := by decide +kernel
theorem dX10_init_0 : decode cX10_init 0 = .ok (.aload_n 0, 1) := by decide +kernel
theorem dX10_init_1 : decode cX10_init 1 = .ok (.invokespecial 3, 3) := by decide +kernel
theorem dX10_init_4 : decode cX10_init 4 = .ok (.aload_n 0, 1) := by decide +kernel
theorem dX10_init_5 : decode cX10_init 5 = .ok (.new 9, 3) := by decide +kernel
theorem dX10_init_8 : decode cX10_init 8 = .ok (.dup, 1) := by decide +kernel
theorem dX10_init_9 : decode cX10_init 9 = .ok (.aload_n 1, 1) := by decide +kernel
theorem dX10_init_10 : decode cX10_init 10 = .ok (.invokespecial 11, 3) := by decide +kernel
theorem dX10_init_13 : decode cX10_init 13 = .ok (.putfield 14, 3) := by decide +kernel
theorem dX10_init_16 : decode cX10_init 16 = .ok (.return_, 1) := by decide +kernel
theorem dX10_begin_0 : decode cX10_begin 0 = .ok (.aload_n 0, 1) := by decide +kernel
theorem dX10_begin_1 : decode cX10_begin 1 = .ok (.getfield 14, 3) := by decide +kernel
theorem dX10_begin_4 : decode cX10_begin 4 = .ok (.aload_n 1, 1) := by decide +kernel
theorem dX10_begin_5 : decode cX10_begin 5 = .ok (.invokevirtual 20, 3) := by decide +kernel
theorem dX10_begin_8 : decode cX10_begin 8 = .ok (.return_, 1) := by decide +kernel
theorem dX10_ask_0 : decode cX10_ask 0 = .ok (.aload_n 0, 1) := by decide +kernel
theorem dX10_ask_1 : decode cX10_ask 1 = .ok (.iconst 0, 1) := by decide +kernel
theorem dX10_ask_2 : decode cX10_ask 2 = .ok (.putfield 24, 3) := by decide +kernel
theorem dX10_ask_5 : decode cX10_ask 5 = .ok (.aload_n 0, 1) := by decide +kernel
theorem dX10_ask_6 : decode cX10_ask 6 = .ok (.iconst (-1), 1) := by decide +kernel
theorem dX10_ask_7 : decode cX10_ask 7 = .ok (.putfield 28, 3) := by decide +kernel
theorem dX10_ask_10 : decode cX10_ask 10 = .ok (.aload_n 0, 1) := by decide +kernel
theorem dX10_ask_11 : decode cX10_ask 11 = .ok (.iconst (-1), 1) := by decide +kernel
theorem dX10_ask_12 : decode cX10_ask 12 = .ok (.putfield 32, 3) := by decide +kernel
theorem dX10_ask_15 : decode cX10_ask 15 = .ok (.aload_n 0, 1) := by decide +kernel
theorem dX10_ask_16 : decode cX10_ask 16 = .ok (.iconst (-1), 1) := by decide +kernel
theorem dX10_ask_17 : decode cX10_ask 17 = .ok (.putfield 35, 3) := by decide +kernel
theorem dX10_ask_20 : decode cX10_ask 20 = .ok (.aload_n 0, 1) := by decide +kernel
theorem dX10_ask_21 : decode cX10_ask 21 = .ok (.getfield 14, 3) := by decide +kernel
theorem dX10_ask_24 : decode cX10_ask 24 = .ok (.invokevirtual 38, 3) := by decide +kernel
theorem dX10_ask_27 : decode cX10_ask 27 = .ok (.aload_n 0, 1) := by decide +kernel
theorem dX10_ask_28 : decode cX10_ask 28 = .ok (.getfield 14, 3) := by decide +kernel
theorem dX10_ask_31 : decode cX10_ask 31 = .ok (.iload_n 1, 1) := by decide +kernel
theorem dX10_ask_32 : decode cX10_ask 32 = .ok (.invokevirtual 41, 3) := by decide +kernel
theorem dX10_ask_35 : decode cX10_ask 35 = .ok (.astore 6, 2) := by decide +kernel
theorem dX10_ask_37 : decode cX10_ask 37 = .ok (.aload 6, 2) := by decide +kernel
theorem dX10_ask_39 : decode cX10_ask 39 = .ok (.ifnonnull 4, 3) := by decide +kernel
theorem dX10_ask_42 : decode cX10_ask 42 = .ok (.return_, 1) := by decide +kernel
theorem dX10_ask_43 : decode cX10_ask 43 = .ok (.aload_n 0, 1) := by decide +kernel
theorem dX10_ask_44 : decode cX10_ask 44 = .ok (.aload 6, 2) := by decide +kernel
theorem dX10_ask_46 : decode cX10_ask 46 = .ok (.getfield 45, 3) := by decide +kernel
theorem dX10_ask_49 : decode cX10_ask 49 = .ok (.putfield 50, 3) := by decide +kernel
theorem dX10_ask_52 : decode cX10_ask 52 = .ok (.aload_n 0, 1) := by decide +kernel
theorem dX10_ask_53 : decode cX10_ask 53 = .ok (.aload_n 0, 1) := by decide +kernel
theorem dX10_ask_54 : decode cX10_ask 54 = .ok (.getfield 14, 3) := by decide +kernel
theorem dX10_ask_57 : decode cX10_ask 57 = .ok (.aload 6, 2) := by decide +kernel
theorem dX10_ask_59 : decode cX10_ask 59 = .ok (.iconst 1, 1) := by decide +kernel
theorem dX10_ask_60 : decode cX10_ask 60 = .ok (.iload_n 2, 1) := by decide +kernel
theorem dX10_ask_61 : decode cX10_ask 61 = .ok (.iload_n 3, 1) := by decide +kernel
theorem dX10_ask_62 : decode cX10_ask 62 = .ok (.iload 4, 2) := by decide +kernel
theorem dX10_ask_64 : decode cX10_ask 64 = .ok (.iload 5, 2) := by decide +kernel
theorem dX10_ask_66 : decode cX10_ask 66 = .ok (.invokevirtual 53, 3) := by decide +kernel
theorem dX10_ask_69 : decode cX10_ask 69 = .ok (.putfield 57, 3) := by decide +kernel
theorem dX10_ask_72 : decode cX10_ask 72 = .ok (.aload_n 0, 1) := by decide +kernel
theorem dX10_ask_73 : decode cX10_ask 73 = .ok (.aload 6, 2) := by decide +kernel
theorem dX10_ask_75 : decode cX10_ask 75 = .ok (.invokevirtual 60, 3) := by decide +kernel
theorem dX10_ask_78 : decode cX10_ask 78 = .ok (.iconst 0, 1) := by decide +kernel
theorem dX10_ask_79 : decode cX10_ask 79 = .ok (.istore 7, 2) := by decide +kernel
theorem dX10_ask_81 : decode cX10_ask 81 = .ok (.iload 7, 2) := by decide +kernel
theorem dX10_ask_83 : decode cX10_ask 83 = .ok (.sipush 200, 3) := by decide +kernel
theorem dX10_ask_86 : decode cX10_ask 86 = .ok (.if_icmp .ge 25, 3) := by decide +kernel
theorem dX10_ask_89 : decode cX10_ask 89 = .ok (.aload_n 0, 1) := by decide +kernel
theorem dX10_ask_90 : decode cX10_ask 90 = .ok (.getfield 14, 3) := by decide +kernel
theorem dX10_ask_93 : decode cX10_ask 93 = .ok (.invokevirtual 64, 3) := by decide +kernel
theorem dX10_ask_96 : decode cX10_ask 96 = .ok (.ifCond .eq 15, 3) := by decide +kernel
theorem dX10_ask_99 : decode cX10_ask 99 = .ok (.aload_n 0, 1) := by decide +kernel
theorem dX10_ask_100 : decode cX10_ask 100 = .ok (.aload 6, 2) := by decide +kernel
theorem dX10_ask_102 : decode cX10_ask 102 = .ok (.invokevirtual 60, 3) := by decide +kernel
theorem dX10_ask_105 : decode cX10_ask 105 = .ok (.iinc 7 1, 3) := by decide +kernel
theorem dX10_ask_108 : decode cX10_ask 108 = .ok (.goto (-27), 3) := by decide +kernel
theorem dX10_ask_111 : decode cX10_ask 111 = .ok (.return_, 1) := by decide +kernel
theorem dX10_look_0 : decode cX10_look 0 = .ok (.aload_n 1, 1) := by decide +kernel
theorem dX10_look_1 : decode cX10_look 1 = .ok (.getfield 45, 3) := by decide +kernel
theorem dX10_look_4 : decode cX10_look 4 = .ok (.aload_n 0, 1) := by decide +kernel
theorem dX10_look_5 : decode cX10_look 5 = .ok (.getfield 50, 3) := by decide +kernel
theorem dX10_look_8 : decode cX10_look 8 = .ok (.isub, 1) := by decide +kernel
theorem dX10_look_9 : decode cX10_look 9 = .ok (.iconst 1, 1) := by decide +kernel
theorem dX10_look_10 : decode cX10_look 10 = .ok (.isub, 1) := by decide +kernel
theorem dX10_look_11 : decode cX10_look 11 = .ok (.istore_n 2, 1) := by decide +kernel
theorem dX10_look_12 : decode cX10_look 12 = .ok (.iload_n 2, 1) := by decide +kernel
theorem dX10_look_13 : decode cX10_look 13 = .ok (.ifCond .lt 127, 3) := by decide +kernel
theorem dX10_look_16 : decode cX10_look 16 = .ok (.aload_n 1, 1) := by decide +kernel
theorem dX10_look_17 : decode cX10_look 17 = .ok (.iload_n 2, 1) := by decide +kernel
theorem dX10_look_18 : decode cX10_look 18 = .ok (.iconst 0, 1) := by decide +kernel
theorem dX10_look_19 : decode cX10_look 19 = .ok (.invokevirtual 68, 3) := by decide +kernel
theorem dX10_look_22 : decode cX10_look 22 = .ok (.istore_n 3, 1) := by decide +kernel
theorem dX10_look_23 : decode cX10_look 23 = .ok (.iload_n 3, 1) := by decide +kernel
theorem dX10_look_24 : decode cX10_look 24 = .ok (.iconst 2, 1) := by decide +kernel
theorem dX10_look_25 : decode cX10_look 25 = .ok (.if_icmp .ne 20, 3) := by decide +kernel
theorem dX10_look_28 : decode cX10_look 28 = .ok (.aload_n 1, 1) := by decide +kernel
theorem dX10_look_29 : decode cX10_look 29 = .ok (.iload_n 2, 1) := by decide +kernel
theorem dX10_look_30 : decode cX10_look 30 = .ok (.iconst 5, 1) := by decide +kernel
theorem dX10_look_31 : decode cX10_look 31 = .ok (.invokevirtual 68, 3) := by decide +kernel
theorem dX10_look_34 : decode cX10_look 34 = .ok (.aload_n 0, 1) := by decide +kernel
theorem dX10_look_35 : decode cX10_look 35 = .ok (.getfield 57, 3) := by decide +kernel
theorem dX10_look_38 : decode cX10_look 38 = .ok (.if_icmp .ne 7, 3) := by decide +kernel
theorem dX10_look_41 : decode cX10_look 41 = .ok (.iconst 1, 1) := by decide +kernel
theorem dX10_look_42 : decode cX10_look 42 = .ok (.goto 4, 3) := by decide +kernel
theorem dX10_look_45 : decode cX10_look 45 = .ok (.iconst 0, 1) := by decide +kernel
theorem dX10_look_46 : decode cX10_look 46 = .ok (.istore 4, 2) := by decide +kernel
theorem dX10_look_48 : decode cX10_look 48 = .ok (.iload_n 3, 1) := by decide +kernel
theorem dX10_look_49 : decode cX10_look 49 = .ok (.iconst 3, 1) := by decide +kernel
theorem dX10_look_50 : decode cX10_look 50 = .ok (.if_icmp .eq 13, 3) := by decide +kernel
theorem dX10_look_53 : decode cX10_look 53 = .ok (.iload_n 3, 1) := by decide +kernel
theorem dX10_look_54 : decode cX10_look 54 = .ok (.iconst 4, 1) := by decide +kernel
theorem dX10_look_55 : decode cX10_look 55 = .ok (.if_icmp .eq 8, 3) := by decide +kernel
theorem dX10_look_58 : decode cX10_look 58 = .ok (.iload_n 3, 1) := by decide +kernel
theorem dX10_look_59 : decode cX10_look 59 = .ok (.iconst 5, 1) := by decide +kernel
theorem dX10_look_60 : decode cX10_look 60 = .ok (.if_icmp .ne 7, 3) := by decide +kernel
theorem dX10_look_63 : decode cX10_look 63 = .ok (.iconst 1, 1) := by decide +kernel
theorem dX10_look_64 : decode cX10_look 64 = .ok (.goto 4, 3) := by decide +kernel
theorem dX10_look_67 : decode cX10_look 67 = .ok (.iconst 0, 1) := by decide +kernel
theorem dX10_look_68 : decode cX10_look 68 = .ok (.istore 5, 2) := by decide +kernel
theorem dX10_look_70 : decode cX10_look 70 = .ok (.aload_n 0, 1) := by decide +kernel
theorem dX10_look_71 : decode cX10_look 71 = .ok (.aload_n 0, 1) := by decide +kernel
theorem dX10_look_72 : decode cX10_look 72 = .ok (.getfield 24, 3) := by decide +kernel
theorem dX10_look_75 : decode cX10_look 75 = .ok (.ifCond .ne 8, 3) := by decide +kernel
theorem dX10_look_78 : decode cX10_look 78 = .ok (.iload 4, 2) := by decide +kernel
theorem dX10_look_80 : decode cX10_look 80 = .ok (.ifCond .eq 7, 3) := by decide +kernel
theorem dX10_look_83 : decode cX10_look 83 = .ok (.iconst 1, 1) := by decide +kernel
theorem dX10_look_84 : decode cX10_look 84 = .ok (.goto 4, 3) := by decide +kernel
theorem dX10_look_87 : decode cX10_look 87 = .ok (.iconst 0, 1) := by decide +kernel
theorem dX10_look_88 : decode cX10_look 88 = .ok (.putfield 24, 3) := by decide +kernel
theorem dX10_look_91 : decode cX10_look 91 = .ok (.aload_n 0, 1) := by decide +kernel
theorem dX10_look_92 : decode cX10_look 92 = .ok (.getfield 28, 3) := by decide +kernel
theorem dX10_look_95 : decode cX10_look 95 = .ok (.iconst (-1), 1) := by decide +kernel
theorem dX10_look_96 : decode cX10_look 96 = .ok (.if_icmp .ne 38, 3) := by decide +kernel
theorem dX10_look_99 : decode cX10_look 99 = .ok (.iload 4, 2) := by decide +kernel
theorem dX10_look_101 : decode cX10_look 101 = .ok (.ifCond .ne 8, 3) := by decide +kernel
theorem dX10_look_104 : decode cX10_look 104 = .ok (.iload 5, 2) := by decide +kernel
theorem dX10_look_106 : decode cX10_look 106 = .ok (.ifCond .eq 28, 3) := by decide +kernel
theorem dX10_look_109 : decode cX10_look 109 = .ok (.aload_n 0, 1) := by decide +kernel
theorem dX10_look_110 : decode cX10_look 110 = .ok (.iload_n 3, 1) := by decide +kernel
theorem dX10_look_111 : decode cX10_look 111 = .ok (.putfield 28, 3) := by decide +kernel
theorem dX10_look_114 : decode cX10_look 114 = .ok (.aload_n 0, 1) := by decide +kernel
theorem dX10_look_115 : decode cX10_look 115 = .ok (.aload_n 1, 1) := by decide +kernel
theorem dX10_look_116 : decode cX10_look 116 = .ok (.iload_n 2, 1) := by decide +kernel
theorem dX10_look_117 : decode cX10_look 117 = .ok (.iconst 1, 1) := by decide +kernel
theorem dX10_look_118 : decode cX10_look 118 = .ok (.invokevirtual 68, 3) := by decide +kernel
theorem dX10_look_121 : decode cX10_look 121 = .ok (.putfield 32, 3) := by decide +kernel
theorem dX10_look_124 : decode cX10_look 124 = .ok (.aload_n 0, 1) := by decide +kernel
theorem dX10_look_125 : decode cX10_look 125 = .ok (.aload_n 1, 1) := by decide +kernel
theorem dX10_look_126 : decode cX10_look 126 = .ok (.iload_n 2, 1) := by decide +kernel
theorem dX10_look_127 : decode cX10_look 127 = .ok (.iconst 5, 1) := by decide +kernel
theorem dX10_look_128 : decode cX10_look 128 = .ok (.invokevirtual 68, 3) := by decide +kernel
theorem dX10_look_131 : decode cX10_look 131 = .ok (.putfield 35, 3) := by decide +kernel
theorem dX10_look_134 : decode cX10_look 134 = .ok (.iinc 2 (-1), 3) := by decide +kernel
theorem dX10_look_137 : decode cX10_look 137 = .ok (.goto (-125), 3) := by decide +kernel
theorem dX10_look_140 : decode cX10_look 140 = .ok (.aload_n 0, 1) := by decide +kernel
theorem dX10_look_141 : decode cX10_look 141 = .ok (.aload_n 1, 1) := by decide +kernel
theorem dX10_look_142 : decode cX10_look 142 = .ok (.getfield 45, 3) := by decide +kernel
theorem dX10_look_145 : decode cX10_look 145 = .ok (.putfield 50, 3) := by decide +kernel
theorem dX10_look_148 : decode cX10_look 148 = .ok (.return_, 1) := by decide +kernel
theorem dX11_init_0 : decode cX11_init 0 = .ok (.aload_n 0, 1) := by decide +kernel
theorem dX11_init_1 : decode cX11_init 1 = .ok (.invokespecial 1, 3) := by decide +kernel
theorem dX11_init_4 : decode cX11_init 4 = .ok (.aload_n 0, 1) := by decide +kernel
theorem dX11_init_5 : decode cX11_init 5 = .ok (.new 7, 3) := by decide +kernel
theorem dX11_init_8 : decode cX11_init 8 = .ok (.dup, 1) := by decide +kernel
theorem dX11_init_9 : decode cX11_init 9 = .ok (.invokespecial 9, 3) := by decide +kernel
theorem dX11_init_12 : decode cX11_init 12 = .ok (.putfield 10, 3) := by decide +kernel
theorem dX11_init_15 : decode cX11_init 15 = .ok (.aload_n 0, 1) := by decide +kernel
theorem dX11_init_16 : decode cX11_init 16 = .ok (.new 16, 3) := by decide +kernel
theorem dX11_init_19 : decode cX11_init 19 = .ok (.dup, 1) := by decide +kernel
theorem dX11_init_20 : decode cX11_init 20 = .ok (.aload_n 0, 1) := by decide +kernel
theorem dX11_init_21 : decode cX11_init 21 = .ok (.getfield 10, 3) := by decide +kernel
theorem dX11_init_24 : decode cX11_init 24 = .ok (.invokespecial 18, 3) := by decide +kernel
theorem dX11_init_27 : decode cX11_init 27 = .ok (.putfield 21, 3) := by decide +kernel
theorem dX11_init_30 : decode cX11_init 30 = .ok (.aload_n 0, 1) := by decide +kernel
theorem dX11_init_31 : decode cX11_init 31 = .ok (.new 25, 3) := by decide +kernel
theorem dX11_init_34 : decode cX11_init 34 = .ok (.dup, 1) := by decide +kernel
theorem dX11_init_35 : decode cX11_init 35 = .ok (.aload_n 0, 1) := by decide +kernel
theorem dX11_init_36 : decode cX11_init 36 = .ok (.getfield 10, 3) := by decide +kernel
theorem dX11_init_39 : decode cX11_init 39 = .ok (.invokespecial 27, 3) := by decide +kernel
theorem dX11_init_42 : decode cX11_init 42 = .ok (.putfield 28, 3) := by decide +kernel
theorem dX11_init_45 : decode cX11_init 45 = .ok (.return_, 1) := by decide +kernel
theorem dX11_addCable_0 : decode cX11_addCable 0 = .ok (.iload_n 1, 1) := by decide +kernel
theorem dX11_addCable_1 : decode cX11_addCable 1 = .ok (.invokestatic 32, 3) := by decide +kernel
theorem dX11_addCable_4 : decode cX11_addCable 4 = .ok (.aload_n 0, 1) := by decide +kernel
theorem dX11_addCable_5 : decode cX11_addCable 5 = .ok (.getfield 10, 3) := by decide +kernel
theorem dX11_addCable_8 : decode cX11_addCable 8 = .ok (.iload_n 1, 1) := by decide +kernel
theorem dX11_addCable_9 : decode cX11_addCable 9 = .ok (.invokevirtual 36, 3) := by decide +kernel
theorem dX11_addCable_12 : decode cX11_addCable 12 = .ok (.istore_n 2, 1) := by decide +kernel
theorem dX11_addCable_13 : decode cX11_addCable 13 = .ok (.iload_n 2, 1) := by decide +kernel
theorem dX11_addCable_14 : decode cX11_addCable 14 = .ok (.ifCond .ge 13, 3) := by decide +kernel
theorem dX11_addCable_17 : decode cX11_addCable 17 = .ok (.new 40, 3) := by decide +kernel
theorem dX11_addCable_20 : decode cX11_addCable 20 = .ok (.dup, 1) := by decide +kernel
theorem dX11_addCable_21 : decode cX11_addCable 21 = .ok (.ldc 42, 2) := by decide +kernel
theorem dX11_addCable_23 : decode cX11_addCable 23 = .ok (.invokespecial 44, 3) := by decide +kernel
theorem dX11_addCable_26 : decode cX11_addCable 26 = .ok (.athrow, 1) := by decide +kernel
theorem dX11_addCable_27 : decode cX11_addCable 27 = .ok (.iload_n 2, 1) := by decide +kernel
theorem dX11_addCable_28 : decode cX11_addCable 28 = .ok (.ireturn, 1) := by decide +kernel
theorem dX11_setWidth_0 : decode cX11_setWidth 0 = .ok (.aload_n 0, 1) := by decide +kernel
theorem dX11_setWidth_1 : decode cX11_setWidth 1 = .ok (.iload_n 1, 1) := by decide +kernel
theorem dX11_setWidth_2 : decode cX11_setWidth 2 = .ok (.invokevirtual 47, 3) := by decide +kernel
theorem dX11_setWidth_5 : decode cX11_setWidth 5 = .ok (.iload_n 2, 1) := by decide +kernel
theorem dX11_setWidth_6 : decode cX11_setWidth 6 = .ok (.invokestatic 32, 3) := by decide +kernel
theorem dX11_setWidth_9 : decode cX11_setWidth 9 = .ok (.aload_n 0, 1) := by decide +kernel
theorem dX11_setWidth_10 : decode cX11_setWidth 10 = .ok (.getfield 10, 3) := by decide +kernel
theorem dX11_setWidth_13 : decode cX11_setWidth 13 = .ok (.iload_n 1, 1) := by decide +kernel
theorem dX11_setWidth_14 : decode cX11_setWidth 14 = .ok (.iload_n 2, 1) := by decide +kernel
theorem dX11_setWidth_15 : decode cX11_setWidth 15 = .ok (.invokevirtual 50, 3) := by decide +kernel
theorem dX11_setWidth_18 : decode cX11_setWidth 18 = .ok (.ireturn, 1) := by decide +kernel
theorem dX11_addMachine_0 : decode cX11_addMachine 0 = .ok (.aload_n 0, 1) := by decide +kernel
theorem dX11_addMachine_1 : decode cX11_addMachine 1 = .ok (.getfield 10, 3) := by decide +kernel
theorem dX11_addMachine_4 : decode cX11_addMachine 4 = .ok (.iload_n 1, 1) := by decide +kernel
theorem dX11_addMachine_5 : decode cX11_addMachine 5 = .ok (.invokevirtual 54, 3) := by decide +kernel
theorem dX11_addMachine_8 : decode cX11_addMachine 8 = .ok (.istore_n 2, 1) := by decide +kernel
theorem dX11_addMachine_9 : decode cX11_addMachine 9 = .ok (.iload_n 2, 1) := by decide +kernel
theorem dX11_addMachine_10 : decode cX11_addMachine 10 = .ok (.ifCond .ge 13, 3) := by decide +kernel
theorem dX11_addMachine_13 : decode cX11_addMachine 13 = .ok (.new 40, 3) := by decide +kernel
theorem dX11_addMachine_16 : decode cX11_addMachine 16 = .ok (.dup, 1) := by decide +kernel
theorem dX11_addMachine_17 : decode cX11_addMachine 17 = .ok (.ldc 58, 2) := by decide +kernel
theorem dX11_addMachine_19 : decode cX11_addMachine 19 = .ok (.invokespecial 44, 3) := by decide +kernel
theorem dX11_addMachine_22 : decode cX11_addMachine 22 = .ok (.athrow, 1) := by decide +kernel
theorem dX11_addMachine_23 : decode cX11_addMachine 23 = .ok (.iload_n 2, 1) := by decide +kernel
theorem dX11_addMachine_24 : decode cX11_addMachine 24 = .ok (.ireturn, 1) := by decide +kernel
theorem dX11_addPort_0 : decode cX11_addPort 0 = .ok (.aload_n 0, 1) := by decide +kernel
theorem dX11_addPort_1 : decode cX11_addPort 1 = .ok (.iload_n 1, 1) := by decide +kernel
theorem dX11_addPort_2 : decode cX11_addPort 2 = .ok (.invokevirtual 60, 3) := by decide +kernel
theorem dX11_addPort_5 : decode cX11_addPort 5 = .ok (.getfield 64, 3) := by decide +kernel
theorem dX11_addPort_8 : decode cX11_addPort 8 = .ok (.astore 5, 2) := by decide +kernel
theorem dX11_addPort_10 : decode cX11_addPort 10 = .ok (.aload_n 0, 1) := by decide +kernel
theorem dX11_addPort_11 : decode cX11_addPort 11 = .ok (.iload_n 2, 1) := by decide +kernel
theorem dX11_addPort_12 : decode cX11_addPort 12 = .ok (.invokevirtual 47, 3) := by decide +kernel
theorem dX11_addPort_15 : decode cX11_addPort 15 = .ok (.iload_n 3, 1) := by decide +kernel
theorem dX11_addPort_16 : decode cX11_addPort 16 = .ok (.invokestatic 70, 3) := by decide +kernel
theorem dX11_addPort_19 : decode cX11_addPort 19 = .ok (.iload 4, 2) := by decide +kernel
theorem dX11_addPort_21 : decode cX11_addPort 21 = .ok (.invokestatic 73, 3) := by decide +kernel
theorem dX11_addPort_24 : decode cX11_addPort 24 = .ok (.aload_n 0, 1) := by decide +kernel
theorem dX11_addPort_25 : decode cX11_addPort 25 = .ok (.getfield 10, 3) := by decide +kernel
theorem dX11_addPort_28 : decode cX11_addPort 28 = .ok (.aload 5, 2) := by decide +kernel
theorem dX11_addPort_30 : decode cX11_addPort 30 = .ok (.iload_n 2, 1) := by decide +kernel
theorem dX11_addPort_31 : decode cX11_addPort 31 = .ok (.iload_n 3, 1) := by decide +kernel
theorem dX11_addPort_32 : decode cX11_addPort 32 = .ok (.iload 4, 2) := by decide +kernel
theorem dX11_addPort_34 : decode cX11_addPort 34 = .ok (.invokevirtual 76, 3) := by decide +kernel
theorem dX11_addPort_37 : decode cX11_addPort 37 = .ok (.astore 6, 2) := by decide +kernel
theorem dX11_addPort_39 : decode cX11_addPort 39 = .ok (.aload 6, 2) := by decide +kernel
theorem dX11_addPort_41 : decode cX11_addPort 41 = .ok (.ifnonnull 13, 3) := by decide +kernel
theorem dX11_addPort_44 : decode cX11_addPort 44 = .ok (.new 40, 3) := by decide +kernel
theorem dX11_addPort_47 : decode cX11_addPort 47 = .ok (.dup, 1) := by decide +kernel
theorem dX11_addPort_48 : decode cX11_addPort 48 = .ok (.ldc 80, 2) := by decide +kernel
theorem dX11_addPort_50 : decode cX11_addPort 50 = .ok (.invokespecial 44, 3) := by decide +kernel
theorem dX11_addPort_53 : decode cX11_addPort 53 = .ok (.athrow, 1) := by decide +kernel
theorem dX11_addPort_54 : decode cX11_addPort 54 = .ok (.aload 6, 2) := by decide +kernel
theorem dX11_addPort_56 : decode cX11_addPort 56 = .ok (.getfield 82, 3) := by decide +kernel
theorem dX11_addPort_59 : decode cX11_addPort 59 = .ok (.ireturn, 1) := by decide +kernel
theorem dX11_addTunnel_0 : decode cX11_addTunnel 0 = .ok (.aload_n 0, 1) := by decide +kernel
theorem dX11_addTunnel_1 : decode cX11_addTunnel 1 = .ok (.iload_n 1, 1) := by decide +kernel
theorem dX11_addTunnel_2 : decode cX11_addTunnel 2 = .ok (.invokevirtual 60, 3) := by decide +kernel
theorem dX11_addTunnel_5 : decode cX11_addTunnel 5 = .ok (.getfield 64, 3) := by decide +kernel
theorem dX11_addTunnel_8 : decode cX11_addTunnel 8 = .ok (.astore_n 3, 1) := by decide +kernel
theorem dX11_addTunnel_9 : decode cX11_addTunnel 9 = .ok (.iload_n 2, 1) := by decide +kernel
theorem dX11_addTunnel_10 : decode cX11_addTunnel 10 = .ok (.invokestatic 70, 3) := by decide +kernel
theorem dX11_addTunnel_13 : decode cX11_addTunnel 13 = .ok (.aload_n 3, 1) := by decide +kernel
theorem dX11_addTunnel_14 : decode cX11_addTunnel 14 = .ok (.iload_n 2, 1) := by decide +kernel
theorem dX11_addTunnel_15 : decode cX11_addTunnel 15 = .ok (.invokevirtual 88, 3) := by decide +kernel
theorem dX11_addTunnel_18 : decode cX11_addTunnel 18 = .ok (.istore 4, 2) := by decide +kernel
theorem dX11_addTunnel_20 : decode cX11_addTunnel 20 = .ok (.iload 4, 2) := by decide +kernel
theorem dX11_addTunnel_22 : decode cX11_addTunnel 22 = .ok (.ifCond .ge 13, 3) := by decide +kernel
theorem dX11_addTunnel_25 : decode cX11_addTunnel 25 = .ok (.new 40, 3) := by decide +kernel
theorem dX11_addTunnel_28 : decode cX11_addTunnel 28 = .ok (.dup, 1) := by decide +kernel
theorem dX11_addTunnel_29 : decode cX11_addTunnel 29 = .ok (.ldc 93, 2) := by decide +kernel
theorem dX11_addTunnel_31 : decode cX11_addTunnel 31 = .ok (.invokespecial 44, 3) := by decide +kernel
theorem dX11_addTunnel_34 : decode cX11_addTunnel 34 = .ok (.athrow, 1) := by decide +kernel
theorem dX11_addTunnel_35 : decode cX11_addTunnel 35 = .ok (.iload 4, 2) := by decide +kernel
theorem dX11_addTunnel_37 : decode cX11_addTunnel 37 = .ok (.ireturn, 1) := by decide +kernel
theorem dX11_addRoute_0 : decode cX11_addRoute 0 = .ok (.aload_n 0, 1) := by decide +kernel
theorem dX11_addRoute_1 : decode cX11_addRoute 1 = .ok (.iload_n 1, 1) := by decide +kernel
theorem dX11_addRoute_2 : decode cX11_addRoute 2 = .ok (.invokevirtual 60, 3) := by decide +kernel
theorem dX11_addRoute_5 : decode cX11_addRoute 5 = .ok (.getfield 64, 3) := by decide +kernel
theorem dX11_addRoute_8 : decode cX11_addRoute 8 = .ok (.astore 5, 2) := by decide +kernel
theorem dX11_addRoute_10 : decode cX11_addRoute 10 = .ok (.iload_n 2, 1) := by decide +kernel
theorem dX11_addRoute_11 : decode cX11_addRoute 11 = .ok (.invokestatic 70, 3) := by decide +kernel
theorem dX11_addRoute_14 : decode cX11_addRoute 14 = .ok (.iload_n 3, 1) := by decide +kernel
theorem dX11_addRoute_15 : decode cX11_addRoute 15 = .ok (.invokestatic 73, 3) := by decide +kernel
theorem dX11_addRoute_18 : decode cX11_addRoute 18 = .ok (.aload 5, 2) := by decide +kernel
theorem dX11_addRoute_20 : decode cX11_addRoute 20 = .ok (.iload 4, 2) := by decide +kernel
theorem dX11_addRoute_22 : decode cX11_addRoute 22 = .ok (.invokevirtual 95, 3) := by decide +kernel
theorem dX11_addRoute_25 : decode cX11_addRoute 25 = .ok (.ifCond .ne 13, 3) := by decide +kernel
theorem dX11_addRoute_28 : decode cX11_addRoute 28 = .ok (.new 99, 3) := by decide +kernel
theorem dX11_addRoute_31 : decode cX11_addRoute 31 = .ok (.dup, 1) := by decide +kernel
theorem dX11_addRoute_32 : decode cX11_addRoute 32 = .ok (.ldc 101, 2) := by decide +kernel
theorem dX11_addRoute_34 : decode cX11_addRoute 34 = .ok (.invokespecial 103, 3) := by decide +kernel
theorem dX11_addRoute_37 : decode cX11_addRoute 37 = .ok (.athrow, 1) := by decide +kernel
theorem dX11_addRoute_38 : decode cX11_addRoute 38 = .ok (.aload 5, 2) := by decide +kernel
theorem dX11_addRoute_40 : decode cX11_addRoute 40 = .ok (.iload_n 2, 1) := by decide +kernel
theorem dX11_addRoute_41 : decode cX11_addRoute 41 = .ok (.iload_n 3, 1) := by decide +kernel
theorem dX11_addRoute_42 : decode cX11_addRoute 42 = .ok (.iload 4, 2) := by decide +kernel
theorem dX11_addRoute_44 : decode cX11_addRoute 44 = .ok (.invokevirtual 104, 3) := by decide +kernel
theorem dX11_addRoute_47 : decode cX11_addRoute 47 = .ok (.istore 6, 2) := by decide +kernel
theorem dX11_addRoute_49 : decode cX11_addRoute 49 = .ok (.iload 6, 2) := by decide +kernel
theorem dX11_addRoute_51 : decode cX11_addRoute 51 = .ok (.ifCond .ge 13, 3) := by decide +kernel
theorem dX11_addRoute_54 : decode cX11_addRoute 54 = .ok (.new 40, 3) := by decide +kernel
theorem dX11_addRoute_57 : decode cX11_addRoute 57 = .ok (.dup, 1) := by decide +kernel
theorem dX11_addRoute_58 : decode cX11_addRoute 58 = .ok (.ldc 108, 2) := by decide +kernel
theorem dX11_addRoute_60 : decode cX11_addRoute 60 = .ok (.invokespecial 44, 3) := by decide +kernel
theorem dX11_addRoute_63 : decode cX11_addRoute 63 = .ok (.athrow, 1) := by decide +kernel
theorem dX11_addRoute_64 : decode cX11_addRoute 64 = .ok (.iload 6, 2) := by decide +kernel
theorem dX11_addRoute_66 : decode cX11_addRoute 66 = .ok (.ireturn, 1) := by decide +kernel
theorem dX11_setForwarding_0 : decode cX11_setForwarding 0 = .ok (.aload_n 0, 1) := by decide +kernel
theorem dX11_setForwarding_1 : decode cX11_setForwarding 1 = .ok (.iload_n 1, 1) := by decide +kernel
theorem dX11_setForwarding_2 : decode cX11_setForwarding 2 = .ok (.invokevirtual 60, 3) := by decide +kernel
theorem dX11_setForwarding_5 : decode cX11_setForwarding 5 = .ok (.getfield 64, 3) := by decide +kernel
theorem dX11_setForwarding_8 : decode cX11_setForwarding 8 = .ok (.astore_n 3, 1) := by decide +kernel
theorem dX11_setForwarding_9 : decode cX11_setForwarding 9 = .ok (.aload_n 3, 1) := by decide +kernel
theorem dX11_setForwarding_10 : decode cX11_setForwarding 10 = .ok (.getfield 116, 3) := by decide +kernel
theorem dX11_setForwarding_13 : decode cX11_setForwarding 13 = .ok (.istore 4, 2) := by decide +kernel
theorem dX11_setForwarding_15 : decode cX11_setForwarding 15 = .ok (.aload_n 3, 1) := by decide +kernel
theorem dX11_setForwarding_16 : decode cX11_setForwarding 16 = .ok (.iload_n 2, 1) := by decide +kernel
theorem dX11_setForwarding_17 : decode cX11_setForwarding 17 = .ok (.putfield 116, 3) := by decide +kernel
theorem dX11_setForwarding_20 : decode cX11_setForwarding 20 = .ok (.iload 4, 2) := by decide +kernel
theorem dX11_setForwarding_22 : decode cX11_setForwarding 22 = .ok (.ireturn, 1) := by decide +kernel
theorem dX11_send_0 : decode cX11_send 0 = .ok (.aload_n 0, 1) := by decide +kernel
theorem dX11_send_1 : decode cX11_send 1 = .ok (.iload_n 1, 1) := by decide +kernel
theorem dX11_send_2 : decode cX11_send 2 = .ok (.invokevirtual 60, 3) := by decide +kernel
theorem dX11_send_5 : decode cX11_send 5 = .ok (.astore 7, 2) := by decide +kernel
theorem dX11_send_7 : decode cX11_send 7 = .ok (.iload_n 2, 1) := by decide +kernel
theorem dX11_send_8 : decode cX11_send 8 = .ok (.invokestatic 70, 3) := by decide +kernel
theorem dX11_send_11 : decode cX11_send 11 = .ok (.iload 4, 2) := by decide +kernel
theorem dX11_send_13 : decode cX11_send 13 = .ok (.ifCond .lt 11, 3) := by decide +kernel
theorem dX11_send_16 : decode cX11_send 16 = .ok (.iload 4, 2) := by decide +kernel
theorem dX11_send_18 : decode cX11_send 18 = .ok (.sipush 400, 3) := by decide +kernel
theorem dX11_send_21 : decode cX11_send 21 = .ok (.if_icmp .le 13, 3) := by decide +kernel
theorem dX11_send_24 : decode cX11_send 24 = .ok (.new 99, 3) := by decide +kernel
theorem dX11_send_27 : decode cX11_send 27 = .ok (.dup, 1) := by decide +kernel
theorem dX11_send_28 : decode cX11_send 28 = .ok (.ldc 120, 2) := by decide +kernel
theorem dX11_send_30 : decode cX11_send 30 = .ok (.invokespecial 103, 3) := by decide +kernel
theorem dX11_send_33 : decode cX11_send 33 = .ok (.athrow, 1) := by decide +kernel
theorem dX11_send_34 : decode cX11_send 34 = .ok (.iload 5, 2) := by decide +kernel
theorem dX11_send_36 : decode cX11_send 36 = .ok (.invokestatic 122, 3) := by decide +kernel
theorem dX11_send_39 : decode cX11_send 39 = .ok (.aload_n 0, 1) := by decide +kernel
theorem dX11_send_40 : decode cX11_send 40 = .ok (.getfield 21, 3) := by decide +kernel
theorem dX11_send_43 : decode cX11_send 43 = .ok (.aload 7, 2) := by decide +kernel
theorem dX11_send_45 : decode cX11_send 45 = .ok (.iload_n 3, 1) := by decide +kernel
theorem dX11_send_46 : decode cX11_send 46 = .ok (.ifCond .eq 7, 3) := by decide +kernel
theorem dX11_send_49 : decode cX11_send 49 = .ok (.iconst 1, 1) := by decide +kernel
theorem dX11_send_50 : decode cX11_send 50 = .ok (.goto 4, 3) := by decide +kernel
theorem dX11_send_53 : decode cX11_send 53 = .ok (.iconst 0, 1) := by decide +kernel
theorem dX11_send_54 : decode cX11_send 54 = .ok (.iload_n 2, 1) := by decide +kernel
theorem dX11_send_55 : decode cX11_send 55 = .ok (.iload 4, 2) := by decide +kernel
theorem dX11_send_57 : decode cX11_send 57 = .ok (.iload 5, 2) := by decide +kernel
theorem dX11_send_59 : decode cX11_send 59 = .ok (.iload 6, 2) := by decide +kernel
theorem dX11_send_61 : decode cX11_send 61 = .ok (.invokevirtual 125, 3) := by decide +kernel
theorem dX11_send_64 : decode cX11_send 64 = .ok (.ireturn, 1) := by decide +kernel
theorem dX11_step_0 : decode cX11_step 0 = .ok (.iload_n 1, 1) := by decide +kernel
theorem dX11_step_1 : decode cX11_step 1 = .ok (.iconst 1, 1) := by decide +kernel
theorem dX11_step_2 : decode cX11_step 2 = .ok (.if_icmp .lt 9, 3) := by decide +kernel
theorem dX11_step_5 : decode cX11_step 5 = .ok (.iload_n 1, 1) := by decide +kernel
theorem dX11_step_6 : decode cX11_step 6 = .ok (.bipush 60, 2) := by decide +kernel
theorem dX11_step_8 : decode cX11_step 8 = .ok (.if_icmp .le 13, 3) := by decide +kernel
theorem dX11_step_11 : decode cX11_step 11 = .ok (.new 99, 3) := by decide +kernel
theorem dX11_step_14 : decode cX11_step 14 = .ok (.dup, 1) := by decide +kernel
theorem dX11_step_15 : decode cX11_step 15 = .ok (.ldc 129, 2) := by decide +kernel
theorem dX11_step_17 : decode cX11_step 17 = .ok (.invokespecial 103, 3) := by decide +kernel
theorem dX11_step_20 : decode cX11_step 20 = .ok (.athrow, 1) := by decide +kernel
theorem dX11_step_21 : decode cX11_step 21 = .ok (.iconst 0, 1) := by decide +kernel
theorem dX11_step_22 : decode cX11_step 22 = .ok (.istore_n 2, 1) := by decide +kernel
theorem dX11_step_23 : decode cX11_step 23 = .ok (.iload_n 2, 1) := by decide +kernel
theorem dX11_step_24 : decode cX11_step 24 = .ok (.iload_n 1, 1) := by decide +kernel
theorem dX11_step_25 : decode cX11_step 25 = .ok (.if_icmp .ge 30, 3) := by decide +kernel
theorem dX11_step_28 : decode cX11_step 28 = .ok (.aload_n 0, 1) := by decide +kernel
theorem dX11_step_29 : decode cX11_step 29 = .ok (.getfield 21, 3) := by decide +kernel
theorem dX11_step_32 : decode cX11_step 32 = .ok (.getfield 131, 3) := by decide +kernel
theorem dX11_step_35 : decode cX11_step 35 = .ok (.getfield 135, 3) := by decide +kernel
theorem dX11_step_38 : decode cX11_step 38 = .ok (.ifCond .le 17, 3) := by decide +kernel
theorem dX11_step_41 : decode cX11_step 41 = .ok (.aload_n 0, 1) := by decide +kernel
theorem dX11_step_42 : decode cX11_step 42 = .ok (.getfield 21, 3) := by decide +kernel
theorem dX11_step_45 : decode cX11_step 45 = .ok (.invokevirtual 140, 3) := by decide +kernel
theorem dX11_step_48 : decode cX11_step 48 = .ok (.pop, 1) := by decide +kernel
theorem dX11_step_49 : decode cX11_step 49 = .ok (.iinc 2 1, 3) := by decide +kernel
theorem dX11_step_52 : decode cX11_step 52 = .ok (.goto (-29), 3) := by decide +kernel
theorem dX11_step_55 : decode cX11_step 55 = .ok (.aload_n 0, 1) := by decide +kernel
theorem dX11_step_56 : decode cX11_step 56 = .ok (.getfield 21, 3) := by decide +kernel
theorem dX11_step_59 : decode cX11_step 59 = .ok (.getfield 131, 3) := by decide +kernel
theorem dX11_step_62 : decode cX11_step 62 = .ok (.getfield 135, 3) := by decide +kernel
theorem dX11_step_65 : decode cX11_step 65 = .ok (.ireturn, 1) := by decide +kernel
theorem dX11_forget_0 : decode cX11_forget 0 = .ok (.aload_n 0, 1) := by decide +kernel
theorem dX11_forget_1 : decode cX11_forget 1 = .ok (.iload_n 1, 1) := by decide +kernel
theorem dX11_forget_2 : decode cX11_forget 2 = .ok (.invokevirtual 60, 3) := by decide +kernel
theorem dX11_forget_5 : decode cX11_forget 5 = .ok (.invokevirtual 144, 3) := by decide +kernel
theorem dX11_forget_8 : decode cX11_forget 8 = .ok (.ireturn, 1) := by decide +kernel
theorem dX11_giveUp_0 : decode cX11_giveUp 0 = .ok (.aload_n 0, 1) := by decide +kernel
theorem dX11_giveUp_1 : decode cX11_giveUp 1 = .ok (.getfield 21, 3) := by decide +kernel
theorem dX11_giveUp_4 : decode cX11_giveUp 4 = .ok (.aload_n 0, 1) := by decide +kernel
theorem dX11_giveUp_5 : decode cX11_giveUp 5 = .ok (.iload_n 1, 1) := by decide +kernel
theorem dX11_giveUp_6 : decode cX11_giveUp 6 = .ok (.invokevirtual 60, 3) := by decide +kernel
theorem dX11_giveUp_9 : decode cX11_giveUp 9 = .ok (.invokevirtual 147, 3) := by decide +kernel
theorem dX11_giveUp_12 : decode cX11_giveUp 12 = .ok (.ireturn, 1) := by decide +kernel
theorem dX11_machines_0 : decode cX11_machines 0 = .ok (.aload_n 0, 1) := by decide +kernel
theorem dX11_machines_1 : decode cX11_machines 1 = .ok (.getfield 10, 3) := by decide +kernel
theorem dX11_machines_4 : decode cX11_machines 4 = .ok (.getfield 151, 3) := by decide +kernel
theorem dX11_machines_7 : decode cX11_machines 7 = .ok (.ireturn, 1) := by decide +kernel
theorem dX11_packets_0 : decode cX11_packets 0 = .ok (.aload_n 0, 1) := by decide +kernel
