theorem dX3_layWays_73 : decode cX3_layWays 73 = .ok (.ifnonnull 7, 3) := by decide +kernel
theorem dX3_layWays_76 : decode cX3_layWays 76 = .ok (.iconst (-1), 1) := by decide +kernel
theorem dX3_layWays_77 : decode cX3_layWays 77 = .ok (.goto 4, 3) := by decide +kernel
theorem dX3_layWays_80 : decode cX3_layWays 80 = .ok (.iload_n 1, 1) := by decide +kernel
theorem dX3_layWays_81 : decode cX3_layWays 81 = .ok (.iload 4, 2) := by decide +kernel
theorem dX3_layWays_83 : decode cX3_layWays 83 = .ok (.invokevirtual 85, 3) := by decide +kernel
theorem dX3_layWays_86 : decode cX3_layWays 86 = .ok (.iinc 1 1, 3) := by decide +kernel
theorem dX3_layWays_89 : decode cX3_layWays 89 = .ok (.goto (-87), 3) := by decide +kernel
theorem dX3_layWays_92 : decode cX3_layWays 92 = .ok (.return_, 1) := by decide +kernel
theorem dX3_layByRoute_0 : decode cX3_layByRoute 0 = .ok (.aload_n 0, 1) := by decide +kernel
theorem dX3_layByRoute_1 : decode cX3_layByRoute 1 = .ok (.getfield 24, 3) := by decide +kernel
theorem dX3_layByRoute_4 : decode cX3_layByRoute 4 = .ok (.iload_n 2, 1) := by decide +kernel
theorem dX3_layByRoute_5 : decode cX3_layByRoute 5 = .ok (.iaload, 1) := by decide +kernel
theorem dX3_layByRoute_6 : decode cX3_layByRoute 6 = .ok (.istore_n 3, 1) := by decide +kernel
theorem dX3_layByRoute_7 : decode cX3_layByRoute 7 = .ok (.iload_n 3, 1) := by decide +kernel
theorem dX3_layByRoute_8 : decode cX3_layByRoute 8 = .ok (.ifCond .ge 20, 3) := by decide +kernel
theorem dX3_layByRoute_11 : decode cX3_layByRoute 11 = .ok (.aload_n 0, 1) := by decide +kernel
theorem dX3_layByRoute_12 : decode cX3_layByRoute 12 = .ok (.iload_n 1, 1) := by decide +kernel
theorem dX3_layByRoute_13 : decode cX3_layByRoute 13 = .ok (.bipush (-2), 2) := by decide +kernel
theorem dX3_layByRoute_15 : decode cX3_layByRoute 15 = .ok (.iconst (-1), 1) := by decide +kernel
theorem dX3_layByRoute_16 : decode cX3_layByRoute 16 = .ok (.iload_n 3, 1) := by decide +kernel
theorem dX3_layByRoute_17 : decode cX3_layByRoute 17 = .ok (.isub, 1) := by decide +kernel
theorem dX3_layByRoute_18 : decode cX3_layByRoute 18 = .ok (.aload_n 0, 1) := by decide +kernel
theorem dX3_layByRoute_19 : decode cX3_layByRoute 19 = .ok (.getfield 21, 3) := by decide +kernel
theorem dX3_layByRoute_22 : decode cX3_layByRoute 22 = .ok (.iload_n 2, 1) := by decide +kernel
theorem dX3_layByRoute_23 : decode cX3_layByRoute 23 = .ok (.iaload, 1) := by decide +kernel
theorem dX3_layByRoute_24 : decode cX3_layByRoute 24 = .ok (.invokevirtual 85, 3) := by decide +kernel
theorem dX3_layByRoute_27 : decode cX3_layByRoute 27 = .ok (.return_, 1) := by decide +kernel
theorem dX3_layByRoute_28 : decode cX3_layByRoute 28 = .ok (.aload_n 0, 1) := by decide +kernel
theorem dX3_layByRoute_29 : decode cX3_layByRoute 29 = .ok (.iload_n 3, 1) := by decide +kernel
theorem dX3_layByRoute_30 : decode cX3_layByRoute 30 = .ok (.invokevirtual 67, 3) := by decide +kernel
theorem dX3_layByRoute_33 : decode cX3_layByRoute 33 = .ok (.istore 4, 2) := by decide +kernel
theorem dX3_layByRoute_35 : decode cX3_layByRoute 35 = .ok (.iload 4, 2) := by decide +kernel
theorem dX3_layByRoute_37 : decode cX3_layByRoute 37 = .ok (.ifCond .ge 14, 3) := by decide +kernel
theorem dX3_layByRoute_40 : decode cX3_layByRoute 40 = .ok (.aload_n 0, 1) := by decide +kernel
theorem dX3_layByRoute_41 : decode cX3_layByRoute 41 = .ok (.iload_n 1, 1) := by decide +kernel
theorem dX3_layByRoute_42 : decode cX3_layByRoute 42 = .ok (.iconst (-1), 1) := by decide +kernel
theorem dX3_layByRoute_43 : decode cX3_layByRoute 43 = .ok (.iconst (-1), 1) := by decide +kernel
theorem dX3_layByRoute_44 : decode cX3_layByRoute 44 = .ok (.iconst (-1), 1) := by decide +kernel
theorem dX3_layByRoute_45 : decode cX3_layByRoute 45 = .ok (.invokevirtual 85, 3) := by decide +kernel
theorem dX3_layByRoute_48 : decode cX3_layByRoute 48 = .ok (.goto 17, 3) := by decide +kernel
theorem dX3_layByRoute_51 : decode cX3_layByRoute 51 = .ok (.aload_n 0, 1) := by decide +kernel
theorem dX3_layByRoute_52 : decode cX3_layByRoute 52 = .ok (.iload_n 1, 1) := by decide +kernel
theorem dX3_layByRoute_53 : decode cX3_layByRoute 53 = .ok (.iload 4, 2) := by decide +kernel
theorem dX3_layByRoute_55 : decode cX3_layByRoute 55 = .ok (.iload_n 3, 1) := by decide +kernel
theorem dX3_layByRoute_56 : decode cX3_layByRoute 56 = .ok (.aload_n 0, 1) := by decide +kernel
theorem dX3_layByRoute_57 : decode cX3_layByRoute 57 = .ok (.getfield 21, 3) := by decide +kernel
theorem dX3_layByRoute_60 : decode cX3_layByRoute 60 = .ok (.iload_n 2, 1) := by decide +kernel
theorem dX3_layByRoute_61 : decode cX3_layByRoute 61 = .ok (.iaload, 1) := by decide +kernel
theorem dX3_layByRoute_62 : decode cX3_layByRoute 62 = .ok (.invokevirtual 85, 3) := by decide +kernel
theorem dX3_layByRoute_65 : decode cX3_layByRoute 65 = .ok (.return_, 1) := by decide +kernel
theorem dX3_layWay_0 : decode cX3_layWay 0 = .ok (.aload_n 0, 1) := by decide +kernel
theorem dX3_layWay_1 : decode cX3_layWay 1 = .ok (.getfield 30, 3) := by decide +kernel
theorem dX3_layWay_4 : decode cX3_layWay 4 = .ok (.iload_n 1, 1) := by decide +kernel
theorem dX3_layWay_5 : decode cX3_layWay 5 = .ok (.iload_n 2, 1) := by decide +kernel
theorem dX3_layWay_6 : decode cX3_layWay 6 = .ok (.iastore, 1) := by decide +kernel
theorem dX3_layWay_7 : decode cX3_layWay 7 = .ok (.aload_n 0, 1) := by decide +kernel
theorem dX3_layWay_8 : decode cX3_layWay 8 = .ok (.getfield 33, 3) := by decide +kernel
theorem dX3_layWay_11 : decode cX3_layWay 11 = .ok (.iload_n 1, 1) := by decide +kernel
theorem dX3_layWay_12 : decode cX3_layWay 12 = .ok (.iload_n 3, 1) := by decide +kernel
theorem dX3_layWay_13 : decode cX3_layWay 13 = .ok (.iastore, 1) := by decide +kernel
theorem dX3_layWay_14 : decode cX3_layWay 14 = .ok (.aload_n 0, 1) := by decide +kernel
theorem dX3_layWay_15 : decode cX3_layWay 15 = .ok (.getfield 36, 3) := by decide +kernel
theorem dX3_layWay_18 : decode cX3_layWay 18 = .ok (.iload_n 1, 1) := by decide +kernel
theorem dX3_layWay_19 : decode cX3_layWay 19 = .ok (.iload 4, 2) := by decide +kernel
theorem dX3_layWay_21 : decode cX3_layWay 21 = .ok (.iastore, 1) := by decide +kernel
theorem dX3_layWay_22 : decode cX3_layWay 22 = .ok (.return_, 1) := by decide +kernel
theorem dX3_portWithNetOf_0 : decode cX3_portWithNetOf 0 = .ok (.iconst (-1), 1) := by decide +kernel
theorem dX3_portWithNetOf_1 : decode cX3_portWithNetOf 1 = .ok (.istore_n 2, 1) := by decide +kernel
theorem dX3_portWithNetOf_2 : decode cX3_portWithNetOf 2 = .ok (.iconst (-1), 1) := by decide +kernel
theorem dX3_portWithNetOf_3 : decode cX3_portWithNetOf 3 = .ok (.istore_n 3, 1) := by decide +kernel
theorem dX3_portWithNetOf_4 : decode cX3_portWithNetOf 4 = .ok (.iconst 0, 1) := by decide +kernel
theorem dX3_portWithNetOf_5 : decode cX3_portWithNetOf 5 = .ok (.istore 4, 2) := by decide +kernel
theorem dX3_portWithNetOf_7 : decode cX3_portWithNetOf 7 = .ok (.iload 4, 2) := by decide +kernel
theorem dX3_portWithNetOf_9 : decode cX3_portWithNetOf 9 = .ok (.iconst 4, 1) := by decide +kernel
theorem dX3_portWithNetOf_10 : decode cX3_portWithNetOf 10 = .ok (.if_icmp .ge 58, 3) := by decide +kernel
theorem dX3_portWithNetOf_13 : decode cX3_portWithNetOf 13 = .ok (.aload_n 0, 1) := by decide +kernel
theorem dX3_portWithNetOf_14 : decode cX3_portWithNetOf 14 = .ok (.getfield 11, 3) := by decide +kernel
theorem dX3_portWithNetOf_17 : decode cX3_portWithNetOf 17 = .ok (.iload 4, 2) := by decide +kernel
theorem dX3_portWithNetOf_19 : decode cX3_portWithNetOf 19 = .ok (.aaload, 1) := by decide +kernel
theorem dX3_portWithNetOf_20 : decode cX3_portWithNetOf 20 = .ok (.astore 5, 2) := by decide +kernel
theorem dX3_portWithNetOf_22 : decode cX3_portWithNetOf 22 = .ok (.aload 5, 2) := by decide +kernel
theorem dX3_portWithNetOf_24 : decode cX3_portWithNetOf 24 = .ok (.ifnull 38, 3) := by decide +kernel
theorem dX3_portWithNetOf_27 : decode cX3_portWithNetOf 27 = .ok (.aload 5, 2) := by decide +kernel
theorem dX3_portWithNetOf_29 : decode cX3_portWithNetOf 29 = .ok (.getfield 75, 3) := by decide +kernel
theorem dX3_portWithNetOf_32 : decode cX3_portWithNetOf 32 = .ok (.iload_n 3, 1) := by decide +kernel
theorem dX3_portWithNetOf_33 : decode cX3_portWithNetOf 33 = .ok (.if_icmp .le 29, 3) := by decide +kernel
theorem dX3_portWithNetOf_36 : decode cX3_portWithNetOf 36 = .ok (.aload 5, 2) := by decide +kernel
theorem dX3_portWithNetOf_38 : decode cX3_portWithNetOf 38 = .ok (.getfield 64, 3) := by decide +kernel
theorem dX3_portWithNetOf_41 : decode cX3_portWithNetOf 41 = .ok (.aload 5, 2) := by decide +kernel
theorem dX3_portWithNetOf_43 : decode cX3_portWithNetOf 43 = .ok (.getfield 75, 3) := by decide +kernel
theorem dX3_portWithNetOf_46 : decode cX3_portWithNetOf 46 = .ok (.iload_n 1, 1) := by decide +kernel
theorem dX3_portWithNetOf_47 : decode cX3_portWithNetOf 47 = .ok (.invokestatic 88, 3) := by decide +kernel
theorem dX3_portWithNetOf_50 : decode cX3_portWithNetOf 50 = .ok (.ifCond .eq 12, 3) := by decide +kernel
theorem dX3_portWithNetOf_53 : decode cX3_portWithNetOf 53 = .ok (.iload 4, 2) := by decide +kernel
theorem dX3_portWithNetOf_55 : decode cX3_portWithNetOf 55 = .ok (.istore_n 2, 1) := by decide +kernel
theorem dX3_portWithNetOf_56 : decode cX3_portWithNetOf 56 = .ok (.aload 5, 2) := by decide +kernel
theorem dX3_portWithNetOf_58 : decode cX3_portWithNetOf 58 = .ok (.getfield 75, 3) := by decide +kernel
theorem dX3_portWithNetOf_61 : decode cX3_portWithNetOf 61 = .ok (.istore_n 3, 1) := by decide +kernel
theorem dX3_portWithNetOf_62 : decode cX3_portWithNetOf 62 = .ok (.iinc 4 1, 3) := by decide +kernel
theorem dX3_portWithNetOf_65 : decode cX3_portWithNetOf 65 = .ok (.goto (-58), 3) := by decide +kernel
theorem dX3_portWithNetOf_68 : decode cX3_portWithNetOf 68 = .ok (.iload_n 2, 1) := by decide +kernel
theorem dX3_portWithNetOf_69 : decode cX3_portWithNetOf 69 = .ok (.ireturn, 1) := by decide +kernel
theorem dX3_routeFor_0 : decode cX3_routeFor 0 = .ok (.iconst (-1), 1) := by decide +kernel
theorem dX3_routeFor_1 : decode cX3_routeFor 1 = .ok (.istore_n 2, 1) := by decide +kernel
theorem dX3_routeFor_2 : decode cX3_routeFor 2 = .ok (.iconst (-1), 1) := by decide +kernel
theorem dX3_routeFor_3 : decode cX3_routeFor 3 = .ok (.istore_n 3, 1) := by decide +kernel
theorem dX3_routeFor_4 : decode cX3_routeFor 4 = .ok (.iconst 0, 1) := by decide +kernel
theorem dX3_routeFor_5 : decode cX3_routeFor 5 = .ok (.istore 4, 2) := by decide +kernel
theorem dX3_routeFor_7 : decode cX3_routeFor 7 = .ok (.iload 4, 2) := by decide +kernel
theorem dX3_routeFor_9 : decode cX3_routeFor 9 = .ok (.aload_n 0, 1) := by decide +kernel
theorem dX3_routeFor_10 : decode cX3_routeFor 10 = .ok (.getfield 61, 3) := by decide +kernel
theorem dX3_routeFor_13 : decode cX3_routeFor 13 = .ok (.if_icmp .ge 52, 3) := by decide +kernel
theorem dX3_routeFor_16 : decode cX3_routeFor 16 = .ok (.aload_n 0, 1) := by decide +kernel
theorem dX3_routeFor_17 : decode cX3_routeFor 17 = .ok (.getfield 21, 3) := by decide +kernel
theorem dX3_routeFor_20 : decode cX3_routeFor 20 = .ok (.iload 4, 2) := by decide +kernel
theorem dX3_routeFor_22 : decode cX3_routeFor 22 = .ok (.iaload, 1) := by decide +kernel
theorem dX3_routeFor_23 : decode cX3_routeFor 23 = .ok (.iload_n 3, 1) := by decide +kernel
theorem dX3_routeFor_24 : decode cX3_routeFor 24 = .ok (.if_icmp .le 35, 3) := by decide +kernel
theorem dX3_routeFor_27 : decode cX3_routeFor 27 = .ok (.aload_n 0, 1) := by decide +kernel
theorem dX3_routeFor_28 : decode cX3_routeFor 28 = .ok (.getfield 17, 3) := by decide +kernel
theorem dX3_routeFor_31 : decode cX3_routeFor 31 = .ok (.iload 4, 2) := by decide +kernel
theorem dX3_routeFor_33 : decode cX3_routeFor 33 = .ok (.iaload, 1) := by decide +kernel
theorem dX3_routeFor_34 : decode cX3_routeFor 34 = .ok (.aload_n 0, 1) := by decide +kernel
theorem dX3_routeFor_35 : decode cX3_routeFor 35 = .ok (.getfield 21, 3) := by decide +kernel
theorem dX3_routeFor_38 : decode cX3_routeFor 38 = .ok (.iload 4, 2) := by decide +kernel
theorem dX3_routeFor_40 : decode cX3_routeFor 40 = .ok (.iaload, 1) := by decide +kernel
theorem dX3_routeFor_41 : decode cX3_routeFor 41 = .ok (.iload_n 1, 1) := by decide +kernel
theorem dX3_routeFor_42 : decode cX3_routeFor 42 = .ok (.invokestatic 88, 3) := by decide +kernel
theorem dX3_routeFor_45 : decode cX3_routeFor 45 = .ok (.ifCond .eq 14, 3) := by decide +kernel
theorem dX3_routeFor_48 : decode cX3_routeFor 48 = .ok (.iload 4, 2) := by decide +kernel
theorem dX3_routeFor_50 : decode cX3_routeFor 50 = .ok (.istore_n 2, 1) := by decide +kernel
theorem dX3_routeFor_51 : decode cX3_routeFor 51 = .ok (.aload_n 0, 1) := by decide +kernel
theorem dX3_routeFor_52 : decode cX3_routeFor 52 = .ok (.getfield 21, 3) := by decide +kernel
theorem dX3_routeFor_55 : decode cX3_routeFor 55 = .ok (.iload 4, 2) := by decide +kernel
theorem dX3_routeFor_57 : decode cX3_routeFor 57 = .ok (.iaload, 1) := by decide +kernel
theorem dX3_routeFor_58 : decode cX3_routeFor 58 = .ok (.istore_n 3, 1) := by decide +kernel
theorem dX3_routeFor_59 : decode cX3_routeFor 59 = .ok (.iinc 4 1, 3) := by decide +kernel
theorem dX3_routeFor_62 : decode cX3_routeFor 62 = .ok (.goto (-55), 3) := by decide +kernel
theorem dX3_routeFor_65 : decode cX3_routeFor 65 = .ok (.iload_n 2, 1) := by decide +kernel
theorem dX3_routeFor_66 : decode cX3_routeFor 66 = .ok (.ireturn, 1) := by decide +kernel
theorem dX3_netHas_0 : decode cX3_netHas 0 = .ok (.iload_n 0, 1) := by decide +kernel
theorem dX3_netHas_1 : decode cX3_netHas 1 = .ok (.iload_n 2, 1) := by decide +kernel
theorem dX3_netHas_2 : decode cX3_netHas 2 = .ok (.ixor, 1) := by decide +kernel
theorem dX3_netHas_3 : decode cX3_netHas 3 = .ok (.bipush 8, 2) := by decide +kernel
theorem dX3_netHas_5 : decode cX3_netHas 5 = .ok (.iload_n 1, 1) := by decide +kernel
theorem dX3_netHas_6 : decode cX3_netHas 6 = .ok (.isub, 1) := by decide +kernel
theorem dX3_netHas_7 : decode cX3_netHas 7 = .ok (.ishr, 1) := by decide +kernel
theorem dX3_netHas_8 : decode cX3_netHas 8 = .ok (.ifCond .ne 7, 3) := by decide +kernel
theorem dX3_netHas_11 : decode cX3_netHas 11 = .ok (.iconst 1, 1) := by decide +kernel
theorem dX3_netHas_12 : decode cX3_netHas 12 = .ok (.goto 4, 3) := by decide +kernel
theorem dX3_netHas_15 : decode cX3_netHas 15 = .ok (.iconst 0, 1) := by decide +kernel
theorem dX3_netHas_16 : decode cX3_netHas 16 = .ok (.ireturn, 1) := by decide +kernel
theorem dX4_init_0 : decode cX4_init 0 = .ok (.aload_n 0, 1) := by decide +kernel
theorem dX4_init_1 : decode cX4_init 1 = .ok (.invokespecial 3, 3) := by decide +kernel
theorem dX4_init_4 : decode cX4_init 4 = .ok (.return_, 1) := by decide +kernel
theorem dX4_isPiece_0 : decode cX4_isPiece 0 = .ok (.aload_n 0, 1) := by decide +kernel
theorem dX4_isPiece_1 : decode cX4_isPiece 1 = .ok (.getfield 9, 3) := by decide +kernel
theorem dX4_isPiece_4 : decode cX4_isPiece 4 = .ok (.ifCond .ne 10, 3) := by decide +kernel
theorem dX4_isPiece_7 : decode cX4_isPiece 7 = .ok (.aload_n 0, 1) := by decide +kernel
theorem dX4_isPiece_8 : decode cX4_isPiece 8 = .ok (.getfield 15, 3) := by decide +kernel
theorem dX4_isPiece_11 : decode cX4_isPiece 11 = .ok (.ifCond .eq 7, 3) := by decide +kernel
theorem dX4_isPiece_14 : decode cX4_isPiece 14 = .ok (.iconst 1, 1) := by decide +kernel
theorem dX4_isPiece_15 : decode cX4_isPiece 15 = .ok (.goto 4, 3) := by decide +kernel
theorem dX4_isPiece_18 : decode cX4_isPiece 18 = .ok (.iconst 0, 1) := by decide +kernel
theorem dX4_isPiece_19 : decode cX4_isPiece 19 = .ok (.ireturn, 1) := by decide +kernel
theorem dX4_isComplaint_0 : decode cX4_isComplaint 0 = .ok (.aload_n 0, 1) := by decide +kernel
theorem dX4_isComplaint_1 : decode cX4_isComplaint 1 = .ok (.getfield 19, 3) := by decide +kernel
theorem dX4_isComplaint_4 : decode cX4_isComplaint 4 = .ok (.iconst 3, 1) := by decide +kernel
theorem dX4_isComplaint_5 : decode cX4_isComplaint 5 = .ok (.if_icmp .eq 19, 3) := by decide +kernel
theorem dX4_isComplaint_8 : decode cX4_isComplaint 8 = .ok (.aload_n 0, 1) := by decide +kernel
theorem dX4_isComplaint_9 : decode cX4_isComplaint 9 = .ok (.getfield 19, 3) := by decide +kernel
theorem dX4_isComplaint_12 : decode cX4_isComplaint 12 = .ok (.iconst 4, 1) := by decide +kernel
theorem dX4_isComplaint_13 : decode cX4_isComplaint 13 = .ok (.if_icmp .eq 11, 3) := by decide +kernel
theorem dX4_isComplaint_16 : decode cX4_isComplaint 16 = .ok (.aload_n 0, 1) := by decide +kernel
theorem dX4_isComplaint_17 : decode cX4_isComplaint 17 = .ok (.getfield 19, 3) := by decide +kernel
theorem dX4_isComplaint_20 : decode cX4_isComplaint 20 = .ok (.iconst 5, 1) := by decide +kernel
theorem dX4_isComplaint_21 : decode cX4_isComplaint 21 = .ok (.if_icmp .ne 7, 3) := by decide +kernel
theorem dX4_isComplaint_24 : decode cX4_isComplaint 24 = .ok (.iconst 1, 1) := by decide +kernel
theorem dX4_isComplaint_25 : decode cX4_isComplaint 25 = .ok (.goto 4, 3) := by decide +kernel
theorem dX4_isComplaint_28 : decode cX4_isComplaint 28 = .ok (.iconst 0, 1) := by decide +kernel
theorem dX4_isComplaint_29 : decode cX4_isComplaint 29 = .ok (.ireturn, 1) := by decide +kernel
theorem dX4_cutFrom_0 : decode cX4_cutFrom 0 = .ok (.aload_n 1, 1) := by decide +kernel
theorem dX4_cutFrom_1 : decode cX4_cutFrom 1 = .ok (.getfield 22, 3) := by decide +kernel
theorem dX4_cutFrom_4 : decode cX4_cutFrom 4 = .ok (.iload_n 2, 1) := by decide +kernel
theorem dX4_cutFrom_5 : decode cX4_cutFrom 5 = .ok (.isub, 1) := by decide +kernel
theorem dX4_cutFrom_6 : decode cX4_cutFrom 6 = .ok (.istore 4, 2) := by decide +kernel
theorem dX4_cutFrom_8 : decode cX4_cutFrom 8 = .ok (.aload_n 0, 1) := by decide +kernel
theorem dX4_cutFrom_9 : decode cX4_cutFrom 9 = .ok (.aload_n 1, 1) := by decide +kernel
theorem dX4_cutFrom_10 : decode cX4_cutFrom 10 = .ok (.getfield 19, 3) := by decide +kernel
theorem dX4_cutFrom_13 : decode cX4_cutFrom 13 = .ok (.putfield 19, 3) := by decide +kernel
theorem dX4_cutFrom_16 : decode cX4_cutFrom 16 = .ok (.aload_n 0, 1) := by decide +kernel
theorem dX4_cutFrom_17 : decode cX4_cutFrom 17 = .ok (.aload_n 1, 1) := by decide +kernel
theorem dX4_cutFrom_18 : decode cX4_cutFrom 18 = .ok (.getfield 25, 3) := by decide +kernel
theorem dX4_cutFrom_21 : decode cX4_cutFrom 21 = .ok (.putfield 25, 3) := by decide +kernel
theorem dX4_cutFrom_24 : decode cX4_cutFrom 24 = .ok (.aload_n 0, 1) := by decide +kernel
theorem dX4_cutFrom_25 : decode cX4_cutFrom 25 = .ok (.aload_n 1, 1) := by decide +kernel
theorem dX4_cutFrom_26 : decode cX4_cutFrom 26 = .ok (.getfield 28, 3) := by decide +kernel
theorem dX4_cutFrom_29 : decode cX4_cutFrom 29 = .ok (.putfield 28, 3) := by decide +kernel
theorem dX4_cutFrom_32 : decode cX4_cutFrom 32 = .ok (.aload_n 0, 1) := by decide +kernel
theorem dX4_cutFrom_33 : decode cX4_cutFrom 33 = .ok (.iload_n 3, 1) := by decide +kernel
theorem dX4_cutFrom_34 : decode cX4_cutFrom 34 = .ok (.iload 4, 2) := by decide +kernel
theorem dX4_cutFrom_36 : decode cX4_cutFrom 36 = .ok (.invokestatic 31, 3) := by decide +kernel
theorem dX4_cutFrom_39 : decode cX4_cutFrom 39 = .ok (.putfield 22, 3) := by decide +kernel
theorem dX4_cutFrom_42 : decode cX4_cutFrom 42 = .ok (.aload_n 0, 1) := by decide +kernel
theorem dX4_cutFrom_43 : decode cX4_cutFrom 43 = .ok (.aload_n 1, 1) := by decide +kernel
theorem dX4_cutFrom_44 : decode cX4_cutFrom 44 = .ok (.getfield 37, 3) := by decide +kernel
theorem dX4_cutFrom_47 : decode cX4_cutFrom 47 = .ok (.putfield 37, 3) := by decide +kernel
theorem dX4_cutFrom_50 : decode cX4_cutFrom 50 = .ok (.aload_n 0, 1) := by decide +kernel
theorem dX4_cutFrom_51 : decode cX4_cutFrom 51 = .ok (.aload_n 1, 1) := by decide +kernel
theorem dX4_cutFrom_52 : decode cX4_cutFrom 52 = .ok (.getfield 40, 3) := by decide +kernel
theorem dX4_cutFrom_55 : decode cX4_cutFrom 55 = .ok (.putfield 40, 3) := by decide +kernel
theorem dX4_cutFrom_58 : decode cX4_cutFrom 58 = .ok (.aload_n 0, 1) := by decide +kernel
theorem dX4_cutFrom_59 : decode cX4_cutFrom 59 = .ok (.aload_n 1, 1) := by decide +kernel
theorem dX4_cutFrom_60 : decode cX4_cutFrom 60 = .ok (.getfield 43, 3) := by decide +kernel
theorem dX4_cutFrom_63 : decode cX4_cutFrom 63 = .ok (.putfield 43, 3) := by decide +kernel
theorem dX4_cutFrom_66 : decode cX4_cutFrom 66 = .ok (.aload_n 0, 1) := by decide +kernel
theorem dX4_cutFrom_67 : decode cX4_cutFrom 67 = .ok (.aload_n 1, 1) := by decide +kernel
theorem dX4_cutFrom_68 : decode cX4_cutFrom 68 = .ok (.getfield 9, 3) := by decide +kernel
theorem dX4_cutFrom_71 : decode cX4_cutFrom 71 = .ok (.iload_n 2, 1) := by decide +kernel
theorem dX4_cutFrom_72 : decode cX4_cutFrom 72 = .ok (.iadd, 1) := by decide +kernel
theorem dX4_cutFrom_73 : decode cX4_cutFrom 73 = .ok (.putfield 9, 3) := by decide +kernel
theorem dX4_cutFrom_76 : decode cX4_cutFrom 76 = .ok (.aload_n 0, 1) := by decide +kernel
theorem dX4_cutFrom_77 : decode cX4_cutFrom 77 = .ok (.aload_n 1, 1) := by decide +kernel
theorem dX4_cutFrom_78 : decode cX4_cutFrom 78 = .ok (.getfield 46, 3) := by decide +kernel
theorem dX4_cutFrom_81 : decode cX4_cutFrom 81 = .ok (.putfield 46, 3) := by decide +kernel
theorem dX4_cutFrom_84 : decode cX4_cutFrom 84 = .ok (.aload_n 0, 1) := by decide +kernel
theorem dX4_cutFrom_85 : decode cX4_cutFrom 85 = .ok (.aload_n 1, 1) := by decide +kernel
theorem dX4_cutFrom_86 : decode cX4_cutFrom 86 = .ok (.getfield 15, 3) := by decide +kernel
theorem dX4_cutFrom_89 : decode cX4_cutFrom 89 = .ok (.ifCond .ne 9, 3) := by decide +kernel
theorem dX4_cutFrom_92 : decode cX4_cutFrom 92 = .ok (.iload 4, 2) := by decide +kernel
theorem dX4_cutFrom_94 : decode cX4_cutFrom 94 = .ok (.iload_n 3, 1) := by decide +kernel
theorem dX4_cutFrom_95 : decode cX4_cutFrom 95 = .ok (.if_icmp .le 7, 3) := by decide +kernel
theorem dX4_cutFrom_98 : decode cX4_cutFrom 98 = .ok (.iconst 1, 1) := by decide +kernel
theorem dX4_cutFrom_99 : decode cX4_cutFrom 99 = .ok (.goto 4, 3) := by decide +kernel
theorem dX4_cutFrom_102 : decode cX4_cutFrom 102 = .ok (.iconst 0, 1) := by decide +kernel
theorem dX4_cutFrom_103 : decode cX4_cutFrom 103 = .ok (.putfield 15, 3) := by decide +kernel
theorem dX4_cutFrom_106 : decode cX4_cutFrom 106 = .ok (.aload_n 0, 1) := by decide +kernel
theorem dX4_cutFrom_107 : decode cX4_cutFrom 107 = .ok (.aload_n 1, 1) := by decide +kernel
theorem dX4_cutFrom_108 : decode cX4_cutFrom 108 = .ok (.getfield 49, 3) := by decide +kernel
theorem dX4_cutFrom_111 : decode cX4_cutFrom 111 = .ok (.putfield 49, 3) := by decide +kernel
theorem dX4_cutFrom_114 : decode cX4_cutFrom 114 = .ok (.return_, 1) := by decide +kernel
theorem dX5_init_0 : decode cX5_init 0 = .ok (.aload_n 0, 1) := by decide +kernel
theorem dX5_init_1 : decode cX5_init 1 = .ok (.invokespecial 3, 3) := by decide +kernel
theorem dX5_init_4 : decode cX5_init 4 = .ok (.aload_n 0, 1) := by decide +kernel
theorem dX5_init_5 : decode cX5_init 5 = .ok (.bipush 8, 2) := by decide +kernel
theorem dX5_init_7 : decode cX5_init 7 = .ok (.newarray .int, 2) := by decide +kernel
theorem dX5_init_9 : decode cX5_init 9 = .ok (.putfield 9, 3) := by decide +kernel
theorem dX5_init_12 : decode cX5_init 12 = .ok (.aload_n 0, 1) := by decide +kernel
theorem dX5_init_13 : decode cX5_init 13 = .ok (.bipush 8, 2) := by decide +kernel
theorem dX5_init_15 : decode cX5_init 15 = .ok (.anewarray 15, 3) := by decide +kernel
theorem dX5_init_18 : decode cX5_init 18 = .ok (.putfield 17, 3) := by decide +kernel
theorem dX5_init_21 : decode cX5_init 21 = .ok (.aload_n 0, 1) := by decide +kernel
theorem dX5_init_22 : decode cX5_init 22 = .ok (.sipush 256, 3) := by decide +kernel
theorem dX5_init_25 : decode cX5_init 25 = .ok (.anewarray 21, 3) := by decide +kernel
theorem dX5_init_28 : decode cX5_init 28 = .ok (.putfield 23, 3) := by decide +kernel
theorem dX5_init_31 : decode cX5_init 31 = .ok (.iconst 0, 1) := by decide +kernel
theorem dX5_init_32 : decode cX5_init 32 = .ok (.istore_n 1, 1) := by decide +kernel
theorem dX5_init_33 : decode cX5_init 33 = .ok (.iload_n 1, 1) := by decide +kernel
theorem dX5_init_34 : decode cX5_init 34 = .ok (.bipush 8, 2) := by decide +kernel
theorem dX5_init_36 : decode cX5_init 36 = .ok (.if_icmp .ge 23, 3) := by decide +kernel
theorem dX5_init_39 : decode cX5_init 39 = .ok (.aload_n 0, 1) := by decide +kernel
theorem dX5_init_40 : decode cX5_init 40 = .ok (.getfield 17, 3) := by decide +kernel
theorem dX5_init_43 : decode cX5_init 43 = .ok (.iload_n 1, 1) := by decide +kernel
theorem dX5_init_44 : decode cX5_init 44 = .ok (.new 15, 3) := by decide +kernel
theorem dX5_init_47 : decode cX5_init 47 = .ok (.dup, 1) := by decide +kernel
theorem dX5_init_48 : decode cX5_init 48 = .ok (.iload_n 1, 1) := by decide +kernel
theorem dX5_init_49 : decode cX5_init 49 = .ok (.invokespecial 27, 3) := by decide +kernel
theorem dX5_init_52 : decode cX5_init 52 = .ok (.aastore, 1) := by decide +kernel
theorem dX5_init_53 : decode cX5_init 53 = .ok (.iinc 1 1, 3) := by decide +kernel
theorem dX5_init_56 : decode cX5_init 56 = .ok (.goto (-23), 3) := by decide +kernel
theorem dX5_init_59 : decode cX5_init 59 = .ok (.return_, 1) := by decide +kernel
theorem dX5_putCable_0 : decode cX5_putCable 0 = .ok (.aload_n 0, 1) := by decide +kernel
theorem dX5_putCable_1 : decode cX5_putCable 1 = .ok (.getfield 30, 3) := by decide +kernel
theorem dX5_putCable_4 : decode cX5_putCable 4 = .ok (.bipush 8, 2) := by decide +kernel
theorem dX5_putCable_6 : decode cX5_putCable 6 = .ok (.if_icmp .lt 5, 3) := by decide +kernel
theorem dX5_putCable_9 : decode cX5_putCable 9 = .ok (.iconst (-1), 1) := by decide +kernel
theorem dX5_putCable_10 : decode cX5_putCable 10 = .ok (.ireturn, 1) := by decide +kernel
theorem dX5_putCable_11 : decode cX5_putCable 11 = .ok (.aload_n 0, 1) := by decide +kernel
theorem dX5_putCable_12 : decode cX5_putCable 12 = .ok (.getfield 9, 3) := by decide +kernel
theorem dX5_putCable_15 : decode cX5_putCable 15 = .ok (.aload_n 0, 1) := by decide +kernel
theorem dX5_putCable_16 : decode cX5_putCable 16 = .ok (.getfield 30, 3) := by decide +kernel
theorem dX5_putCable_19 : decode cX5_putCable 19 = .ok (.iload_n 1, 1) := by decide +kernel
theorem dX5_putCable_20 : decode cX5_putCable 20 = .ok (.iastore, 1) := by decide +kernel
theorem dX5_putCable_21 : decode cX5_putCable 21 = .ok (.aload_n 0, 1) := by decide +kernel
theorem dX5_putCable_22 : decode cX5_putCable 22 = .ok (.dup, 1) := by decide +kernel
theorem dX5_putCable_23 : decode cX5_putCable 23 = .ok (.getfield 30, 3) := by decide +kernel
theorem dX5_putCable_26 : decode cX5_putCable 26 = .ok (.iconst 1, 1) := by decide +kernel
theorem dX5_putCable_27 : decode cX5_putCable 27 = .ok (.iadd, 1) := by decide +kernel
theorem dX5_putCable_28 : decode cX5_putCable 28 = .ok (.putfield 30, 3) := by decide +kernel
theorem dX5_putCable_31 : decode cX5_putCable 31 = .ok (.aload_n 0, 1) := by decide +kernel
theorem dX5_putCable_32 : decode cX5_putCable 32 = .ok (.getfield 30, 3) := by decide +kernel
theorem dX5_putCable_35 : decode cX5_putCable 35 = .ok (.iconst 1, 1) := by decide +kernel
theorem dX5_putCable_36 : decode cX5_putCable 36 = .ok (.isub, 1) := by decide +kernel
theorem dX5_putCable_37 : decode cX5_putCable 37 = .ok (.ireturn, 1) := by decide +kernel
theorem dX5_widthOf_0 : decode cX5_widthOf 0 = .ok (.iload_n 1, 1) := by decide +kernel
theorem dX5_widthOf_1 : decode cX5_widthOf 1 = .ok (.ifCond .lt 20, 3) := by decide +kernel
theorem dX5_widthOf_4 : decode cX5_widthOf 4 = .ok (.iload_n 1, 1) := by decide +kernel
theorem dX5_widthOf_5 : decode cX5_widthOf 5 = .ok (.aload_n 0, 1) := by decide +kernel
theorem dX5_widthOf_6 : decode cX5_widthOf 6 = .ok (.getfield 30, 3) := by decide +kernel
theorem dX5_widthOf_9 : decode cX5_widthOf 9 = .ok (.if_icmp .ge 12, 3) := by decide +kernel
theorem dX5_widthOf_12 : decode cX5_widthOf 12 = .ok (.aload_n 0, 1) := by decide +kernel
theorem dX5_widthOf_13 : decode cX5_widthOf 13 = .ok (.getfield 9, 3) := by decide +kernel
theorem dX5_widthOf_16 : decode cX5_widthOf 16 = .ok (.iload_n 1, 1) := by decide +kernel
theorem dX5_widthOf_17 : decode cX5_widthOf 17 = .ok (.iaload, 1) := by decide +kernel
theorem dX5_widthOf_18 : decode cX5_widthOf 18 = .ok (.goto 6, 3) := by decide +kernel
theorem dX5_widthOf_21 : decode cX5_widthOf 21 = .ok (.sipush 200, 3) := by decide +kernel
theorem dX5_widthOf_24 : decode cX5_widthOf 24 = .ok (.ireturn, 1) := by decide +kernel
theorem dX5_changeWidth_0 : decode cX5_changeWidth 0 = .ok (.aload_n 0, 1) := by decide +kernel
theorem dX5_changeWidth_1 : decode cX5_changeWidth 1 = .ok (.iload_n 1, 1) := by decide +kernel
theorem dX5_changeWidth_2 : decode cX5_changeWidth 2 = .ok (.invokevirtual 34, 3) := by decide +kernel
theorem dX5_changeWidth_5 : decode cX5_changeWidth 5 = .ok (.istore_n 3, 1) := by decide +kernel
theorem dX5_changeWidth_6 : decode cX5_changeWidth 6 = .ok (.iload_n 1, 1) := by decide +kernel
theorem dX5_changeWidth_7 : decode cX5_changeWidth 7 = .ok (.ifCond .lt 18, 3) := by decide +kernel
theorem dX5_changeWidth_10 : decode cX5_changeWidth 10 = .ok (.iload_n 1, 1) := by decide +kernel
theorem dX5_changeWidth_11 : decode cX5_changeWidth 11 = .ok (.aload_n 0, 1) := by decide +kernel
theorem dX5_changeWidth_12 : decode cX5_changeWidth 12 = .ok (.getfield 30, 3) := by decide +kernel
theorem dX5_changeWidth_15 : decode cX5_changeWidth 15 = .ok (.if_icmp .ge 10, 3) := by decide +kernel
theorem dX5_changeWidth_18 : decode cX5_changeWidth 18 = .ok (.aload_n 0, 1) := by decide +kernel
theorem dX5_changeWidth_19 : decode cX5_changeWidth 19 = .ok (.getfield 9, 3) := by decide +kernel
theorem dX5_changeWidth_22 : decode cX5_changeWidth 22 = .ok (.iload_n 1, 1) := by decide +kernel
theorem dX5_changeWidth_23 : decode cX5_changeWidth 23 = .ok (.iload_n 2, 1) := by decide +kernel
theorem dX5_changeWidth_24 : decode cX5_changeWidth 24 = .ok (.iastore, 1) := by decide +kernel
theorem dX5_changeWidth_25 : decode cX5_changeWidth 25 = .ok (.iload_n 3, 1) := by decide +kernel
theorem dX5_changeWidth_26 : decode cX5_changeWidth 26 = .ok (.ireturn, 1) := by decide +kernel
theorem dX5_putMachine_0 : decode cX5_putMachine 0 = .ok (.aload_n 0, 1) := by decide +kernel
theorem dX5_putMachine_1 : decode cX5_putMachine 1 = .ok (.getfield 38, 3) := by decide +kernel
theorem dX5_putMachine_4 : decode cX5_putMachine 4 = .ok (.bipush 8, 2) := by decide +kernel
theorem dX5_putMachine_6 : decode cX5_putMachine 6 = .ok (.if_icmp .lt 5, 3) := by decide +kernel
theorem dX5_putMachine_9 : decode cX5_putMachine 9 = .ok (.iconst (-1), 1) := by decide +kernel
theorem dX5_putMachine_10 : decode cX5_putMachine 10 = .ok (.ireturn, 1) := by decide +kernel
theorem dX5_putMachine_11 : decode cX5_putMachine 11 = .ok (.aload_n 0, 1) := by decide +kernel
theorem dX5_putMachine_12 : decode cX5_putMachine 12 = .ok (.getfield 17, 3) := by decide +kernel
theorem dX5_putMachine_15 : decode cX5_putMachine 15 = .ok (.aload_n 0, 1) := by decide +kernel
theorem dX5_putMachine_16 : decode cX5_putMachine 16 = .ok (.getfield 38, 3) := by decide +kernel
theorem dX5_putMachine_19 : decode cX5_putMachine 19 = .ok (.aaload, 1) := by decide +kernel
theorem dX5_putMachine_20 : decode cX5_putMachine 20 = .ok (.iload_n 1, 1) := by decide +kernel
theorem dX5_putMachine_21 : decode cX5_putMachine 21 = .ok (.putfield 41, 3) := by decide +kernel
theorem dX5_putMachine_24 : decode cX5_putMachine 24 = .ok (.aload_n 0, 1) := by decide +kernel
theorem dX5_putMachine_25 : decode cX5_putMachine 25 = .ok (.dup, 1) := by decide +kernel
theorem dX5_putMachine_26 : decode cX5_putMachine 26 = .ok (.getfield 38, 3) := by decide +kernel
theorem dX5_putMachine_29 : decode cX5_putMachine 29 = .ok (.iconst 1, 1) := by decide +kernel
theorem dX5_putMachine_30 : decode cX5_putMachine 30 = .ok (.iadd, 1) := by decide +kernel
theorem dX5_putMachine_31 : decode cX5_putMachine 31 = .ok (.putfield 38, 3) := by decide +kernel
theorem dX5_putMachine_34 : decode cX5_putMachine 34 = .ok (.aload_n 0, 1) := by decide +kernel
theorem dX5_putMachine_35 : decode cX5_putMachine 35 = .ok (.getfield 38, 3) := by decide +kernel
theorem dX5_putMachine_38 : decode cX5_putMachine 38 = .ok (.iconst 1, 1) := by decide +kernel
theorem dX5_putMachine_39 : decode cX5_putMachine 39 = .ok (.isub, 1) := by decide +kernel
theorem dX5_putMachine_40 : decode cX5_putMachine 40 = .ok (.ireturn, 1) := by decide +kernel
theorem dX5_putPort_0 : decode cX5_putPort 0 = .ok (.aload_n 0, 1) := by decide +kernel
theorem dX5_putPort_1 : decode cX5_putPort 1 = .ok (.iload_n 3, 1) := by decide +kernel
theorem dX5_putPort_2 : decode cX5_putPort 2 = .ok (.invokevirtual 45, 3) := by decide +kernel
theorem dX5_putPort_5 : decode cX5_putPort 5 = .ok (.ifnull 5, 3) := by decide +kernel
theorem dX5_putPort_8 : decode cX5_putPort 8 = .ok (.aconst_null, 1) := by decide +kernel
theorem dX5_putPort_9 : decode cX5_putPort 9 = .ok (.areturn, 1) := by decide +kernel
theorem dX5_putPort_10 : decode cX5_putPort 10 = .ok (.aload_n 1, 1) := by decide +kernel
theorem dX5_putPort_11 : decode cX5_putPort 11 = .ok (.iload_n 2, 1) := by decide +kernel
theorem dX5_putPort_12 : decode cX5_putPort 12 = .ok (.iload_n 3, 1) := by decide +kernel
theorem dX5_putPort_13 : decode cX5_putPort 13 = .ok (.iload 4, 2) := by decide +kernel
theorem dX5_putPort_15 : decode cX5_putPort 15 = .ok (.invokevirtual 49, 3) := by decide +kernel
theorem dX5_putPort_18 : decode cX5_putPort 18 = .ok (.astore 5, 2) := by decide +kernel
theorem dX5_putPort_20 : decode cX5_putPort 20 = .ok (.aload 5, 2) := by decide +kernel
theorem dX5_putPort_22 : decode cX5_putPort 22 = .ok (.ifnull 22, 3) := by decide +kernel
theorem dX5_putPort_25 : decode cX5_putPort 25 = .ok (.iload_n 3, 1) := by decide +kernel
theorem dX5_putPort_26 : decode cX5_putPort 26 = .ok (.ifCond .lt 18, 3) := by decide +kernel
theorem dX5_putPort_29 : decode cX5_putPort 29 = .ok (.iload_n 3, 1) := by decide +kernel
theorem dX5_putPort_30 : decode cX5_putPort 30 = .ok (.sipush 256, 3) := by decide +kernel
theorem dX5_putPort_33 : decode cX5_putPort 33 = .ok (.if_icmp .ge 11, 3) := by decide +kernel
theorem dX5_putPort_36 : decode cX5_putPort 36 = .ok (.aload_n 0, 1) := by decide +kernel
theorem dX5_putPort_37 : decode cX5_putPort 37 = .ok (.getfield 23, 3) := by decide +kernel
theorem dX5_putPort_40 : decode cX5_putPort 40 = .ok (.iload_n 3, 1) := by decide +kernel
theorem dX5_putPort_41 : decode cX5_putPort 41 = .ok (.aload 5, 2) := by decide +kernel
theorem dX5_putPort_43 : decode cX5_putPort 43 = .ok (.aastore, 1) := by decide +kernel
theorem dX5_putPort_44 : decode cX5_putPort 44 = .ok (.aload 5, 2) := by decide +kernel
theorem dX5_putPort_46 : decode cX5_putPort 46 = .ok (.areturn, 1) := by decide +kernel
theorem dX5_portWithAddress_0 : decode cX5_portWithAddress 0 = .ok (.iload_n 1, 1) := by decide +kernel
theorem dX5_portWithAddress_1 : decode cX5_portWithAddress 1 = .ok (.ifCond .lt 19, 3) := by decide +kernel
theorem dX5_portWithAddress_4 : decode cX5_portWithAddress 4 = .ok (.iload_n 1, 1) := by decide +kernel
theorem dX5_portWithAddress_5 : decode cX5_portWithAddress 5 = .ok (.sipush 256, 3) := by decide +kernel
theorem dX5_portWithAddress_8 : decode cX5_portWithAddress 8 = .ok (.if_icmp .ge 12, 3) := by decide +kernel
theorem dX5_portWithAddress_11 : decode cX5_portWithAddress 11 = .ok (.aload_n 0, 1) := by decide +kernel
theorem dX5_portWithAddress_12 : decode cX5_portWithAddress 12 = .ok (.getfield 23, 3) := by decide +kernel
theorem dX5_portWithAddress_15 : decode cX5_portWithAddress 15 = .ok (.iload_n 1, 1) := by decide +kernel
theorem dX5_portWithAddress_16 : decode cX5_portWithAddress 16 = .ok (.aaload, 1) := by decide +kernel
theorem dX5_portWithAddress_17 : decode cX5_portWithAddress 17 = .ok (.goto 4, 3) := by decide +kernel
theorem dX5_portWithAddress_20 : decode cX5_portWithAddress 20 = .ok (.aconst_null, 1) := by decide +kernel
theorem dX5_portWithAddress_21 : decode cX5_portWithAddress 21 = .ok (.areturn, 1) := by decide +kernel
theorem dX5_portWithMark_0 : decode cX5_portWithMark 0 = .ok (.iload_n 1, 1) := by decide +kernel
theorem dX5_portWithMark_1 : decode cX5_portWithMark 1 = .ok (.ifCond .lt 9, 3) := by decide +kernel
theorem dX5_portWithMark_4 : decode cX5_portWithMark 4 = .ok (.iload_n 1, 1) := by decide +kernel
theorem dX5_portWithMark_5 : decode cX5_portWithMark 5 = .ok (.bipush 32, 2) := by decide +kernel
theorem dX5_portWithMark_7 : decode cX5_portWithMark 7 = .ok (.if_icmp .lt 5, 3) := by decide +kernel
theorem dX5_portWithMark_10 : decode cX5_portWithMark 10 = .ok (.aconst_null, 1) := by decide +kernel
theorem dX5_portWithMark_11 : decode cX5_portWithMark 11 = .ok (.areturn, 1) := by decide +kernel
theorem dX5_portWithMark_12 : decode cX5_portWithMark 12 = .ok (.aload_n 0, 1) := by decide +kernel
theorem dX5_portWithMark_13 : decode cX5_portWithMark 13 = .ok (.getfield 17, 3) := by decide +kernel
theorem dX5_portWithMark_16 : decode cX5_portWithMark 16 = .ok (.iload_n 1, 1) := by decide +kernel
theorem dX5_portWithMark_17 : decode cX5_portWithMark 17 = .ok (.iconst 4, 1) := by decide +kernel
theorem dX5_portWithMark_18 : decode cX5_portWithMark 18 = .ok (.idiv, 1) := by decide +kernel
theorem dX5_portWithMark_19 : decode cX5_portWithMark 19 = .ok (.aaload, 1) := by decide +kernel
theorem dX5_portWithMark_20 : decode cX5_portWithMark 20 = .ok (.iload_n 1, 1) := by decide +kernel
theorem dX5_portWithMark_21 : decode cX5_portWithMark 21 = .ok (.iconst 4, 1) := by decide +kernel
theorem dX5_portWithMark_22 : decode cX5_portWithMark 22 = .ok (.irem, 1) := by decide +kernel
theorem dX5_portWithMark_23 : decode cX5_portWithMark 23 = .ok (.invokevirtual 53, 3) := by decide +kernel
theorem dX5_portWithMark_26 : decode cX5_portWithMark 26 = .ok (.areturn, 1) := by decide +kernel
theorem dX6_init_0 : decode cX6_init 0 = .ok (.aload_n 0, 1) := by decide +kernel
theorem dX6_init_1 : decode cX6_init 1 = .ok (.invokespecial 1, 3) := by decide +kernel
theorem dX6_init_4 : decode cX6_init 4 = .ok (.return_, 1) := by decide +kernel
theorem dX6_take_0 : decode cX6_take 0 = .ok (.aload_n 0, 1) := by decide +kernel
theorem dX6_take_1 : decode cX6_take 1 = .ok (.getfield 7, 3) := by decide +kernel
theorem dX6_take_4 : decode cX6_take 4 = .ok (.ifnonnull 10, 3) := by decide +kernel
theorem dX6_take_7 : decode cX6_take 7 = .ok (.aload_n 0, 1) := by decide +kernel
theorem dX6_take_8 : decode cX6_take 8 = .ok (.getfield 13, 3) := by decide +kernel
theorem dX6_take_11 : decode cX6_take 11 = .ok (.goto 10, 3) := by decide +kernel
theorem dX6_take_14 : decode cX6_take 14 = .ok (.aload_n 0, 1) := by decide +kernel
theorem dX6_take_15 : decode cX6_take 15 = .ok (.getfield 7, 3) := by decide +kernel
theorem dX6_take_18 : decode cX6_take 18 = .ok (.getfield 16, 3) := by decide +kernel
theorem dX6_take_21 : decode cX6_take 21 = .ok (.astore_n 1, 1) := by decide +kernel
theorem dX6_take_22 : decode cX6_take 22 = .ok (.aload_n 1, 1) := by decide +kernel
theorem dX6_take_23 : decode cX6_take 23 = .ok (.ifnonnull 34, 3) := by decide +kernel
theorem dX6_take_26 : decode cX6_take 26 = .ok (.new 17, 3) := by decide +kernel
theorem dX6_take_29 : decode cX6_take 29 = .ok (.dup, 1) := by decide +kernel
theorem dX6_take_30 : decode cX6_take 30 = .ok (.invokespecial 21, 3) := by decide +kernel
theorem dX6_take_33 : decode cX6_take 33 = .ok (.astore_n 1, 1) := by decide +kernel
theorem dX6_take_34 : decode cX6_take 34 = .ok (.aload_n 0, 1) := by decide +kernel
theorem dX6_take_35 : decode cX6_take 35 = .ok (.getfield 7, 3) := by decide +kernel
theorem dX6_take_38 : decode cX6_take 38 = .ok (.ifnonnull 11, 3) := by decide +kernel
theorem dX6_take_41 : decode cX6_take 41 = .ok (.aload_n 0, 1) := by decide +kernel
theorem dX6_take_42 : decode cX6_take 42 = .ok (.aload_n 1, 1) := by decide +kernel
theorem dX6_take_43 : decode cX6_take 43 = .ok (.putfield 13, 3) := by decide +kernel
theorem dX6_take_46 : decode cX6_take 46 = .ok (.goto 11, 3) := by decide +kernel
theorem dX6_take_49 : decode cX6_take 49 = .ok (.aload_n 0, 1) := by decide +kernel
theorem dX6_take_50 : decode cX6_take 50 = .ok (.getfield 7, 3) := by decide +kernel
theorem dX6_take_53 : decode cX6_take 53 = .ok (.aload_n 1, 1) := by decide +kernel
theorem dX6_take_54 : decode cX6_take 54 = .ok (.putfield 16, 3) := by decide +kernel
theorem dX6_take_57 : decode cX6_take 57 = .ok (.aload_n 0, 1) := by decide +kernel
theorem dX6_take_58 : decode cX6_take 58 = .ok (.aload_n 1, 1) := by decide +kernel
theorem dX6_take_59 : decode cX6_take 59 = .ok (.putfield 7, 3) := by decide +kernel
theorem dX6_take_62 : decode cX6_take 62 = .ok (.aload_n 1, 1) := by decide +kernel
theorem dX6_take_63 : decode cX6_take 63 = .ok (.areturn, 1) := by decide +kernel
theorem dX6_takeBackAll_0 : decode cX6_takeBackAll 0 = .ok (.aload_n 0, 1) := by decide +kernel
theorem dX6_takeBackAll_1 : decode cX6_takeBackAll 1 = .ok (.aconst_null, 1) := by decide +kernel
theorem dX6_takeBackAll_2 : decode cX6_takeBackAll 2 = .ok (.putfield 7, 3) := by decide +kernel
theorem dX6_takeBackAll_5 : decode cX6_takeBackAll 5 = .ok (.return_, 1) := by decide +kernel
theorem dX7_init_0 : decode cX7_init 0 = .ok (.aload_n 0, 1) := by decide +kernel
theorem dX7_init_1 : decode cX7_init 1 = .ok (.invokespecial 1, 3) := by decide +kernel
theorem dX7_init_4 : decode cX7_init 4 = .ok (.aload_n 0, 1) := by decide +kernel
theorem dX7_init_5 : decode cX7_init 5 = .ok (.iload_n 1, 1) := by decide +kernel
theorem dX7_init_6 : decode cX7_init 6 = .ok (.putfield 7, 3) := by decide +kernel
theorem dX7_init_9 : decode cX7_init 9 = .ok (.aload_n 0, 1) := by decide +kernel
theorem dX7_init_10 : decode cX7_init 10 = .ok (.iload_n 2, 1) := by decide +kernel
theorem dX7_init_11 : decode cX7_init 11 = .ok (.putfield 13, 3) := by decide +kernel
theorem dX7_init_14 : decode cX7_init 14 = .ok (.aload_n 0, 1) := by decide +kernel
theorem dX7_init_15 : decode cX7_init 15 = .ok (.iload_n 3, 1) := by decide +kernel
theorem dX7_init_16 : decode cX7_init 16 = .ok (.putfield 16, 3) := by decide +kernel
theorem dX7_init_19 : decode cX7_init 19 = .ok (.aload_n 0, 1) := by decide +kernel
theorem dX7_init_20 : decode cX7_init 20 = .ok (.iload 4, 2) := by decide +kernel
theorem dX7_init_22 : decode cX7_init 22 = .ok (.putfield 19, 3) := by decide +kernel
theorem dX7_init_25 : decode cX7_init 25 = .ok (.return_, 1) := by decide +kernel
theorem dX8_init_0 : decode cX8_init 0 = .ok (.aload_n 0, 1) := by decide +kernel
theorem dX8_init_1 : decode cX8_init 1 = .ok (.invokespecial 1, 3) := by decide +kernel
theorem dX8_init_4 : decode cX8_init 4 = .ok (.return_, 1) := by decide +kernel
theorem dX8_add_0 : decode cX8_add 0 = .ok (.aload_n 0, 1) := by decide +kernel
theorem dX8_add_1 : decode cX8_add 1 = .ok (.getfield 7, 3) := by decide +kernel
theorem dX8_add_4 : decode cX8_add 4 = .ok (.astore 6, 2) := by decide +kernel
theorem dX8_add_6 : decode cX8_add 6 = .ok (.aload 6, 2) := by decide +kernel
theorem dX8_add_8 : decode cX8_add 8 = .ok (.ifnonnull 15, 3) := by decide +kernel
theorem dX8_add_11 : decode cX8_add 11 = .ok (.new 13, 3) := by decide +kernel
theorem dX8_add_14 : decode cX8_add 14 = .ok (.dup, 1) := by decide +kernel
theorem dX8_add_15 : decode cX8_add 15 = .ok (.invokespecial 15, 3) := by decide +kernel
theorem dX8_add_18 : decode cX8_add 18 = .ok (.astore 6, 2) := by decide +kernel
theorem dX8_add_20 : decode cX8_add 20 = .ok (.goto 12, 3) := by decide +kernel
theorem dX8_add_23 : decode cX8_add 23 = .ok (.aload_n 0, 1) := by decide +kernel
theorem dX8_add_24 : decode cX8_add 24 = .ok (.aload 6, 2) := by decide +kernel
theorem dX8_add_26 : decode cX8_add 26 = .ok (.getfield 16, 3) := by decide +kernel
theorem dX8_add_29 : decode cX8_add 29 = .ok (.putfield 7, 3) := by decide +kernel
theorem dX8_add_32 : decode cX8_add 32 = .ok (.aload 6, 2) := by decide +kernel
theorem dX8_add_34 : decode cX8_add 34 = .ok (.iload_n 1, 1) := by decide +kernel
theorem dX8_add_35 : decode cX8_add 35 = .ok (.putfield 19, 3) := by decide +kernel
theorem dX8_add_38 : decode cX8_add 38 = .ok (.aload 6, 2) := by decide +kernel
theorem dX8_add_40 : decode cX8_add 40 = .ok (.aload_n 2, 1) := by decide +kernel
theorem dX8_add_41 : decode cX8_add 41 = .ok (.getfield 23, 3) := by decide +kernel
theorem dX8_add_44 : decode cX8_add 44 = .ok (.putfield 28, 3) := by decide +kernel
theorem dX8_add_47 : decode cX8_add 47 = .ok (.aload 6, 2) := by decide +kernel
theorem dX8_add_49 : decode cX8_add 49 = .ok (.aload_n 2, 1) := by decide +kernel
theorem dX8_add_50 : decode cX8_add 50 = .ok (.getfield 29, 3) := by decide +kernel
theorem dX8_add_53 : decode cX8_add 53 = .ok (.putfield 32, 3) := by decide +kernel
theorem dX8_add_56 : decode cX8_add 56 = .ok (.aload 6, 2) := by decide +kernel
theorem dX8_add_58 : decode cX8_add 58 = .ok (.iload_n 3, 1) := by decide +kernel
theorem dX8_add_59 : decode cX8_add 59 = .ok (.putfield 35, 3) := by decide +kernel
theorem dX8_add_62 : decode cX8_add 62 = .ok (.aload 6, 2) := by decide +kernel
theorem dX8_add_64 : decode cX8_add 64 = .ok (.iload 4, 2) := by decide +kernel
theorem dX8_add_66 : decode cX8_add 66 = .ok (.putfield 38, 3) := by decide +kernel
theorem dX8_add_69 : decode cX8_add 69 = .ok (.aload 6, 2) := by decide +kernel
theorem dX8_add_71 : decode cX8_add 71 = .ok (.aload 5, 2) := by decide +kernel
theorem dX8_add_73 : decode cX8_add 73 = .ok (.putfield 41, 3) := by decide +kernel
theorem dX8_add_76 : decode cX8_add 76 = .ok (.aload 6, 2) := by decide +kernel
theorem dX8_add_78 : decode cX8_add 78 = .ok (.aconst_null, 1) := by decide +kernel
theorem dX8_add_79 : decode cX8_add 79 = .ok (.putfield 16, 3) := by decide +kernel
theorem dX8_add_82 : decode cX8_add 82 = .ok (.aload_n 0, 1) := by decide +kernel
theorem dX8_add_83 : decode cX8_add 83 = .ok (.getfield 45, 3) := by decide +kernel
theorem dX8_add_86 : decode cX8_add 86 = .ok (.ifnonnull 12, 3) := by decide +kernel
theorem dX8_add_89 : decode cX8_add 89 = .ok (.aload_n 0, 1) := by decide +kernel
theorem dX8_add_90 : decode cX8_add 90 = .ok (.aload 6, 2) := by decide +kernel
theorem dX8_add_92 : decode cX8_add 92 = .ok (.putfield 48, 3) := by decide +kernel
theorem dX8_add_95 : decode cX8_add 95 = .ok (.goto 12, 3) := by decide +kernel
theorem dX8_add_98 : decode cX8_add 98 = .ok (.aload_n 0, 1) := by decide +kernel
theorem dX8_add_99 : decode cX8_add 99 = .ok (.getfield 45, 3) := by decide +kernel
theorem dX8_add_102 : decode cX8_add 102 = .ok (.aload 6, 2) := by decide +kernel
theorem dX8_add_104 : decode cX8_add 104 = .ok (.putfield 16, 3) := by decide +kernel
theorem dX8_add_107 : decode cX8_add 107 = .ok (.aload_n 0, 1) := by decide +kernel
theorem dX8_add_108 : decode cX8_add 108 = .ok (.aload 6, 2) := by decide +kernel
theorem dX8_add_110 : decode cX8_add 110 = .ok (.putfield 45, 3) := by decide +kernel
theorem dX8_add_113 : decode cX8_add 113 = .ok (.aload_n 0, 1) := by decide +kernel
theorem dX8_add_114 : decode cX8_add 114 = .ok (.dup, 1) := by decide +kernel
theorem dX8_add_115 : decode cX8_add 115 = .ok (.getfield 51, 3) := by decide +kernel
theorem dX8_add_118 : decode cX8_add 118 = .ok (.iconst 1, 1) := by decide +kernel
theorem dX8_add_119 : decode cX8_add 119 = .ok (.iadd, 1) := by decide +kernel
theorem dX8_add_120 : decode cX8_add 120 = .ok (.putfield 51, 3) := by decide +kernel
theorem dX8_add_123 : decode cX8_add 123 = .ok (.return_, 1) := by decide +kernel
theorem dX8_takeFirst_0 : decode cX8_takeFirst 0 = .ok (.aload_n 0, 1) := by decide +kernel
theorem dX8_takeFirst_1 : decode cX8_takeFirst 1 = .ok (.getfield 48, 3) := by decide +kernel
theorem dX8_takeFirst_4 : decode cX8_takeFirst 4 = .ok (.astore_n 1, 1) := by decide +kernel
theorem dX8_takeFirst_5 : decode cX8_takeFirst 5 = .ok (.aload_n 1, 1) := by decide +kernel
theorem dX8_takeFirst_6 : decode cX8_takeFirst 6 = .ok (.ifnonnull 5, 3) := by decide +kernel
theorem dX8_takeFirst_9 : decode cX8_takeFirst 9 = .ok (.aconst_null, 1) := by decide +kernel
theorem dX8_takeFirst_10 : decode cX8_takeFirst 10 = .ok (.areturn, 1) := by decide +kernel
theorem dX8_takeFirst_11 : decode cX8_takeFirst 11 = .ok (.aload_n 0, 1) := by decide +kernel
theorem dX8_takeFirst_12 : decode cX8_takeFirst 12 = .ok (.aload_n 1, 1) := by decide +kernel
theorem dX8_takeFirst_13 : decode cX8_takeFirst 13 = .ok (.getfield 16, 3) := by decide +kernel
theorem dX8_takeFirst_16 : decode cX8_takeFirst 16 = .ok (.putfield 48, 3) := by decide +kernel
theorem dX8_takeFirst_19 : decode cX8_takeFirst 19 = .ok (.aload_n 0, 1) := by decide +kernel
theorem dX8_takeFirst_20 : decode cX8_takeFirst 20 = .ok (.getfield 48, 3) := by decide +kernel
theorem dX8_takeFirst_23 : decode cX8_takeFirst 23 = .ok (.ifnonnull 8, 3) := by decide +kernel
theorem dX8_takeFirst_26 : decode cX8_takeFirst 26 = .ok (.aload_n 0, 1) := by decide +kernel
theorem dX8_takeFirst_27 : decode cX8_takeFirst 27 = .ok (.aconst_null, 1) := by decide +kernel
theorem dX8_takeFirst_28 : decode cX8_takeFirst 28 = .ok (.putfield 45, 3) := by decide +kernel
theorem dX8_takeFirst_31 : decode cX8_takeFirst 31 = .ok (.aload_n 0, 1) := by decide +kernel
theorem dX8_takeFirst_32 : decode cX8_takeFirst 32 = .ok (.dup, 1) := by decide +kernel
theorem dX8_takeFirst_33 : decode cX8_takeFirst 33 = .ok (.getfield 51, 3) := by decide +kernel
theorem dX8_takeFirst_36 : decode cX8_takeFirst 36 = .ok (.iconst 1, 1) := by decide +kernel
theorem dX8_takeFirst_37 : decode cX8_takeFirst 37 = .ok (.isub, 1) := by decide +kernel
theorem dX8_takeFirst_38 : decode cX8_takeFirst 38 = .ok (.putfield 51, 3) := by decide +kernel
theorem dX8_takeFirst_41 : decode cX8_takeFirst 41 = .ok (.aload_n 1, 1) := by decide +kernel
theorem dX8_takeFirst_42 : decode cX8_takeFirst 42 = .ok (.areturn, 1) := by decide +kernel
theorem dX8_reuse_0 : decode cX8_reuse 0 = .ok (.aload_n 1, 1) := by decide +kernel
theorem dX8_reuse_1 : decode cX8_reuse 1 = .ok (.aload_n 0, 1) := by decide +kernel
theorem dX8_reuse_2 : decode cX8_reuse 2 = .ok (.getfield 7, 3) := by decide +kernel
theorem dX8_reuse_5 : decode cX8_reuse 5 = .ok (.putfield 16, 3) := by decide +kernel
theorem dX8_reuse_8 : decode cX8_reuse 8 = .ok (.aload_n 0, 1) := by decide +kernel
theorem dX8_reuse_9 : decode cX8_reuse 9 = .ok (.aload_n 1, 1) := by decide +kernel
theorem dX8_reuse_10 : decode cX8_reuse 10 = .ok (.putfield 7, 3) := by decide +kernel
theorem dX8_reuse_13 : decode cX8_reuse 13 = .ok (.return_, 1) := by decide +kernel
theorem dX8_find_0 : decode cX8_find 0 = .ok (.iload_n 1, 1) := by decide +kernel
theorem dX8_find_1 : decode cX8_find 1 = .ok (.ifCond .lt 11, 3) := by decide +kernel
theorem dX8_find_4 : decode cX8_find 4 = .ok (.iload_n 1, 1) := by decide +kernel
theorem dX8_find_5 : decode cX8_find 5 = .ok (.aload_n 0, 1) := by decide +kernel
theorem dX8_find_6 : decode cX8_find 6 = .ok (.getfield 51, 3) := by decide +kernel
theorem dX8_find_9 : decode cX8_find 9 = .ok (.if_icmp .lt 5, 3) := by decide +kernel
theorem dX8_find_12 : decode cX8_find 12 = .ok (.aconst_null, 1) := by decide +kernel
theorem dX8_find_13 : decode cX8_find 13 = .ok (.areturn, 1) := by decide +kernel
theorem dX8_find_14 : decode cX8_find 14 = .ok (.aload_n 0, 1) := by decide +kernel
theorem dX8_find_15 : decode cX8_find 15 = .ok (.getfield 48, 3) := by decide +kernel
theorem dX8_find_18 : decode cX8_find 18 = .ok (.astore_n 2, 1) := by decide +kernel
theorem dX8_find_19 : decode cX8_find 19 = .ok (.iconst 0, 1) := by decide +kernel
theorem dX8_find_20 : decode cX8_find 20 = .ok (.istore_n 3, 1) := by decide +kernel
theorem dX8_find_21 : decode cX8_find 21 = .ok (.iload_n 3, 1) := by decide +kernel
theorem dX8_find_22 : decode cX8_find 22 = .ok (.iload_n 1, 1) := by decide +kernel
theorem dX8_find_23 : decode cX8_find 23 = .ok (.if_icmp .ge 18, 3) := by decide +kernel
theorem dX8_find_26 : decode cX8_find 26 = .ok (.aload_n 2, 1) := by decide +kernel
theorem dX8_find_27 : decode cX8_find 27 = .ok (.ifnull 14, 3) := by decide +kernel
theorem dX8_find_30 : decode cX8_find 30 = .ok (.aload_n 2, 1) := by decide +kernel
theorem dX8_find_31 : decode cX8_find 31 = .ok (.getfield 16, 3) := by decide +kernel
theorem dX8_find_34 : decode cX8_find 34 = .ok (.astore_n 2, 1) := by decide +kernel
theorem dX8_find_35 : decode cX8_find 35 = .ok (.iinc 3 1, 3) := by decide +kernel
theorem dX8_find_38 : decode cX8_find 38 = .ok (.goto (-17), 3) := by decide +kernel
theorem dX8_find_41 : decode cX8_find 41 = .ok (.aload_n 2, 1) := by decide +kernel
theorem dX8_find_42 : decode cX8_find 42 = .ok (.areturn, 1) := by decide +kernel
theorem dX8_clear_0 : decode cX8_clear 0 = .ok (.aload_n 0, 1) := by decide +kernel
theorem dX8_clear_1 : decode cX8_clear 1 = .ok (.getfield 45, 3) := by decide +kernel
theorem dX8_clear_4 : decode cX8_clear 4 = .ok (.ifnull 22, 3) := by decide +kernel
theorem dX8_clear_7 : decode cX8_clear 7 = .ok (.aload_n 0, 1) := by decide +kernel
theorem dX8_clear_8 : decode cX8_clear 8 = .ok (.getfield 45, 3) := by decide +kernel
theorem dX8_clear_11 : decode cX8_clear 11 = .ok (.aload_n 0, 1) := by decide +kernel
theorem dX8_clear_12 : decode cX8_clear 12 = .ok (.getfield 7, 3) := by decide +kernel
theorem dX8_clear_15 : decode cX8_clear 15 = .ok (.putfield 16, 3) := by decide +kernel
theorem dX8_clear_18 : decode cX8_clear 18 = .ok (.aload_n 0, 1) := by decide +kernel
theorem dX8_clear_19 : decode cX8_clear 19 = .ok (.aload_n 0, 1) := by decide +kernel
theorem dX8_clear_20 : decode cX8_clear 20 = .ok (.getfield 48, 3) := by decide +kernel
theorem dX8_clear_23 : decode cX8_clear 23 = .ok (.putfield 7, 3) := by decide +kernel
theorem dX8_clear_26 : decode cX8_clear 26 = .ok (.aload_n 0, 1) := by decide +kernel
theorem dX8_clear_27 : decode cX8_clear 27 = .ok (.aconst_null, 1) := by decide +kernel
theorem dX8_clear_28 : decode cX8_clear 28 = .ok (.putfield 48, 3) := by decide +kernel
theorem dX8_clear_31 : decode cX8_clear 31 = .ok (.aload_n 0, 1) := by decide +kernel
theorem dX8_clear_32 : decode cX8_clear 32 = .ok (.aconst_null, 1) := by decide +kernel
theorem dX8_clear_33 : decode cX8_clear 33 = .ok (.putfield 45, 3) := by decide +kernel
theorem dX8_clear_36 : decode cX8_clear 36 = .ok (.aload_n 0, 1) := by decide +kernel
theorem dX8_clear_37 : decode cX8_clear 37 = .ok (.iconst 0, 1) := by decide +kernel
theorem dX8_clear_38 : decode cX8_clear 38 = .ok (.putfield 51, 3) := by decide +kernel
theorem dX8_clear_41 : decode cX8_clear 41 = .ok (.return_, 1) := by decide +kernel
theorem dX9_init_0 : decode cX9_init 0 = .ok (.aload_n 0, 1) := by decide +kernel
theorem dX9_init_1 : decode cX9_init 1 = .ok (.invokespecial 3, 3) := by decide +kernel
theorem dX9_init_4 : decode cX9_init 4 = .ok (.aload_n 0, 1) := by decide +kernel
theorem dX9_init_5 : decode cX9_init 5 = .ok (.new 9, 3) := by decide +kernel
theorem dX9_init_8 : decode cX9_init 8 = .ok (.dup, 1) := by decide +kernel
theorem dX9_init_9 : decode cX9_init 9 = .ok (.invokespecial 11, 3) := by decide +kernel
theorem dX9_init_12 : decode cX9_init 12 = .ok (.putfield 12, 3) := by decide +kernel
theorem dX9_init_15 : decode cX9_init 15 = .ok (.aload_n 0, 1) := by decide +kernel
theorem dX9_init_16 : decode cX9_init 16 = .ok (.new 18, 3) := by decide +kernel
theorem dX9_init_19 : decode cX9_init 19 = .ok (.dup, 1) := by decide +kernel
theorem dX9_init_20 : decode cX9_init 20 = .ok (.invokespecial 20, 3) := by decide +kernel
theorem dX9_init_23 : decode cX9_init 23 = .ok (.putfield 21, 3) := by decide +kernel
theorem dX9_init_26 : decode cX9_init 26 = .ok (.aload_n 0, 1) := by decide +kernel
theorem dX9_init_27 : decode cX9_init 27 = .ok (.bipush 8, 2) := by decide +kernel
theorem dX9_init_29 : decode cX9_init 29 = .ok (.anewarray 25, 3) := by decide +kernel
theorem dX9_init_32 : decode cX9_init 32 = .ok (.putfield 27, 3) := by decide +kernel
theorem dX9_init_35 : decode cX9_init 35 = .ok (.aload_n 0, 1) := by decide +kernel
theorem dX9_init_36 : decode cX9_init 36 = .ok (.bipush 8, 2) := by decide +kernel
theorem dX9_init_38 : decode cX9_init 38 = .ok (.newarray .int, 2) := by decide +kernel
theorem dX9_init_40 : decode cX9_init 40 = .ok (.putfield 31, 3) := by decide +kernel
theorem dX9_init_43 : decode cX9_init 43 = .ok (.aload_n 0, 1) := by decide +kernel
theorem dX9_init_44 : decode cX9_init 44 = .ok (.aload_n 1, 1) := by decide +kernel
theorem dX9_init_45 : decode cX9_init 45 = .ok (.putfield 35, 3) := by decide +kernel
theorem dX9_init_48 : decode cX9_init 48 = .ok (.iconst 0, 1) := by decide +kernel
theorem dX9_init_49 : decode cX9_init 49 = .ok (.istore_n 2, 1) := by decide +kernel
theorem dX9_init_50 : decode cX9_init 50 = .ok (.iload_n 2, 1) := by decide +kernel
theorem dX9_init_51 : decode cX9_init 51 = .ok (.bipush 8, 2) := by decide +kernel
theorem dX9_init_53 : decode cX9_init 53 = .ok (.if_icmp .ge 28, 3) := by decide +kernel
theorem dX9_init_56 : decode cX9_init 56 = .ok (.aload_n 0, 1) := by decide +kernel
theorem dX9_init_57 : decode cX9_init 57 = .ok (.getfield 27, 3) := by decide +kernel
theorem dX9_init_60 : decode cX9_init 60 = .ok (.iload_n 2, 1) := by decide +kernel
theorem dX9_init_61 : decode cX9_init 61 = .ok (.new 25, 3) := by decide +kernel
theorem dX9_init_64 : decode cX9_init 64 = .ok (.dup, 1) := by decide +kernel
theorem dX9_init_65 : decode cX9_init 65 = .ok (.aload_n 1, 1) := by decide +kernel
theorem dX9_init_66 : decode cX9_init 66 = .ok (.getfield 39, 3) := by decide +kernel
theorem dX9_init_69 : decode cX9_init 69 = .ok (.iload_n 2, 1) := by decide +kernel
theorem dX9_init_70 : decode cX9_init 70 = .ok (.aaload, 1) := by decide +kernel
theorem dX9_init_71 : decode cX9_init 71 = .ok (.invokespecial 45, 3) := by decide +kernel
theorem dX9_init_74 : decode cX9_init 74 = .ok (.aastore, 1) := by decide +kernel
theorem dX9_init_75 : decode cX9_init 75 = .ok (.iinc 2 1, 3) := by decide +kernel
theorem dX9_init_78 : decode cX9_init 78 = .ok (.goto (-28), 3) := by decide +kernel
theorem dX9_init_81 : decode cX9_init 81 = .ok (.return_, 1) := by decide +kernel
theorem dX9_host_0 : decode cX9_host 0 = .ok (.iload_n 1, 1) := by decide +kernel
theorem dX9_host_1 : decode cX9_host 1 = .ok (.ifCond .lt 18, 3) := by decide +kernel
theorem dX9_host_4 : decode cX9_host 4 = .ok (.iload_n 1, 1) := by decide +kernel
theorem dX9_host_5 : decode cX9_host 5 = .ok (.bipush 8, 2) := by decide +kernel
theorem dX9_host_7 : decode cX9_host 7 = .ok (.if_icmp .ge 12, 3) := by decide +kernel
theorem dX9_host_10 : decode cX9_host 10 = .ok (.aload_n 0, 1) := by decide +kernel
theorem dX9_host_11 : decode cX9_host 11 = .ok (.getfield 27, 3) := by decide +kernel
theorem dX9_host_14 : decode cX9_host 14 = .ok (.iload_n 1, 1) := by decide +kernel
theorem dX9_host_15 : decode cX9_host 15 = .ok (.aaload, 1) := by decide +kernel
theorem dX9_host_16 : decode cX9_host 16 = .ok (.goto 4, 3) := by decide +kernel
theorem dX9_host_19 : decode cX9_host 19 = .ok (.aconst_null, 1) := by decide +kernel
theorem dX9_host_20 : decode cX9_host 20 = .ok (.areturn, 1) := by decide +kernel
theorem dX9_hostWithMark_0 : decode cX9_hostWithMark 0 = .ok (.iload_n 1, 1) := by decide +kernel
theorem dX9_hostWithMark_1 : decode cX9_hostWithMark 1 = .ok (.ifCond .ge 7, 3) := by decide +kernel
theorem dX9_hostWithMark_4 : decode cX9_hostWithMark 4 = .ok (.aconst_null, 1) := by decide +kernel
theorem dX9_hostWithMark_5 : decode cX9_hostWithMark 5 = .ok (.goto 10, 3) := by decide +kernel
theorem dX9_hostWithMark_8 : decode cX9_hostWithMark 8 = .ok (.aload_n 0, 1) := by decide +kernel
theorem dX9_hostWithMark_9 : decode cX9_hostWithMark 9 = .ok (.iload_n 1, 1) := by decide +kernel
theorem dX9_hostWithMark_10 : decode cX9_hostWithMark 10 = .ok (.iconst 4, 1) := by decide +kernel
theorem dX9_hostWithMark_11 : decode cX9_hostWithMark 11 = .ok (.idiv, 1) := by decide +kernel
theorem dX9_hostWithMark_12 : decode cX9_hostWithMark 12 = .ok (.invokevirtual 48, 3) := by decide +kernel
theorem dX9_hostWithMark_15 : decode cX9_hostWithMark 15 = .ok (.areturn, 1) := by decide +kernel
theorem dX9_carriedOn_0 : decode cX9_carriedOn 0 = .ok (.iload_n 1, 1) := by decide +kernel
theorem dX9_carriedOn_1 : decode cX9_carriedOn 1 = .ok (.ifCond .lt 18, 3) := by decide +kernel
theorem dX9_carriedOn_4 : decode cX9_carriedOn 4 = .ok (.iload_n 1, 1) := by decide +kernel
theorem dX9_carriedOn_5 : decode cX9_carriedOn 5 = .ok (.bipush 8, 2) := by decide +kernel
theorem dX9_carriedOn_7 : decode cX9_carriedOn 7 = .ok (.if_icmp .ge 12, 3) := by decide +kernel
theorem dX9_carriedOn_10 : decode cX9_carriedOn 10 = .ok (.aload_n 0, 1) := by decide +kernel
theorem dX9_carriedOn_11 : decode cX9_carriedOn 11 = .ok (.getfield 31, 3) := by decide +kernel
theorem dX9_carriedOn_14 : decode cX9_carriedOn 14 = .ok (.iload_n 1, 1) := by decide +kernel
theorem dX9_carriedOn_15 : decode cX9_carriedOn 15 = .ok (.iaload, 1) := by decide +kernel
theorem dX9_carriedOn_16 : decode cX9_carriedOn 16 = .ok (.goto 4, 3) := by decide +kernel
theorem dX9_carriedOn_19 : decode cX9_carriedOn 19 = .ok (.iconst 0, 1) := by decide +kernel
theorem dX9_carriedOn_20 : decode cX9_carriedOn 20 = .ok (.ireturn, 1) := by decide +kernel
theorem dX9_goneInAll_0 : decode cX9_goneInAll 0 = .ok (.iconst 0, 1) := by decide +kernel
theorem dX9_goneInAll_1 : decode cX9_goneInAll 1 = .ok (.istore_n 1, 1) := by decide +kernel
theorem dX9_goneInAll_2 : decode cX9_goneInAll 2 = .ok (.iconst 0, 1) := by decide +kernel
theorem dX9_goneInAll_3 : decode cX9_goneInAll 3 = .ok (.istore_n 2, 1) := by decide +kernel
theorem dX9_goneInAll_4 : decode cX9_goneInAll 4 = .ok (.iload_n 2, 1) := by decide +kernel
theorem dX9_goneInAll_5 : decode cX9_goneInAll 5 = .ok (.bipush 8, 2) := by decide +kernel
theorem dX9_goneInAll_7 : decode cX9_goneInAll 7 = .ok (.if_icmp .ge 21, 3) := by decide +kernel
theorem dX9_goneInAll_10 : decode cX9_goneInAll 10 = .ok (.iload_n 1, 1) := by decide +kernel
theorem dX9_goneInAll_11 : decode cX9_goneInAll 11 = .ok (.aload_n 0, 1) := by decide +kernel
theorem dX9_goneInAll_12 : decode cX9_goneInAll 12 = .ok (.getfield 27, 3) := by decide +kernel
theorem dX9_goneInAll_15 : decode cX9_goneInAll 15 = .ok (.iload_n 2, 1) := by decide +kernel
theorem dX9_goneInAll_16 : decode cX9_goneInAll 16 = .ok (.aaload, 1) := by decide +kernel
theorem dX9_goneInAll_17 : decode cX9_goneInAll 17 = .ok (.getfield 52, 3) := by decide +kernel
theorem dX9_goneInAll_20 : decode cX9_goneInAll 20 = .ok (.iadd, 1) := by decide +kernel
theorem dX9_goneInAll_21 : decode cX9_goneInAll 21 = .ok (.istore_n 1, 1) := by decide +kernel
theorem dX9_goneInAll_22 : decode cX9_goneInAll 22 = .ok (.iinc 2 1, 3) := by decide +kernel
theorem dX9_goneInAll_25 : decode cX9_goneInAll 25 = .ok (.goto (-21), 3) := by decide +kernel
theorem dX9_goneInAll_28 : decode cX9_goneInAll 28 = .ok (.iload_n 1, 1) := by decide +kernel
theorem dX9_goneInAll_29 : decode cX9_goneInAll 29 = .ok (.ireturn, 1) := by decide +kernel
theorem dX9_takeOver_0 : decode cX9_takeOver 0 = .ok (.aload_n 0, 1) := by decide +kernel
theorem dX9_takeOver_1 : decode cX9_takeOver 1 = .ok (.aload_n 1, 1) := by decide +kernel
theorem dX9_takeOver_2 : decode cX9_takeOver 2 = .ok (.getfield 56, 3) := by decide +kernel
theorem dX9_takeOver_5 : decode cX9_takeOver 5 = .ok (.putfield 56, 3) := by decide +kernel
theorem dX9_takeOver_8 : decode cX9_takeOver 8 = .ok (.iconst 0, 1) := by decide +kernel
theorem dX9_takeOver_9 : decode cX9_takeOver 9 = .ok (.istore_n 2, 1) := by decide +kernel
theorem dX9_takeOver_10 : decode cX9_takeOver 10 = .ok (.iload_n 2, 1) := by decide +kernel
theorem dX9_takeOver_11 : decode cX9_takeOver 11 = .ok (.bipush 8, 2) := by decide +kernel
theorem dX9_takeOver_13 : decode cX9_takeOver 13 = .ok (.if_icmp .ge 24, 3) := by decide +kernel
theorem dX9_takeOver_16 : decode cX9_takeOver 16 = .ok (.aload_n 0, 1) := by decide +kernel
theorem dX9_takeOver_17 : decode cX9_takeOver 17 = .ok (.getfield 27, 3) := by decide +kernel
theorem dX9_takeOver_20 : decode cX9_takeOver 20 = .ok (.iload_n 2, 1) := by decide +kernel
theorem dX9_takeOver_21 : decode cX9_takeOver 21 = .ok (.aaload, 1) := by decide +kernel
theorem dX9_takeOver_22 : decode cX9_takeOver 22 = .ok (.aload_n 1, 1) := by decide +kernel
theorem dX9_takeOver_23 : decode cX9_takeOver 23 = .ok (.getfield 27, 3) := by decide +kernel
theorem dX9_takeOver_26 : decode cX9_takeOver 26 = .ok (.iload_n 2, 1) := by decide +kernel
theorem dX9_takeOver_27 : decode cX9_takeOver 27 = .ok (.aaload, 1) := by decide +kernel
theorem dX9_takeOver_28 : decode cX9_takeOver 28 = .ok (.invokevirtual 59, 3) := by decide +kernel
theorem dX9_takeOver_31 : decode cX9_takeOver 31 = .ok (.iinc 2 1, 3) := by decide +kernel
theorem dX9_takeOver_34 : decode cX9_takeOver 34 = .ok (.goto (-24), 3) := by decide +kernel
theorem dX9_takeOver_37 : decode cX9_takeOver 37 = .ok (.return_, 1) := by decide +kernel
theorem dX9_dropAllUnderWay_0 : decode cX9_dropAllUnderWay 0 = .ok (.aload_n 0, 1) := by decide +kernel
theorem dX9_dropAllUnderWay_1 : decode cX9_dropAllUnderWay 1 = .ok (.getfield 12, 3) := by decide +kernel
theorem dX9_dropAllUnderWay_4 : decode cX9_dropAllUnderWay 4 = .ok (.invokevirtual 63, 3) := by decide +kernel
theorem dX9_dropAllUnderWay_7 : decode cX9_dropAllUnderWay 7 = .ok (.iconst 0, 1) := by decide +kernel
theorem dX9_dropAllUnderWay_8 : decode cX9_dropAllUnderWay 8 = .ok (.istore_n 1, 1) := by decide +kernel
theorem dX9_dropAllUnderWay_9 : decode cX9_dropAllUnderWay 9 = .ok (.iload_n 1, 1) := by decide +kernel
theorem dX9_dropAllUnderWay_10 : decode cX9_dropAllUnderWay 10 = .ok (.bipush 8, 2) := by decide +kernel
theorem dX9_dropAllUnderWay_12 : decode cX9_dropAllUnderWay 12 = .ok (.if_icmp .ge 18, 3) := by decide +kernel
theorem dX9_dropAllUnderWay_15 : decode cX9_dropAllUnderWay 15 = .ok (.aload_n 0, 1) := by decide +kernel
theorem dX9_dropAllUnderWay_16 : decode cX9_dropAllUnderWay 16 = .ok (.getfield 27, 3) := by decide +kernel
theorem dX9_dropAllUnderWay_19 : decode cX9_dropAllUnderWay 19 = .ok (.iload_n 1, 1) := by decide +kernel
theorem dX9_dropAllUnderWay_20 : decode cX9_dropAllUnderWay 20 = .ok (.aaload, 1) := by decide +kernel
theorem dX9_dropAllUnderWay_21 : decode cX9_dropAllUnderWay 21 = .ok (.invokevirtual 66, 3) := by decide +kernel
theorem dX9_dropAllUnderWay_24 : decode cX9_dropAllUnderWay 24 = .ok (.iinc 1 1, 3) := by decide +kernel
theorem dX9_dropAllUnderWay_27 : decode cX9_dropAllUnderWay 27 = .ok (.goto (-18), 3) := by decide +kernel
theorem dX9_dropAllUnderWay_30 : decode cX9_dropAllUnderWay 30 = .ok (.aload_n 0, 1) := by decide +kernel
theorem dX9_dropAllUnderWay_31 : decode cX9_dropAllUnderWay 31 = .ok (.getfield 21, 3) := by decide +kernel
theorem dX9_dropAllUnderWay_34 : decode cX9_dropAllUnderWay 34 = .ok (.invokevirtual 69, 3) := by decide +kernel
theorem dX9_dropAllUnderWay_37 : decode cX9_dropAllUnderWay 37 = .ok (.return_, 1) := by decide +kernel
theorem dX9_launch_0 : decode cX9_launch 0 = .ok (.aload_n 1, 1) := by decide +kernel
theorem dX9_launch_1 : decode cX9_launch 1 = .ok (.getfield 72, 3) := by decide +kernel
theorem dX9_launch_4 : decode cX9_launch 4 = .ok (.iload_n 3, 1) := by decide +kernel
theorem dX9_launch_5 : decode cX9_launch 5 = .ok (.invokestatic 76, 3) := by decide +kernel
theorem dX9_launch_8 : decode cX9_launch 8 = .ok (.istore 7, 2) := by decide +kernel
theorem dX9_launch_10 : decode cX9_launch 10 = .ok (.iload 7, 2) := by decide +kernel
theorem dX9_launch_12 : decode cX9_launch 12 = .ok (.ifCond .ge 5, 3) := by decide +kernel
theorem dX9_launch_15 : decode cX9_launch 15 = .ok (.iconst (-1), 1) := by decide +kernel
theorem dX9_launch_16 : decode cX9_launch 16 = .ok (.ireturn, 1) := by decide +kernel
theorem dX9_launch_17 : decode cX9_launch 17 = .ok (.aload_n 0, 1) := by decide +kernel
theorem dX9_launch_18 : decode cX9_launch 18 = .ok (.iload_n 2, 1) := by decide +kernel
theorem dX9_launch_19 : decode cX9_launch 19 = .ok (.iload 7, 2) := by decide +kernel
theorem dX9_launch_21 : decode cX9_launch 21 = .ok (.iload_n 3, 1) := by decide +kernel
theorem dX9_launch_22 : decode cX9_launch 22 = .ok (.iload 4, 2) := by decide +kernel
theorem dX9_launch_24 : decode cX9_launch 24 = .ok (.invokevirtual 80, 3) := by decide +kernel
theorem dX9_launch_27 : decode cX9_launch 27 = .ok (.astore 8, 2) := by decide +kernel
theorem dX9_launch_29 : decode cX9_launch 29 = .ok (.aload 8, 2) := by decide +kernel
theorem dX9_launch_31 : decode cX9_launch 31 = .ok (.iload 5, 2) := by decide +kernel
theorem dX9_launch_33 : decode cX9_launch 33 = .ok (.putfield 84, 3) := by decide +kernel
theorem dX9_launch_36 : decode cX9_launch 36 = .ok (.aload 8, 2) := by decide +kernel
theorem dX9_launch_38 : decode cX9_launch 38 = .ok (.iload 6, 2) := by decide +kernel
theorem dX9_launch_40 : decode cX9_launch 40 = .ok (.putfield 89, 3) := by decide +kernel
theorem dX9_launch_43 : decode cX9_launch 43 = .ok (.aload 8, 2) := by decide +kernel
theorem dX9_launch_45 : decode cX9_launch 45 = .ok (.getfield 93, 3) := by decide +kernel
theorem dX9_launch_48 : decode cX9_launch 48 = .ok (.istore 9, 2) := by decide +kernel
theorem dX9_launch_50 : decode cX9_launch 50 = .ok (.aload_n 0, 1) := by decide +kernel
theorem dX9_launch_51 : decode cX9_launch 51 = .ok (.aload_n 1, 1) := by decide +kernel
theorem dX9_launch_52 : decode cX9_launch 52 = .ok (.aload 8, 2) := by decide +kernel
theorem dX9_launch_54 : decode cX9_launch 54 = .ok (.invokevirtual 96, 3) := by decide +kernel
theorem dX9_launch_57 : decode cX9_launch 57 = .ok (.iload 9, 2) := by decide +kernel
theorem dX9_launch_59 : decode cX9_launch 59 = .ok (.ireturn, 1) := by decide +kernel
theorem dX9_bear_0 : decode cX9_bear 0 = .ok (.aload_n 0, 1) := by decide +kernel
theorem dX9_bear_1 : decode cX9_bear 1 = .ok (.getfield 21, 3) := by decide +kernel
theorem dX9_bear_4 : decode cX9_bear 4 = .ok (.invokevirtual 100, 3) := by decide +kernel
theorem dX9_bear_7 : decode cX9_bear 7 = .ok (.astore 5, 2) := by decide +kernel
theorem dX9_bear_9 : decode cX9_bear 9 = .ok (.aload 5, 2) := by decide +kernel
theorem dX9_bear_11 : decode cX9_bear 11 = .ok (.iload_n 1, 1) := by decide +kernel
theorem dX9_bear_12 : decode cX9_bear 12 = .ok (.putfield 104, 3) := by decide +kernel
theorem dX9_bear_15 : decode cX9_bear 15 = .ok (.aload 5, 2) := by decide +kernel
theorem dX9_bear_17 : decode cX9_bear 17 = .ok (.iload_n 2, 1) := by decide +kernel
theorem dX9_bear_18 : decode cX9_bear 18 = .ok (.putfield 107, 3) := by decide +kernel
theorem dX9_bear_21 : decode cX9_bear 21 = .ok (.aload 5, 2) := by decide +kernel
theorem dX9_bear_23 : decode cX9_bear 23 = .ok (.iload_n 3, 1) := by decide +kernel
theorem dX9_bear_24 : decode cX9_bear 24 = .ok (.putfield 110, 3) := by decide +kernel
theorem dX9_bear_27 : decode cX9_bear 27 = .ok (.aload 5, 2) := by decide +kernel
theorem dX9_bear_29 : decode cX9_bear 29 = .ok (.iload 4, 2) := by decide +kernel
theorem dX9_bear_31 : decode cX9_bear 31 = .ok (.putfield 113, 3) := by decide +kernel
theorem dX9_bear_34 : decode cX9_bear 34 = .ok (.aload 5, 2) := by decide +kernel
theorem dX9_bear_36 : decode cX9_bear 36 = .ok (.bipush 32, 2) := by decide +kernel
theorem dX9_bear_38 : decode cX9_bear 38 = .ok (.putfield 84, 3) := by decide +kernel
theorem dX9_bear_41 : decode cX9_bear 41 = .ok (.aload 5, 2) := by decide +kernel
theorem dX9_bear_43 : decode cX9_bear 43 = .ok (.aload_n 0, 1) := by decide +kernel
theorem dX9_bear_44 : decode cX9_bear 44 = .ok (.getfield 56, 3) := by decide +kernel
theorem dX9_bear_47 : decode cX9_bear 47 = .ok (.putfield 93, 3) := by decide +kernel
theorem dX9_bear_50 : decode cX9_bear 50 = .ok (.aload 5, 2) := by decide +kernel
theorem dX9_bear_52 : decode cX9_bear 52 = .ok (.iconst 0, 1) := by decide +kernel
theorem dX9_bear_53 : decode cX9_bear 53 = .ok (.putfield 116, 3) := by decide +kernel
theorem dX9_bear_56 : decode cX9_bear 56 = .ok (.aload 5, 2) := by decide +kernel
theorem dX9_bear_58 : decode cX9_bear 58 = .ok (.iconst 0, 1) := by decide +kernel
theorem dX9_bear_59 : decode cX9_bear 59 = .ok (.putfield 119, 3) := by decide +kernel
theorem dX9_bear_62 : decode cX9_bear 62 = .ok (.aload 5, 2) := by decide +kernel
theorem dX9_bear_64 : decode cX9_bear 64 = .ok (.iconst 0, 1) := by decide +kernel
theorem dX9_bear_65 : decode cX9_bear 65 = .ok (.putfield 89, 3) := by decide +kernel
theorem dX9_bear_68 : decode cX9_bear 68 = .ok (.aload 5, 2) := by decide +kernel
theorem dX9_bear_70 : decode cX9_bear 70 = .ok (.iconst 0, 1) := by decide +kernel
theorem dX9_bear_71 : decode cX9_bear 71 = .ok (.putfield 122, 3) := by decide +kernel
theorem dX9_bear_74 : decode cX9_bear 74 = .ok (.aload 5, 2) := by decide +kernel
theorem dX9_bear_76 : decode cX9_bear 76 = .ok (.aconst_null, 1) := by decide +kernel
theorem dX9_bear_77 : decode cX9_bear 77 = .ok (.putfield 125, 3) := by decide +kernel
theorem dX9_bear_80 : decode cX9_bear 80 = .ok (.aload_n 0, 1) := by decide +kernel
theorem dX9_bear_81 : decode cX9_bear 81 = .ok (.dup, 1) := by decide +kernel
theorem dX9_bear_82 : decode cX9_bear 82 = .ok (.getfield 56, 3) := by decide +kernel
theorem dX9_bear_85 : decode cX9_bear 85 = .ok (.iconst 1, 1) := by decide +kernel
theorem dX9_bear_86 : decode cX9_bear 86 = .ok (.iadd, 1) := by decide +kernel
theorem dX9_bear_87 : decode cX9_bear 87 = .ok (.putfield 56, 3) := by decide +kernel
theorem dX9_bear_90 : decode cX9_bear 90 = .ok (.aload 5, 2) := by decide +kernel
theorem dX9_bear_92 : decode cX9_bear 92 = .ok (.areturn, 1) := by decide +kernel
theorem dX9_sourceFor_0 : decode cX9_sourceFor 0 = .ok (.aload_n 0, 1) := by decide +kernel
theorem dX9_sourceFor_1 : decode cX9_sourceFor 1 = .ok (.iload_n 1, 1) := by decide +kernel
theorem dX9_sourceFor_2 : decode cX9_sourceFor 2 = .ok (.invokevirtual 129, 3) := by decide +kernel
theorem dX9_sourceFor_5 : decode cX9_sourceFor 5 = .ok (.ifCond .eq 5, 3) := by decide +kernel
theorem dX9_sourceFor_8 : decode cX9_sourceFor 8 = .ok (.iload_n 1, 1) := by decide +kernel
theorem dX9_sourceFor_9 : decode cX9_sourceFor 9 = .ok (.ireturn, 1) := by decide +kernel
theorem dX9_sourceFor_10 : decode cX9_sourceFor 10 = .ok (.aload_n 0, 1) := by decide +kernel
theorem dX9_sourceFor_11 : decode cX9_sourceFor 11 = .ok (.iload_n 1, 1) := by decide +kernel
theorem dX9_sourceFor_12 : decode cX9_sourceFor 12 = .ok (.invokevirtual 135, 3) := by decide +kernel
theorem dX9_sourceFor_15 : decode cX9_sourceFor 15 = .ok (.istore_n 2, 1) := by decide +kernel
theorem dX9_sourceFor_16 : decode cX9_sourceFor 16 = .ok (.iload_n 2, 1) := by decide +kernel
theorem dX9_sourceFor_17 : decode cX9_sourceFor 17 = .ok (.bipush (-2), 2) := by decide +kernel
theorem dX9_sourceFor_19 : decode cX9_sourceFor 19 = .ok (.if_icmp .ne 17, 3) := by decide +kernel
theorem dX9_sourceFor_22 : decode cX9_sourceFor 22 = .ok (.aload_n 0, 1) := by decide +kernel
theorem dX9_sourceFor_23 : decode cX9_sourceFor 23 = .ok (.aload_n 0, 1) := by decide +kernel
theorem dX9_sourceFor_24 : decode cX9_sourceFor 24 = .ok (.aload_n 0, 1) := by decide +kernel
theorem dX9_sourceFor_25 : decode cX9_sourceFor 25 = .ok (.iload_n 1, 1) := by decide +kernel
theorem dX9_sourceFor_26 : decode cX9_sourceFor 26 = .ok (.invokevirtual 139, 3) := by decide +kernel
theorem dX9_sourceFor_29 : decode cX9_sourceFor 29 = .ok (.invokevirtual 142, 3) := by decide +kernel
theorem dX9_sourceFor_32 : decode cX9_sourceFor 32 = .ok (.invokevirtual 135, 3) := by decide +kernel
theorem dX9_sourceFor_35 : decode cX9_sourceFor 35 = .ok (.istore_n 2, 1) := by decide +kernel
theorem dX9_sourceFor_36 : decode cX9_sourceFor 36 = .ok (.aload_n 0, 1) := by decide +kernel
theorem dX9_sourceFor_37 : decode cX9_sourceFor 37 = .ok (.iload_n 2, 1) := by decide +kernel
theorem dX9_sourceFor_38 : decode cX9_sourceFor 38 = .ok (.invokevirtual 145, 3) := by decide +kernel
theorem dX9_sourceFor_41 : decode cX9_sourceFor 41 = .ok (.astore_n 3, 1) := by decide +kernel
theorem dX9_sourceFor_42 : decode cX9_sourceFor 42 = .ok (.aload_n 3, 1) := by decide +kernel
theorem dX9_sourceFor_43 : decode cX9_sourceFor 43 = .ok (.ifnonnull 7, 3) := by decide +kernel
theorem dX9_sourceFor_46 : decode cX9_sourceFor 46 = .ok (.iconst (-1), 1) := by decide +kernel
theorem dX9_sourceFor_47 : decode cX9_sourceFor 47 = .ok (.goto 7, 3) := by decide +kernel
theorem dX9_sourceFor_50 : decode cX9_sourceFor 50 = .ok (.aload_n 3, 1) := by decide +kernel
theorem dX9_sourceFor_51 : decode cX9_sourceFor 51 = .ok (.getfield 149, 3) := by decide +kernel
theorem dX9_sourceFor_54 : decode cX9_sourceFor 54 = .ok (.ireturn, 1) := by decide +kernel
theorem dX9_goOut_0 : decode cX9_goOut 0 = .ok (.aload_n 1, 1) := by decide +kernel
theorem dX9_goOut_1 : decode cX9_goOut 1 = .ok (.getfield 72, 3) := by decide +kernel
theorem dX9_goOut_4 : decode cX9_goOut 4 = .ok (.astore_n 3, 1) := by decide +kernel
theorem dX9_goOut_5 : decode cX9_goOut 5 = .ok (.aload_n 2, 1) := by decide +kernel
theorem dX9_goOut_6 : decode cX9_goOut 6 = .ok (.astore 4, 2) := by decide +kernel
theorem dX9_goOut_8 : decode cX9_goOut 8 = .ok (.iconst 0, 1) := by decide +kernel
theorem dX9_goOut_9 : decode cX9_goOut 9 = .ok (.istore 5, 2) := by decide +kernel
theorem dX9_goOut_11 : decode cX9_goOut 11 = .ok (.aload 4, 2) := by decide +kernel
theorem dX9_goOut_13 : decode cX9_goOut 13 = .ok (.ifnull 173, 3) := by decide +kernel
theorem dX9_goOut_16 : decode cX9_goOut 16 = .ok (.iload 5, 2) := by decide +kernel
theorem dX9_goOut_18 : decode cX9_goOut 18 = .ok (.ldc 154, 2) := by decide +kernel
theorem dX9_goOut_20 : decode cX9_goOut 20 = .ok (.if_icmp .ge 166, 3) := by decide +kernel
theorem dX9_goOut_23 : decode cX9_goOut 23 = .ok (.aload_n 3, 1) := by decide +kernel
theorem dX9_goOut_24 : decode cX9_goOut 24 = .ok (.aload 4, 2) := by decide +kernel
theorem dX9_goOut_26 : decode cX9_goOut 26 = .ok (.getfield 110, 3) := by decide +kernel
theorem dX9_goOut_29 : decode cX9_goOut 29 = .ok (.invokevirtual 135, 3) := by decide +kernel
theorem dX9_goOut_32 : decode cX9_goOut 32 = .ok (.istore 6, 2) := by decide +kernel
theorem dX9_goOut_34 : decode cX9_goOut 34 = .ok (.aload_n 3, 1) := by decide +kernel
theorem dX9_goOut_35 : decode cX9_goOut 35 = .ok (.iload 6, 2) := by decide +kernel
theorem dX9_goOut_37 : decode cX9_goOut 37 = .ok (.invokevirtual 145, 3) := by decide +kernel
theorem dX9_goOut_40 : decode cX9_goOut 40 = .ok (.astore 7, 2) := by decide +kernel
theorem dX9_goOut_42 : decode cX9_goOut 42 = .ok (.aload_n 3, 1) := by decide +kernel
theorem dX9_goOut_43 : decode cX9_goOut 43 = .ok (.aload 4, 2) := by decide +kernel
theorem dX9_goOut_45 : decode cX9_goOut 45 = .ok (.getfield 110, 3) := by decide +kernel
theorem dX9_goOut_48 : decode cX9_goOut 48 = .ok (.invokevirtual 129, 3) := by decide +kernel
theorem dX9_goOut_51 : decode cX9_goOut 51 = .ok (.ifCond .eq 15, 3) := by decide +kernel
theorem dX9_goOut_54 : decode cX9_goOut 54 = .ok (.aload_n 0, 1) := by decide +kernel
theorem dX9_goOut_55 : decode cX9_goOut 55 = .ok (.aload_n 1, 1) := by decide +kernel
theorem dX9_goOut_56 : decode cX9_goOut 56 = .ok (.aload 4, 2) := by decide +kernel
theorem dX9_goOut_58 : decode cX9_goOut 58 = .ok (.invokevirtual 155, 3) := by decide +kernel
theorem dX9_goOut_61 : decode cX9_goOut 61 = .ok (.astore 4, 2) := by decide +kernel
theorem dX9_goOut_63 : decode cX9_goOut 63 = .ok (.goto 117, 3) := by decide +kernel
theorem dX9_goOut_66 : decode cX9_goOut 66 = .ok (.iload 6, 2) := by decide +kernel
theorem dX9_goOut_68 : decode cX9_goOut 68 = .ok (.bipush (-2), 2) := by decide +kernel
theorem dX9_goOut_70 : decode cX9_goOut 70 = .ok (.if_icmp .ne 24, 3) := by decide +kernel
theorem dX9_goOut_73 : decode cX9_goOut 73 = .ok (.aload_n 3, 1) := by decide +kernel
theorem dX9_goOut_74 : decode cX9_goOut 74 = .ok (.aload 4, 2) := by decide +kernel
theorem dX9_goOut_76 : decode cX9_goOut 76 = .ok (.invokestatic 159, 3) := by decide +kernel
theorem dX9_goOut_79 : decode cX9_goOut 79 = .ok (.ifCond .eq 15, 3) := by decide +kernel
theorem dX9_goOut_82 : decode cX9_goOut 82 = .ok (.aload_n 0, 1) := by decide +kernel
theorem dX9_goOut_83 : decode cX9_goOut 83 = .ok (.aload_n 3, 1) := by decide +kernel
theorem dX9_goOut_84 : decode cX9_goOut 84 = .ok (.aload 4, 2) := by decide +kernel
theorem dX9_goOut_86 : decode cX9_goOut 86 = .ok (.invokevirtual 163, 3) := by decide +kernel
theorem dX9_goOut_89 : decode cX9_goOut 89 = .ok (.astore 4, 2) := by decide +kernel
theorem dX9_goOut_91 : decode cX9_goOut 91 = .ok (.goto 89, 3) := by decide +kernel
theorem dX9_goOut_94 : decode cX9_goOut 94 = .ok (.aload 7, 2) := by decide +kernel
theorem dX9_goOut_96 : decode cX9_goOut 96 = .ok (.ifnonnull 17, 3) := by decide +kernel
theorem dX9_goOut_99 : decode cX9_goOut 99 = .ok (.aload_n 0, 1) := by decide +kernel
theorem dX9_goOut_100 : decode cX9_goOut 100 = .ok (.aload_n 1, 1) := by decide +kernel
theorem dX9_goOut_101 : decode cX9_goOut 101 = .ok (.aload 4, 2) := by decide +kernel
theorem dX9_goOut_103 : decode cX9_goOut 103 = .ok (.iconst 4, 1) := by decide +kernel
theorem dX9_goOut_104 : decode cX9_goOut 104 = .ok (.iconst 0, 1) := by decide +kernel
theorem dX9_goOut_105 : decode cX9_goOut 105 = .ok (.invokevirtual 167, 3) := by decide +kernel
theorem dX9_goOut_108 : decode cX9_goOut 108 = .ok (.astore 4, 2) := by decide +kernel
theorem dX9_goOut_110 : decode cX9_goOut 110 = .ok (.goto 70, 3) := by decide +kernel
theorem dX9_goOut_113 : decode cX9_goOut 113 = .ok (.aload 4, 2) := by decide +kernel
